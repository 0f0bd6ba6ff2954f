/-! ===== the constructors: calls, contracts ===== -/
theorem kargs_ok {b : Nat} {st av rest : List kV} (h : kargs b st = some (av, rest)) : ∃ (i : Nat) (As : List kV), av = .inr i :: As ∧ As.length = b ∧ st = As.reverse ++ .inr i :: rest := by
  unfold kargs at h
  split at h
  · cases h; exact ⟨_, [], rfl, rfl, rfl⟩
  · cases h; exact ⟨_, [_], rfl, rfl, rfl⟩
  · cases h
theorem klv_args (r : Nat → Nat) : ∀ (av : List kV) (k i : Nat) (v : kV), av[i]? = some v → (k + i, kvV r v) ∈ lv_args k (av.map (kvV r))
  | [], _, i, v, h => by simp at h
  | .inl x :: l, k, i, v, h => by
    match i, h with
    | 0, h => cases h; exact List.mem_cons_self
    | i + 1, h =>
      have h : l[i]? = some v := h
      have q := klv_args r l (k + 1) i v h
      rw [show k + 1 + i = k + (i + 1) by omega] at q
      exact List.mem_cons_of_mem _ q
  | .inr x :: l, k, i, v, h => by
    match i, h with
    | 0, h => cases h; exact List.mem_cons_self
    | i + 1, h =>
      have h : l[i]? = some v := h
      have q := klv_args r l (k + 1) i v h
      rw [show k + 1 + i = k + (i + 1) by omega] at q
      exact List.mem_cons_of_mem _ q
theorem klg_len (r : Nat → Nat) : ∀ av : List kV, (lg_sl (av.map (kvV r))).length = av.length
  | [] => rfl
  | .inl x :: l => by
    show (([Slot.val (Value.int x)] : List Slot) ++ lg_sl (l.map (kvV r))).length = _
    rw [List.length_append, klg_len r l, List.length_cons, List.length_cons, List.length_nil]
    omega
  | .inr x :: l => by
    show (([Slot.val (Value.ref (r x))] : List Slot) ++ lg_sl (l.map (kvV r))).length = _
    rw [List.length_append, klg_len r l, List.length_cons, List.length_cons, List.length_nil]
    omega
def krm (q : kQ) : Room := { frames := q.2.2.2.1, cells := q.2.1, slots := q.2.2.1, locals := 64 * q.2.2.2.1 }
def kP (Γ : xG) (b0 : Nat) (r : Nat → Nat) (av : List kV) (M : kM) : Array Value → State → Prop := va_Pc (av.map (kvV r)) (fun U => kH Γ b0 r M U.heap ∧ kS Γ U ∧ b0 ≤ U.heap.size)
def kQv (Γ : xG) (b0 : Nat) (r : Nat → Nat) (M M' : kM) : Array Value → State → Outcome → State → Prop := va_Qv (fun r' : Nat → Nat => ∀ i, i < M.length → r' i = r i) (fun r' t => kH Γ b0 r' M' t.heap) (kA b0)
def kMet (Γ : xG) (b0 : Nat) (q : kQ) (av : List kV) (M M' : kM) : Prop := ∀ r : Nat → Nat, Met Γ.l q.1.1 (xcd q.1 :: xtb) (krm q) (kP Γ b0 r av M) (kQv Γ b0 r M M') q.2.1 q.2.2.1 (kA b0)
theorem k_rows {mi : Nat} {q : kQ} (h : kmh[mi]? = some q) : (krs.getD mi []).all (krok q.1) = true := by
  have hi : mi < krs.length := by
    have h1 := (List.getElem?_eq_some_iff.mp h).1
    have e : kmh.length = krs.length := by decide
    omega
  have hm : (q, krs.getD mi []) ∈ kmh.zip krs := by
    apply List.mem_of_getElem? (i := mi)
    rw [List.getElem?_zip_eq_some]
    refine ⟨h, ?_⟩
    rw [List.getD_eq_getElem?_getD, List.getElem?_eq_getElem hi]
    rfl
  exact List.all_eq_true.mp kall _ hm
theorem k_head : ∀ q ∈ kmh, plainName q.1.1.cls = true ∧ q.1.2.2.2 = none ∧ q.1.2.2.1 ≤ 40 ∧ q.1.1.name = "<init>" := by decide +kernel
set_option maxHeartbeats 4000000 in
/-- a constructor's contract out of its run -/
theorem k_met {Γ : xG} {b0 mi : Nat} {q : kQ} {av : List kV} {M M' : kM} (hq : kmh[mi]? = some q) (hlen : av.length ≤ q.1.2.2.1) (kk : kW Γ b0 q (krs.getD mi []) 0 (kpad av q.1.2.2.1) [] M 0 0 M') : kMet Γ b0 q av M M' := by
  intro r
  obtain ⟨z1, z2, z3, z4⟩ := k_head q (List.mem_of_getElem? hq)
  refine Met.ofW (cc := q.1.2.1) (maxL := q.1.2.2.1) (ret := q.1.2.2.2) z1 rfl ?_
  intro p e s m args below meth co s₁ B hml hv
  obtain ⟨rfl, hH, hs, hb0⟩ := hv
  have hts := atoms_spec (ws := xcd q.1 :: xtb) B.pre
  have hlen' : (lg_sl (av.map (kvV r))).length ≤ q.1.2.2.1 := by rw [klg_len]; exact hlen
  have hl := lv_entry (av.map (kvV r)) (n := q.1.2.2.1) hlen'
  rw [lg_entry_eq]
  have hl2 : klh q.1.2.2.1 r ((lg_sl (av.map (kvV r)) ++ List.replicate (q.1.2.2.1 - (lg_sl (av.map (kvV r))).length) Slot.unset).toArray) (kpad av q.1.2.2.1) := by
    refine ⟨hl.1, hl.2.1, fun i v hi => ?_, ?_⟩
    · by_cases hlt : i < av.length
      · rw [kpad, List.getElem?_append_left (by rw [List.length_map]; exact hlt), List.getElem?_map] at hi
        have hi : av[i]? = some v := by
          cases ha : av[i]? with
          | none => rw [ha] at hi; cases hi
          | some u => rw [ha] at hi; cases hi; rfl
        have := hl.2.2 _ (klv_args r av 0 i v hi)
        simpa using this
      · rw [kpad, List.getElem?_append_right (by rw [List.length_map]; omega), List.getElem?_replicate] at hi
        split at hi
        · cases hi
        · cases hi
    · simp [kpad]
      omega
  have hin : meth.name = "<init>" := ((name_of_methodNamed B.named B.method).1).trans z4
  exact kk r p e (krm q) s m _ below meth co s.heap [] _ _ ⟨B.exec, B.bytes, hml, B.returns, B.notSynchronized, findClass_of_methodNamed B.named, fun w hw => hts w (List.mem_cons_of_mem _ hw), hs, hin, k_rows hq, ⟨Nat.le_refl _, Nat.le_refl _, Nat.le_refl _, Nat.le_refl _⟩, hb0⟩ hH va_S.rf hl2 (fun r' H' locs' pc' ls' g1 g2 g3 g4 => by
    refine W.vret B.exec B.bytes (B.returns.trans z2) (fun t ht _ => ⟨⟨r', rfl, g1, by show kH Γ b0 r' M' t.heap; rw [ht]; exact g2⟩, g3.F ht⟩) g3.2.2 g4 B.notSynchronized)
theorem kP_blind {Γ : xG} {b0 : Nat} {r : Nat → Nat} {av : List kV} {M : kM} : FrameBlind (kP Γ b0 r av M) := by
  intro a U g mk hq
  obtain ⟨q1, q2, q3, q4⟩ := hq
  exact ⟨q1, q2, kS.same q3 rfl, q4⟩
theorem k_code {a : Nat} {g : kQ} (h : kmh[a]? = some g) : xcd g.1 ∈ xtb := xcd_in ((xmapz kmc g (List.mem_of_getElem? h)))
theorem kcat (r : Nat → Nat) : ∀ l : List kV, ((l.map (kvV r)).map fun v => v.category).sum = l.length
  | [] => rfl
  | v :: l => by
    rw [List.map_cons, List.map_cons, List.sum_cons, kcat r l, kvV_1, List.length_cons]
    omega
section KX
variable {Γ : xG} {b0 : Nat}
set_option maxHeartbeats 8000000 in
theorem k_call {q g : kQ} {rows : List kRow} {M M1 M' : kM} {idx a b w pc c z : Nat} {lv : List (Option kV)} {st av rest : List kV} (hr : krw rows pc = some (.invokespecial idx, 3, a, b, w)) (ha : ¬ a = 1001) (hg : kmh[a]? = some g) (hav : kargs (b % 100) st = some (av, rest)) (h1 : c + g.2.1 ≤ q.2.1) (h2 : z + g.2.2.1 ≤ q.2.2.1) (h3 : g.2.2.2.1 + 1 ≤ q.2.2.2.1) (h4 : kfit M lv st = true) (h5 : rest.length ≤ 8) (hM : M.length ≤ M1.length) (hm : kMet Γ b0 g av M M1) (kk : kW Γ b0 q rows (pc + 3) lv rest M1 (c + g.2.1) (z + g.2.2.1) M') : kW Γ b0 q rows pc lv st M c z M' := by
  intro r p e R s m args below meth co H locs Q ls C hH hS hl hret
  obtain ⟨hx, hb, hml, hrt, hlk, hown, hts, hs, hnm, hck, hR, hb0⟩ := id C
  have hok := krow hck hr
  obtain ⟨hd0, hok2⟩ := xand hok
  have hd : decode q.1.2.1 pc = .ok (.invokespecial idx, 3) := of_decide_eq_true hd0
  simp only [if_neg ha, hg] at hok2
  obtain ⟨w1, w2⟩ := xand hok2
  obtain ⟨w2, w3⟩ := xand w2
  obtain ⟨w3, w4⟩ := xand w3
  obtain ⟨w4, w5⟩ := xand w4
  obtain ⟨c45, c6⟩ := xand w1
  obtain ⟨c4, c5⟩ := xand c45
  obtain ⟨i, As, rfl, e2, rfl⟩ := kargs_ok hav
  obtain ⟨f1, f2⟩ := xand h4
  obtain ⟨f2, f3⟩ := xand f2
  obtain ⟨z1, z2, z3, z4⟩ := k_head g (List.mem_of_getElem? hg)
  have hpre : PreS s H (kP Γ b0 r (.inr i :: As) M) (.ref (r i) :: As.map (kvV r)) := ⟨kP_blind, fun U hU hW => ⟨rfl, by rw [hU]; exact hH, hs.warm hW, by rw [hU]; exact Nat.le_trans hb0 hS.1⟩⟩
  have hstk : (As.reverse ++ .inr i :: rest).map (kvV r) = (As.map (kvV r)).reverse ++ .ref (r i) :: rest.map (kvV r) := by
    rw [List.map_append, List.map_reverse]; rfl
  rw [hstk]
  have hcat : ((rest.map (kvV r)).map fun v => v.category).sum ≤ 8 := by rw [kcat]; exact h5
  have hrl : ∀ v ∈ rest, kfK M.length v = true := fun v hv => List.all_eq_true.mp f3 v (List.mem_append_right _ (List.mem_cons_of_mem _ hv))
  have hd3 : g.1.1.cls ≠ "java/lang/invoke/MethodHandle" ∧ g.1.1.cls ≠ "java/lang/invoke/VarHandle" ∧ (parseMethodDescriptor g.1.1.desc).map (fun d => d.parameters.length) = some (b % 100) := ⟨(of_decide_eq_true c4 : _ ∧ _).1, (of_decide_eq_true c4 : _ ∧ _).2, of_decide_eq_true c5⟩
  have hro : (krm g).frames + 1 ≤ R.frames ∧ 8 + (g.1.2.2.1 + 11) + (krm g).locals ≤ R.locals := ⟨by have := hR.1; show g.2.2.2.1 + 1 ≤ R.frames; omega, by have := hR.2.1; show 8 + (g.1.2.2.1 + 11) + 64 * g.2.2.2.1 ≤ R.locals; omega⟩
  have hcc := xcd_good (k_code hg)
  have hcc2 : xcd g.1 = Cond.code g.1.1 g.1.2.1 g.1.2.2.1 none := by rw [xcd, z2]
  have run : va_Run p Γ.l e R s m args below meth co H locs c z g.2.1 g.2.2.1 (F0 m pc ls ((As.map (kvV r)).reverse ++ .ref (r i) :: rest.map (kvV r))) (rest.map (kvV r)) (kQv Γ b0 r M M1 (Value.ref (r i) :: As.map (kvV r)).toArray) (kA b0) := by
    by_cases hn : b < 100
    · rw [if_pos hn] at w5
      have cw := cwI (R := R) (mc := g.2.1) (ms := g.2.2.1) (rm := krm g) (own := q.1.1.cls) (index := idx) (b % 100) hts hcc (by rw [hcc2]) rfl rfl (hts _ (xat_mem w4)) (hts _ (xat_mem w5)) (hts _ (xat_mem w3)) z4 hd3 hro
      exact va_runI (As := As.map (kvV r)) (rest := rest.map (kvV r)) ⟨hx, hb, hml, hown, hts⟩ (hm r) cw hpre rfl (by rw [List.length_map]; exact e2) hl.1 rfl (by show 2 * 0 + _ ≤ 8; omega) hd ⟨by have := hR.2.2.1; omega, by have := hR.2.2.2; omega⟩
    · rw [if_neg hn] at w5
      have hl5 := hs.2.1 _ (of_decide_eq_true w5)
      have cw := va_cnB (R := R) (mc := g.2.1) (ms := g.2.2.1) (rm := krm g) (b % 100) hts hcc (by rw [hcc2]) rfl rfl hl5 (hts _ (xat_mem w4)) hd3 hro
      exact va_runIN (As := As.map (kvV r)) (rest := rest.map (kvV r)) ⟨hx, hb, hml, hown, hts⟩ (hm r) ⟨cw, z4, hts _ (xat_mem w3)⟩ hpre rfl (by rw [List.length_map]; exact e2) hl.1 rfl (by show 2 * 0 + _ ≤ 8; omega) hd ⟨by have := hR.2.2.1; omega, by have := hR.2.2.2; omega⟩
  refine va_callv run hS (fun _ _ h => h) (fun _ h => h) (fun r1 t H1 locs1 ht hvm hp hB hz1 hk1 hS1 => ?_)
  rw [ht] at hB
  have K := kk r1 p e R s m args below meth co H1 locs1 Q ls C hB hS1 (klh_c hl hp f2) (fun r' H' locs' pc' ls' g1 => hret r' H' locs' pc' ls' (fun i hi => (g1 i (by omega)).trans (hp i hi)))
  rw [kmap_c hp (List.all_eq_true.mpr hrl)] at K
  exact K
set_option maxHeartbeats 8000000 in
theorem k_obj {q : kQ} {rows : List kRow} {M M' : kM} {idx b w pc c z i : Nat} {lv : List (Option kV)} {rest : List kV} (hr : krw rows pc = some (.invokespecial idx, 3, 1001, b, w)) (h5 : rest.length ≤ 8) (h6 : 1 ≤ q.2.2.2.1) (kk : kW Γ b0 q rows (pc + 3) lv rest M c z M') : kW Γ b0 q rows pc lv (.inr i :: rest) M c z M' := by
  intro r p e R s m args below meth co H locs Q ls C hH hS hl hret
  obtain ⟨hx, hb, hml, hrt, hlk, hown, hts, hs, hnm, hck, hR, hb0⟩ := id C
  have hok := krow hck hr
  obtain ⟨hd0, hok2⟩ := xand hok
  have hd : decode q.1.2.1 pc = .ok (.invokespecial idx, 3) := of_decide_eq_true hd0
  have w2 : xat w (.methodLink q.1.1.cls idx objectInit) = true := by simpa using hok2
  have hc2 : (Cond.code objectInit ⟨#[0xb1]⟩ 1 none).before args s = true := hts _ (List.mem_filter.mpr ⟨List.mem_of_getElem? kin2, rfl⟩)
  refine W.objInit hx hb hown (hts _ (xat_mem w2)) (hts _ (xat_mem kin1)) hc2 rfl (by rw [hml]; exact hl.1) rfl hd (by have := hR.1; omega) (by have := hR.2.1; show 2 * 0 + ((rest.map (kvV r)).map fun v => v.category).sum + 12 ≤ R.locals; rw [kcat]; omega) ?_
  exact W.eq (g2 := F0 m (pc + 3) ls (rest.map (kvV r))) rfl (kk r p e R s m args below meth co H locs Q ls C hH hS hl hret)
theorem k_frames : ∀ q ∈ kmh, 1 ≤ q.2.2.2.1 := by decide +kernel
/-- the run in numbers is the machine's -/
theorem kx_ok : ∀ (f mi pc : Nat) (lv : List (Option kV)) (st : List kV) (M : kM) (c z : Nat) (M' : kM) (q : kQ), kmh[mi]? = some q → kx f mi pc lv st M c z = some M' → kW Γ b0 q (krs.getD mi []) pc lv st M c z M'
  | 0, _, _, _, _, _, _, _, _, _, _, h => by cases h
  | f + 1, mi, pc, lv, st, M, c, z, M', q, hq, h => by
    rw [kx, hq] at h
    dsimp only at h
    split at h
    · cases h
    · rename_i i len a b w hr
      split at h
      · rename_i pc1 lv1 st1 M1 c1 z1 hs1
        split at h
        · rename_i hl1
          exact kst_ok hr hs1 hl1 (kx_ok f mi pc1 lv1 st1 M1 c1 z1 M' q hq h)
        · cases h
      · split at h
        · split at h
          · rename_i g
            obtain ⟨rfl, g1, g2⟩ := g
            cases h
            intro r p e R s m args below meth co H locs Q ls C hH hS hl hret
            have hok := krow C.2.2.2.2.2.2.2.2.2.1 hr
            have hd : decode q.1.2.1 pc = .ok (.return_, 1) := of_decide_eq_true (xand hok).1
            exact W.widen g1 g2 (hret r H locs pc ls (fun _ _ => rfl) hH hS hd)
          · cases h
        · split at h
          · rename_i hl3
            subst hl3
            split at h
            · rename_i ha
              subst ha
              split at h
              · split at h
                · rename_i h5
                  exact k_obj hr h5 (k_frames q (List.mem_of_getElem? hq)) (kx_ok f mi _ _ _ _ _ _ M' q hq h)
                · cases h
              · cases h
            · rename_i ha
              split at h
              · rename_i g av rest hg hav
                split at h
                · rename_i gg
                  obtain ⟨g1, g2, g3, g4, g5, g6⟩ := gg
                  split at h
                  · rename_i M1 hx1
                    split at h
                    · rename_i hl1
                      exact k_call hr ha hg hav g1 g2 g3 g4 g5 hl1 (k_met hg g6 (kx_ok f a _ _ _ _ _ _ M1 g hg hx1)) (kx_ok f mi _ _ _ _ _ _ M' q hq h)
                    · cases h
                  · cases h
                · cases h
              · cases h
          · cases h
        · cases h
end KX
