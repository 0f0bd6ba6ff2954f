/-! ===== the constructors: the run in numbers is the machine's ===== -/
abbrev kQ : Type := xHd × Nat × Nat × Nat × Nat × Nat × Nat
def kCx (Γ : xG) (b0 : Nat) (q : kQ) (rows : List kRow) (p : Program) (R : Room) (s : State) (m : MethodId) (args : Array Value) (meth : Method) (co : Code) : Prop :=
  p.tables.exec = Jvm.exec ∧ co.code = q.1.2.1 ∧ co.maxLocals = q.1.2.2.1 ∧ meth.sig.returnType = q.1.2.2.2 ∧ meth.locks = false ∧ s.vm.findClass q.1.1.cls = some m.cls ∧ (∀ w ∈ xtb, w.before args s = true) ∧ kS Γ s ∧ meth.name = "<init>" ∧ rows.all (krok q.1) = true ∧ (q.2.2.2.1 ≤ R.frames ∧ 64 * q.2.2.2.1 ≤ R.locals ∧ q.2.1 ≤ R.cells ∧ q.2.2.1 ≤ R.slots) ∧ b0 ≤ s.heap.size
def kW (Γ : xG) (b0 : Nat) (q : kQ) (rows : List kRow) (pc : Nat) (lv : List (Option kV)) (st : List kV) (M : kM) (c z : Nat) (M' : kM) : Prop :=
  ∀ (r : Nat → Nat) (p : Program) (e : Env) (R : Room) (s : State) (m : MethodId) (args : Array Value) (below : List Frame) (meth : Method) (co : Code) (H : Heap) (locs : List Loc) (Q : State → Prop) (ls : Array Slot),
    kCx Γ b0 q rows p R s m args meth co → kH Γ b0 r M H → va_S (kA b0) s.heap H locs → klh q.1.2.2.1 r ls lv →
    (∀ (r' : Nat → Nat) (H' : Heap) (locs' : List Loc) (pc' : Nat) (ls' : Array Slot), (∀ i, i < M.length → r' i = r i) → kH Γ b0 r' M' H' → va_S (kA b0) s.heap H' locs' → decode q.1.2.1 pc' = .ok (.return_, 1) → W p Γ.l e R s m args below meth co H' locs' q.2.1 q.2.2.1 Q (F0 m pc' ls' [])) →
    W p Γ.l e R s m args below meth co H locs c z Q (F0 m pc ls (st.map (kvV r)))
theorem krw_mem : ∀ {rows : List kRow} {pc : Nat} {q : Instr × Nat × Nat × Nat × Nat}, krw rows pc = some q → (pc, q) ∈ rows
  | [], _, _, h => by cases h
  | r :: rs, pc, q, h => by
    rw [krw] at h
    split at h
    · rename_i hb
      have e : r.1 = pc := Nat.eq_of_beq_eq_true hb
      have e2 : r.2 = q := Option.some.inj h
      have : r = (pc, q) := by rw [← e, ← e2]
      rw [← this]
      exact List.mem_cons_self
    · exact List.mem_cons_of_mem _ (krw_mem h)
theorem krow {h : xHd} {rows : List kRow} (hk : rows.all (krok h) = true) {pc : Nat} {q : Instr × Nat × Nat × Nat × Nat} (hr : krw rows pc = some q) : krok h (pc, q) = true := List.all_eq_true.mp hk _ (krw_mem hr)
theorem kRA {s : State} {a b : ClassId} : ∀ {ty : FieldType}, va_RA s a ty → va_RA s b ty → a = b
  | .object C, ⟨_, _, _, _, _, h1⟩, ⟨_, _, _, _, _, h2⟩ => Option.some.inj (h1.symm.trans h2)
  | .int, h1, h2 => Option.some.inj (h1.symm.trans h2)
  | .boolean, h1, h2 => Option.some.inj (h1.symm.trans h2)
  | .byte, h1, h2 => Option.some.inj (h1.symm.trans h2)
  | .char, h1, h2 => Option.some.inj (h1.symm.trans h2)
  | .short, h1, h2 => Option.some.inj (h1.symm.trans h2)
  | .long, h1, h2 => Option.some.inj (h1.symm.trans h2)
  | .float, h1, h2 => Option.some.inj (h1.symm.trans h2)
  | .double, h1, h2 => Option.some.inj (h1.symm.trans h2)
  | .array _, h1, h2 => Option.some.inj (h1.symm.trans h2)
theorem kcl {ci : Nat} {C : String} {T : u_T} {N : Nat} (h : vwCl[ci]? = some (C, T, N)) (r : Nat → Nat) : ∃ ty0 : Nat → FieldType, (∀ k, k < N → parseFieldDescriptor (T k).2.2.1 = some (ty0 k)) ∧ ∀ j, j < N → defaultValue (ty0 j) = vp_V ((kdf.getD ci []).map (kfV r)) j := by
  match ci, h with
  | 0, h => cases h; exact ⟨tyX0, tyX0_ok, kd0 r⟩
  | 1, h => cases h; exact ⟨tyX1, tyX1_ok, kd1 r⟩
  | 2, h => cases h; exact ⟨tyX2, tyX2_ok, kd2 r⟩
  | 3, h => cases h; exact ⟨tyX3, tyX3_ok, kd3 r⟩
  | 4, h => cases h; exact ⟨tyX4, tyX4_ok, kd4 r⟩
  | 5, h => cases h; exact ⟨tyX5, tyX5_ok, kd5 r⟩
  | 6, h => cases h; exact ⟨tyX6, tyX6_ok, kd6 r⟩
  | 7, h => cases h; exact ⟨tyX7, tyX7_ok, kd7 r⟩
  | 8, h => cases h; exact ⟨tyX8, tyX8_ok, kd8 r⟩
  | 9, h => cases h; exact ⟨tyX9, tyX9_ok, kd9 r⟩
  | n + 10, h => simp [vwCl] at h
theorem kref_ok {ty : FieldType} (h : kref (some ty) = true) (a : Nat) : narrow ty (.ref a) = .ref a ∧ fits ty (.ref a) = true := by
  cases ty <;> first | exact ⟨rfl, rfl⟩ | cases h
theorem kmap_c {r r' : Nat → Nat} {n : Nat} (h : ∀ i, i < n → r' i = r i) {st : List kV} (hs : st.all (kfK n) = true) : st.map (kvV r') = st.map (kvV r) := List.map_congr_left (fun v hv => kvV_c h (List.all_eq_true.mp hs v hv))
theorem kup_at {r : Nat → Nat} {n q : Nat} : kup r n q n = q := if_pos rfl
section KS
variable {Γ : xG} {b0 : Nat} {q : kQ} {rows : List kRow} {M M' : kM}
set_option maxHeartbeats 8000000 in
theorem kst_ok {i : Instr} {len a b w pc pc' c z c' z' : Nat} {lv lv' : List (Option kV)} {st st' : List kV} {M1 : kM} (hr : krw rows pc = some (i, len, a, b, w)) (h1 : kst q.2.1 q.2.2.1 i len a b pc lv st M c z = some (pc', lv', st', M1, c', z')) (hlen : M.length ≤ M1.length) (kk : kW Γ b0 q rows pc' lv' st' M1 c' z' M') : kW Γ b0 q rows pc lv st M c z M' := by
  intro r p e R s m args below meth co H locs Q ls C hH hS hl hret
  obtain ⟨hx, hb, hml, hrt, hlk, hown, hts, hs, hnm, hck, hR, hb0⟩ := id C
  have hok := krow hck hr
  obtain ⟨hd0, hok2⟩ := xand hok
  have hd : decode q.1.2.1 pc = .ok (i, len) := of_decide_eq_true hd0
  clear hd0
  have hA : ∀ a, s.heap.size ≤ a → kA b0 a := fun a ha => Nat.le_trans hb0 ha
  have hret1 : ∀ r1 : Nat → Nat, (∀ i, i < M.length → r1 i = r i) → ∀ (r' : Nat → Nat) (H' : Heap) (locs' : List Loc) (pc' : Nat) (ls' : Array Slot), (∀ i, i < M1.length → r' i = r1 i) → kH Γ b0 r' M' H' → va_S (kA b0) s.heap H' locs' → decode q.1.2.1 pc' = .ok (.return_, 1) → W p Γ.l e R s m args below meth co H' locs' q.2.1 q.2.2.1 Q (F0 m pc' ls' []) := fun r1 g1 r' H' locs' pc' ls' g2 => hret r' H' locs' pc' ls' (fun i hi => (g2 i (by omega)).trans (g1 i hi))
  have hret0 := hret1 r (fun _ _ => rfl)
  unfold kst at h1
  split at h1
  · split at h1
    · rename_i e1
      cases h1
      exact lv_aload_n hx hb hd rfl (hl.2.2.1 _ _ e1) (kk r p e R s m args below meth co H locs Q ls C hH hS hl hret0)
    · cases h1
  · split at h1
    · rename_i e1
      cases h1
      exact lv_iload_n hx hb hd rfl (hl.2.2.1 _ _ e1) (kk r p e R s m args below meth co H locs Q ls C hH hS hl hret0)
    · cases h1
  · cases h1; exact lv_iconst hx hb hd (of_decide_eq_true hok2) (kk r p e R s m args below meth co H locs Q ls C hH hS hl hret0)
  · cases h1; exact lv_bipush hx hb hd (of_decide_eq_true hok2) (kk r p e R s m args below meth co H locs Q ls C hH hS hl hret0)
  · cases h1; exact lv_sipush hx hb hd (of_decide_eq_true hok2) (kk r p e R s m args below meth co H locs Q ls C hH hS hl hret0)
  · split at h1
    · rename_i e1
      cases h1
      obtain ⟨ls', q1, q2⟩ := klh_sto hl e1 (v := .inl _)
      exact xsti_n hx hb hd q1 (kk r p e R s m args below meth co H locs Q ls' C hH hS q2 hret0)
    · cases h1
  · split at h1
    · rename_i k n _ x e1
      cases h1
      have e2 : k < lv.length := (List.getElem?_eq_some_iff.mp e1).1
      have e3 : Int32.ofInt n = xnum n := of_decide_eq_true hok2
      obtain ⟨ls', q1, q2⟩ := klh_sto hl e2 (v := .inl (x + xnum n))
      have q1 : storeLocals ls k (.int (x + xnum n)) = some ls' := q1
      rw [← e3] at q1
      exact xsinc hx hb hd (hl.2.2.1 _ _ e1) q1 (kk r p e R s m args below meth co H locs Q ls' C hH hS q2 hret0)
    · cases h1
  · cases h1; exact lv_dup hx hb hd rfl (kk r p e R s m args below meth co H locs Q ls C hH hS hl hret0)
  · cases h1; exact lv_goto hx hb hd (of_decide_eq_true hok2) (kk r p e R s m args below meth co H locs Q ls C hH hS hl hret0)
  · split at h1
    · rename_i e1
      cases h1
      exact lv_icmp_ge hx hb hd (of_decide_eq_true hok2) (fun _ => kk r p e R s m args below meth co H locs Q ls C hH hS hl hret0) (fun y => absurd e1 y)
    · rename_i e1
      cases h1
      exact lv_icmp_ge hx hb hd (of_decide_eq_true hok2) (fun y => absurd y e1) (fun _ => kk r p e R s m args below meth co H locs Q ls C hH hS hl hret0)
  · split at h1
    · rename_i g1
      obtain ⟨g1, g2, g3, g4⟩ := g1
      cases h1
      clear hok2
      unfold krok at hok
      have hok2 := (xand hok).2
      dsimp only at hok2
      split at hok2
      · rename_i C0 T N p1 p2 hcl hcp
        obtain ⟨w1, w2⟩ := xand hok2
        obtain ⟨w2, w3⟩ := xand w2
        obtain ⟨w3, w4⟩ := xand w3
        have w1 : (kdf.getD a []).length = N := of_decide_eq_true w1
        obtain ⟨ty0, y1, y2⟩ := kcl hcl r
        rw [w1] at g2
        obtain ⟨f1, f2⟩ := xand g3
        obtain ⟨f2, f3⟩ := xand f2
        refine va_new (Ts := xtb) (fs := (kdf.getD a []).map (kfV r)) hx hb hts (xcl hcl).1 ty0 y1 hown (hts _ (xat_mem w2)) (hts _ (xat_mem w3)) (hts _ (xat_mem w4)) hs.1 hH.1 hH.2 hS hA hcl y2 (by have := hR.2.2.1; omega) (by have := hR.2.2.2; omega) hd (fun ad H1 hP1 hD1 hS1 => ?_)
        have ew := kws_push (Γ := Γ) (r := r) (q := ad) f1 g4
        have ew : kws Γ (kup r M.length ad) (M ++ [.inl (a, kdf.getD a [])]) = kws Γ r M ++ [(ad, .inr (a, (kdf.getD a []).map (kfV r)))] := ew
        rw [← ew] at hP1 hD1
        have K := kk (kup r M.length ad) p e R s m args below meth co H1 locs Q ls C ⟨hP1, hD1⟩ hS1 (klh_c hl kup_c f2) (hret1 _ kup_c)
        rw [List.map_cons, kmap_c kup_c f3] at K
        have e5 : kvV (kup r M.length ad) (.inr M.length) = .ref ad := by show Value.ref (kup r M.length ad M.length) = _; rw [kup_at]
        rw [e5, w1] at K
        exact K
      · cases hok2
    · cases h1
  · split at h1
    · rename_i x _ g
      obtain ⟨g1, g2, g3, g4, g5, g6⟩ := g
      cases h1
      obtain ⟨f1, f2⟩ := xand g5
      obtain ⟨f2, f3⟩ := xand f2
      obtain ⟨w0, w2⟩ := xand hok2
      have w0 := of_decide_eq_true w0
      rcases w0 with ⟨y0, w1⟩ | ⟨y0, w1⟩
      · have y0 : a = _ := y0
        subst y0
        refine va_newa (a0 := (x.toNatClampNeg, .inl (kiF []))) hx hb (hts _ (xat_mem w2)) w1 hs.1 hH.1 hH.2 hS hA (fun _ => rfl) g1 rfl (by show x.toNatClampNeg * 4 ≤ _; omega) (by have := hR.2.2.1; omega) (by have := hR.2.2.2; omega) hd (fun ad cA H1 hK1 hP1 hD1 hS1 => ?_)
        have ec : cA = Γ.c 0 := kRA (hK1.2 4 (cA, .int) rfl).2 (hs.1.2 0 (Γ.c 0, .int) rfl).2
        subst ec
        have ew : kws Γ (kup r M.length ad) (M ++ [.inr (0, x.toNatClampNeg, [], [])]) = kws Γ r M ++ [(ad, .inl (Γ.c 0, x.toNatClampNeg, .inl (kiF [])))] := kws_push f1 rfl
        rw [← ew] at hP1 hD1
        have K := kk (kup r M.length ad) p e R s m args below meth co H1 locs Q ls C ⟨hP1, hD1⟩ hS1 (klh_c hl kup_c f2) (hret1 _ kup_c)
        rw [List.map_cons, kmap_c kup_c f3] at K
        have e5 : kvV (kup r M.length ad) (.inr M.length) = .ref ad := by show Value.ref (kup r M.length ad M.length) = _; rw [kup_at]
        rw [e5] at K
        exact K
      · have y0 : a = _ := y0
        subst y0
        refine va_newa (a0 := (x.toNatClampNeg, .inl (kiF []))) hx hb (hts _ (xat_mem w2)) w1 hs.1 hH.1 hH.2 hS hA (fun _ => rfl) g1 rfl (by show x.toNatClampNeg * 1 ≤ _; omega) (by have := hR.2.2.1; omega) (by have := hR.2.2.2; omega) hd (fun ad cA H1 hK1 hP1 hD1 hS1 => ?_)
        have ec : cA = Γ.c 1 := kRA (hK1.2 4 (cA, .boolean) rfl).2 (hs.1.2 1 (Γ.c 1, .boolean) rfl).2
        subst ec
        have ew : kws Γ (kup r M.length ad) (M ++ [.inr (1, x.toNatClampNeg, [], [])]) = kws Γ r M ++ [(ad, .inl (Γ.c 1, x.toNatClampNeg, .inl (kiF [])))] := kws_push f1 rfl
        rw [← ew] at hP1 hD1
        have K := kk (kup r M.length ad) p e R s m args below meth co H1 locs Q ls C ⟨hP1, hD1⟩ hS1 (klh_c hl kup_c f2) (hret1 _ kup_c)
        rw [List.map_cons, kmap_c kup_c f3] at K
        have e5 : kvV (kup r M.length ad) (.inr M.length) = .ref ad := by show Value.ref (kup r M.length ad M.length) = _; rw [kup_at]
        rw [e5] at K
        exact K
    · cases h1
  · split at h1
    · rename_i x _ g
      obtain ⟨g1, g2, g3, g4, g5, g6⟩ := g
      cases h1
      obtain ⟨f1, f2⟩ := xand g5
      obtain ⟨f2, f3⟩ := xand f2
      rcases g6 with rfl | rfl
      · dsimp only at hok2
        rw [if_pos rfl] at hok2
        refine va_newq hx hb hown (hts _ (xat_mem hok2)) hs.2.2.1 hs.1 hH.1 hH.2 hS hA g1 rfl (by omega) (by have := hR.2.2.1; omega) (by have := hR.2.2.2; omega) hd (fun ad cA H1 hK1 hP1 hD1 hS1 => ?_)
        have ec : cA = Γ.c 2 := kRA (hK1.2 4 (cA, .object RX7) rfl).2 (hs.1.2 2 (Γ.c 2, .object RX7) rfl).2
        subst ec
        have ew : kws Γ (kup r M.length ad) (M ++ [.inr (2, x.toNatClampNeg, [], [])]) = kws Γ r M ++ [(ad, .inl (Γ.c 2, x.toNatClampNeg, .inr (.inr (.inr (.inr (krF r []))))))] := kws_push f1 rfl
        have e0 : krF r [] = fun _ => none := rfl
        rw [e0] at ew
        rw [← ew] at hP1 hD1
        have K := kk (kup r M.length ad) p e R s m args below meth co H1 locs Q ls C ⟨hP1, hD1⟩ hS1 (klh_c hl kup_c f2) (hret1 _ kup_c)
        rw [List.map_cons, kmap_c kup_c f3] at K
        have e5 : kvV (kup r M.length ad) (.inr M.length) = .ref ad := by show Value.ref (kup r M.length ad M.length) = _; rw [kup_at]
        rw [e5] at K
        exact K
      · dsimp only at hok2
        rw [if_neg (by decide)] at hok2
        refine va_newq hx hb hown (hts _ (xat_mem (xand hok2).2)) hs.2.2.2 hs.1 hH.1 hH.2 hS hA g1 rfl (by omega) (by have := hR.2.2.1; omega) (by have := hR.2.2.2; omega) hd (fun ad cA H1 hK1 hP1 hD1 hS1 => ?_)
        have ec : cA = Γ.c 3 := kRA (hK1.2 4 (cA, .object RX2) rfl).2 (hs.1.2 3 (Γ.c 3, .object RX2) rfl).2
        subst ec
        have ew : kws Γ (kup r M.length ad) (M ++ [.inr (3, x.toNatClampNeg, [], [])]) = kws Γ r M ++ [(ad, .inl (Γ.c 3, x.toNatClampNeg, .inr (.inr (.inr (.inr (krF r []))))))] := kws_push f1 rfl
        have e0 : krF r [] = fun _ => none := rfl
        rw [e0] at ew
        rw [← ew] at hP1 hD1
        have K := kk (kup r M.length ad) p e R s m args below meth co H1 locs Q ls C ⟨hP1, hD1⟩ hS1 (klh_c hl kup_c f2) (hret1 _ kup_c)
        rw [List.map_cons, kmap_c kup_c f3] at K
        have e5 : kvV (kup r M.length ad) (.inr M.length) = .ref ad := by show Value.ref (kup r M.length ad M.length) = _; rw [kup_at]
        rw [e5] at K
        exact K
    · cases h1
  · split at h1
    · rename_i q0 i0 _ _ ci fs e1
      split at h1
      · rename_i g
        obtain ⟨rfl, g2⟩ := g
        cases h1
        clear hok2
        unfold krok at hok
        have hok2 := (xand hok).2
        dsimp only at hok2
        split at hok2
        · rename_i C0 T N hcl
          obtain ⟨w1, w2⟩ := xand hok2
          obtain ⟨w2, w3⟩ := xand w2
          obtain ⟨w3, w4⟩ := xand w3
          obtain ⟨w4, w5⟩ := xand w4
          obtain ⟨x1, ty0, x2, x3⟩ := xcl hcl
          have hbN : b < N := of_decide_eq_true w1
          rw [x2 b hbN] at w5
          obtain ⟨y1, y2⟩ := kref_ok w5 (r q0)
          refine va_putF (Ts := xtb) (ty := ty0 b) hx hb hts x1 ty0 x2 x3 hown hs.1 hH.1 hH.2 hS i0 (kws_at e1) hcl b hbN (hts _ (xat_mem w2)) (fun _ z => z) (of_decide_eq_true w3) hnm (of_decide_eq_true w4) (x2 b hbN) y1 y2 (by rw [List.length_map]; exact g2) hd (fun H1 locs1 hP1 hD1 hS1 => ?_)
          have ew : (kws Γ r M).set i0 (r i0, .inr (ci, (fs.map (kfV r)).set b (.ref (r q0)))) = kws Γ r (M.set i0 (.inl (ci, fs.set b (.inr (some q0))))) := by
            rw [← kws_set (Γ := Γ) (r := r) (c := .inl (ci, fs.set b (.inr (some q0)))) e1]
            show _ = (kws Γ r M).set i0 (r i0, .inr (ci, (fs.set b (.inr (some q0))).map (kfV r)))
            rw [List.map_set]
            rfl
          have hP1 : va_P Γ.d vwCl ((kws Γ r M).set i0 (r i0, .inr (ci, (fs.map (kfV r)).set b (.ref (r q0))))) H1 := hP1
          have hD1 : va_D (kA b0) ((kws Γ r M).set i0 (r i0, .inr (ci, (fs.map (kfV r)).set b (.ref (r q0))))) := hD1
          rw [ew] at hP1 hD1
          exact kk r p e R s m args below meth co H1 locs1 Q ls C ⟨hP1, hD1⟩ hS1 hl hret0
        · cases hok2
      · cases h1
    · cases h1
  · split at h1
    · rename_i i0 _ _ ci fs e1
      split at h1
      · rename_i q0 e2
        split at h1
        · rename_i g
          subst g
          cases h1
          clear hok2
          unfold krok at hok
          have hok2 := (xand hok).2
          dsimp only at hok2
          split at hok2
          · rename_i C0 T N hcl
            obtain ⟨w1, w2⟩ := xand hok2
            have hget : (fs.map (kfV r))[b]? = some (.ref (r q0)) := by rw [List.getElem?_map, e2]; rfl
            exact va_get (Ts := xtb) hx hb hts (xcl hcl).1 hown hs.1 hH.1 i0 (kws_at e1) hcl b (of_decide_eq_true w1) (hts _ (xat_mem w2)) (fun _ z => z) hget hd (kk r p e R s m args below meth co H locs Q ls C hH hS hl hret0)
          · cases hok2
        · cases h1
      · cases h1
    · cases h1
  · split at h1
    · rename_i x j i0 _ _ n ps qs e1
      split at h1
      · rename_i g
        cases h1
        refine va_iast hx hb hs.1 hH.1 hH.2 hS i0 0 (kws_at e1) rfl (fun y => y.elim g.1 (fun y => by have := g.2; omega)) hd (fun H1 locs1 hP1 hD1 hS1 => ?_)
        have ew : (kws Γ r M).set i0 (r i0, .inl (Γ.c 0, n, .inl (upd (kiF ps) j.toNatClampNeg x))) = kws Γ r (M.set i0 (.inr (0, n, (j.toNatClampNeg, x) :: ps, qs))) := by
          rw [← kws_set (Γ := Γ) (r := r) (c := .inr (0, n, (j.toNatClampNeg, x) :: ps, qs)) e1]
          rfl
        rw [ew] at hP1 hD1
        exact kk r p e R s m args below meth co H1 locs1 Q ls C ⟨hP1, hD1⟩ hS1 hl hret0
      · cases h1
    · cases h1
  · split at h1
    · rename_i v j i0 _ _ _ n ps qs vs e1 e2
      split at h1
      · rename_i g
        cases h1
        refine va_astq hx hb hs.1 hH.1 hH.2 hS i0 2 v 7 (kws_at e1) rfl (kws_at e2) rfl (fun y => y.elim g.1 (fun y => by have := g.2; omega)) hd (fun H1 locs1 hP1 hD1 hS1 => ?_)
        have ew : (kws Γ r M).set i0 (r i0, .inl (Γ.c 2, n, .inr (.inr (.inr (.inr (va_up (krF r qs) j.toNatClampNeg (some (r v)))))))) = kws Γ r (M.set i0 (.inr (2, n, ps, (j.toNatClampNeg, v) :: qs))) := by
          rw [← kws_set (Γ := Γ) (r := r) (c := .inr (2, n, ps, (j.toNatClampNeg, v) :: qs)) e1]
          rfl
        rw [ew] at hP1 hD1
        exact kk r p e R s m args below meth co H1 locs1 Q ls C ⟨hP1, hD1⟩ hS1 hl hret0
      · cases h1
    · rename_i v j i0 _ _ _ n ps qs vs e1 e2
      split at h1
      · rename_i g
        cases h1
        refine va_astq hx hb hs.1 hH.1 hH.2 hS i0 3 v 2 (kws_at e1) rfl (kws_at e2) rfl (fun y => y.elim g.1 (fun y => by have := g.2; omega)) hd (fun H1 locs1 hP1 hD1 hS1 => ?_)
        have ew : (kws Γ r M).set i0 (r i0, .inl (Γ.c 3, n, .inr (.inr (.inr (.inr (va_up (krF r qs) j.toNatClampNeg (some (r v)))))))) = kws Γ r (M.set i0 (.inr (3, n, ps, (j.toNatClampNeg, v) :: qs))) := by
          rw [← kws_set (Γ := Γ) (r := r) (c := .inr (3, n, ps, (j.toNatClampNeg, v) :: qs)) e1]
          rfl
        rw [ew] at hP1 hD1
        exact kk r p e R s m args below meth co H1 locs1 Q ls C ⟨hP1, hD1⟩ hS1 hl hret0
      · cases h1
    · cases h1
  · cases h1
end KS
