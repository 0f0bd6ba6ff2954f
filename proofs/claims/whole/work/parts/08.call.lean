theorem xml_len : Nat.ble xml.length xmlp.length = true := by decide +kernel
theorem xmv_len : Nat.ble xmv.length xmvp.length = true := by decide +kernel
theorem xms_len : Nat.ble xms.length xmsp.length = true := by decide +kernel
def xrm (n : Nat) : Room := { frames := n, cells := 0, slots := 0, locals := 64 * n }
def xP (Γ : xG) (av : List xV) (D : xM) : Array Value → State → Prop := va_Pc (av.map (xcv Γ)) (fun U => xH Γ D U.heap ∧ xS Γ U ∧ ∀ v ∈ av, xvv v)
def xQ (Γ : xG) (post : Option Int32 → xM → Prop) : Array Value → State → Outcome → State → Prop := fun _ st oc t => (∃ (v : Option Int32) (D' : xM), oc = .returned (v.map Value.int) ∧ post v D' ∧ xH Γ D' t.heap) ∧ va_F (xA Γ) st t
/-- THE CONTRACT of a method: from these arguments and cells it ends with post; n: how deep it may call -/
def xRuns (Γ : xG) (n : Nat) (h : xHd) (av : List xV) (D : xM) (post : Option Int32 → xM → Prop) : Prop := Met Γ.l h.1 (xcd h :: xtb) (xrm n) (xP Γ av D) (xQ Γ post) 0 0 (xA Γ)
def xlv : List xV → List (Option xV)
  | [] => []
  | .inr (.inl x) :: r => some (.inr (.inl x)) :: none :: xlv r
  | .inl x :: r => some (.inl x) :: xlv r
  | .inr (.inr q) :: r => some (.inr (.inr q)) :: xlv r
def xpad (l : List (Option xV)) (n : Nat) : List (Option xV) := l ++ List.replicate (n - l.length) none
theorem xlv_len (Γ : xG) : ∀ av : List xV, (xlv av).length = (lg_sl (av.map (xcv Γ))).length
  | [] => rfl
  | .inr (.inl x) :: r => by
    show (xlv r).length + 1 + 1 = (([Slot.val (Value.long x), Slot.second] : List Slot) ++ lg_sl (r.map (xcv Γ))).length
    rw [List.length_append, ← xlv_len Γ r, List.length_cons, List.length_cons, List.length_nil]
    omega
  | .inl x :: r => by
    show (xlv r).length + 1 = (([Slot.val (Value.int x)] : List Slot) ++ lg_sl (r.map (xcv Γ))).length
    rw [List.length_append, ← xlv_len Γ r, List.length_cons, List.length_nil]
    omega
  | .inr (.inr q) :: r => by
    show (xlv r).length + 1 = (([Slot.val (xcv Γ (.inr (.inr q)))] : List Slot) ++ lg_sl (r.map (xcv Γ))).length
    rw [List.length_append, ← xlv_len Γ r, List.length_cons, List.length_nil]
    omega
theorem xlv_args (Γ : xG) : ∀ (av : List xV) (k i : Nat) (v : xV), (xlv av)[i]? = some (some v) → v ∈ av ∧ (k + i, xcv Γ v) ∈ lv_args k (av.map (xcv Γ))
  | [], _, i, v, h => by simp [xlv] at h
  | .inr (.inl x) :: r, k, i, v, h => by
    match i, h with
    | 0, h => cases h; exact ⟨List.mem_cons_self, List.mem_cons_self⟩
    | 1, h => simp [xlv] at h
    | i + 2, h =>
      have h : (xlv r)[i]? = some (some v) := h
      obtain ⟨q1, q2⟩ := xlv_args Γ r (k + 2) i v h
      refine ⟨List.mem_cons_of_mem _ q1, List.mem_cons_of_mem _ ?_⟩
      have e : k + (i + 2) = k + 2 + i := by omega
      rw [e]
      exact q2
  | .inl x :: r, k, i, v, h => by
    match i, h with
    | 0, h => cases h; exact ⟨List.mem_cons_self, List.mem_cons_self⟩
    | i + 1, h =>
      have h : (xlv r)[i]? = some (some v) := h
      obtain ⟨q1, q2⟩ := xlv_args Γ r (k + 1) i v h
      refine ⟨List.mem_cons_of_mem _ q1, List.mem_cons_of_mem _ ?_⟩
      have e : k + (i + 1) = k + 1 + i := by omega
      rw [e]
      exact q2
  | .inr (.inr q) :: r, k, i, v, h => by
    match i, h with
    | 0, h => cases h; exact ⟨List.mem_cons_self, List.mem_cons_self⟩
    | i + 1, h =>
      have h : (xlv r)[i]? = some (some v) := h
      obtain ⟨q1, q2⟩ := xlv_args Γ r (k + 1) i v h
      refine ⟨List.mem_cons_of_mem _ q1, List.mem_cons_of_mem _ ?_⟩
      have e : k + (i + 1) = k + 1 + i := by omega
      rw [e]
      exact q2
section XC
variable {Γ : xG} {n : Nat} {h : xHd} {rows : List xRow} {post : Option Int32 → xM → Prop}
set_option maxHeartbeats 4000000 in
/-- a method's contract out of its walk -/
theorem x_runs {av : List xV} {D : xM} (hk : xck h rows = true) (hy : plainName h.1.cls = true) (hlen : Nat.ble (xlv av).length h.2.2.1 = true) (kk : xW Γ n h rows 0 (xpad (xlv av) h.2.2.1) [] D post) : xRuns Γ n h av D post := by
  refine Met.ofW (cc := h.2.1) (maxL := h.2.2.1) (ret := h.2.2.2) hy rfl ?_
  intro p e s m args below meth c s₁ B hml hv
  obtain ⟨rfl, hH, hs, hvv⟩ := hv
  have hts := atoms_spec (ws := xcd h :: xtb) B.pre
  have hlen' : (lg_sl (av.map (xcv Γ))).length ≤ h.2.2.1 := by rw [← xlv_len]; exact Nat.le_of_ble_eq_true hlen
  have hl := lv_entry (av.map (xcv Γ)) (n := h.2.2.1) hlen'
  rw [lg_entry_eq]
  have hl2 : xlh Γ h ((lg_sl (av.map (xcv Γ)) ++ List.replicate (h.2.2.1 - (lg_sl (av.map (xcv Γ))).length) Slot.unset).toArray) (xpad (xlv av) h.2.2.1) := by
    refine ⟨hl.1, hl.2.1, fun i v hi => ?_, ?_⟩
    · by_cases hlt : i < (xlv av).length
      · rw [xpad, List.getElem?_append_left hlt] at hi
        obtain ⟨q1, q2⟩ := xlv_args Γ av 0 i v hi
        refine ⟨hvv v q1, ?_⟩
        have := hl.2.2 _ q2
        simpa using this
      · rw [xpad, List.getElem?_append_right (by omega), List.getElem?_replicate] at hi
        split at hi
        · cases hi
        · cases hi
    · have := Nat.le_of_ble_eq_true hlen
      simp [xpad]
      omega
  exact kk p e (xrm n) s m _ below meth c s.heap [] 0 0 _ _ ⟨B.exec, B.bytes, hml, B.returns, B.notSynchronized, findClass_of_methodNamed B.named, fun w hw => hts w (List.mem_cons_of_mem _ hw), hs, hk, Nat.le_refl _, Nat.le_refl _, Nat.le_refl _, Nat.le_refl _⟩ hH va_S.rf hl2 (fun v hv => by cases hv) (fun v D' H' locs' pc' ls' hp hH' hS' hrt => by
    have hq : ∀ t : State, t.heap = H' → s.WarmedH t.vm → xQ Γ post (av.map (xcv Γ)).toArray s (.returned (v.map Value.int)) t := fun t ht _ => ⟨⟨v, D', rfl, hp, by rw [ht]; exact hH'⟩, hS'.F ht⟩
    cases v with
    | none => exact W.vret B.exec B.bytes (B.returns.trans hrt.1) hq hS'.2.2 hrt.2 B.notSynchronized
    | some x =>
      obtain ⟨ty, e1, e2, e3⟩ := hrt
      exact W.zret B.exec B.bytes (B.returns.trans e1) e2 hq hS'.2.2 e3 B.notSynchronized)
theorem xP_blind {av : List xV} {D : xM} : FrameBlind (xP Γ av D) := by
  intro a U g mk hq
  obtain ⟨q1, q2, q3, q4⟩ := hq
  exact ⟨q1, q2, xS.same q3 rfl rfl, q4⟩
theorem xcd_good {g : xHd} (hc : xcd g ∈ xtb) : GoodIn xtb (xcd g :: xtb) := by
  intro w hw
  rcases List.mem_cons.mp hw with e | e
  · rw [e]; exact ⟨hc, xtb_good hc⟩
  · exact ⟨e, xtb_good e⟩
def xcat (v : xV) : Nat := match v with
  | .inr (.inl _) => 2
  | _ => 1
theorem xcat_ok (Γ : xG) (v : xV) : (xcv Γ v).category = xcat v := by
  rcases v with x | x | x <;> rfl
set_option maxHeartbeats 4000000 in
/-- behind a call -/
theorem x_after {rest : List xV} {lv : List (Option xV)} {pc : Nat} {p : Program} {e : Env} {R : Room} {s : State} {m : MethodId} {args : Array Value} {below : List Frame} {meth : Method} {c : Code} {H : Heap} {locs : List Loc} {cells slots : Nat} {Q : State → Prop} {ls : Array Slot} {st0 : List Value} {va : Array Value}
    (hrun : va_Run p Γ.l e R s m args below meth c H locs cells slots 0 0 (F0 m pc ls st0) (rest.map (xcv Γ)) (xQ Γ (fun v D2 => xW Γ n h rows (pc + 3) lv (v.toList.map .inl ++ rest) D2 post) va) (xA Γ))
    (C : xC Γ n h rows p R s m args meth c cells slots) (hS : va_S (xA Γ) s.heap H locs) (hl : xlh Γ h ls lv) (hst : ∀ v ∈ rest, xvv v)
    (hret : ∀ (v : Option Int32) (D' : xM) (H' : Heap) (locs' : List Loc) (pc' : Nat) (ls' : Array Slot), post v D' → xH Γ D' H' → va_S (xA Γ) s.heap H' locs' → xrt h pc' v → W p Γ.l e R s m args below meth c H' locs' cells slots Q (F0 m pc' ls' (v.toList.map Value.int))) :
    W p Γ.l e R s m args below meth c H locs cells slots Q (F0 m pc ls st0) := by
  intro T hT X
  obtain ⟨v, st₀, t, T', L, h0, X', hL, e1, e2, ⟨⟨r, D2, hv, hp, hb⟩, hz, hk⟩, st⟩ := hrun T hT X
  cases hv
  rw [h0] at hz hk
  have hS' : va_S (xA Γ) s.heap T'.heap (locs ++ L) := ⟨Nat.le_trans hS.1 (by rw [e1]; exact hz), fun q h1 h2 => by rw [e1, hk q (Nat.lt_of_lt_of_le h1 hS.1) h2]; exact hS.2.1 q h1 h2, fun q hq => by
      rcases List.mem_append.mp hq with z | z
      · exact hS.2.2 q z
      · exact hL q z⟩
  have K := hp p e R s m args below meth c T'.heap (locs ++ L) cells slots Q ls C (by rw [e1]; exact hb) hS' hl (fun u hu => by
      rcases List.mem_append.mp hu with z | z
      · obtain ⟨x, -, rfl⟩ := List.mem_map.mp z
        trivial
      · exact hst u z) hret
  obtain ⟨t2, a1, b1⟩ := K T' rfl X'
  refine ⟨t2, st t2 ?_, b1⟩
  have e9 : ((r.map Value.int).toList ++ rest.map (xcv Γ)) = (r.toList.map (Sum.inl : Int32 → xV) ++ rest).map (xcv Γ) := by
    cases r <;> simp [xcv]
  show Steps p.tables e below (T'.setTop { F0 m pc ls st0 with pc := pc + 3, stack := ((r.map Value.int).toList ++ rest.map (xcv Γ)) }) t2
  rw [e9]
  exact a1
set_option maxHeartbeats 4000000 in
/-- invokevirtual -/
theorem x_call {pc pc' a b : Nat} {lv lv' : List (Option xV)} {st st' : List xV} {D D' : xM} {idx : Nat} {g : xHd} {k i : Nat} (As : List xV) {rest : List xV} (h1 : xrun rows xN 60 pc lv st D = some (pc', lv', st', D')) (hr : xrw rows pc' = some (.invokevirtual idx, 3, a, b)) (hg : xsg[a]? = some g) (hst' : st' = As.reverse ++ .inr (.inr (0, k, i)) :: rest) (hb2 : As.length = b) (hcls : (vwCl[k]?).map (fun q => q.1) = some g.1.cls) (hroom : Nat.ble ((rest.map xcat).sum) 8 = true)
    (kk : xRuns Γ n g (.inr (.inr (0, k, i)) :: As) D' (fun v D2 => xW Γ (n + 1) h rows (pc' + 3) lv' (v.toList.map .inl ++ rest) D2 post)) : xW Γ (n + 1) h rows pc lv st D post := by
  refine x_to xN h1 ?_
  intro p e R s m args below meth c H locs cells slots Q ls C hH hS hl hst hret
  obtain ⟨hx, hb, hml, hrt, hlk, hown, hts, hs, hck, hR⟩ := id C
  have hok := xck_row hck hr
  have hd := xok_dec hok
  have hok2 := (xand hok).2
  subst hst'
  obtain ⟨p1, hp1⟩ := xzip (p := xmlp) xml_len (of_decide_eq_true (xand hok2).1)
  obtain ⟨p2, hp2⟩ := xzip (p := xmvp) xmv_len (of_decide_eq_true (xand hok2).2)
  have c1 := List.all_eq_true.mp xml_ok _ hp1
  have w2 := List.all_eq_true.mp xmv_ok _ hp2
  have c3 := xmapz xmv_c _ hp2
  simp only [xmlB, xmvB, hg] at c1 w2 c3
  have c3 := xcd_in c3
  obtain ⟨q12, q3⟩ := xand w2
  obtain ⟨q01, q2⟩ := xand q12
  obtain ⟨q1, c2⟩ := xand q01
  obtain ⟨c45, c6⟩ := xand q1
  obtain ⟨c4, c5⟩ := xand c45
  have hmx : g.2.2.1 ≤ 40 := of_decide_eq_true c6
  have hvr : xvr 0 k i := hst (.inr (.inr (0, k, i))) (List.mem_append_right _ List.mem_cons_self)
  have hcell : xkd[i]? = some (0, k) := xcell hvr (Or.inl (Nat.zero_le _))
  have hrest : ∀ v ∈ rest, xvv v := fun v hv => hst v (List.mem_append_right _ (List.mem_cons_of_mem _ hv))
  have hAs : ∀ v ∈ As, xvv v := fun v hv => hst v (List.mem_append_left _ (List.mem_reverse.mpr hv))
  have cw : CallW R s args h.1.cls g.1.cls idx g.1 g.2.1 g.2.2.1 g.2.2.2 (xcd g :: xtb) (xrm n) 0 0 b :=
    ⟨callB_of b hts (xcd_good c3) rfl rfl rfl (hts _ (xat_mem c2)) (hts _ (xat_mem c1)) ⟨(of_decide_eq_true c4 : _ ∧ _).1, (of_decide_eq_true c4 : _ ∧ _).2, of_decide_eq_true c5⟩ ⟨by have := hR.1; show n + 1 ≤ R.frames; omega, by have := hR.2.1; show 8 + (g.2.2.1 + 11) + 64 * n ≤ R.locals; omega⟩, hts _ (xat_mem q2), hts _ (xat_mem q3)⟩
  obtain ⟨q, hq, hqe⟩ : ∃ q, vwCl[k]? = some q ∧ q.1 = g.1.cls := by
    cases hz : vwCl[k]? with
    | none => rw [hz] at hcls; cases hcls
    | some q => rw [hz] at hcls; exact ⟨q, rfl, Option.some.inj hcls⟩
  have hrecv := va_recv hs.1 hH hq (xws_at (D := D') hcell)
  rw [hqe] at hrecv
  have hpre : PreV s H g.1.cls (Γ.r i) (xP Γ (.inr (.inr (0, k, i)) :: As) D') (As.map (xcv Γ)) := ⟨xP_blind, hrecv, fun U hU hW => ⟨rfl, by rw [hU]; exact hH, hs.warm hW (by rw [hU]; exact hS.1) (fun z z1 z2 => by rw [hU]; exact hS.2.1 z z1 z2), fun v hv => by
      rcases List.mem_cons.mp hv with z | z
      · rw [z]; exact hvr
      · exact hAs v z⟩⟩
  have hstk : (As.reverse ++ .inr (.inr (0, k, i)) :: rest).map (xcv Γ) = (As.map (xcv Γ)).reverse ++ .ref (Γ.r i) :: rest.map (xcv Γ) := by
    rw [List.map_append, List.map_reverse]; rfl
  rw [hstk]
  have hcat : ((rest.map (xcv Γ)).map fun v => v.category).sum ≤ 8 := by
    have := Nat.le_of_ble_eq_true hroom
    rw [List.map_map]
    have e2 : (Value.category ∘ xcv Γ) = xcat := funext (xcat_ok Γ)
    show (List.map (Value.category ∘ xcv Γ) rest).sum ≤ 8
    rw [e2]
    exact this
  exact x_after (va_runV (As := As.map (xcv Γ)) (rest := rest.map (xcv Γ)) ⟨hx, hb, hml, hown, hts⟩ kk cw hpre rfl (by simp [hb2]) hl.1 rfl (by show 2 * 0 + _ ≤ 8; omega) hd ⟨by have := hR.2.2.1; omega, by have := hR.2.2.2; omega⟩) C hS hl hrest hret
set_option maxHeartbeats 4000000 in
/-- invokestatic -/
theorem x_scall {pc pc' a b : Nat} {lv lv' : List (Option xV)} {st st' : List xV} {D D' : xM} {idx : Nat} {g : xHd} (As : List xV) {rest : List xV} (h1 : xrun rows xN 60 pc lv st D = some (pc', lv', st', D')) (hr : xrw rows pc' = some (.invokestatic idx, 3, a, b)) (ha : Nat.beq a 1000 = false) (hg : xsg[a]? = some g) (hst' : st' = As.reverse ++ rest) (hb2 : As.length = b) (hroom : Nat.ble ((rest.map xcat).sum) 8 = true)
    (kk : xRuns Γ n g As D' (fun v D2 => xW Γ (n + 1) h rows (pc' + 3) lv' (v.toList.map .inl ++ rest) D2 post)) : xW Γ (n + 1) h rows pc lv st D post := by
  refine x_to xN h1 ?_
  intro p e R s m args below meth c H locs cells slots Q ls C hH hS hl hst hret
  obtain ⟨hx, hb, hml, hrt, hlk, hown, hts, hs, hck, hR⟩ := id C
  have hok := xck_row hck hr
  have hd := xok_dec hok
  have hok2 := (xand hok).2
  have ha2 : ¬ a = 1000 := fun z => by rw [z] at ha; cases ha
  simp only [if_neg ha2] at hok2
  subst hst'
  obtain ⟨p1, hp1⟩ := xzip (p := xmlp) xml_len (of_decide_eq_true (xand hok2).1)
  obtain ⟨p2, hp2⟩ := xzip (p := xmsp) xms_len (of_decide_eq_true (xand hok2).2)
  have c1 := List.all_eq_true.mp xml_ok _ hp1
  have w2 := List.all_eq_true.mp xms_ok _ hp2
  have c3 := xmapz xms_c _ hp2
  simp only [xmlB, xmsB, hg] at c1 w2 c3
  have c3 := xcd_in c3
  obtain ⟨q01, q2⟩ := xand w2
  obtain ⟨q1, c2⟩ := xand q01
  obtain ⟨c45, c6⟩ := xand q1
  obtain ⟨c4, c5⟩ := xand c45
  have hmx : g.2.2.1 ≤ 40 := of_decide_eq_true c6
  have hrest : ∀ v ∈ rest, xvv v := fun v hv => hst v (List.mem_append_right _ hv)
  have hAs : ∀ v ∈ As, xvv v := fun v hv => hst v (List.mem_append_left _ (List.mem_reverse.mpr hv))
  have cw : CallB R s args h.1.cls idx g.1 g.2.1 g.2.2.1 g.2.2.2 (xcd g :: xtb) (xrm n) 0 0 b ∧ (Cond.static g.1).before args s = true :=
    ⟨callB_of b hts (xcd_good c3) rfl rfl rfl (hts _ (xat_mem c2)) (hts _ (xat_mem c1)) ⟨(of_decide_eq_true c4 : _ ∧ _).1, (of_decide_eq_true c4 : _ ∧ _).2, of_decide_eq_true c5⟩ ⟨by have := hR.1; show n + 1 ≤ R.frames; omega, by have := hR.2.1; show 8 + (g.2.2.1 + 11) + 64 * n ≤ R.locals; omega⟩, hts _ (xat_mem q2)⟩
  have hpre : PreS s H (xP Γ As D') (As.map (xcv Γ)) := ⟨xP_blind, fun U hU hW => ⟨rfl, by rw [hU]; exact hH, hs.warm hW (by rw [hU]; exact hS.1) (fun z z1 z2 => by rw [hU]; exact hS.2.1 z z1 z2), hAs⟩⟩
  have hstk : (As.reverse ++ rest).map (xcv Γ) = (As.map (xcv Γ)).reverse ++ rest.map (xcv Γ) := by
    rw [List.map_append, List.map_reverse]
  rw [hstk]
  have hcat : ((rest.map (xcv Γ)).map fun v => v.category).sum ≤ 8 := by
    have := Nat.le_of_ble_eq_true hroom
    rw [List.map_map]
    have e2 : (Value.category ∘ xcv Γ) = xcat := funext (xcat_ok Γ)
    show (List.map (Value.category ∘ xcv Γ) rest).sum ≤ 8
    rw [e2]
    exact this
  exact x_after (va_runS (As := As.map (xcv Γ)) (rest := rest.map (xcv Γ)) ⟨hx, hb, hml, hown, hts⟩ kk cw hpre rfl (by simp [hb2]) hl.1 rfl (by show 2 * 0 + _ ≤ 8; omega) hd ⟨by have := hR.2.2.1; omega, by have := hR.2.2.2; omega⟩) C hS hl hrest hret
end XC
