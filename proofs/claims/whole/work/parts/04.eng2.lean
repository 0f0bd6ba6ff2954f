theorem xlh_sto {Γ : xG} {h : xHd} {ls : Array Slot} {lv : List (Option xV)} (hl : xlh Γ h ls lv) (hnl : xnl lv = true) {i : Nat} (hi : i < lv.length) {v : xV} (hv : xvv v) (hc : (xcv Γ v).category = 1) :
    ∃ ls', storeLocals ls i (xcv Γ v) = some ls' ∧ xlh Γ h ls' (lv.set i (some v)) := by
  have nol : ∀ (l : List (Option xV)), xnl l = true → ∀ (j : Nat) (u : xV), l[j]? = some (some u) → (xcv Γ u).category = 1 := by
    intro l
    induction l with
    | nil => intro _ j u hj; simp at hj
    | cons o r ih =>
      intro hn j u hj
      cases j with
      | zero =>
        have e : o = some u := Option.some.inj hj
        subst e
        rcases u with x | x | ⟨s, k, w⟩
        · rfl
        · cases hn
        · rfl
      | succ j =>
        refine ih ?_ j u hj
        rcases o with _ | x | x | x
        · exact hn
        · exact hn
        · cases hn
        · exact hn
  obtain ⟨h1, h2, h3, h4⟩ := hl
  let l : List (Nat × Value) := (List.range lv.length).filterMap (fun j => match lv[j]? with | some (some u) => some (j, xcv Γ u) | _ => none)
  have hl0 : lv_has ls h.2.2.1 l := by
    refine ⟨h1, h2, fun q hq => ?_⟩
    obtain ⟨j, -, hj⟩ := List.mem_filterMap.mp hq
    split at hj
    · rename_i u hu
      cases hj
      exact (h3 j u hu).2
    · cases hj
  obtain ⟨ls', e', h'⟩ := lv_store1 (v := xcv Γ v) hl0 (Nat.lt_of_lt_of_le hi h4) hc
  refine ⟨ls', e', h'.1, h'.2.1, fun j u hj => ?_, by rw [List.length_set]; exact h4⟩
  by_cases hji : j = i
  · subst hji
    by_cases hlt : j < lv.length
    · rw [List.getElem?_set_self hlt] at hj
      cases hj
      exact ⟨hv, h'.2.2 _ List.mem_cons_self⟩
    · rw [List.getElem?_eq_none (by simp; omega)] at hj
      cases hj
  · rw [List.getElem?_set_ne (Ne.symm hji)] at hj
    refine ⟨(h3 j u hj).1, h'.2.2 (j, xcv Γ u) (List.mem_cons_of_mem _ (List.mem_filter.mpr ⟨List.mem_filterMap.mpr ⟨j, List.mem_range.mpr (List.getElem?_eq_some_iff.mp hj).1, by rw [hj]⟩, ?_⟩))⟩
    have hcu := nol lv hnl j u hj
    simp [hji, hcu]
theorem xkd_len : xkd.length = xNC := by decide +kernel
theorem xws_at {Γ : xG} {D : xM} {i : Nat} {q : Nat × Nat} (h : xkd[i]? = some q) : (xws Γ D)[i]? = some (Γ.r i, xce Γ D i q) := by
  have hi : i < xNC := by rw [← xkd_len]; exact (List.getElem?_eq_some_iff.mp h).1
  rw [xws, List.getElem?_map, List.getElem?_range hi]
  show some (Γ.r i, xce Γ D i (xkd.getD i (0, 0))) = _
  rw [List.getD_eq_getElem?_getD, h]
  rfl
theorem xws_D {Γ : xG} {s : State} (h : xS Γ s) (D : xM) : va_D (xA Γ) (xws Γ D) := by
  have key : ∀ (i : Nat) (p : Nat × va_E), (xws Γ D)[i]? = some p → i < xNC ∧ p.1 = Γ.r i := by
    intro i p hp
    rw [xws, List.getElem?_map] at hp
    by_cases hi : i < xNC
    · rw [List.getElem?_range hi] at hp
      cases hp
      exact ⟨hi, rfl⟩
    · rw [List.getElem?_eq_none (by simp; omega)] at hp
      cases hp
  refine ⟨fun i j p q hi hj e => ?_, fun k q hk => ?_⟩
  · obtain ⟨a1, b1⟩ := key i p hi
    obtain ⟨a2, b2⟩ := key j q hj
    exact h.2.1 i j a1 a2 (by rw [← b1, ← b2]; exact e)
  · obtain ⟨a1, b1⟩ := key k q hk
    exact ⟨k, a1, b1⟩
theorem xws_set {Γ : xG} {D D' : xM} {i : Nat} {q : Nat × Nat} (h : xkd[i]? = some q) (hne : ∀ j, j ≠ i → D' j = D j) : (xws Γ D).set i (Γ.r i, xce Γ D' i q) = xws Γ D' := by
  have hi : i < xNC := by rw [← xkd_len]; exact (List.getElem?_eq_some_iff.mp h).1
  apply List.ext_getElem?
  intro j
  by_cases hj : j = i
  · subst hj
    rw [List.getElem?_set_self (by simp [xws]; exact hi), xws_at h]
  · rw [List.getElem?_set_ne (Ne.symm hj)]
    by_cases hlt : j < xNC
    · obtain ⟨r, hr⟩ : ∃ r, xkd[j]? = some r := by
        have : j < xkd.length := by rw [xkd_len]; exact hlt
        exact ⟨_, List.getElem?_eq_getElem this⟩
      rw [xws_at hr, xws_at hr]
      have e := hne j hj
      have e2 : ∀ c k, xfv D' c j k = xfv D c j k := by
        intro c k
        rw [xfv, xfv, e]
      congr 2
      obtain ⟨r1, r2⟩ := r
      simp only [xce, e, e2]
    · rw [List.getElem?_eq_none (by simp [xws]; omega), List.getElem?_eq_none (by simp [xws]; omega)]
theorem xup_ne {D : xM} {i j : Nat} {v : Int32} : ∀ a, a ≠ i → xup D i j v a = D a := by
  intro a ha
  funext b
  simp [xup, ha]
theorem xup_arr (D : xM) (i j : Nat) (v : Int32) : xup D i j v i = upd (D i) j v := by
  funext b
  simp [xup, upd]
theorem xup_obj {Γ : xG} {D : xM} {c i b : Nat} {x : Int32} (hf : xfR c b i = none) : ((List.range (xnf c)).map (fun j => xcv Γ (xfv D c i j))).set b (.int x) = (List.range (xnf c)).map (fun j => xcv Γ (xfv (xup D i b x) c i j)) := by
  apply List.ext_getElem?
  intro j
  by_cases hj : j = b
  · subst hj
    by_cases hlt : j < xnf c
    · rw [List.getElem?_set_self (by simp; exact hlt), List.getElem?_map, List.getElem?_range hlt]
      simp [xfv, hf, xup, xcv]
    · rw [List.getElem?_eq_none (by simp; omega), List.getElem?_eq_none (by simp; omega)]
  · rw [List.getElem?_set_ne (Ne.symm hj), List.getElem?_map, List.getElem?_map]
    by_cases hlt : j < xnf c
    · rw [List.getElem?_range hlt]
      simp [xfv, xup, hj]
    · rw [List.getElem?_eq_none (by simp; omega)]
      rfl
theorem xin_all {ws : List Cond} (h : ws.all xin = true) : ∀ w ∈ ws, w ∈ xtb := fun w hw => xin_mem (List.all_eq_true.mp h w hw)
theorem xcl0 : wsX00.all xin = true := by decide +kernel
theorem xcl1 : wsX10.all xin = true := by decide +kernel
theorem xcl2 : wsX20.all xin = true := by decide +kernel
theorem xcl3 : wsX30.all xin = true := by decide +kernel
theorem xcl4 : wsX40.all xin = true := by decide +kernel
theorem xcl5 : wsX50.all xin = true := by decide +kernel
theorem xcl6 : wsX60.all xin = true := by decide +kernel
theorem xcl7 : wsX70.all xin = true := by decide +kernel
theorem xcl8 : wsX80.all xin = true := by decide +kernel
theorem xcl9 : wsX90.all xin = true := by decide +kernel
theorem xcl {ci : Nat} {C : String} {T : u_T} {N : Nat} (h : vwCl[ci]? = some (C, T, N)) : (∀ w ∈ u_ws C T N, w ∈ xtb) ∧ ∃ ty0 : Nat → FieldType, (∀ k, k < N → parseFieldDescriptor (T k).2.2.1 = some (ty0 k)) ∧ ∀ a, a < N → ∀ b, b < N → a ≠ b → (T a).2.1 ≠ (T b).2.1 := by
  match ci, h with
  | 0, h => cases h; exact ⟨xin_all xcl0, tyX0, tyX0_ok, nmX0⟩
  | 1, h => cases h; exact ⟨xin_all xcl1, tyX1, tyX1_ok, nmX1⟩
  | 2, h => cases h; exact ⟨xin_all xcl2, tyX2, tyX2_ok, nmX2⟩
  | 3, h => cases h; exact ⟨xin_all xcl3, tyX3, tyX3_ok, nmX3⟩
  | 4, h => cases h; exact ⟨xin_all xcl4, tyX4, tyX4_ok, nmX4⟩
  | 5, h => cases h; exact ⟨xin_all xcl5, tyX5, tyX5_ok, nmX5⟩
  | 6, h => cases h; exact ⟨xin_all xcl6, tyX6, tyX6_ok, nmX6⟩
  | 7, h => cases h; exact ⟨xin_all xcl7, tyX7, tyX7_ok, nmX7⟩
  | 8, h => cases h; exact ⟨xin_all xcl8, tyX8, tyX8_ok, nmX8⟩
  | 9, h => cases h; exact ⟨xin_all xcl9, tyX9, tyX9_ok, nmX9⟩
  | n + 10, h => simp [vwCl] at h
/-- a field that holds a cell holds one -/
def xfok : Bool := (List.range xNC).all fun i => match xkd.getD i (0, 0) with
  | (0, c) => (List.range (xnf c)).all fun j => match xfR c j i with
    | some (s, k, w) => decide (s ≤ 3 ∨ s = 6) && decide (xkd[w]? = some (s, k))
    | none => true
  | _ => true
theorem xfok_t : xfok = true := by decide +kernel
theorem xvr_cell {s k i : Nat} (hs : s ≤ 3 ∨ s = 6) (h : xkd[i]? = some (s, k)) : xvr s k i := by
  match s, hs with
  | 0, _ => exact ⟨by omega, h⟩
  | 1, _ => exact ⟨by omega, h⟩
  | 2, _ => exact ⟨by omega, h⟩
  | 3, _ => exact ⟨by omega, h⟩
  | 6, _ => exact ⟨by omega, h⟩
  | 4, h => omega
  | 5, h => omega
  | n + 7, h => omega
theorem xvr_fld {c i b : Nat} {q : Nat × Nat × Nat} (h : xkd[i]? = some (0, c)) (hb : b < xnf c) (hf : xfR c b i = some q) : xvr q.1 q.2.1 q.2.2 := by
  have hi : i < xNC := by rw [← xkd_len]; exact (List.getElem?_eq_some_iff.mp h).1
  have h1 := List.all_eq_true.mp xfok_t i (List.mem_range.mpr hi)
  have e : xkd.getD i (0, 0) = (0, c) := by rw [List.getD_eq_getElem?_getD, h]; rfl
  rw [e] at h1
  have h2 := List.all_eq_true.mp h1 b (List.mem_range.mpr hb)
  obtain ⟨s, k, w⟩ := q
  rw [hf] at h2
  simp only [Bool.and_eq_true, decide_eq_true_eq] at h2
  exact xvr_cell h2.1 h2.2
theorem xcell {s k i : Nat} (h : xvr s k i) (hs : s ≤ 3 ∨ s = 6) : xkd[i]? = some (s, k) := by
  match s, hs with
  | 0, _ => exact h.2
  | 1, _ => exact h.2
  | 2, _ => exact h.2
  | 3, _ => exact h.2
  | 6, _ => exact h.2
  | 4, h => omega
  | 5, h => omega
  | n + 7, h => omega
theorem xfc {v : xV} {st : List xV} (h : xvv v) (hst : ∀ u ∈ st, xvv u) : ∀ u ∈ v :: st, xvv u := List.forall_mem_cons.mpr ⟨h, hst⟩
theorem xft {v : xV} {st : List xV} (hst : ∀ u ∈ v :: st, xvv u) : ∀ u ∈ st, xvv u := (List.forall_mem_cons.mp hst).2
theorem xfh {v : xV} {st : List xV} (hst : ∀ u ∈ v :: st, xvv u) : xvv v := (List.forall_mem_cons.mp hst).1
theorem xand {a b : Bool} (h : (a && b) = true) : a = true ∧ b = true := by rw [Bool.and_eq_true] at h; exact h
