/-! ===== History ===== -/
theorem elB8 (j : Nat) : xelB 8 j = 39 + 6 * j := rfl
theorem elB2 (j : Nat) : xelB 2 j = 87 + 6 * j := rfl
theorem cTx_out {D D' : xM} {tx : List Nat} (h : cTx D tx) (e1 : D' 1 1 = D 1 1) (e2 : D' 2 = D 2) : cTx D' tx := ⟨by rw [e1]; exact h.1, rL_out h.2 e2⟩
theorem cHi_out {D D' : xM} {past : List wS} {kept : Nat → Option wS} (h : cHi D past kept) (e : ∀ a, 36 ≤ a → a ≤ 98 → D' a = D a) : cHi D' past kept := by
  obtain ⟨nx, sb, h1, h2, h3, h4, h5, h6, h7⟩ := h
  have e36 := e 36 (by omega) (by omega)
  refine ⟨nx, sb, h1, h2, by rw [e36]; exact h3, by rw [e36]; exact h4, by rw [e36]; exact h5, fun j hj => rW_out (h6 j hj) (fun a ha hb => e a ?_ ?_), fun k hk => ⟨(h7 k hk).1, fun S hS => rW_out ((h7 k hk).2 S hS) (fun a ha hb => e a ?_ ?_)⟩⟩
  · rw [elB8] at ha; omega
  · rw [elB8] at hb; omega
  · rw [elB2] at ha; omega
  · rw [elB2] at hb; omega
theorem cSe_out {D D' : xM} {seen : List (Nat × Nat × Option Nat)} (h : cSe D seen) (e : ∀ a, 99 ≤ a → a ≤ 102 → D' a = D a) : cSe D' seen := by
  rw [cSe, e 99 (by omega) (by omega), e 100 (by omega) (by omega), e 101 (by omega) (by omega), e 102 (by omega) (by omega)]
  exact h
theorem cRe_out {D D' : xM} {reel : Nat → Option (Nat × Nat × (Nat → Int32))} (h : cRe D reel) (e : ∀ a, 104 ≤ a → a ≤ 109 → D' a = D a) : cRe D' reel := by
  intro r hr
  have h1 := h r hr
  rw [e (104 + 2 * r) (by omega) (by omega), e (105 + 2 * r) (by omega) (by omega)]
  exact h1
section HI
variable {Γ : xG} {n : Nat} {D : xM} {post : Option Int32 → xM → Prop} {past : List wS} {kept : Nat → Option wS} {S : wS}
theorem c_remember (hh : cHi D past kept) (hr : rW D 21 S) (hB : S.B ≤ 8) (hM : S.M ≤ 4) (hl : past.length ≤ 8) (hp : ∀ D', cHi D' ((S :: past).take 8) kept → (∀ a, (a < 36 ∨ 98 < a) → D' a = D a) → post none D') : xRuns Γ (n + 2) hX1_remember [xR 0 1 36, xR 0 7 21] D post := by
  obtain ⟨nx, sb, h1, h2, h3, h4, h5, h6, h7⟩ := hh
  refine x_runs kX1_remember (by decide +kernel) rfl ?_
  refine x_wldN nx rfl rfl h3 h1 rfl ?_
  refine x_call [xR 0 7 21] rfl rfl rfl rfl rfl rfl rfl (c_become (w := xelB 8 nx) (o := 21) (by rw [elB8]; omega) (fun D1 hc hs => ?_))
  rw [elB8] at hs hc
  have e36 : D1 36 = D 36 := hs 36 (by omega)
  refine x_rem rfl rfl (by decide) ?_
  have er : D1 36 2 + xnum 1 - (D1 36 2 + xnum 1) / xnum 8 * xnum 8 = nI ((nx + 1) % 8) := by
    rw [e36, h3]
    show nI nx + nI 1 - (nI nx + nI 1) / nI 8 * nI 8 = _
    rw [nI_add]
    exact pk_rem (a := nx + 1) (d := 8) (by omega) (by decide) (by decide)
  refine x_min rfl rfl rfl ?_
  refine x_vret rfl rfl rfl ?_
  have em : (if xnum 8 < xup D1 36 2 (D1 36 2 + xnum 1 - (D1 36 2 + xnum 1) / xnum 8 * xnum 8) 36 4 + xnum 1 then xnum 8 else xup D1 36 2 (D1 36 2 + xnum 1 - (D1 36 2 + xnum 1) / xnum 8 * xnum 8) 36 4 + xnum 1) = nI (min 8 (past.length + 1)) := by
    rw [xup_o (by omega), e36, h5]
    show (if nI 8 < nI past.length + nI 1 then nI 8 else nI past.length + nI 1) = _
    rw [nI_add]
    by_cases q : past.length + 1 ≤ 8
    · rw [if_neg (nI_nlt q (by omega)), Nat.min_eq_right q]
    · rw [if_pos (nI_lt (by omega) (by omega)), Nat.min_eq_left (by omega)]
  rw [em, er]
  have same : ∀ a, a ≠ 36 → xup (xup D1 36 2 (nI ((nx + 1) % 8))) 36 4 (nI (min 8 (past.length + 1))) a = D1 a := fun a ha => by rw [xup_ne a ha, xup_ne a ha]
  refine hp _ ⟨(nx + 1) % 8, sb, by omega, h2, by rw [xup_o (by omega), xup_at], by rw [xup_o (by omega), xup_o (by omega), e36]; exact h4, by rw [xup_at, List.length_take, List.length_cons], fun j hj => ?_, fun k hk => ⟨(h7 k hk).1, fun S' hS' => ?_⟩⟩ (fun a ha => ?_)
  · rw [List.length_take, List.length_cons] at hj
    have hel : xelB 8 (((nx + 1) % 8 + 7 - j) % 8) = 39 + 6 * (((nx + 1) % 8 + 7 - j) % 8) := rfl
    cases j with
    | zero =>
      have e0 : ((nx + 1) % 8 + 7 - 0) % 8 = nx := by omega
      rw [e0, List.getElem_take]
      show rW _ (xelB 8 nx) S
      rw [elB8]
      exact rW_out (hc S hB hM hr) (fun a ha hb => same a (by omega))
    | succ j =>
      have e0 : ((nx + 1) % 8 + 7 - (j + 1)) % 8 = (nx + 7 - j) % 8 := by omega
      have hj2 : j < past.length := by omega
      have h6j := h6 j hj2
      rw [e0, List.getElem_take]
      show rW _ (xelB 8 ((nx + 7 - j) % 8)) past[j]
      rw [elB8] at h6j ⊢
      exact rW_out h6j (fun a ha hb => by rw [same a (by omega)]; exact hs a (by omega))
  · have h7k := (h7 k hk).2 S' hS'
    rw [elB2] at h7k ⊢
    exact rW_out h7k (fun a ha hb => by rw [same a (by omega)]; exact hs a (by omega))
  · rw [same a (by omega)]
    exact hs a (by omega)
theorem c_takeBack {S0 : wS} (hh : cHi D (S0 :: past) kept) (hl : past.length < 8) (hB : S0.B ≤ 8) (hM : S0.M ≤ 4) (hp : ∀ D', cHi D' past kept → rW D' 21 S0 → (∀ a, (a < 21 ∨ 26 < a) → (a < 36 ∨ 98 < a) → D' a = D a) → post none D') : xRuns Γ (n + 2) hX1_takeBack [xR 0 1 36, xR 0 7 21] D post := by
  obtain ⟨nx, sb, h1, h2, h3, h4, h5, h6, h7⟩ := hh
  refine x_runs kX1_takeBack (by decide +kernel) rfl ?_
  refine x_rem rfl rfl (by decide) ?_
  have er : D 36 2 + xnum 8 - xnum 1 - (D 36 2 + xnum 8 - xnum 1) / xnum 8 * xnum 8 = nI ((nx + 7) % 8) := by
    rw [h3]
    show nI nx + nI 8 - nI 1 - (nI nx + nI 8 - nI 1) / nI 8 * nI 8 = _
    rw [nI_add, pk_sub (by omega)]
    have : nx + 8 - 1 = nx + 7 := by omega
    rw [this]
    exact pk_rem (a := nx + 7) (d := 8) (by omega) (by decide) (by decide)
  have es : xup D 36 2 (D 36 2 + xnum 8 - xnum 1 - (D 36 2 + xnum 8 - xnum 1) / xnum 8 * xnum 8) 36 4 - xnum 1 = nI past.length := by
    rw [xup_o (by omega), h5]
    show nI (past.length + 1) - nI 1 = _
    rw [pk_sub (by omega)]
    rfl
  refine x_wldN ((nx + 7) % 8) rfl rfl (by rw [xup_o (by omega), xup_at]; exact er) (by omega) rfl ?_
  rw [es, er]
  have same : ∀ a, a ≠ 36 → xup (xup D 36 2 (nI ((nx + 7) % 8))) 36 4 (nI past.length) a = D a := fun a ha => by rw [xup_ne a ha, xup_ne a ha]
  refine x_call [xR 0 7 (xelB 8 ((nx + 7) % 8))] rfl rfl rfl rfl rfl rfl rfl (c_become (w := 21) (o := xelB 8 ((nx + 7) % 8)) (by rw [elB8]; omega) (fun D1 hc hs => ?_))
  have h60 := h6 0 (by simp)
  rw [Nat.sub_zero, elB8] at h60
  have e36 : D1 36 = xup (xup D 36 2 (nI ((nx + 7) % 8))) 36 4 (nI past.length) 36 := hs 36 (by omega)
  refine x_vret rfl rfl rfl (hp D1 ⟨(nx + 7) % 8, sb, by omega, h2, by rw [e36, xup_o (by omega), xup_at], by rw [e36, xup_o (by omega), xup_o (by omega)]; exact h4, by rw [e36, xup_at], fun j hj => ?_, fun k hk => ⟨(h7 k hk).1, fun S' hS' => ?_⟩⟩ (hc S0 hB hM ?_) (fun a ha hb => ?_))
  · have h6j := h6 (j + 1) (by simp; omega)
    have e0 : ((nx + 7) % 8 + 7 - j) % 8 = (nx + 7 - (j + 1)) % 8 := by omega
    rw [e0]
    rw [elB8] at h6j ⊢
    exact rW_out h6j (fun a ha hb => by rw [hs a (by omega)]; exact same a (by omega))
  · have h7k := (h7 k hk).2 S' hS'
    rw [elB2] at h7k ⊢
    exact rW_out h7k (fun a ha hb => by rw [hs a (by omega)]; exact same a (by omega))
  · rw [elB8]
    exact rW_out h60 (fun a ha hb => same a (by omega))
  · rw [hs a (by omega)]
    exact same a (by omega)
theorem c_store {k : Nat} (hk : k < 2) (hh : cHi D past kept) (hr : rW D 21 S) (hB : S.B ≤ 8) (hM : S.M ≤ 4) (hp : ∀ D', cHi D' past (wuf kept k (some S)) → (∀ a, (a < 36 ∨ 98 < a) → D' a = D a) → post none D') : xRuns Γ (n + 2) hX1_store [xR 0 1 36, xI (nI k), xR 0 7 21] D post := by
  obtain ⟨nx, sb, h1, h2, h3, h4, h5, h6, h7⟩ := hh
  refine x_runs kX1_store (by decide +kernel) rfl ?_
  refine x_wldN k rfl rfl rfl hk rfl ?_
  refine x_call [xR 0 7 21] rfl rfl rfl rfl rfl rfl rfl (c_become (w := xelB 2 k) (o := 21) (by rw [elB2]; omega) (fun D1 hc hs => ?_))
  rw [elB2] at hs hc
  have e36 : D1 36 = D 36 := hs 36 (by omega)
  refine x_vret rfl rfl rfl ?_
  have eb : D1 36 3 ||| (xnum 1 <<< (nI k &&& 31)) = nI (sb ||| 2 ^ k) := by
    rw [e36, h4, ← xb_or, ← xb_sh1 (by omega)]
    rfl
  rw [eb]
  have same : ∀ a, a ≠ 36 → xup D1 36 3 (nI (sb ||| 2 ^ k)) a = D1 a := fun a ha => xup_ne a ha
  have hsb : sb ||| 2 ^ k < 4 := Nat.or_lt_two_pow (n := 2) h2 (Nat.pow_lt_pow_right (by decide) hk)
  refine hp _ ⟨nx, sb ||| 2 ^ k, h1, hsb, by rw [xup_o (by omega), e36]; exact h3, by rw [xup_at], by rw [xup_o (by omega), e36]; exact h5, fun j hj => ?_, fun k' hk' => ?_⟩ (fun a ha => ?_)
  · have h6j := h6 j hj
    rw [elB8] at h6j ⊢
    exact rW_out h6j (fun a ha hb => by rw [same a (by omega)]; exact hs a (by omega))
  · rw [Nat.testBit_or, Nat.testBit_two_pow]
    by_cases e : k' = k
    · subst e
      refine ⟨by simp [wuf], fun S' hS' => ?_⟩
      simp only [wuf, if_true] at hS'
      cases hS'
      rw [elB2]
      exact rW_out (hc S hB hM hr) (fun a ha hb => same a (by omega))
    · refine ⟨by simp [wuf, e, Ne.symm e, (h7 k' hk').1], fun S' hS' => ?_⟩
      simp only [wuf, e, if_false] at hS'
      have h7k := (h7 k' hk').2 S' hS'
      rw [elB2] at h7k ⊢
      exact rW_out h7k (fun a ha hb => by rw [same a (by omega)]; exact hs a (by omega))
  · rw [same a (by omega)]
    exact hs a (by omega)
theorem c_isStored {k : Nat} (hk : k < 2) (hh : cHi D past kept) (hp : post (some (if (kept k).isSome then 1 else 0)) D) : xRuns Γ n hX1_isStored [xR 0 1 36, xI (nI k)] D post := by
  obtain ⟨nx, sb, h1, h2, h3, h4, h5, h6, h7⟩ := hh
  refine x_runs kX1_isStored (by decide +kernel) rfl ?_
  rw [← (h7 k hk).1] at hp
  refine xi_neN (sb / 2 ^ k % 2) 1 rfl rfl (by rw [h4]; exact xb_bit (by omega) (by omega)) rfl (by omega) (by omega) (fun h => ?_) (fun h => ?_)
  · have : sb.testBit k = false := by
      cases hq : sb.testBit k with
      | false => rfl
      | true => exact absurd ((xb_tb _ _).mpr hq) h
    rw [this] at hp
    exact x_ret rfl rfl rfl rfl hp
  · rw [(xb_tb _ _).mp h] at hp
    exact x_goto rfl rfl (x_ret rfl rfl rfl rfl hp)
theorem c_restore {k : Nat} {S0 : wS} (hk : k < 2) (hh : cHi D past kept) (hk0 : kept k = some S0) (hB : S0.B ≤ 8) (hM : S0.M ≤ 4) (hp : ∀ D', cHi D' [] kept → rW D' 21 S0 → (∀ a, (a < 21 ∨ 26 < a) → a ≠ 36 → D' a = D a) → post none D') : xRuns Γ (n + 2) hX1_restore [xR 0 1 36, xI (nI k), xR 0 7 21] D post := by
  obtain ⟨nx, sb, h1, h2, h3, h4, h5, h6, h7⟩ := hh
  refine x_runs kX1_restore (by decide +kernel) rfl ?_
  refine x_wldN k rfl rfl rfl hk rfl ?_
  refine x_call [xR 0 7 (xelB 2 k)] rfl rfl rfl rfl rfl rfl rfl (c_become (w := 21) (o := xelB 2 k) (by rw [elB2]; omega) (fun D1 hc hs => ?_))
  have e36 : D1 36 = D 36 := hs 36 (by omega)
  refine x_vret rfl rfl rfl (hp _ ⟨nx, sb, h1, h2, by rw [xup_o (by omega), e36]; exact h3, by rw [xup_o (by omega), e36]; exact h4, by rw [xup_at]; rfl, fun j hj => absurd hj (by simp), fun k' hk' => ⟨(h7 k' hk').1, fun S' hS' => ?_⟩⟩ (rW_out (hc S0 hB hM ((h7 k hk).2 S0 hk0)) (fun a ha hb => xup_ne a (by omega))) (fun a ha hb => ?_))
  · have h7k := (h7 k' hk').2 S' hS'
    rw [elB2] at h7k ⊢
    exact rW_out h7k (fun a ha hb => by rw [xup_ne a (by omega)]; exact hs a (by omega))
  · rw [xup_ne a hb]
    exact hs a ha
/-- the reference's keepPast -/
theorem mHi_out {D D' : xM} {past : List wS} {kept : Nat → Option wS} (h : mHi D past kept) (hl : past.length ≤ 8) (hw : ∀ S ∈ past, wok S) (hk2 : ∀ k S, k < 2 → kept k = some S → wok S) (e1 : D' 111 1 = D 111 1) (e2 : ∀ j, 216 ≤ j → j < 1296 → D' 112 j = D 112 j) (e3 : D' 113 = D 113) : mHi D' past kept := by
  obtain ⟨h1, h2, h3⟩ := h
  refine ⟨by rw [e1]; exact h1, fun j hj => ?_, fun k hk => ⟨by rw [e3]; exact (h3 k hk).1, fun S hS => ?_⟩⟩
  · have hs := hw _ (List.getElem_mem hj)
    exact rM_out (h2 j hj) hs.1 hs.2.1 (fun i hi1 hi2 => e2 i (by omega) (by omega))
  · have hs := hk2 k S hk hS
    exact rM_out ((h3 k hk).2 S hS) hs.1 hs.2.1 (fun i hi1 hi2 => e2 i (by omega) (by omega))
theorem c_keepPast (hh : mHi D past kept) (hl : past.length ≤ 8) (hw : ∀ S ∈ past, wok S) (hk2 : ∀ k S, k < 2 → kept k = some S → wok S) (hr : rM D 0 S) (hB : S.B ≤ 8) (hM : S.M ≤ 4) (hp : ∀ D', mHi D' ((S :: past).take 8) kept → (∀ a j, ¬ (a = 112 ∧ 216 ≤ j ∧ j < 1080) → ¬ (a = 111 ∧ j = 1) → D' a j = D a j) → post none D') : xRuns Γ (n + 2) hX9_keepPast [xR 0 9 111] D post := by
  obtain ⟨h1, h2, h3⟩ := hh
  refine x_runs kX9_keepPast (by decide +kernel) rfl ?_
  -- the copy at the end
  have fin : ∀ (p1 : List wS) (D1 : xM) (v : Option xV), p1.length < 8 → (∀ S ∈ p1, wok S) → D1 111 1 = nI p1.length → (∀ j, (h : j < p1.length) → rM D1 (216 + 108 * (p1.length - 1 - j)) p1[j]) → (S :: p1) = (S :: past).take 8 → (∀ a j, ¬ (a = 112 ∧ 216 ≤ j ∧ j < 1080) → ¬ (a = 111 ∧ j = 1) → D1 a j = D a j) → xW Γ (n + 2) hX9_keepPast rX9_keepPast 54 [some (xR 0 9 111), none] [] D1 post := by
    intro p1 D1 v hl1 hw1 g1 g2 g3 g4
    have hr1 : rM D1 0 S := rM_out hr hB hM (fun j _ hj => g4 112 j (by omega) (by omega))
    refine x_call [xI (nI 0), xI (xnum 216 + xnum 108 * D1 111 1)] rfl rfl rfl rfl rfl rfl rfl ?_
    have ei : xnum 216 + xnum 108 * D1 111 1 = nI (216 + 108 * p1.length) := by
      rw [g1]
      show nI 216 + nI 108 * nI p1.length = _
      rw [pk_mul, nI_add]
    rw [ei]
    refine c_copyHarbour (a := 0) (z := 216 + 108 * p1.length) (by omega) (by omega) (by omega) (fun D2 hc hs => ?_)
    refine x_vret rfl rfl rfl ?_
    have eu : D2 111 1 + xnum 1 = nI (p1.length + 1) := by
      rw [hs 111 1 (by omega), g1]
      exact nI_1 _
    rw [eu]
    refine hp _ ⟨by rw [xup_at, ← g3]; rfl, fun j hj => ?_, fun k hk => ⟨?_, fun S' hS' => ?_⟩⟩ (fun a j q1 q2 => ?_)
    · simp only [← g3] at hj ⊢
      rw [List.length_cons] at hj
      cases j with
      | zero =>
        show rM _ (216 + 108 * (p1.length + 1 - 1 - 0)) S
        have : p1.length + 1 - 1 - 0 = p1.length := by omega
        rw [this]
        exact rM_out (rM_copy hB hM hr1 hc) hB hM (fun i _ _ => xup_o (by omega))
      | succ j =>
        show rM _ (216 + 108 * (p1.length + 1 - 1 - (j + 1))) p1[j]
        have hj2 : j < p1.length := by omega
        have e9 : p1.length + 1 - 1 - (j + 1) = p1.length - 1 - j := by omega
        rw [e9]
        have hsj := hw1 _ (List.getElem_mem hj2)
        exact rM_out (g2 j hj2) hsj.1 hsj.2.1 (fun i q1 q2 => by rw [xup_o (by omega)]; exact hs 112 i (by omega))
    · rw [xup_o (by omega), hs 113 k (by omega), g4 113 k (by omega) (by omega)]
      exact (h3 k hk).1
    · have hsk := hk2 k S' hk hS'
      exact rM_out ((h3 k hk).2 S' hS') hsk.1 hsk.2.1 (fun i q1 q2 => by rw [xup_o (by omega), hs 112 i (by omega)]; exact g4 112 i (by omega) (by omega))
    · rw [xup_o (by omega), hs a j (by omega)]
      exact g4 a j q1 q2
  refine xi_neN past.length 8 rfl rfl h1 rfl (by omega) (by omega) (fun h => ?_) (fun h => ?_)
  · refine fin past D none (by omega) hw h1 h2 ?_ (fun _ _ _ _ => rfl)
    rw [List.take_of_length_le (by rw [List.length_cons]; omega)]
  · -- eight: the oldest goes
    refine x_to 11 rfl ?_
    have loop : ∀ (f i : Nat) (D1 : xM), i + f = 756 → (∀ j, j < i → D1 112 (216 + j) = D 112 (324 + j)) → (∀ a j, ¬ (a = 112 ∧ 216 ≤ j ∧ j < 216 + i) → D1 a j = D a j) → xW Γ (n + 2) hX9_keepPast rX9_keepPast 11 [some (xR 0 9 111), some (xI (nI i))] [] D1 post := by
      intro f
      induction f with
      | zero =>
        intro i D1 hi g1 g2
        obtain rfl : i = 756 := by omega
        refine xi_geN 756 756 rfl rfl rfl rfl (by omega) (by omega) (fun _ => ?_) (fun h => absurd h (by omega))
        have eu : D1 111 1 - xnum 1 = nI 7 := by
          rw [g2 111 1 (by omega), h1, h]
          rfl
        refine x_to 54 rfl ?_
        rw [eu]
        refine x_drop 1 (fin (past.take 7) (xup D1 111 1 (nI 7)) none (by rw [List.length_take]; omega) (fun S' hS' => hw S' (List.mem_of_mem_take hS')) ?_ (fun j hj => ?_) ?_ (fun a j q1 q2 => ?_))
        · rw [xup_at, List.length_take]
          exact congrArg nI (by omega)
        · rw [List.length_take] at hj
          have hj2 : j < past.length := by omega
          have hsj := hw _ (List.getElem_mem hj2)
          have e7 : (past.take 7).length = 7 := by rw [List.length_take]; omega
          rw [e7, List.getElem_take]
          have h2j := h2 j hj2
          rw [h] at h2j
          have hc : ∀ i, i < 108 → xup D1 111 1 (nI 7) 112 (216 + 108 * (7 - 1 - j) + i) = D 112 (216 + 108 * (8 - 1 - j) + i) := by
            intro i hi
            rw [xup_o (by omega)]
            have := g1 (108 * (7 - 1 - j) + i) (by omega)
            have q1 : 216 + (108 * (7 - 1 - j) + i) = 216 + 108 * (7 - 1 - j) + i := by omega
            have q2 : 324 + (108 * (7 - 1 - j) + i) = 216 + 108 * (8 - 1 - j) + i := by omega
            rw [q1, q2] at this
            exact this
          exact rM_copy hsj.1 hsj.2.1 h2j hc
        · rw [List.take_succ_cons]
        · rw [xup_o (by omega)]
          exact g2 a j (by omega)
      | succ f ih =>
        intro i D1 hi g1 g2
        refine xi_geN i 756 rfl rfl rfl rfl (by omega) (by omega) (fun h => absurd h (by omega)) (fun h => ?_)
        refine x_aldN (324 + i) rfl rfl (nI_add 324 i) (by omega) rfl ?_
        refine x_astN (216 + i) rfl rfl (nI_add 216 i) (by omega) rfl ?_
        have IH := ih (i + 1) (xup D1 112 (216 + i) (D1 112 (324 + i))) (by omega) (fun j hj => by
          by_cases e : j = i
          · subst e
            rw [xup_at]
            exact g2 112 (324 + j) (by omega)
          · rw [xup_o (by omega)]
            exact g1 j (by omega)) (fun a j q => by rw [xup_o (by omega)]; exact g2 a j (by omega))
        rw [← nI_1] at IH
        exact x_goto rfl rfl IH
    exact loop 756 0 D rfl (fun j hj => absurd hj (by omega)) (fun _ _ _ => rfl)
end HI
