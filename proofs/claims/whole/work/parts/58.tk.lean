/-! ===== a text becomes a tongue ===== -/
def tgL (tx : List Nat) : List Nat := tx.filter (fun c => decide (c ≠ 32))
def tgX (tx : List Nat) : List Nat := 40 :: (tgL tx ++ [41])
/-- how many signs the first letters have -/
def tgK (tx : List Nat) (i : Nat) : Nat := (tgL (tx.take i)).length
def tgM (tx : List Nat) : Nat → Nat
  | 0 => 0
  | i + 1 => tgM tx i + if (97 ≤ tc tx i ∧ tc tx i < 107) ∨ tc tx i = 46 then 1 else 0
theorem tgM_le (tx : List Nat) : ∀ i, tgM tx i ≤ i
  | 0 => Nat.le_refl _
  | i + 1 => by
    have := tgM_le tx i
    rw [tgM]
    split <;> omega
section TK
variable {tx : List Nat}
theorem tgK_0 : tgK tx 0 = 0 := rfl
theorem tgK_end : tgK tx tx.length = (tgL tx).length := by rw [tgK, List.take_length]
theorem tc_at {i : Nat} (hi : i < tx.length) : tx[i] = tc tx i := by rw [tc, List.getD_eq_getElem?_getD, List.getElem?_eq_getElem hi]; rfl
theorem tgK_b {i : Nat} (hi : i < tx.length) (c : tc tx i = 32) : tgK tx (i + 1) = tgK tx i := by
  have e : tx.take (i + 1) = tx.take i ++ [tx[i]] := (List.take_append_getElem hi).symm
  rw [tgK, tgK, e, tgL, tgL, List.filter_append, tc_at hi, c]
  simp
theorem tgK_n {i : Nat} (hi : i < tx.length) (c : tc tx i ≠ 32) : tgK tx (i + 1) = tgK tx i + 1 ∧ tgK tx i < (tgL tx).length ∧ (tgL tx).getD (tgK tx i) 0 = tc tx i := by
  have e : tx.take (i + 1) = tx.take i ++ [tx[i]] := (List.take_append_getElem hi).symm
  have e2 : tgL tx = tgL (tx.take (i + 1)) ++ tgL (tx.drop (i + 1)) := by rw [tgL, tgL, tgL, ← List.filter_append, List.take_append_drop]
  have e3 : tgL (tx.take (i + 1)) = tgL (tx.take i) ++ [tc tx i] := by
    rw [tgL, tgL, e, List.filter_append, tc_at hi]
    simp [c]
  refine ⟨by rw [tgK, tgK, e3, List.length_append]; rfl, ?_, ?_⟩
  · rw [e2, e3, List.length_append, List.length_append, tgK]
    simp only [List.length_cons, List.length_nil]
    omega
  · rw [e2, e3, tgK, List.getD_eq_getElem?_getD, List.append_assoc, List.getElem?_append_right (Nat.le_refl _), Nat.sub_self]
    rfl
theorem tgK_le (tx : List Nat) : ∀ i, i ≤ tx.length → tgK tx i ≤ i
  | 0, _ => Nat.le_refl _
  | i + 1, h => by
    have := tgK_le tx i (by omega)
    by_cases c : tc tx i = 32
    · rw [tgK_b (by omega) c]; omega
    · rw [(tgK_n (by omega) c).1]; omega
theorem tgX_len : (tgX tx).length = (tgL tx).length + 2 := by rw [tgX, List.length_cons, List.length_append]; rfl
theorem tgX_s {k : Nat} (hk : k < (tgL tx).length) : (tgX tx).getD (k + 1) 0 = (tgL tx).getD k 0 := by
  rw [tgX, List.getD_cons_succ, List.getD_eq_getElem?_getD, List.getD_eq_getElem?_getD, List.getElem?_append_left hk]
theorem tgX_e : (tgX tx).getD ((tgL tx).length + 1) 0 = 41 := by
  rw [tgX, List.getD_cons_succ, List.getD_eq_getElem?_getD, List.getElem?_append_right (Nat.le_refl _), Nat.sub_self]
  rfl
theorem tgX_v (hl : tx.length ≤ 200) : ∀ g i d nd my, i + g = tx.length → tgF tx g i d nd my = none → tgD (tgX tx) (tgK tx i + 1) = d + 1 → d ≤ 6 → (∀ x, 0 < x → x ≤ tgK tx i + 1 → 0 < tgD (tgX tx) x ∧ tgD (tgX tx) x ≤ 7) → (∀ x, x ≤ tgK tx i → (tgX tx).getD x 0 = 42 → 0 < x ∧ (tgX tx).getD (x - 1) 0 ≠ 40 ∧ (tgX tx).getD (x - 1) 0 ≠ 124 ∧ (tgX tx).getD (x - 1) 0 ≠ 42) → (∀ x, x ≤ tgK tx i → tgSg ((tgX tx).getD x 0)) → (my = true → (tgX tx).getD (tgK tx i) 0 ≠ 40 ∧ (tgX tx).getD (tgK tx i) 0 ≠ 124 ∧ (tgX tx).getD (tgK tx i) 0 ≠ 42) → (tgK tx i = 0 → nd = true) → tgV (tgX tx) ∧ (tgL tx).length ≠ 0
  | 0, i, d, nd, my, hi, he, h1, h2, h3, h4, h5, h6, h7 => by
    obtain rfl : i = tx.length := by omega
    have kl := tgK_le tx tx.length (Nat.le_refl _)
    rw [tgK_end] at h1 h3 h4 h5 h7 kl
    rw [tgF] at he
    have he : ¬ (nd = true ∨ 0 < d) := fun z => by rw [if_pos z] at he; cases he
    have d0 : d = 0 := by
      by_cases q : d = 0
      · exact q
      · exact absurd (Or.inr (by omega)) he
    have k0 : (tgL tx).length ≠ 0 := fun z => he (Or.inl (h7 z))
    have xe := tgX_e (tx := tx)
    have dl : tgD (tgX tx) ((tgL tx).length + 2) = 0 := by
      rw [tgD, if_neg (by omega), if_pos xe, h1]; omega
    refine ⟨⟨by rw [tgX_len]; omega, by rw [tgX_len]; omega, rfl, by rw [tgX_len]; exact dl, fun x hx hx2 => ?_, fun x hx => ?_, fun x hx c => ?_, fun x hx => ?_⟩, k0⟩
    · rw [tgX_len] at hx2; exact (h3 x hx (by omega)).1
    · rw [tgX_len] at hx
      by_cases q : x = (tgL tx).length + 2
      · rw [q, dl]; omega
      · by_cases q0 : x = 0
        · rw [q0]; show 0 ≤ 7; omega
        · exact (h3 x (by omega) (by omega)).2
    · rw [tgX_len] at hx
      by_cases q : x = (tgL tx).length + 1
      · rw [q, xe] at c; omega
      · exact h4 x (by omega) c
    · rw [tgX_len] at hx
      by_cases q : x = (tgL tx).length + 1
      · rw [q, xe]; exact Or.inr (Or.inl rfl)
      · exact h5 x (by omega)
  | g + 1, i, d, nd, my, hi, he, h1, h2, h3, h4, h5, h6, h7 => by
    rw [tgF] at he
    by_cases c : tc tx i = 32
    · rw [if_pos c] at he
      have e := tgK_b (by omega) c
      exact tgX_v hl g (i + 1) d nd my (by omega) he (by rw [e]; exact h1) h2 (by rw [e]; exact h3) (by rw [e]; exact h4) (by rw [e]; exact h5) (by rw [e]; exact h6) (by rw [e]; exact h7)
    · rw [if_neg c] at he
      obtain ⟨e1, e2, e3⟩ := tgK_n (by omega) c
      have e4 := tgX_s e2
      rw [e3] at e4
      generalize tc tx i = cc at he e4
      have step : ∀ d' nd' my', tgF tx g (i + 1) d' nd' my' = none → tgD (tgX tx) (tgK tx i + 2) = d' + 1 → d' ≤ 6 → (cc = 42 → my = true) → tgSg cc → (my' = true → cc ≠ 40 ∧ cc ≠ 124 ∧ cc ≠ 42) → tgV (tgX tx) ∧ (tgL tx).length ≠ 0 := by
        intro d' nd' my' k1 k2 k3 k4 k5 k6
        refine tgX_v hl g (i + 1) d' nd' my' (by omega) k1 (by rw [e1]; exact k2) k3 (fun x hx hx2 => ?_) (fun x hx hc => ?_) (fun x hx => ?_) (fun hm => ?_) (fun hz => by omega)
        · rw [e1] at hx2
          by_cases q : x = tgK tx i + 2
          · rw [q, k2]; omega
          · exact h3 x hx (by omega)
        · rw [e1] at hx
          by_cases q : x = tgK tx i + 1
          · rw [q, e4] at hc
            rw [q, Nat.add_sub_cancel]
            have := h6 (k4 hc)
            exact ⟨by omega, this⟩
          · exact h4 x (by omega) hc
        · rw [e1] at hx
          by_cases q : x = tgK tx i + 1
          · rw [q, e4]; exact k5
          · exact h5 x (by omega)
        · rw [e1, e4]; exact k6 hm
      rw [tgStep] at he
      by_cases w1 : (97 ≤ cc ∧ cc < 107) ∨ cc = 46
      · rw [if_pos w1] at he
        refine step d false true he ?_ h2 (by omega) (by unfold tgSg; omega) (by omega)
        rw [tgD, if_neg (by omega), if_neg (by omega)]; exact h1
      · rw [if_neg w1] at he
        by_cases w2 : cc = 40 ∧ d < 6
        · rw [if_pos w2] at he
          refine step (d + 1) true false he ?_ (by omega) (by omega) (by unfold tgSg; omega) (fun z => by cases z)
          rw [tgD, if_pos (by omega), h1]
        · rw [if_neg w2] at he
          by_cases w3 : cc = 41 ∧ 0 < d ∧ nd = false
          · rw [if_pos w3] at he
            refine step (d - 1) false true he ?_ (by omega) (by omega) (by unfold tgSg; omega) (by omega)
            rw [tgD, if_neg (by omega), if_pos (by omega), h1]; omega
          · rw [if_neg w3] at he
            by_cases w4 : cc = 124 ∧ nd = false
            · rw [if_pos w4] at he
              refine step d true false he ?_ h2 (by omega) (by unfold tgSg; omega) (fun z => by cases z)
              rw [tgD, if_neg (by omega), if_neg (by omega)]; exact h1
            · rw [if_neg w4] at he
              by_cases w5 : cc = 42 ∧ my = true
              · rw [if_pos w5] at he
                refine step d false false he ?_ h2 (fun _ => w5.2) (by unfold tgSg; omega) (fun z => by cases z)
                rw [tgD, if_neg (by omega), if_neg (by omega)]; exact h1
              · rw [if_neg w5] at he; cases he
theorem tgX_ok (hl : tx.length ≤ 200) (h : tgF tx tx.length 0 0 true false = none) : tgV (tgX tx) ∧ (tgL tx).length ≠ 0 := by
  have k0 := tgK_0 (tx := tx)
  have x0 : (tgX tx).getD 0 0 = 40 := rfl
  have d1 : tgD (tgX tx) 1 = 1 := by rw [tgD, if_pos x0]; rfl
  refine tgX_v hl tx.length 0 0 true false (by omega) h (by rw [k0]; exact d1) (by omega) (fun x hx hx2 => ?_) (fun x hx c => ?_) (fun x hx => ?_) (fun z => by cases z) (fun _ => rfl)
  · rw [k0] at hx2
    obtain rfl : x = 1 := by omega
    rw [d1]; omega
  · rw [k0] at hx
    obtain rfl : x = 0 := by omega
    rw [x0] at c; omega
  · rw [k0] at hx
    obtain rfl : x = 0 := by omega
    rw [x0]; exact Or.inl rfl
end TK
