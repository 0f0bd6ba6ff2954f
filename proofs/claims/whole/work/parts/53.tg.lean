/-! ===== the tongue: places and their signs ===== -/
def tgD (l : List Nat) : Nat → Nat
  | 0 => 0
  | x + 1 => if l.getD x 0 = 40 then tgD l x + 1 else if l.getD x 0 = 41 then tgD l x - 1 else tgD l x
/-- p is the opening sign that x lies behind, d of them passed over -/
def tgIn (l : List Nat) (p x d : Nat) : Prop := tgOpen l x d = p ∧ d < tgD l x
theorem tgScan_ge (l : List Nat) : ∀ f p d, p ≤ tgScan l f p d
  | 0, p, d => Nat.le_refl _
  | f + 1, p, d => by
    rw [tgScan]
    split
    · split
      · exact Nat.le_refl _
      · have := tgScan_ge l f (p + 1) (d - 1); omega
    · split
      · have := tgScan_ge l f (p + 1) (d + 1); omega
      · have := tgScan_ge l f (p + 1) d; omega
theorem tgScan_at (l : List Nat) : ∀ f p d, tgScan l f p d < p + f → l.getD (tgScan l f p d) 0 = 41
  | 0, p, d, h => by rw [tgScan] at h; omega
  | f + 1, p, d, h => by
    rw [tgScan] at h ⊢
    by_cases h1 : l.getD p 0 = 41
    · rw [if_pos h1] at h ⊢
      by_cases h2 : d = 0
      · rw [if_pos h2]; exact h1
      · rw [if_neg h2] at h ⊢
        exact tgScan_at l f (p + 1) (d - 1) (by omega)
    · rw [if_neg h1] at h ⊢
      by_cases h2 : l.getD p 0 = 40
      · rw [if_pos h2] at h ⊢
        exact tgScan_at l f (p + 1) (d + 1) (by omega)
      · rw [if_neg h2] at h ⊢
        exact tgScan_at l f (p + 1) d (by omega)
theorem tgIn_s {l : List Nat} {p x d : Nat} (h : tgIn l p (x + 1) d) : (l.getD x 0 = 40 ∧ d = 0 ∧ p = x) ∨ (l.getD x 0 = 40 ∧ ∃ d', d = d' + 1 ∧ tgIn l p x d') ∨ (l.getD x 0 = 41 ∧ tgIn l p x (d + 1)) ∨ (l.getD x 0 ≠ 40 ∧ l.getD x 0 ≠ 41 ∧ tgIn l p x d) := by
  obtain ⟨h1, h2⟩ := h
  rw [tgOpen] at h1
  rw [tgD] at h2
  by_cases c1 : l.getD x 0 = 40
  · rw [if_pos c1] at h1 h2
    by_cases c2 : d = 0
    · rw [if_pos c2] at h1; exact Or.inl ⟨c1, c2, h1.symm⟩
    · rw [if_neg c2] at h1
      exact Or.inr (Or.inl ⟨c1, d - 1, by omega, h1, by omega⟩)
  · rw [if_neg c1] at h1 h2
    by_cases c2 : l.getD x 0 = 41
    · rw [if_pos c2] at h1 h2
      exact Or.inr (Or.inr (Or.inl ⟨c2, h1, by omega⟩))
    · rw [if_neg c2] at h1 h2
      exact Or.inr (Or.inr (Or.inr ⟨c1, c2, h1, h2⟩))
theorem tgIn_0 {l : List Nat} {x : Nat} (c : l.getD x 0 = 40) : tgIn l x (x + 1) 0 := ⟨by rw [tgOpen, if_pos c, if_pos rfl], by rw [tgD, if_pos c]; omega⟩
theorem tgIn_40 {l : List Nat} {p x d : Nat} (h : tgIn l p x d) (c : l.getD x 0 = 40) : tgIn l p (x + 1) (d + 1) := ⟨by rw [tgOpen, if_pos c, if_neg (by omega)]; exact h.1, by have := h.2; rw [tgD, if_pos c]; omega⟩
theorem tgIn_41 {l : List Nat} {p x d : Nat} (h : tgIn l p x (d + 1)) (c : l.getD x 0 = 41) : tgIn l p (x + 1) d := ⟨by rw [tgOpen, if_neg (by omega), if_pos c]; exact h.1, by have := h.2; rw [tgD, if_neg (by omega), if_pos c]; omega⟩
theorem tgIn_ot {l : List Nat} {p x d : Nat} (h : tgIn l p x d) (c1 : l.getD x 0 ≠ 40) (c2 : l.getD x 0 ≠ 41) : tgIn l p (x + 1) d := ⟨by rw [tgOpen, if_neg c1, if_neg c2]; exact h.1, by have := h.2; rw [tgD, if_neg c1, if_neg c2]; exact this⟩
theorem tgIn_sc {l : List Nat} : ∀ x p d, tgIn l p x d → p < x ∧ l.getD p 0 = 40 ∧ tgD l x = tgD l p + 1 + d ∧ ∀ g, tgScan l (g + (x - (p + 1))) (p + 1) 0 = tgScan l g x d
  | 0, p, d, h => absurd h.2 (Nat.not_lt_zero _)
  | x + 1, p, d, h => by
    rcases tgIn_s h with ⟨c, rfl, rfl⟩ | ⟨c, d', rfl, h'⟩ | ⟨c, h'⟩ | ⟨c1, c2, h'⟩
    · exact ⟨Nat.lt_succ_self _, c, by rw [tgD, if_pos c], fun g => by rw [Nat.sub_self]; rfl⟩
    · obtain ⟨q1, q2, q3, q4⟩ := tgIn_sc x p d' h'
      refine ⟨by omega, q2, by rw [tgD, if_pos c]; omega, fun g => ?_⟩
      rw [show g + (x + 1 - (p + 1)) = g + 1 + (x - (p + 1)) by omega, q4 (g + 1), tgScan, if_neg (by omega), if_pos c]
    · obtain ⟨q1, q2, q3, q4⟩ := tgIn_sc x p (d + 1) h'
      refine ⟨by omega, q2, by rw [tgD, if_neg (by omega), if_pos c]; omega, fun g => ?_⟩
      rw [show g + (x + 1 - (p + 1)) = g + 1 + (x - (p + 1)) by omega, q4 (g + 1), tgScan, if_pos c, if_neg (by omega), Nat.add_sub_cancel]
    · obtain ⟨q1, q2, q3, q4⟩ := tgIn_sc x p d h'
      refine ⟨by omega, q2, by rw [tgD, if_neg c1, if_neg c2]; omega, fun g => ?_⟩
      rw [show g + (x + 1 - (p + 1)) = g + 1 + (x - (p + 1)) by omega, q4 (g + 1), tgScan, if_neg c2, if_neg c1]
theorem tgIn_up {l : List Nat} {s : Nat} : ∀ x d, tgIn l s x d → ∀ r, tgOpen l x (d + 1 + r) = tgOpen l s r
  | 0, d, h, r => absurd h.2 (Nat.not_lt_zero _)
  | x + 1, d, h, r => by
    rcases tgIn_s h with ⟨c, rfl, rfl⟩ | ⟨c, d', rfl, h'⟩ | ⟨c, h'⟩ | ⟨c1, c2, h'⟩
    · rw [tgOpen, if_pos c, if_neg (by omega), show 0 + 1 + r - 1 = r by omega]
    · rw [tgOpen, if_pos c, if_neg (by omega), show d' + 1 + 1 + r - 1 = d' + 1 + r by omega]
      exact tgIn_up x d' h' r
    · rw [tgOpen, if_neg (by omega), if_pos c, show d + 1 + r + 1 = d + 1 + 1 + r by omega]
      exact tgIn_up x (d + 1) h' r
    · rw [tgOpen, if_neg c1, if_neg c2]
      exact tgIn_up x d h' r
theorem tgIn_mo {l : List Nat} {s : Nat} : ∀ x d, tgIn l s x d → ∀ d', d' ≤ d → s ≤ tgOpen l x d'
  | 0, d, h, _, _ => absurd h.2 (Nat.not_lt_zero _)
  | x + 1, d, h, d', hd => by
    rcases tgIn_s h with ⟨c, rfl, rfl⟩ | ⟨c, d1, rfl, h'⟩ | ⟨c, h'⟩ | ⟨c1, c2, h'⟩
    · rw [tgOpen, if_pos c, if_pos (by omega)]; exact Nat.le_refl _
    · have := (tgIn_sc x s d1 h').1
      rw [tgOpen, if_pos c]
      by_cases e : d' = 0
      · rw [if_pos e]; omega
      · rw [if_neg e]; exact tgIn_mo x d1 h' _ (by omega)
    · rw [tgOpen, if_neg (by omega), if_pos c]
      exact tgIn_mo x (d + 1) h' _ (by omega)
    · rw [tgOpen, if_neg c1, if_neg c2]
      exact tgIn_mo x d h' _ hd
theorem tgc_cl {l : List Nat} {p x : Nat} (h : tgIn l p x 0) (c : l.getD x 0 = 41) (hx : x ≤ p + 205) : tgc l p = x := by
  obtain ⟨q1, q2, q3, q4⟩ := tgIn_sc x p 0 h
  have e := q4 (209 - (x - (p + 1)) + 1)
  rw [show 209 - (x - (p + 1)) + 1 + (x - (p + 1)) = 210 by omega] at e
  have e2 : tgScan l (209 - (x - (p + 1)) + 1) x 0 = x := by rw [tgScan, if_pos c, if_pos rfl]
  exact e.trans e2
theorem tgc_fw {l : List Nat} {p : Nat} (c : l.getD p 0 = 40) : ∀ x, p < x → x ≤ p + 205 → tgc l p < x ∨ ∃ d, tgIn l p x d
  | 0, h, _ => absurd h (Nat.not_lt_zero _)
  | x + 1, h, hx => by
    by_cases e : x = p
    · subst e; exact Or.inr ⟨0, tgIn_0 c⟩
    · rcases tgc_fw c x (by omega) (by omega) with q | ⟨d, q⟩
      · exact Or.inl (by omega)
      · by_cases c1 : l.getD x 0 = 40
        · exact Or.inr ⟨d + 1, tgIn_40 q c1⟩
        · by_cases c2 : l.getD x 0 = 41
          · cases d with
            | zero => have := tgc_cl q c2 (by omega); exact Or.inl (by omega)
            | succ d => exact Or.inr ⟨d, tgIn_41 q c2⟩
          · exact Or.inr ⟨d, tgIn_ot q c1 c2⟩
theorem tgc_op {l : List Nat} {p : Nat} (c : l.getD p 0 = 40) (hk : tgc l p ≤ p + 205) : p < tgc l p ∧ tgIn l p (tgc l p) 0 ∧ l.getD (tgc l p) 0 = 41 := by
  have h1 : p + 1 ≤ tgc l p := tgScan_ge l 210 (p + 1) 0
  have h2 : l.getD (tgc l p) 0 = 41 := tgScan_at l 210 (p + 1) 0 (by have : tgScan l 210 (p + 1) 0 = tgc l p := rfl; omega)
  rcases tgc_fw c (tgc l p) (by omega) hk with q | ⟨d, q⟩
  · omega
  · cases d with
    | zero => exact ⟨by omega, q, h2⟩
    | succ d =>
      obtain ⟨q1, q2, q3, q4⟩ := tgIn_sc _ p _ q
      have e := q4 (209 - (tgc l p - (p + 1)) + 1)
      rw [show 209 - (tgc l p - (p + 1)) + 1 + (tgc l p - (p + 1)) = 210 by omega] at e
      have e3 : tgScan l (209 - (tgc l p - (p + 1)) + 1) (tgc l p) (d + 1) = tgScan l (209 - (tgc l p - (p + 1))) (tgc l p + 1) (d + 1 - 1) := by rw [tgScan, if_pos h2, if_neg (by omega)]
      have := tgScan_ge l (209 - (tgc l p - (p + 1))) (tgc l p + 1) (d + 1 - 1)
      have e2 : tgScan l 210 (p + 1) 0 = tgc l p := rfl
      omega
theorem tgc_le {l : List Nat} {p s : Nat} (h : tgIn l p s 0) (hs : s ≤ p + 205) : s ≤ tgc l p := by
  obtain ⟨q1, q2, q3, q4⟩ := tgIn_sc s p 0 h
  have e := q4 (210 - (s - (p + 1)))
  rw [show 210 - (s - (p + 1)) + (s - (p + 1)) = 210 by omega] at e
  have := tgScan_ge l (210 - (s - (p + 1))) s 0
  have e2 : tgScan l 210 (p + 1) 0 = tgc l p := rfl
  omega
/-- rows of signs that are a tongue, with the signs around it -/
def tgSg (c : Nat) : Prop := c = 40 ∨ c = 41 ∨ c = 42 ∨ c = 46 ∨ c = 124 ∨ (97 ≤ c ∧ c < 107)
def tgV (L : List Nat) : Prop := L.length ≤ 202 ∧ 2 ≤ L.length ∧ L.getD 0 0 = 40 ∧ tgD L L.length = 0 ∧ (∀ x, 0 < x → x < L.length → 0 < tgD L x) ∧ (∀ x, x ≤ L.length → tgD L x ≤ 7) ∧ (∀ x, x < L.length → L.getD x 0 = 42 → 0 < x ∧ L.getD (x - 1) 0 ≠ 40 ∧ L.getD (x - 1) 0 ≠ 124 ∧ L.getD (x - 1) 0 ≠ 42) ∧ (∀ x, x < L.length → tgSg (L.getD x 0))
def tgPt0 (c : Nat) : Prop := c ≠ 41 ∧ c ≠ 124 ∧ c ≠ 42
/-- behind a part, and behind its star -/
def tgP (L : List Nat) (s : Nat) : Nat := if L.getD s 0 = 40 then max s (tgc L s) + 1 else s + 1
def tgN (L : List Nat) (s : Nat) : Nat := if L.getD (tgP L s) 0 = 42 then tgP L s + 1 else tgP L s
theorem tgP_gt (L : List Nat) (s : Nat) : s < tgP L s := by rw [tgP]; split <;> omega
theorem tgN_gt (L : List Nat) (s : Nat) : s < tgN L s := by have := tgP_gt L s; rw [tgN]; split <;> omega
theorem gD_out {L : List Nat} {x : Nat} (h : L.length ≤ x) : L.getD x 0 = 0 := by rw [List.getD_eq_getElem?_getD, List.getElem?_eq_none h]; rfl
section TG1
variable {L : List Nat}
theorem v_close (V : tgV L) {p : Nat} (c : L.getD p 0 = 40) : p < L.length ∧ p < tgc L p ∧ tgc L p < L.length ∧ L.getD (tgc L p) 0 = 41 ∧ tgIn L p (tgc L p) 0 := by
  obtain ⟨v1, v2, v3, v4, v5, v6, v7, v8⟩ := V
  have hp : p < L.length := by
    by_cases q : p < L.length
    · exact q
    · rw [gD_out (by omega)] at c; omega
  have h1 : tgc L p < L.length := by
    rcases tgc_fw c L.length hp (by omega) with q | ⟨d, q⟩
    · exact q
    · have := q.2; omega
  obtain ⟨k1, k2, k3⟩ := tgc_op c (by omega)
  exact ⟨hp, k1, h1, k3, k2⟩
theorem tgIn_op {l : List Nat} : ∀ x d, d < tgD l x → tgIn l (tgOpen l x d) x d := fun _ _ h => ⟨rfl, h⟩
theorem v_lt (V : tgV L) {p x : Nat} (h : tgIn L p x 0) (hx : x ≤ L.length) : x < L.length := by
  by_cases e : x = L.length
  · have := h.2; rw [e, V.2.2.2.1] at this; omega
  · omega
theorem v_le (V : tgV L) {p s : Nat} (h : tgIn L p s 0) (hs : s < L.length) : s ≤ tgc L p ∧ (L.getD s 0 = 41 ↔ s = tgc L p) := by
  have v1 := V.1
  refine ⟨tgc_le h (by omega), fun c => (tgc_cl h c (by omega)).symm, fun e => ?_⟩
  rw [e]
  exact (v_close V (tgIn_sc s p 0 h).2.1).2.2.2.1
theorem v_jump (V : tgV L) {p s : Nat} (h : tgIn L p s 0) (c : L.getD s 0 = 40) : tgIn L p (tgc L s + 1) 0 := by
  obtain ⟨k0, k1, k2, k3, k4⟩ := v_close V c
  have e := tgIn_up _ 0 k4 0
  have d1 := (tgIn_sc _ _ _ k4).2.2.1
  have d2 := h.2
  exact tgIn_41 (d := 0) ⟨by rw [← h.1, ← e], by omega⟩ k3
theorem v_part (V : tgV L) {p s : Nat} (h : tgIn L p s 0) (hs : s < L.length) (c : tgPt0 (L.getD s 0)) : tgIn L p (tgP L s) 0 ∧ tgP L s < L.length ∧ tgP L s ≤ tgc L p ∧ tgIn L p (tgN L s) 0 ∧ tgN L s < L.length ∧ tgN L s ≤ tgc L p := by
  have h1 : tgIn L p (tgP L s) 0 ∧ tgP L s ≤ L.length := by
    rw [tgP]
    by_cases c1 : L.getD s 0 = 40
    · have k := v_close V c1
      rw [if_pos c1, Nat.max_eq_right (by omega)]
      exact ⟨v_jump V h c1, by omega⟩
    · rw [if_neg c1]; exact ⟨tgIn_ot h c1 c.1, by omega⟩
  have h2 := v_lt V h1.1 h1.2
  have h3 := (v_le V h1.1 h2).1
  have h4 : tgIn L p (tgN L s) 0 ∧ tgN L s ≤ L.length := by
    rw [tgN]
    by_cases c1 : L.getD (tgP L s) 0 = 42
    · rw [if_pos c1]; exact ⟨tgIn_ot h1.1 (by omega) (by omega), by omega⟩
    · rw [if_neg c1]; exact ⟨h1.1, by omega⟩
  have h5 := v_lt V h4.1 h4.2
  exact ⟨h1.1, h2, h3, h4.1, h5, (v_le V h4.1 h5).1⟩
theorem v_bar (V : tgV L) {p s : Nat} (h : tgIn L p s 0) (hs : s < L.length) (c : L.getD s 0 = 124) : tgIn L p (s + 1) 0 ∧ s + 1 < L.length ∧ s + 1 ≤ tgc L p := by
  have h1 := tgIn_ot h (by omega) (by omega)
  have h2 := v_lt V h1 (by omega)
  exact ⟨h1, h2, (v_le V h1 h2).1⟩
theorem v_top (V : tgV L) : tgc L 0 + 1 = L.length ∧ tgP L 0 = L.length := by
  have V0 := V
  obtain ⟨v1, v2, v3, v4, v5, v6, v7, v8⟩ := V
  obtain ⟨k0, k1, k2, k3, k4⟩ := v_close V0 v3
  have d1 : tgD L (tgc L 0) = tgD L 0 + 1 + 0 := (tgIn_sc _ _ _ k4).2.2.1
  have d0 : tgD L 0 = 0 := rfl
  have d2 : tgD L (tgc L 0 + 1) = 0 := by rw [tgD, if_neg (by omega), if_pos k3]; omega
  have e : tgc L 0 + 1 = L.length := by
    by_cases q : tgc L 0 + 1 < L.length
    · have := v5 _ (by omega) q; omega
    · omega
  exact ⟨e, by rw [tgP, if_pos v3, Nat.max_eq_right (by omega)]; exact e⟩
theorem tgb_ot {k : Nat} (hk : 0 < k) (c1 : L.getD k 0 ≠ 41) (c2 : L.getD k 0 ≠ 124) (c3 : L.getD k 0 ≠ 42) : tgb L k = k := by
  cases k with
  | zero => rfl
  | succ k => rw [tgb, if_neg c1, if_neg c2, if_neg c3]
theorem tgb_op {k : Nat} (hk : 0 < k) (c : L.getD k 0 = 41 ∨ L.getD k 0 = 124) : tgb L k = tgOpen L k 0 := by
  cases k with
  | zero => omega
  | succ k =>
    rw [tgb]
    rcases c with c | c
    · rw [if_pos c]
    · rw [if_neg (by omega), if_pos c]
theorem tgb_st {k : Nat} (c : L.getD (k + 1) 0 = 42) : tgb L (k + 1) = tgb L k := by rw [tgb, if_neg (by omega), if_neg (by omega), if_pos c]
/-- the part that a star stands behind -/
theorem v_star (V : tgV L) {s : Nat} (c : tgPt0 (L.getD s 0)) (c2 : L.getD (tgP L s) 0 = 42) : tgb L (tgP L s) = s := by
  by_cases c1 : L.getD s 0 = 40
  · obtain ⟨k0, k1, k2, k3, k4⟩ := v_close V c1
    have e : tgP L s = tgc L s + 1 := by rw [tgP, if_pos c1, Nat.max_eq_right (by omega)]
    rw [e] at c2 ⊢
    rw [tgb_st c2, tgb_op (by omega) (Or.inl k3)]
    exact k4.1
  · have e : tgP L s = s + 1 := by rw [tgP, if_neg c1]
    rw [e] at c2 ⊢
    have hs : 0 < s := by
      by_cases q : s = 0
      · subst q; exact absurd V.2.2.1 c1
      · omega
    rw [tgb_st c2, tgb_ot hs c.1 c.2.1 c.2.2]
theorem v_star2 (V : tgV L) {k : Nat} (hk : k < L.length) (c : L.getD k 0 = 42) : tgPt0 (L.getD (tgb L k) 0) ∧ tgP L (tgb L k) = k ∧ tgb L k < k := by
  obtain ⟨h0, h1, h2, h3⟩ := V.2.2.2.2.2.2.1 k hk c
  cases k with
  | zero => omega
  | succ k =>
    rw [Nat.add_sub_cancel] at h1 h2 h3
    rw [tgb_st c]
    have h0 : 0 < k := by
      by_cases q : k = 0
      · subst q; exact absurd V.2.2.1 h1
      · omega
    by_cases c1 : L.getD k 0 = 41
    · rw [tgb_op h0 (Or.inl c1)]
      have i1 := tgIn_op (l := L) k 0 (V.2.2.2.2.1 k h0 (by omega))
      obtain ⟨q1, q2, -, -⟩ := tgIn_sc _ _ _ i1
      have e := ((v_le V i1 (by omega)).2.mp c1).symm
      refine ⟨⟨by omega, by omega, by omega⟩, ?_, by omega⟩
      rw [tgP, if_pos q2, e, Nat.max_eq_right (by omega)]
    · rw [tgb_ot h0 c1 h2 h3]
      exact ⟨⟨c1, h2, h3⟩, by rw [tgP, if_neg h1], by omega⟩
end TG1
