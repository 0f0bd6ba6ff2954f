/-! ===== the tongue: what is of it ===== -/
def stR (P : Nat → Nat → Prop) : Nat → Nat → Nat → Prop
  | 0, i, j => i = j
  | t + 1, i, j => ∃ m, P i m ∧ stR P t m j
theorem stR_tr {P : Nat → Nat → Prop} : ∀ t u i m j, stR P t i m → stR P u m j → stR P (t + u) i j
  | 0, u, i, m, j, h, h2 => by
    have h : i = m := h
    subst h
    rw [Nat.zero_add]; exact h2
  | t + 1, u, i, m, j, h, h2 => by
    obtain ⟨k, h3, h4⟩ := h
    rw [show t + 1 + u = t + u + 1 by omega]
    exact ⟨k, h3, stR_tr t u k m j h4 h2⟩
def tgw (L hd : List Nat) (s i m : Nat) : Prop := m = i + 1 ∧ i < hd.length ∧ (L.getD s 0 = 46 ∨ 97 + hd.getD i 0 = L.getD s 0)
def tgS (L : List Nat) (P : Nat → Nat → Prop) (s i m : Nat) : Prop := if L.getD (tgP L s) 0 = 42 then ∃ t, stR P t i m else P i m
/-- from a place on: the row that is begun (false), or one behind a later bar (true) -/
def tgE (L hd : List Nat) : Nat → Bool → Nat → Nat → Nat → Prop
  | 0, b, _, i, j => b = false ∧ i = j
  | f + 1, b, s, i, j => if L.length ≤ s ∨ L.getD s 0 = 41 then b = false ∧ i = j
    else if L.getD s 0 = 124 then (if b = true then tgE L hd f false (s + 1) i j ∨ tgE L hd f true (s + 1) i j else i = j)
    else if b = true then tgE L hd f true (tgN L s) i j
    else ∃ m, tgS L (fun i m => if L.getD s 0 = 40 then tgE L hd f false (s + 1) i m ∨ tgE L hd f true (s + 1) i m else tgw L hd s i m) s i m ∧ tgE L hd f false (tgN L s) m j
section TS
variable {L hd : List Nat}
theorem tgE_fu : ∀ f g b s, L.length - s ≤ f → L.length - s ≤ g → tgE L hd f b s = tgE L hd g b s
  | 0, 0, _, _, _, _ => rfl
  | 0, g + 1, b, s, h1, h2 => by
    funext i j
    rw [tgE, tgE, if_pos (Or.inl (by omega))]
  | f + 1, 0, b, s, h1, h2 => by
    funext i j
    rw [tgE, tgE, if_pos (Or.inl (by omega))]
  | f + 1, g + 1, b, s, h1, h2 => by
    funext i j
    rw [tgE, tgE]
    have := tgN_gt L s
    by_cases q : L.length ≤ s
    · rw [if_pos (Or.inl q), if_pos (Or.inl q)]
    · rw [tgE_fu f g false (s + 1) (by omega) (by omega), tgE_fu f g true (s + 1) (by omega) (by omega), tgE_fu f g true (tgN L s) (by omega) (by omega), tgE_fu f g false (tgN L s) (by omega) (by omega)]
end TS
def tgA (L hd : List Nat) (s : Nat) : Nat → Nat → Prop := tgE L hd (L.length - s) false s
def tgB (L hd : List Nat) (s : Nat) : Nat → Nat → Prop := tgE L hd (L.length - s) true s
def tgPt (L hd : List Nat) (s i m : Nat) : Prop := if L.getD s 0 = 40 then tgA L hd (s + 1) i m ∨ tgB L hd (s + 1) i m else tgw L hd s i m
section TS2
variable {L hd : List Nat}
theorem tgE_un {s : Nat} (hs : s < L.length) (b : Bool) (i j : Nat) : tgE L hd (L.length - s) b s i j = if L.getD s 0 = 41 then b = false ∧ i = j
    else if L.getD s 0 = 124 then (if b = true then tgA L hd (s + 1) i j ∨ tgB L hd (s + 1) i j else i = j)
    else if b = true then tgB L hd (tgN L s) i j
    else ∃ m, tgS L (tgPt L hd s) s i m ∧ tgA L hd (tgN L s) m j := by
  have := tgN_gt L s
  have e : L.length - s = L.length - (s + 1) + 1 := by omega
  rw [e, tgE, tgE_fu (L.length - (s + 1)) (L.length - tgN L s) true (tgN L s) (by omega) (by omega), tgE_fu (L.length - (s + 1)) (L.length - tgN L s) false (tgN L s) (by omega) (by omega)]
  by_cases c : L.getD s 0 = 41
  · rw [if_pos (Or.inr c), if_pos c]
  · rw [if_neg (fun z => z.elim (fun z => absurd z (by omega)) c), if_neg c]
    rfl
theorem tgA_41 {s i j : Nat} (hs : s < L.length) (c : L.getD s 0 = 41) : tgA L hd s i j ↔ i = j := by
  rw [tgA, tgE_un hs, if_pos c]; exact ⟨fun h => h.2, fun h => ⟨rfl, h⟩⟩
theorem tgA_124 {s i j : Nat} (hs : s < L.length) (c : L.getD s 0 = 124) : tgA L hd s i j ↔ i = j := by
  rw [tgA, tgE_un hs, if_neg (by omega), if_pos c, if_neg (by decide)]
theorem tgA_pt {s i j : Nat} (hs : s < L.length) (c1 : L.getD s 0 ≠ 41) (c2 : L.getD s 0 ≠ 124) : tgA L hd s i j ↔ ∃ m, tgS L (tgPt L hd s) s i m ∧ tgA L hd (tgN L s) m j := by
  rw [tgA, tgE_un hs, if_neg c1, if_neg c2, if_neg (by decide)]
theorem tgB_41 {s i j : Nat} (hs : s < L.length) (c : L.getD s 0 = 41) : ¬ tgB L hd s i j := by
  rw [tgB, tgE_un hs, if_pos c]; exact fun h => absurd h.1 (by decide)
theorem tgB_124 {s i j : Nat} (hs : s < L.length) (c : L.getD s 0 = 124) : tgB L hd s i j ↔ tgA L hd (s + 1) i j ∨ tgB L hd (s + 1) i j := by
  rw [tgB, tgE_un hs, if_neg (by omega), if_pos c, if_pos rfl]
theorem tgB_pt {s i j : Nat} (hs : s < L.length) (c1 : L.getD s 0 ≠ 41) (c2 : L.getD s 0 ≠ 124) : tgB L hd s i j ↔ tgB L hd (tgN L s) i j := by
  rw [tgB, tgE_un hs, if_neg c1, if_neg c2, if_pos rfl]
/-- at a part's beginning there is no star -/
def tgAt (L : List Nat) (s : Nat) : Prop := L.getD s 0 ≠ 42
theorem at_N (V : tgV L) {s : Nat} (c : tgPt0 (L.getD s 0)) (hn : tgN L s < L.length) : tgAt L (tgN L s) := by
  intro z
  have h := V.2.2.2.2.2.2.1 _ hn z
  rw [tgN] at h z
  by_cases c2 : L.getD (tgP L s) 0 = 42
  · rw [if_pos c2] at h z
    rw [Nat.add_sub_cancel] at h
    exact h.2.2.2 c2
  · rw [if_neg c2] at z; exact c2 z
theorem at_1 (V : tgV L) {s : Nat} (hs : s + 1 < L.length) (c : L.getD s 0 = 40 ∨ L.getD s 0 = 124) : tgAt L (s + 1) := by
  intro z
  have h := V.2.2.2.2.2.2.1 _ hs z
  rw [Nat.add_sub_cancel] at h
  rcases c with c | c
  · exact h.2.1 c
  · exact h.2.2.1 c
theorem tgB_bar (V : tgV L) {p i m : Nat} : ∀ g s, L.length - s ≤ g → tgIn L p s 0 → s < L.length → tgAt L s → tgB L hd s i m → ∃ bar, s ≤ bar ∧ bar < tgc L p ∧ L.getD bar 0 = 124 ∧ tgIn L p bar 0 ∧ tgA L hd (bar + 1) i m
  | 0, s, hg, _, hs, _, _ => absurd hs (by omega)
  | g + 1, s, hg, h, hs, ha, hb => by
    by_cases c1 : L.getD s 0 = 41
    · exact absurd hb (tgB_41 hs c1)
    · have hle := v_le V h hs
      have hlt : s < tgc L p := by
        by_cases q : s = tgc L p
        · exact absurd (hle.2.mpr q) c1
        · omega
      by_cases c2 : L.getD s 0 = 124
      · obtain ⟨k1, k2, k3⟩ := v_bar V h hs c2
        rcases (tgB_124 hs c2).mp hb with q | q
        · exact ⟨s, Nat.le_refl _, hlt, c2, h, q⟩
        · obtain ⟨bar, w1, w2⟩ := tgB_bar V g (s + 1) (by omega) k1 k2 (at_1 V k2 (Or.inr c2)) q
          exact ⟨bar, by omega, w2⟩
      · have gt := tgN_gt L s
        obtain ⟨k1, k2, k3, k4, k5, k6⟩ := v_part V h hs ⟨c1, c2, ha⟩
        obtain ⟨bar, w1, w2⟩ := tgB_bar V g (tgN L s) (by omega) k4 k5 (at_N V ⟨c1, c2, ha⟩ k5) ((tgB_pt hs c1 c2).mp hb)
        exact ⟨bar, by omega, w2⟩
/-- a bar of the same level lies in no part of it -/
theorem bar_out (V : tgV L) {p s bar : Nat} (h : tgIn L p s 0) (hs : s < L.length) (c : tgPt0 (L.getD s 0)) (hb : tgIn L p bar 0) (hbl : bar < L.length) (cb : L.getD bar 0 = 124) (hsb : s < bar) : tgN L s ≤ bar := by
  have h1 : tgP L s ≤ bar := by
    rw [tgP]
    by_cases c1 : L.getD s 0 = 40
    · obtain ⟨k0, k1, k2, k3, k4⟩ := v_close V c1
      have v1 := V.1
      rw [if_pos c1, Nat.max_eq_right (by omega)]
      by_cases q : tgc L s < bar
      · exact q
      · exfalso
        have hps := (tgIn_sc _ _ _ h).1
        have hne : bar ≠ tgc L s := fun z => by rw [z] at cb; omega
        rcases tgc_fw c1 bar hsb (by omega) with w | ⟨d, w⟩
        · omega
        · have := tgIn_mo _ _ w 0 (Nat.zero_le _)
          rw [hb.1] at this
          omega
    · rw [if_neg c1]; exact hsb
  rw [tgN]
  split
  · rename_i c2
    by_cases q : tgP L s = bar
    · rw [q] at c2; omega
    · omega
  · exact h1
theorem bar_B (V : tgV L) {p i m bar : Nat} (hb : tgIn L p bar 0) (hbl : bar < L.length) (cb : L.getD bar 0 = 124) (hA : tgA L hd (bar + 1) i m) : ∀ g s, L.length - s ≤ g → tgIn L p s 0 → s ≤ bar → tgAt L s → tgB L hd s i m
  | 0, s, hg, _, hs, _ => absurd hs (by omega)
  | g + 1, s, hg, h, hsb, ha => by
    have hs : s < L.length := by omega
    by_cases e : s = bar
    · subst e; exact (tgB_124 hs cb).mpr (Or.inl hA)
    · have hle := v_le V h hs
      have hlb := v_le V hb hbl
      have c1 : L.getD s 0 ≠ 41 := fun z => by have := hle.2.mp z; omega
      by_cases c2 : L.getD s 0 = 124
      · obtain ⟨k1, k2, k3⟩ := v_bar V h hs c2
        exact (tgB_124 hs c2).mpr (Or.inr (bar_B V hb hbl cb hA g (s + 1) (by omega) k1 (by omega) (at_1 V k2 (Or.inr c2))))
      · have gt := tgN_gt L s
        obtain ⟨k1, k2, k3, k4, k5, k6⟩ := v_part V h hs ⟨c1, c2, ha⟩
        exact (tgB_pt hs c1 c2).mpr (bar_B V hb hbl cb hA g (tgN L s) (by omega) k4 (bar_out V h hs ⟨c1, c2, ha⟩ hb hbl cb (by omega)) (at_N V ⟨c1, c2, ha⟩ k5))
/-- the reference's moves without a word -/
def tgEps (L : List Nat) (k k' : Nat) : Prop := (L.getD k 0 = 40 ∧ k' = k + 1) ∨ (L.getD k 0 = 40 ∧ ∃ bar, k < bar ∧ bar < tgc L k ∧ L.getD bar 0 = 124 ∧ tgb L bar = k ∧ k' = bar + 1) ∨ (L.getD k 0 = 124 ∧ k' = tgc L (tgb L k)) ∨ ((L.getD k 0 = 41 ∨ L.getD k 0 = 42) ∧ k' = k + 1) ∨ (L.getD k 0 = 42 ∧ k' = tgb L k) ∨ (tgPt0 (L.getD k 0) ∧ L.getD (tgP L k) 0 = 42 ∧ k' = tgP L k + 1)
/-- what is still to come from a place on -/
def tgC (L hd : List Nat) : Nat → Nat → Nat → Nat → Prop
  | 0, _, i, j => i = j
  | f + 1, k, i, j => if L.length ≤ k then i = j
    else if L.getD k 0 = 41 then tgC L hd f (k + 1) i j
    else if L.getD k 0 = 124 then tgC L hd f (max (k + 1) (tgc L (tgOpen L k 0))) i j
    else if L.getD k 0 = 42 then ∃ m, (∃ t, stR (tgPt L hd (tgb L k)) t i m) ∧ tgC L hd f (k + 1) m j
    else ∃ m, tgS L (tgPt L hd k) k i m ∧ tgC L hd f (tgN L k) m j
theorem tgC_fu : ∀ f g k, L.length - k ≤ f → L.length - k ≤ g → tgC L hd f k = tgC L hd g k
  | 0, 0, _, _, _ => rfl
  | 0, g + 1, k, h1, h2 => by
    funext i j
    rw [tgC, tgC, if_pos (by omega)]
  | f + 1, 0, k, h1, h2 => by
    funext i j
    rw [tgC, tgC, if_pos (by omega)]
  | f + 1, g + 1, k, h1, h2 => by
    funext i j
    rw [tgC, tgC]
    have := tgN_gt L k
    by_cases q : L.length ≤ k
    · rw [if_pos q, if_pos q]
    · rw [tgC_fu f g (k + 1) (by omega) (by omega), tgC_fu f g (max (k + 1) (tgc L (tgOpen L k 0))) (by omega) (by omega), tgC_fu f g (tgN L k) (by omega) (by omega)]
end TS2
def tgCC (L hd : List Nat) (k : Nat) : Nat → Nat → Prop := tgC L hd (L.length - k) k
section TS3
variable {L hd : List Nat}
theorem tgCC_un {k : Nat} (hk : k < L.length) (i j : Nat) : tgCC L hd k i j = if L.getD k 0 = 41 then tgCC L hd (k + 1) i j
    else if L.getD k 0 = 124 then tgCC L hd (max (k + 1) (tgc L (tgOpen L k 0))) i j
    else if L.getD k 0 = 42 then ∃ m, (∃ t, stR (tgPt L hd (tgb L k)) t i m) ∧ tgCC L hd (k + 1) m j
    else ∃ m, tgS L (tgPt L hd k) k i m ∧ tgCC L hd (tgN L k) m j := by
  have := tgN_gt L k
  have e : L.length - k = L.length - (k + 1) + 1 := by omega
  rw [tgCC, e, tgC, if_neg (by omega), tgC_fu (L.length - (k + 1)) (L.length - max (k + 1) (tgc L (tgOpen L k 0))) (max (k + 1) (tgc L (tgOpen L k 0))) (by omega) (by omega), tgC_fu (L.length - (k + 1)) (L.length - tgN L k) (tgN L k) (by omega) (by omega)]
  rfl
theorem tgCC_end {i j : Nat} : tgCC L hd L.length i j ↔ i = j := by
  rw [tgCC, Nat.sub_self, tgC]
theorem tgCC_pt {k i j : Nat} (hk : k < L.length) (c : tgPt0 (L.getD k 0)) : tgCC L hd k i j ↔ ∃ m, tgS L (tgPt L hd k) k i m ∧ tgCC L hd (tgN L k) m j := by
  rw [tgCC_un hk, if_neg c.1, if_neg c.2.1, if_neg c.2.2]
theorem tgCC_41 {k i j : Nat} (hk : k < L.length) (c : L.getD k 0 = 41) : tgCC L hd k i j ↔ tgCC L hd (k + 1) i j := by
  rw [tgCC_un hk, if_pos c]
theorem tgCC_42 {k i j : Nat} (hk : k < L.length) (c : L.getD k 0 = 42) : tgCC L hd k i j ↔ ∃ m, (∃ t, stR (tgPt L hd (tgb L k)) t i m) ∧ tgCC L hd (k + 1) m j := by
  rw [tgCC_un hk, if_neg (by omega), if_neg (by omega), if_pos c]
theorem tgCC_124 (V : tgV L) {p k i j : Nat} (hk : k < L.length) (c : L.getD k 0 = 124) (h : tgIn L p k 0) : tgCC L hd k i j ↔ tgCC L hd (tgc L p) i j := by
  obtain ⟨k1, k2, k3⟩ := v_bar V h hk c
  rw [tgCC_un hk, if_neg (by omega), if_pos c, h.1, Nat.max_eq_right k3]
theorem tgCC_row (V : tgV L) {p j : Nat} : ∀ g s, L.length - s ≤ g → tgIn L p s 0 → s < L.length → tgAt L s → ∀ i, tgCC L hd s i j → ∃ m, tgA L hd s i m ∧ tgCC L hd (tgc L p) m j
  | 0, s, hg, _, hs, _, _, _ => absurd hs (by omega)
  | g + 1, s, hg, h, hs, ha, i, hc => by
    by_cases c1 : L.getD s 0 = 41
    · refine ⟨i, (tgA_41 hs c1).mpr rfl, ?_⟩
      rw [← (v_le V h hs).2.mp c1]; exact hc
    · by_cases c2 : L.getD s 0 = 124
      · exact ⟨i, (tgA_124 hs c2).mpr rfl, (tgCC_124 V hs c2 h).mp hc⟩
      · have gt := tgN_gt L s
        obtain ⟨k1, k2, k3, k4, k5, k6⟩ := v_part V h hs ⟨c1, c2, ha⟩
        obtain ⟨m, w1, w2⟩ := (tgCC_pt hs ⟨c1, c2, ha⟩).mp hc
        obtain ⟨m2, w3, w4⟩ := tgCC_row V g (tgN L s) (by omega) k4 k5 (at_N V ⟨c1, c2, ha⟩ k5) m w2
        exact ⟨m2, (tgA_pt hs c1 c2).mpr ⟨m, w1, w3⟩, w4⟩
/-- a part that is done, with what comes behind it -/
theorem tgCC_after (V : tgV L) {k i m j : Nat} (hk : k < L.length) (c : tgPt0 (L.getD k 0)) (hP : tgPt L hd k i m) (hC : tgCC L hd (tgP L k) m j) : tgCC L hd k i j := by
  rw [tgCC_pt hk c]
  by_cases c2 : L.getD (tgP L k) 0 = 42
  · have hq : tgP L k < L.length := by
      by_cases q : tgP L k < L.length
      · exact q
      · rw [gD_out (by omega)] at c2; omega
    obtain ⟨m2, ⟨t, w1⟩, w2⟩ := (tgCC_42 hq c2).mp hC
    rw [v_star V c c2] at w1
    refine ⟨m2, ?_, ?_⟩
    · rw [tgS, if_pos c2]; exact ⟨t + 1, m, hP, w1⟩
    · rw [tgN, if_pos c2]; exact w2
  · refine ⟨m, ?_, ?_⟩
    · rw [tgS, if_neg c2]; exact hP
    · rw [tgN, if_neg c2]; exact hC
theorem tgC_eps (V : tgV L) {k k' i j : Nat} (hk : k < L.length) (h : tgEps L k k') (hC : tgCC L hd k' i j) : tgCC L hd k i j := by
  have paren : ∀ s, L.getD k 0 = 40 → s < L.length → tgIn L k s 0 → tgAt L s → (∀ i m, tgA L hd s i m → tgA L hd (k + 1) i m ∨ tgB L hd (k + 1) i m) → tgCC L hd s i j → tgCC L hd k i j := by
    intro s c hs hi ha hab hc
    obtain ⟨k0, k1, k2, k3, k4⟩ := v_close V c
    obtain ⟨m, w1, w2⟩ := tgCC_row V _ s (Nat.le_refl _) hi hs ha i hc
    refine tgCC_after V hk ⟨by omega, by omega, by omega⟩ (m := m) ?_ ?_
    · rw [tgPt, if_pos c]; exact hab i m w1
    · rw [tgP, if_pos c, Nat.max_eq_right (by omega)]; exact (tgCC_41 k2 k3).mp w2
  rcases h with ⟨c, e⟩ | ⟨c, bar, b1, b2, b3, b4, e⟩ | ⟨c, e⟩ | ⟨c, e⟩ | ⟨c, e⟩ | ⟨c, c2, e⟩
  · subst e
    obtain ⟨k0, k1, k2, k3, k4⟩ := v_close V c
    exact paren _ c (by omega) (tgIn_0 c) (at_1 V (by omega) (Or.inl c)) (fun _ _ q => Or.inl q) hC
  · subst e
    obtain ⟨k0, k1, k2, k3, k4⟩ := v_close V c
    have hb : tgIn L k bar 0 := ⟨by rw [← tgb_op (by omega) (Or.inr b3)]; exact b4, V.2.2.2.2.1 bar (by omega) (by omega)⟩
    obtain ⟨w1, w2, w3⟩ := v_bar V hb (by omega) b3
    exact paren _ c w2 w1 (at_1 V w2 (Or.inr b3)) (fun _ _ q => Or.inr (bar_B V hb (by omega) b3 q _ (k + 1) (Nat.le_refl _) (tgIn_0 c) (by omega) (at_1 V (by omega) (Or.inl c)))) hC
  · subst e
    have h0 : 0 < k := by
      by_cases q : k = 0
      · subst q; have := V.2.2.1; omega
      · omega
    have hi := tgIn_op (l := L) k 0 (V.2.2.2.2.1 k h0 hk)
    rw [tgb_op h0 (Or.inr c)] at hC
    exact (tgCC_124 V hk c hi).mpr hC
  · subst e
    rcases c with c | c
    · exact (tgCC_41 hk c).mpr hC
    · exact (tgCC_42 hk c).mpr ⟨i, ⟨0, rfl⟩, hC⟩
  · subst e
    obtain ⟨q1, q2, q3⟩ := v_star2 V hk c
    obtain ⟨m, w1, w2⟩ := (tgCC_pt (by omega) q1).mp hC
    rw [tgS, q2, if_pos c] at w1
    rw [tgN, q2, if_pos c] at w2
    exact (tgCC_42 hk c).mpr ⟨m, w1, w2⟩
  · subst e
    refine (tgCC_pt hk c).mpr ⟨i, ?_, ?_⟩
    · rw [tgS, if_pos c2]; exact ⟨0, rfl⟩
    · rw [tgN, if_pos c2]; exact hC
theorem tgw_pt {s i m : Nat} (hh : ∀ w ∈ hd, w < 10) (h : tgw L hd s i m) : tgPt0 (L.getD s 0) ∧ L.getD s 0 ≠ 40 := by
  obtain ⟨h1, h2, h3⟩ := h
  have : hd.getD i 0 < 10 := by
    rw [List.getD_eq_getElem?_getD, List.getElem?_eq_getElem h2]
    exact hh _ (List.getElem_mem h2)
  rcases h3 with h3 | h3
  · exact ⟨⟨by omega, by omega, by omega⟩, by omega⟩
  · exact ⟨⟨by omega, by omega, by omega⟩, by omega⟩
theorem tgC_word (V : tgV L) (hh : ∀ w ∈ hd, w < 10) {k i m j : Nat} (hk : k < L.length) (h : tgw L hd k i m) (hC : tgCC L hd (k + 1) m j) : tgCC L hd k i j := by
  obtain ⟨c, c4⟩ := tgw_pt hh h
  refine tgCC_after V hk c (m := m) ?_ ?_
  · rw [tgPt, if_neg c4]; exact h
  · rw [tgP, if_neg c4]; exact hC
/-- closed marks reach what is matched -/
theorem tgR_main (V : tgV L) {R : Nat → Nat → Prop} (he : ∀ k k' i, k < L.length → i ≤ hd.length → R k i → tgEps L k k' → R k' i) (hw : ∀ k i m, k < L.length → R k i → tgw L hd k i m → R (k + 1) m) (hR : ∀ k i, R k i → i ≤ hd.length) : ∀ g s, L.length - s ≤ g → s < L.length → tgAt L s →
    (∀ p i m, tgIn L p s 0 → R s i → tgA L hd s i m → R (tgc L p) m) ∧ (tgPt0 (L.getD s 0) → ∀ i m, R s i → tgPt L hd s i m → R (tgP L s) m)
  | 0, s, hg, hs, _ => absurd hs (by omega)
  | g + 1, s, hg, hs, ha => by
    have part : tgPt0 (L.getD s 0) → ∀ i m, R s i → tgPt L hd s i m → R (tgP L s) m := by
      intro c i m h1 h2
      rw [tgPt] at h2
      by_cases c1 : L.getD s 0 = 40
      · rw [if_pos c1] at h2
        obtain ⟨k0, k1, k2, k3, k4⟩ := v_close V c1
        have fin : R (tgc L s) m → R (tgP L s) m := fun q => by
          rw [tgP, if_pos c1, Nat.max_eq_right (by omega)]
          exact he _ _ m k2 (hR _ _ q) q (Or.inr (Or.inr (Or.inr (Or.inl ⟨Or.inl k3, rfl⟩))))
        apply fin
        rcases h2 with h2 | h2
        · exact (tgR_main V he hw hR g (s + 1) (by omega) (by omega) (at_1 V (by omega) (Or.inl c1))).1 s i m (tgIn_0 c1) (he _ _ i hs (hR _ _ h1) h1 (Or.inl ⟨c1, rfl⟩)) h2
        · obtain ⟨bar, b1, b2, b3, b4, b5⟩ := tgB_bar V _ (s + 1) (Nat.le_refl _) (tgIn_0 c1) (by omega) (at_1 V (by omega) (Or.inl c1)) h2
          obtain ⟨w1, w2, w3⟩ := v_bar V b4 (by omega) b3
          refine (tgR_main V he hw hR g (bar + 1) (by omega) w2 (at_1 V w2 (Or.inr b3))).1 s i m w1 (he _ _ i hs (hR _ _ h1) h1 (Or.inr (Or.inl ⟨c1, bar, by omega, b2, b3, ?_, rfl⟩))) b5
          rw [tgb_op (by omega) (Or.inr b3)]; exact b4.1
      · rw [if_neg c1] at h2
        rw [tgP, if_neg c1]
        exact hw s i m hs h1 h2
    refine ⟨fun p i m h h1 h2 => ?_, part⟩
    by_cases c1 : L.getD s 0 = 41
    · have e := (tgA_41 hs c1).mp h2
      rw [← e, ← (v_le V h hs).2.mp c1]; exact h1
    · by_cases c2 : L.getD s 0 = 124
      · have e := (tgA_124 hs c2).mp h2
        rw [← e]
        have h0 := (tgIn_sc _ _ _ h).1
        exact he _ _ i hs (hR _ _ h1) h1 (Or.inr (Or.inr (Or.inl ⟨c2, by rw [tgb_op (by omega) (Or.inr c2), h.1]⟩)))
      · have c : tgPt0 (L.getD s 0) := ⟨c1, c2, ha⟩
        have gt := tgN_gt L s
        obtain ⟨k1, k2, k3, k4, k5, k6⟩ := v_part V h hs c
        obtain ⟨m1, w1, w2⟩ := (tgA_pt hs c1 c2).mp h2
        have h3 : R (tgN L s) m1 := by
          rw [tgS] at w1
          rw [tgN]
          by_cases c3 : L.getD (tgP L s) 0 = 42
          · rw [if_pos c3] at w1 ⊢
            obtain ⟨t, w1⟩ := w1
            have star : ∀ t i, R s i → stR (tgPt L hd s) t i m1 → R (tgP L s + 1) m1 := by
              intro t
              induction t with
              | zero =>
                intro i q1 q2
                have q2 : i = m1 := q2
                rw [← q2]
                exact he _ _ i hs (hR _ _ q1) q1 (Or.inr (Or.inr (Or.inr (Or.inr (Or.inr ⟨c, c3, rfl⟩)))))
              | succ t ih =>
                intro i q1 q2
                obtain ⟨m2, q3, q4⟩ := q2
                have q5 := part c i m2 q1 q3
                refine ih m2 (he _ _ m2 k2 (hR _ _ q5) q5 (Or.inr (Or.inr (Or.inr (Or.inr (Or.inl ⟨c3, ?_⟩)))))) q4
                exact (v_star V c c3).symm
            exact star t i h1 w1
          · rw [if_neg c3] at w1 ⊢
            exact part c i m1 h1 w1
        exact (tgR_main V he hw hR g (tgN L s) (by omega) k5 (at_N V c k5)).1 p m1 m k4 h3 w2
theorem tg_all (V : tgV L) (hh : ∀ w ∈ hd, w < 10) {R : Nat → Nat → Prop} (h0 : R 0 0) (he : ∀ k k' i, k < L.length → i ≤ hd.length → R k i → tgEps L k k' → R k' i) (hw : ∀ k i m, k < L.length → R k i → tgw L hd k i m → R (k + 1) m) (hR : ∀ k i, R k i → i ≤ hd.length) (hs : ∀ k i, R k i → ∀ j, tgCC L hd k i j → tgCC L hd 0 0 j) (j : Nat) : R L.length j ↔ (tgA L hd 1 0 j ∨ tgB L hd 1 0 j) := by
  have c : L.getD 0 0 = 40 := V.2.2.1
  have e := (v_top V).2
  have hl := V.2.1
  refine ⟨fun h => ?_, fun h => ?_⟩
  · have h1 := hs _ _ h j (tgCC_end.mpr rfl)
    obtain ⟨m, w1, w2⟩ := (tgCC_pt (by omega) ⟨by omega, by omega, by omega⟩).mp h1
    have c3 : ¬ L.getD (tgP L 0) 0 = 42 := by rw [e, gD_out (Nat.le_refl _)]; omega
    rw [tgS, if_neg c3, tgPt, if_pos c] at w1
    rw [tgN, if_neg c3, e] at w2
    rw [← tgCC_end.mp w2]; exact w1
  · have := (tgR_main V he hw hR _ 0 (Nat.le_refl _) (by omega) (by rw [tgAt]; omega)).2 ⟨by omega, by omega, by omega⟩ 0 j h0 (by rw [tgPt, if_pos c]; exact h)
    rw [e] at this; exact this
end TS3
