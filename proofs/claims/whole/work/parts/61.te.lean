/-! ===== the class follows its tongue ===== -/
def bImg (P : Nat → Nat → Prop) (X Y : Nat) : Prop := Y < 2 ^ 17 ∧ ∀ j, Y.testBit j = true ↔ ∃ i, X.testBit i = true ∧ P i j
def bC (E : Nat) : Nat → Nat
  | 0 => 0
  | k + 1 => bC E k + if E.testBit k = true then 1 else 0
theorem bC_le (E : Nat) : ∀ k, bC E k ≤ k
  | 0 => Nat.le_refl _
  | k + 1 => by
    have := bC_le E k
    rw [bC]
    split <;> omega
theorem bC_mo {E E' : Nat} (h : ∀ j, E.testBit j = true → E'.testBit j = true) : ∀ k, bC E k ≤ bC E' k
  | 0 => Nat.le_refl _
  | k + 1 => by
    have := bC_mo h k
    rw [bC, bC]
    by_cases c : E.testBit k = true
    · rw [if_pos c, if_pos (h k c)]; omega
    · rw [if_neg c]; omega
theorem bC_gt {E E' j : Nat} (h : ∀ j, E.testBit j = true → E'.testBit j = true) (h1 : ¬ E.testBit j = true) (h2 : E'.testBit j = true) : ∀ k, j < k → bC E k + 1 ≤ bC E' k
  | 0, hk => absurd hk (Nat.not_lt_zero _)
  | k + 1, hk => by
    rw [bC, bC]
    by_cases e : j = k
    · subst e
      have := bC_mo h j
      rw [if_neg h1, if_pos h2]; omega
    · have := bC_gt h h1 h2 k (by omega)
      by_cases c : E.testBit k = true
      · rw [if_pos c, if_pos (h k c)]; omega
      · rw [if_neg c]; omega
theorem tb_lt {X j : Nat} (hX : X < 2 ^ 17) (h : X.testBit j = true) : j < 17 := by
  have h1 := Nat.ge_two_pow_of_testBit h
  by_cases q : j < 17
  · exact q
  · have := Nat.pow_le_pow_right (n := 2) (by decide) (show 17 ≤ j by omega)
    omega
def bDi (Z E : Nat) : Nat := wbits (fun i => Z.testBit i && !E.testBit i) 17
theorem bDi_tb {Z E : Nat} (hZ : Z < 2 ^ 17) (i : Nat) : (bDi Z E).testBit i = (Z.testBit i && !E.testBit i) := by
  rw [bDi, wbits_tb]
  by_cases h : i < 17
  · rw [decide_eq_true h, Bool.true_and]
  · have : Z.testBit i = false := by
      cases c : Z.testBit i with
      | false => rfl
      | true => exact absurd (tb_lt hZ c) h
    rw [this, decide_eq_false h]; rfl
theorem nI_z0 {k : Nat} (h : k < 2 ^ 31) : nI k = 0 ↔ k = 0 := by
  refine ⟨fun z => ?_, fun z => by rw [z]; rfl⟩
  have := congrArg Int32.toInt z
  rw [nI_toInt h] at this
  have : (k : Int) = 0 := this
  omega
def tgY (tg : List Nat) : List Nat := 40 :: (tg ++ [41])
theorem tgY_len {tg : List Nat} : (tgY tg).length = tg.length + 2 := by rw [tgY, List.length_cons, List.length_append]; rfl
theorem tgY_s {tg : List Nat} {k : Nat} (hk : k < tg.length) : (tgY tg).getD (k + 1) 0 = tg.getD k 0 := by
  rw [tgY, List.getD_cons_succ, List.getD_eq_getElem?_getD, List.getD_eq_getElem?_getD, List.getElem?_append_left hk]
theorem tgY_e {tg : List Nat} : (tgY tg).getD (tg.length + 1) 0 = 41 := by
  rw [tgY, List.getD_cons_succ, List.getD_eq_getElem?_getD, List.getElem?_append_right (Nat.le_refl _), Nat.sub_self]
  rfl
def cEv (D : xM) (tg hd : List Nat) : Prop := tgV (tgY tg) ∧ cTg D tg ∧ D 10 4 = nI hd.length ∧ (∀ i, i < hd.length → D 14 i = nI (hd.getD i 0)) ∧ hd.length ≤ 16 ∧ ∀ w ∈ hd, w < 10
section TE
variable {Γ : xG} {n : Nat} {D : xM} {post : Option Int32 → xM → Prop} {tg hd : List Nat}
theorem hd_lt {i : Nat} (h : ∀ w ∈ hd, w < 10) (hi : i < hd.length) : hd.getD i 0 < 10 := by
  rw [List.getD_eq_getElem?_getD, List.getElem?_eq_getElem hi]
  exact h _ (List.getElem_mem hi)
theorem c_wordEnds {c s X : Nat} (E : cEv D tg hd) (hs : (tgY tg).getD s 0 = c) (hc : c = 46 ∨ (97 ≤ c ∧ c < 107)) (hX : X < 2 ^ 17) (hp : ∀ Y, bImg (tgw (tgY tg) hd s) X Y → post (some (nI Y)) D) : xRuns Γ (n + 1) hX6_wordEnds [xR 0 6 10, xI (nI c), xI (nI X)] D post := by
  obtain ⟨V, T, e4, e14, h16, h10⟩ := E
  refine x_runs kX6_wordEnds (by decide +kernel) rfl ?_
  refine x_to 5 rfl ?_
  have loop : ∀ g i Y, i + g = hd.length → Y < 2 ^ 17 → (∀ j, Y.testBit j = true ↔ ∃ i', i' < i ∧ X.testBit i' = true ∧ tgw (tgY tg) hd s i' j) → xW Γ (n + 1) hX6_wordEnds rX6_wordEnds 5 [some (xR 0 6 10), some (xI (nI c)), some (xI (nI X)), some (xI (nI Y)), some (xI (nI i))] [] D post := by
    intro g
    induction g with
    | zero =>
      intro i Y hi hY h
      refine xi_geN i hd.length rfl rfl rfl e4 (by omega) (by omega) (fun _ => ?_) (fun h => absurd h (by omega))
      refine x_ret rfl rfl rfl rfl (hp Y ⟨hY, fun j => ?_⟩)
      rw [h j]
      exact ⟨fun ⟨i', _, q2, q3⟩ => ⟨i', q2, q3⟩, fun ⟨i', q2, q3⟩ => ⟨i', by have := q3.2.1; omega, q2, q3⟩⟩
    | succ g ih =>
      intro i Y hi hY h
      have hw := hd_lt h10 (i := i) (by omega)
      refine xi_geN i hd.length rfl rfl rfl e4 (by omega) (by omega) (fun h => absurd h (by omega)) (fun _ => ?_)
      have skip : ¬ (X.testBit i = true ∧ tgw (tgY tg) hd s i (i + 1)) → xW Γ (n + 1) hX6_wordEnds rX6_wordEnds 51 [some (xR 0 6 10), some (xI (nI c)), some (xI (nI X)), some (xI (nI Y)), some (xI (nI i))] [] D post := by
        intro no
        have IH := ih (i + 1) Y (by omega) hY (fun j => by
          rw [h j]
          refine ⟨fun ⟨i', q1, q2, q3⟩ => ⟨i', by omega, q2, q3⟩, fun ⟨i', q1, q2, q3⟩ => ⟨i', ?_, q2, q3⟩⟩
          by_cases z : i' = i
          · subst z
            have e := q3.1
            subst e
            exact absurd ⟨q2, q3⟩ no
          · omega)
        rw [← nI_1 i] at IH
        exact x_goto rfl rfl IH
      have take : X.testBit i = true → tgw (tgY tg) hd s i (i + 1) → xW Γ (n + 1) hX6_wordEnds rX6_wordEnds 44 [some (xR 0 6 10), some (xI (nI c)), some (xI (nI X)), some (xI (nI Y)), some (xI (nI i))] [] D post := by
        intro y1 y2
        have hlt : 2 ^ (i + 1) < 2 ^ 17 := Nat.pow_lt_pow_right (by decide) (by omega)
        have IH := ih (i + 1) (Y ||| 2 ^ (i + 1)) (by omega) (Nat.or_lt_two_pow hY hlt) (fun j => by
          rw [Nat.testBit_or, Nat.testBit_two_pow, Bool.or_eq_true, decide_eq_true_eq, h j]
          refine ⟨fun q => ?_, fun ⟨i', q1, q2, q3⟩ => ?_⟩
          · rcases q with ⟨i', q1, q2, q3⟩ | q
            · exact ⟨i', by omega, q2, q3⟩
            · subst q; exact ⟨i, by omega, y1, y2⟩
          · by_cases z : i' = i
            · subst z; exact Or.inr q3.1.symm
            · exact Or.inl ⟨i', by omega, q2, q3⟩)
        have e : nI Y ||| (xnum 2 <<< (nI i &&& 31)) = nI (Y ||| 2 ^ (i + 1)) := by
          have h2 : 2 * 2 ^ i = 2 ^ (i + 1) := by rw [Nat.pow_succ]; omega
          rw [← xb_or, ← h2, ← xb_shl (by omega) (by omega)]
          rfl
        rw [← e, ← nI_1 i] at IH
        exact x_goto rfl rfl IH
      have eb : (nI X >>> (nI i &&& 31)) &&& xnum 1 = nI (X / 2 ^ i % 2) := xb_bit (by omega) (by omega)
      refine xi_neN (X / 2 ^ i % 2) 1 rfl rfl eb rfl (by omega) (by omega) (fun z => skip (fun y => z ((xb_tb X i).mpr y.1))) (fun z => ?_)
      have y1 := (xb_tb X i).mp z
      refine xi_eqN c 46 rfl rfl rfl rfl (by omega) (by omega) (fun z => take y1 ⟨rfl, by omega, Or.inl (by omega)⟩) (fun z => ?_)
      refine x_aldN i rfl rfl rfl (by omega) rfl ?_
      rw [e14 i (by omega)]
      refine x_scall [xI (nI c)] rfl rfl rfl rfl rfl rfl rfl (c_wordOf (by omega) ?_)
      rw [tWo, if_pos (by omega)]
      refine xi_neN (hd.getD i 0) (c - 97) rfl rfl rfl rfl (by omega) (by omega) (fun w => skip (fun y => ?_)) (fun w => take y1 ⟨rfl, by omega, Or.inr (by omega)⟩)
      rcases y.2.2.2 with q | q
      · omega
      · omega
  exact loop hd.length 0 0 (by omega) (by decide) (fun j => by
    rw [Nat.zero_testBit]
    exact ⟨fun z => (by cases z), fun ⟨i', q, _⟩ => absurd q (Nat.not_lt_zero _)⟩)
theorem c_behindPart {a : Nat} (E : cEv D tg hd) (ha : a < tg.length) (hp : post (some (nI (tgP (tgY tg) (a + 1) - 1))) D) : xRuns Γ (n + 1) hX6_behindPart [xR 0 6 10, xI (nI a)] D post := by
  obtain ⟨V, T, e4, e14, h16, h10⟩ := E
  have yl := tgY_len (tg := tg)
  have v1 := V.1
  have hs := tgY_s ha
  have sg := V.2.2.2.2.2.2.2 (a + 1) (by omega)
  unfold tgSg at sg
  refine x_runs kX6_behindPart (by decide +kernel) rfl ?_
  refine x_aldN a rfl rfl rfl (by omega) rfl ?_
  rw [T.2.1 a ha, ← hs]
  rw [tgP] at hp
  refine xi_neN ((tgY tg).getD (a + 1) 0) 40 rfl rfl rfl rfl (by omega) (by omega) (fun z => ?_) (fun z => ?_)
  · rw [if_neg z] at hp
    refine x_ret rfl rfl rfl rfl ?_
    have e : nI a + xnum 1 = nI (a + 1 + 1 - 1) := nI_1 a
    rw [e]; exact hp
  · rw [if_pos z] at hp
    have w := v_close V z
    refine x_aldN a rfl rfl rfl (by omega) rfl ?_
    have e12 : D 12 a = nI (tgc (tgY tg) (a + 1) - 1) := T.2.2 a ha (by rw [← hs]; exact z)
    rw [e12]
    refine x_max rfl rfl rfl ?_
    refine x_goto rfl rfl (x_ret rfl rfl rfl rfl ?_)
    have e : (if nI a < nI (tgc (tgY tg) (a + 1) - 1) then nI (tgc (tgY tg) (a + 1) - 1) else nI a) + xnum 1 = nI (max (a + 1) (tgc (tgY tg) (a + 1)) + 1 - 1) := by
      rw [if_pos (by rw [Int32.lt_iff_toInt_lt, nI_toInt (by omega), nI_toInt (by omega)]; omega)]
      have := nI_1 (tgc (tgY tg) (a + 1) - 1)
      rw [Nat.max_eq_right (by omega), show tgc (tgY tg) (a + 1) + 1 - 1 = tgc (tgY tg) (a + 1) - 1 + 1 by omega]
      exact this
    rw [e]; exact hp
end TE
def ptSpec (Γ : xG) (D : xM) (tg hd : List Nat) (n d : Nat) : Prop := ∀ (a q X : Nat) (post : Option Int32 → xM → Prop), a < tg.length → tgPt0 ((tgY tg).getD (a + 1) 0) → tgD (tgY tg) (a + 1) = d + 1 → tgP (tgY tg) (a + 1) = q + 1 → X < 2 ^ 17 → (∀ Y, bImg (tgPt (tgY tg) hd (a + 1)) X Y → post (some (nI Y)) D) → xRuns Γ n hX6_partEnds [xR 0 6 10, xI (nI a), xI (nI q), xI (nI X), xI (nI d)] D post
def sumSpec (Γ : xG) (D : xM) (tg hd : List Nat) (n d : Nat) : Prop := ∀ (p a e X : Nat) (post : Option Int32 → xM → Prop), tgIn (tgY tg) p (a + 1) 0 → a + 1 < (tgY tg).length → tgAt (tgY tg) (a + 1) → tgD (tgY tg) (a + 1) = d + 1 → tgc (tgY tg) p = e + 1 → X < 2 ^ 17 → (∀ Y, bImg (fun i j => tgA (tgY tg) hd (a + 1) i j ∨ tgB (tgY tg) hd (a + 1) i j) X Y → post (some (nI Y)) D) → xRuns Γ n hX6_sumEnds [xR 0 6 10, xI (nI a), xI (nI e), xI (nI X), xI (nI d)] D post
section TE2
variable {Γ : xG} {n : Nat} {D : xM} {tg hd : List Nat}
theorem c_partEnds {d : Nat} (E : cEv D tg hd) (hd6 : d ≤ 6) (hsum : d < 6 → sumSpec Γ D tg hd (n + 1) (d + 1)) : ptSpec Γ D tg hd (n + 2) d := by
  intro a q X post ha hc hdp hq hX hp
  have V := E.1
  have T := E.2.1
  have yl := tgY_len (tg := tg)
  have v1 := V.1
  have hs := tgY_s ha
  have sg := V.2.2.2.2.2.2.2 (a + 1) (by omega)
  unfold tgSg at sg
  have hc2 := hc
  unfold tgPt0 at hc2
  refine x_runs kX6_partEnds (by decide +kernel) rfl ?_
  refine x_aldN a rfl rfl rfl (by omega) rfl ?_
  rw [T.2.1 a ha, ← hs]
  refine xi_eqN ((tgY tg).getD (a + 1) 0) 40 rfl rfl rfl rfl (by omega) (by omega) (fun z => ?_) (fun z => ?_)
  · obtain ⟨k0, k1, k2, k3, k4⟩ := v_close V z
    have d7 := V.2.2.2.2.2.1 (a + 1 + 1) (by omega)
    have td : tgD (tgY tg) (a + 1 + 1) = tgD (tgY tg) (a + 1) + 1 := by rw [tgD, if_pos z]
    have hP : tgP (tgY tg) (a + 1) = tgc (tgY tg) (a + 1) + 1 := by rw [tgP, if_pos z, Nat.max_eq_right (by omega)]
    refine xi_geN d 6 rfl rfl rfl rfl (by omega) (by omega) (fun w => absurd w (by omega)) (fun w => ?_)
    have e1 : nI a + xnum 1 = nI (a + 1) := nI_1 a
    have e2 : nI q - xnum 1 = nI (q - 1) := pk_sub (b := 1) (by omega)
    have e3 : nI d + xnum 1 = nI (d + 1) := nI_1 d
    refine x_to 42 rfl ?_
    rw [e1, e2, e3]
    refine x_call [xI (nI (a + 1)), xI (nI (q - 1)), xI (nI X), xI (nI (d + 1))] rfl rfl rfl rfl rfl rfl rfl (hsum w (a + 1) (a + 1) (q - 1) X _ (tgIn_0 z) (by omega) (at_1 V (by omega) (Or.inl z)) (by omega) (by omega) hX (fun Y hY => ?_))
    refine x_goto rfl rfl (x_ret rfl rfl rfl rfl (hp Y ⟨hY.1, fun j => ?_⟩))
    rw [hY.2 j]
    refine ⟨fun ⟨i, q1, q2⟩ => ⟨i, q1, ?_⟩, fun ⟨i, q1, q2⟩ => ⟨i, q1, ?_⟩⟩
    · rw [tgPt, if_pos z]; exact q2
    · rw [tgPt, if_pos z] at q2; exact q2
  · refine x_aldN a rfl rfl rfl (by omega) rfl ?_
    rw [T.2.1 a ha, ← hs]
    refine x_call [xI (nI ((tgY tg).getD (a + 1) 0)), xI (nI X)] rfl rfl rfl rfl rfl rfl rfl (c_wordEnds E rfl (by omega) hX (fun Y hY => ?_))
    refine x_ret rfl rfl rfl rfl (hp Y ⟨hY.1, fun j => ?_⟩)
    rw [hY.2 j]
    refine ⟨fun ⟨i, q1, q2⟩ => ⟨i, q1, ?_⟩, fun ⟨i, q1, q2⟩ => ⟨i, q1, ?_⟩⟩
    · rw [tgPt, if_neg z]; exact q2
    · rw [tgPt, if_neg z] at q2; exact q2
theorem c_repeatedEnds {d a q X : Nat} {post : Option Int32 → xM → Prop} (hpt : ptSpec Γ D tg hd n d) (ha : a < tg.length) (hc : tgPt0 ((tgY tg).getD (a + 1) 0)) (hdp : tgD (tgY tg) (a + 1) = d + 1) (hq : tgP (tgY tg) (a + 1) = q + 1) (hX : X < 2 ^ 17) (hp : ∀ Y, bImg (fun i j => ∃ t, stR (tgPt (tgY tg) hd (a + 1)) t i j) X Y → post (some (nI Y)) D) : xRuns Γ (n + 1) hX6_repeatedEnds [xR 0 6 10, xI (nI a), xI (nI q), xI (nI X), xI (nI d)] D post := by
  refine x_runs kX6_repeatedEnds (by decide +kernel) rfl ?_
  refine x_to 9 rfl ?_
  have fin : ∀ (Ed F t : Nat), F = 0 → Ed < 2 ^ 17 → (∀ j, Ed.testBit j = true → ∃ i, X.testBit i = true ∧ ∃ u, stR (tgPt (tgY tg) hd (a + 1)) u i j) → (∀ j, X.testBit j = true → Ed.testBit j = true) → (∀ i, Ed.testBit i = true → ¬ F.testBit i = true → ∀ j, tgPt (tgY tg) hd (a + 1) i j → Ed.testBit j = true) → xW Γ (n + 1) hX6_repeatedEnds rX6_repeatedEnds 51 [some (xR 0 6 10), some (xI (nI a)), some (xI (nI q)), some (xI (nI X)), some (xI (nI d)), some (xI (nI Ed)), some (xI (nI F)), some (xI (nI t))] [] D post := by
    intro Ed F t hF hE h1 h2 h3
    refine x_ret rfl rfl rfl rfl (hp Ed ⟨hE, fun j => ⟨h1 j, fun ⟨i, q1, u, q2⟩ => ?_⟩⟩)
    have go : ∀ u i, Ed.testBit i = true → stR (tgPt (tgY tg) hd (a + 1)) u i j → Ed.testBit j = true := by
      intro u
      induction u with
      | zero =>
        intro i w1 w2
        have w2 : i = j := w2
        rw [← w2]; exact w1
      | succ u ih =>
        intro i w1 w2
        obtain ⟨m, w3, w4⟩ := w2
        exact ih m (h3 i w1 (by rw [hF, Nat.zero_testBit]; decide) m w3) w4
    exact go u i (h2 i q1) q2
  have loop : ∀ g t (Ed F : Nat), t + g = 17 → Ed < 2 ^ 17 → F < 2 ^ 17 → (∀ j, F.testBit j = true → Ed.testBit j = true) → (F ≠ 0 → t + 1 ≤ bC Ed 17) → (∀ j, Ed.testBit j = true → ∃ i, X.testBit i = true ∧ ∃ u, stR (tgPt (tgY tg) hd (a + 1)) u i j) → (∀ j, X.testBit j = true → Ed.testBit j = true) → (∀ i, Ed.testBit i = true → ¬ F.testBit i = true → ∀ j, tgPt (tgY tg) hd (a + 1) i j → Ed.testBit j = true) → xW Γ (n + 1) hX6_repeatedEnds rX6_repeatedEnds 9 [some (xR 0 6 10), some (xI (nI a)), some (xI (nI q)), some (xI (nI X)), some (xI (nI d)), some (xI (nI Ed)), some (xI (nI F)), some (xI (nI t))] [] D post := by
    intro g
    induction g with
    | zero =>
      intro t Ed F ht hE hF hFE hcnt h1 h2 h3
      have F0 : F = 0 := by
        by_cases z : F = 0
        · exact z
        · have := hcnt z
          have := bC_le Ed 17
          omega
      exact xi_gtN t 16 rfl rfl rfl rfl (by omega) (by omega) (fun _ => fin Ed F t F0 hE h1 h2 h3) (fun h => absurd h (by omega))
    | succ g ih =>
      intro t Ed F ht hE hF hFE hcnt h1 h2 h3
      refine xi_gtN t 16 rfl rfl rfl rfl (by omega) (by omega) (fun h => absurd h (by omega)) (fun _ => ?_)
      refine x0_eq rfl rfl (fun z => fin Ed F t ((nI_z0 (by omega)).mp z) hE h1 h2 h3) (fun z => ?_)
      have z : F ≠ 0 := fun y => z ((nI_z0 (by omega)).mpr y)
      refine x_call [xI (nI a), xI (nI q), xI (nI F), xI (nI d)] rfl rfl rfl rfl rfl rfl rfl (hpt a q F _ ha hc hdp hq hF (fun Z hZ => ?_))
      have tb := bDi_tb (E := Ed) hZ.1
      have e1 : nI Z &&& (nI Ed ^^^ xnum (-1)) = nI (bDi Z Ed) := xb_andn (by have := hZ.1; omega) tb
      have e2 : nI Ed ||| nI (bDi Z Ed) = nI (Ed ||| bDi Z Ed) := xb_or _ _
      have hD : bDi Z Ed < 2 ^ 17 := wbits_lt _ _
      have tbo : ∀ j, (Ed ||| bDi Z Ed).testBit j = true ↔ Ed.testBit j = true ∨ Z.testBit j = true := fun j => by
        rw [Nat.testBit_or, tb j]
        cases Ed.testBit j <;> cases Z.testBit j <;> simp
      have IH := ih (t + 1) (Ed ||| bDi Z Ed) (bDi Z Ed) (by omega) (Nat.or_lt_two_pow hE hD) hD (fun j hj => by rw [Nat.testBit_or, hj, Bool.or_true]) (fun hne => by
        obtain ⟨j, hj⟩ := Nat.exists_testBit_of_ne_zero hne
        have hj2 := hj
        rw [tb j, Bool.and_eq_true] at hj2
        have := bC_gt (E := Ed) (E' := Ed ||| bDi Z Ed) (j := j) (fun i hi => (tbo i).mpr (Or.inl hi)) (by rw [Bool.not_eq_true', ] at hj2; rw [hj2.2]; decide) ((tbo j).mpr (Or.inr hj2.1)) 17 (tb_lt hD hj)
        have := hcnt z
        omega) (fun j hj => by
        rcases (tbo j).mp hj with w | w
        · exact h1 j w
        · obtain ⟨i, w1, w2⟩ := (hZ.2 j).mp w
          obtain ⟨i0, w3, u, w4⟩ := h1 i (hFE i w1)
          exact ⟨i0, w3, u + 1, stR_tr u 1 i0 i j w4 ⟨j, w2, rfl⟩⟩) (fun j hj => (tbo j).mpr (Or.inl (h2 j hj))) (fun i hi hni j hj => by
        have hiE : Ed.testBit i = true := by
          rcases (tbo i).mp hi with w | w
          · exact w
          · cases w3 : Ed.testBit i with
            | true => rfl
            | false => exact absurd (by rw [tb i, w, w3]; rfl) hni
        by_cases w : F.testBit i = true
        · exact (tbo j).mpr (Or.inr ((hZ.2 j).mpr ⟨i, w, hj⟩))
        · exact (tbo j).mpr (Or.inl (h3 i hiE w j hj)))
      rw [← e2, ← e1, ← nI_1 t] at IH
      exact x_goto rfl rfl IH
  exact loop 17 0 X X (by omega) hX hX (fun _ h => h) (fun hne => by
    obtain ⟨j, hj⟩ := Nat.exists_testBit_of_ne_zero hne
    have := bC_gt (E := 0) (E' := X) (j := j) (fun i hi => by rw [Nat.zero_testBit] at hi; cases hi) (by rw [Nat.zero_testBit]; decide) hj 17 (tb_lt hX hj)
    omega) (fun j hj => ⟨j, hj, 0, rfl⟩) (fun _ h => h) (fun i w1 w2 => absurd w1 w2)
end TE2
