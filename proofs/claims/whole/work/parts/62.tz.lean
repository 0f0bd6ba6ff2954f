/-! ===== the class follows its tongue: sums; call: of ===== -/
section TZ
variable {Γ : xG} {n : Nat} {D : xM} {tg hd : List Nat}
theorem c_sumEnds {d : Nat} (E : cEv D tg hd) {m0 : Nat} (hpt : ptSpec Γ D tg hd (m0 + 1) d) (hpt2 : ptSpec Γ D tg hd (m0 + 2) d) : sumSpec Γ D tg hd (m0 + 3) d := by
  intro p a e X post hin hal hat hdp he hX hp
  have V := E.1
  have T := E.2.1
  have yl := tgY_len (tg := tg)
  have v1 := V.1
  have el := (v_close V (tgIn_sc _ _ _ hin).2.1).2.2.1
  refine x_runs kX6_sumEnds (by decide +kernel) rfl ?_
  refine x_to 12 rfl ?_
  have loop : ∀ g s t (Ed H : Nat), tg.length + 1 - s ≤ g → t ≤ s → tgIn (tgY tg) p (s + 1) 0 → s + 1 < (tgY tg).length → tgAt (tgY tg) (s + 1) → tgD (tgY tg) (s + 1) = d + 1 → Ed < 2 ^ 17 → H < 2 ^ 17 → (∀ j, (∃ i, X.testBit i = true ∧ (tgA (tgY tg) hd (a + 1) i j ∨ tgB (tgY tg) hd (a + 1) i j)) ↔ (Ed.testBit j = true ∨ (∃ i, H.testBit i = true ∧ tgA (tgY tg) hd (s + 1) i j) ∨ ∃ i, X.testBit i = true ∧ tgB (tgY tg) hd (s + 1) i j)) → xW Γ (m0 + 3) hX6_sumEnds rX6_sumEnds 12 [some (xR 0 6 10), some (xI (nI a)), some (xI (nI e)), some (xI (nI X)), some (xI (nI d)), some (xI (nI Ed)), some (xI (nI H)), some (xI (nI s)), some (xI (nI t)), none] [] D post := by
    intro g
    induction g with
    | zero => intro s t Ed H hg _ _ hs; exact absurd hs (by omega)
    | succ g ih =>
      intro s t Ed H hg hts k1 k2 k3 k4 hE hH hJ
      have hle := v_le V k1 k2
      have out : e ≤ s → xW Γ (m0 + 3) hX6_sumEnds rX6_sumEnds 124 [some (xR 0 6 10), some (xI (nI a)), some (xI (nI e)), some (xI (nI X)), some (xI (nI d)), some (xI (nI Ed)), some (xI (nI H)), some (xI (nI s)), some (xI (nI t)), none] [] D post := by
        intro z
        have c41 : (tgY tg).getD (s + 1) 0 = 41 := hle.2.mpr (by omega)
        refine x_ret rfl rfl rfl rfl ?_
        rw [xb_or]
        refine hp _ ⟨Nat.or_lt_two_pow hE hH, fun j => ?_⟩
        rw [hJ j, Nat.testBit_or, Bool.or_eq_true]
        refine ⟨fun q => ?_, fun q => ?_⟩
        · rcases q with q | q
          · exact Or.inl q
          · exact Or.inr (Or.inl ⟨j, q, (tgA_41 k2 c41).mpr rfl⟩)
        · rcases q with q | ⟨i, q1, q2⟩ | ⟨i, q1, q2⟩
          · exact Or.inl q
          · have := (tgA_41 k2 c41).mp q2
            rw [← this]; exact Or.inr q1
          · exact absurd q2 (tgB_41 k2 c41)
      refine xi_geN t 200 rfl rfl rfl rfl (by omega) (by omega) (fun z => out (by omega)) (fun _ => ?_)
      refine xi_geN s e rfl rfl rfl rfl (by omega) (by omega) (fun z => out (by omega)) (fun z => ?_)
      · have n41 : (tgY tg).getD (s + 1) 0 ≠ 41 := fun y => by have := hle.2.mp y; omega
        have hst : s < tg.length := by
          have := v_close V (tgIn_sc _ _ _ k1).2.1
          omega
        have hs := tgY_s hst
        have sg := V.2.2.2.2.2.2.2 (s + 1) (by omega)
        unfold tgSg at sg
        refine x_aldN s rfl rfl rfl (by omega) rfl ?_
        rw [T.2.1 s hst, ← hs]
        refine xi_neN ((tgY tg).getD (s + 1) 0) 124 rfl rfl rfl rfl (by omega) (by omega) (fun n124 => ?_) (fun c124 => ?_)
        · have hc : tgPt0 ((tgY tg).getD (s + 1) 0) := ⟨n41, n124, k3⟩
          obtain ⟨w1, w2, w3, w4, w5, w6⟩ := v_part V k1 k2 hc
          have gt := tgP_gt (tgY tg) (s + 1)
          have gn := tgN_gt (tgY tg) (s + 1)
          have an := at_N V hc w5
          have dn : tgD (tgY tg) (tgN (tgY tg) (s + 1)) = d + 1 := by
            have a1 := (tgIn_sc _ _ _ k1).2.2.1
            have a2 := (tgIn_sc _ _ _ w4).2.2.1
            omega
          obtain ⟨q, hq⟩ : ∃ q, tgP (tgY tg) (s + 1) = q + 1 := ⟨tgP (tgY tg) (s + 1) - 1, by omega⟩
          refine x_call [xI (nI s)] rfl rfl rfl rfl rfl rfl rfl (c_behindPart (n := m0 + 1) E hst ?_)
          rw [hq, Nat.add_sub_cancel]
          have nost : (tgY tg).getD (tgP (tgY tg) (s + 1)) 0 ≠ 42 → xW Γ (m0 + 3) hX6_sumEnds rX6_sumEnds 100 [some (xR 0 6 10), some (xI (nI a)), some (xI (nI e)), some (xI (nI X)), some (xI (nI d)), some (xI (nI Ed)), some (xI (nI H)), some (xI (nI s)), some (xI (nI t)), some (xI (nI q))] [] D post := by
            intro c3
            have eN : tgN (tgY tg) (s + 1) = q + 1 := by rw [tgN, if_neg c3, hq]
            rw [eN] at w4 w5 w6 an dn gn
            refine x_call [xI (nI s), xI (nI q), xI (nI H), xI (nI d)] rfl rfl rfl rfl rfl rfl rfl (hpt2 s q H _ hst hc k4 hq hH (fun Y hY => ?_))
            have IH := ih q (t + 1) Ed Y (by omega) (by omega) w4 w5 an dn hE hY.1 (fun j => by
              rw [hJ j]
              refine ⟨fun y => ?_, fun y => ?_⟩
              · rcases y with y | ⟨i, y1, y2⟩ | ⟨i, y1, y2⟩
                · exact Or.inl y
                · obtain ⟨m, y3, y4⟩ := (tgA_pt k2 n41 n124).mp y2
                  rw [tgS, if_neg c3] at y3
                  rw [eN] at y4
                  exact Or.inr (Or.inl ⟨m, (hY.2 m).mpr ⟨i, y1, y3⟩, y4⟩)
                · have y3 := (tgB_pt k2 n41 n124).mp y2
                  rw [eN] at y3
                  exact Or.inr (Or.inr ⟨i, y1, y3⟩)
              · rcases y with y | ⟨m, y1, y2⟩ | ⟨i, y1, y2⟩
                · exact Or.inl y
                · obtain ⟨i, y3, y4⟩ := (hY.2 m).mp y1
                  refine Or.inr (Or.inl ⟨i, y3, (tgA_pt k2 n41 n124).mpr ⟨m, ?_, by rw [eN]; exact y2⟩⟩)
                  rw [tgS, if_neg c3]; exact y4
                · exact Or.inr (Or.inr ⟨i, y1, (tgB_pt k2 n41 n124).mpr (by rw [eN]; exact y2)⟩))
            rw [← nI_1 t] at IH
            exact x_goto rfl rfl (x_drop 9 IH)
          refine xi_geN q e rfl rfl rfl rfl (by omega) (by omega) (fun z2 => ?_) (fun z2 => ?_)
          · refine nost (fun c3 => ?_)
            have := (v_le V w1 w2).2.mpr (by omega)
            omega
          · have hqt : q < tg.length := by
              have := v_close V (tgIn_sc _ _ _ k1).2.1
              omega
            have hs2 := tgY_s hqt
            have sg2 := V.2.2.2.2.2.2.2 (q + 1) (by omega)
            unfold tgSg at sg2
            refine x_aldN q rfl rfl rfl (by omega) rfl ?_
            rw [T.2.1 q hqt, ← hs2]
            refine xi_neN ((tgY tg).getD (q + 1) 0) 42 rfl rfl rfl rfl (by omega) (by omega) (fun n42 => nost (by rw [hq]; exact n42)) (fun c42 => ?_)
            have c3 : (tgY tg).getD (tgP (tgY tg) (s + 1)) 0 = 42 := by rw [hq]; exact c42
            have eN : tgN (tgY tg) (s + 1) = q + 1 + 1 := by rw [tgN, if_pos c3, hq]
            rw [eN] at w4 w5 w6 an dn gn
            refine x_call [xI (nI s), xI (nI q), xI (nI H), xI (nI d)] rfl rfl rfl rfl rfl rfl rfl (c_repeatedEnds hpt hst hc k4 hq hH (fun Y hY => ?_))
            have IH := ih (q + 1) (t + 1) Ed Y (by omega) (by omega) w4 w5 an dn hE hY.1 (fun j => by
              rw [hJ j]
              refine ⟨fun y => ?_, fun y => ?_⟩
              · rcases y with y | ⟨i, y1, y2⟩ | ⟨i, y1, y2⟩
                · exact Or.inl y
                · obtain ⟨m, y3, y4⟩ := (tgA_pt k2 n41 n124).mp y2
                  rw [tgS, if_pos c3] at y3
                  rw [eN] at y4
                  exact Or.inr (Or.inl ⟨m, (hY.2 m).mpr ⟨i, y1, y3⟩, y4⟩)
                · have y3 := (tgB_pt k2 n41 n124).mp y2
                  rw [eN] at y3
                  exact Or.inr (Or.inr ⟨i, y1, y3⟩)
              · rcases y with y | ⟨m, y1, y2⟩ | ⟨i, y1, y2⟩
                · exact Or.inl y
                · obtain ⟨i, y3, y4⟩ := (hY.2 m).mp y1
                  refine Or.inr (Or.inl ⟨i, y3, (tgA_pt k2 n41 n124).mpr ⟨m, ?_, by rw [eN]; exact y2⟩⟩)
                  rw [tgS, if_pos c3]; exact y4
                · exact Or.inr (Or.inr ⟨i, y1, (tgB_pt k2 n41 n124).mpr (by rw [eN]; exact y2)⟩))
            rw [← nI_1 q, ← nI_1 t] at IH
            exact x_goto rfl rfl (x_goto rfl rfl (x_drop 9 IH))
        · obtain ⟨w1, w2, w3⟩ := v_bar V k1 k2 c124
          have dn : tgD (tgY tg) (s + 1 + 1) = d + 1 := by rw [tgD, if_neg (by omega), if_neg n41]; exact k4
          have IH := ih (s + 1) (t + 1) (Ed ||| H) X (by omega) (by omega) w1 w2 (at_1 V w2 (Or.inr c124)) dn (Nat.or_lt_two_pow hE hH) hX (fun j => by
            rw [hJ j, Nat.testBit_or, Bool.or_eq_true]
            refine ⟨fun y => ?_, fun y => ?_⟩
            · rcases y with y | ⟨i, y1, y2⟩ | ⟨i, y1, y2⟩
              · exact Or.inl (Or.inl y)
              · have := (tgA_124 k2 c124).mp y2
                rw [← this]; exact Or.inl (Or.inr y1)
              · rcases (tgB_124 k2 c124).mp y2 with y3 | y3
                · exact Or.inr (Or.inl ⟨i, y1, y3⟩)
                · exact Or.inr (Or.inr ⟨i, y1, y3⟩)
            · rcases y with (y | y) | ⟨i, y1, y2⟩ | ⟨i, y1, y2⟩
              · exact Or.inl y
              · exact Or.inr (Or.inl ⟨j, y, (tgA_124 k2 c124).mpr rfl⟩)
              · exact Or.inr (Or.inr ⟨i, y1, (tgB_124 k2 c124).mpr (Or.inl y2)⟩)
              · exact Or.inr (Or.inr ⟨i, y1, (tgB_124 k2 c124).mpr (Or.inr y2)⟩))
          rw [← xb_or, ← nI_1 s, ← nI_1 t] at IH
          exact x_goto rfl rfl (x_goto rfl rfl IH)
  exact loop (tg.length + 1) a 0 0 X (by omega) (Nat.zero_le _) hin hal hat hdp (by decide) hX (fun j => by
    rw [Nat.zero_testBit]
    refine ⟨fun ⟨i, q1, q2⟩ => q2.elim (fun q => Or.inr (Or.inl ⟨i, q1, q⟩)) (fun q => Or.inr (Or.inr ⟨i, q1, q⟩)), fun q => ?_⟩
    rcases q with q | ⟨i, q1, q2⟩ | ⟨i, q1, q2⟩
    · cases q
    · exact ⟨i, q1, Or.inl q2⟩
    · exact ⟨i, q1, Or.inr q2⟩)
theorem c_sumAll (E : cEv D tg hd) : ∀ r d n, d + r = 6 → sumSpec Γ D tg hd (n + 4 + 3 * r) d
  | 0, d, n, h => c_sumEnds (m0 := n + 1) E (c_partEnds (n := n) E (by omega) (fun z => absurd z (by omega))) (c_partEnds (n := n + 1) E (by omega) (fun z => absurd z (by omega)))
  | r + 1, d, n, h => by
    have i1 := c_sumAll E r (d + 1) n (by omega)
    have i2 := c_sumAll E r (d + 1) (n + 1) (by omega)
    rw [show n + 1 + 4 + 3 * r = n + 4 + 3 * r + 1 by omega] at i2
    have h1 := c_sumEnds (m0 := n + 4 + 3 * r) E (by have z := c_partEnds (d := d) (n := n + 3 + 3 * r) E (by omega) (fun _ => by rw [show n + 3 + 3 * r + 1 = n + 4 + 3 * r by omega]; exact i1); rw [show n + 3 + 3 * r + 2 = n + 4 + 3 * r + 1 by omega] at z; exact z) (c_partEnds (n := n + 4 + 3 * r) E (by omega) (fun _ => i2))
    rw [show n + 4 + 3 * r + 3 = n + 4 + 3 * (r + 1) by omega] at h1
    exact h1
end TZ
