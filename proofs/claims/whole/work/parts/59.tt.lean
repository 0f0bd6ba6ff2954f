/-! ===== calls: tongue ===== -/
theorem tgc_ne {L : List Nat} (V : tgV L) {p q : Nat} (c1 : L.getD p 0 = 40) (c2 : L.getD q 0 = 40) (h : tgc L p = tgc L q) : p = q := by
  have a := (v_close V c1).2.2.2.2.1
  have b := (v_close V c2).2.2.2.2.1
  rw [h] at a
  omega
section TT
variable {Γ : xG} {n : Nat} {D : xM} {post : Option Int32 → xM → Prop} {tx : List Nat}
theorem c_take (h : cTx D tx) (V : tgV (tgX tx)) (hT : tx.length ≤ 200 ∧ ∀ c ∈ tx, c < 256) (hp : ∀ D', cTg D' (tgL tx) → D' 10 6 = nI (tgM tx tx.length) → (∀ a, (a < 10 ∨ 13 < a) → D' a = D a) → post none D') : xRuns Γ (n + 1) hX6_take [xR 0 6 10, xR 0 5 1] D post := by
  have hL := hT.1
  have xl := tgX_len (tx := tx)
  have kl := tgK_le tx tx.length (Nat.le_refl _)
  have ke := tgK_end (tx := tx)
  have vp := V.2.2.2.2.1
  have v7 := V.2.2.2.2.2.1
  refine x_runs kX6_take (by decide +kernel) rfl ?_
  refine x_to 14 rfl ?_
  have loop : ∀ g i k (D2 : xM), i + g = tx.length → tgK tx i = k → D2 10 5 = nI k → (∀ j, j < k → D2 11 j = nI ((tgL tx).getD j 0)) → D2 10 6 = nI (tgM tx i) → (∀ d, d < tgD (tgX tx) (k + 1) - 1 → D2 13 (tgD (tgX tx) (k + 1) - 2 - d) = nI (tgOpen (tgX tx) (k + 1) d - 1)) → (∀ j, j < k → (tgL tx).getD j 0 = 40 → tgc (tgX tx) (j + 1) < k + 1 → D2 12 j = nI (tgc (tgX tx) (j + 1) - 1)) → (∀ a, (a < 10 ∨ 13 < a) → D2 a = D a) → xW Γ (n + 1) hX6_take rX6_take 14 [some (xR 0 6 10), some (xR 0 5 1), some (xI (nI (tgD (tgX tx) (k + 1) - 1))), some (xI (nI i)), none] [] D2 post := by
    intro g
    induction g with
    | zero =>
      intro i k D2 hi hk q1 q2 q3 q4 q5 q6
      obtain rfl : i = tx.length := by omega
      have e11 : D2 1 1 = nI tx.length := by rw [q6 1 (by omega)]; exact h.1
      refine xi_geN tx.length tx.length rfl rfl rfl e11 (by omega) (by omega) (fun _ => ?_) (fun h => absurd h (by omega))
      have kk : k = (tgL tx).length := by omega
      subst kk
      refine x_vret rfl rfl rfl (hp D2 ⟨q1, q2, fun j hj c => q5 j hj c ?_⟩ q3 q6)
      have c1 : (tgX tx).getD (j + 1) 0 = 40 := by rw [tgX_s hj]; exact c
      have w := v_close V c1
      have t := v_top V
      have ne : tgc (tgX tx) (j + 1) ≠ tgc (tgX tx) 0 := fun z => by have := tgc_ne V c1 V.2.2.1 z; omega
      omega
    | succ g ih =>
      intro i k D2 hi hk q1 q2 q3 q4 q5 q6
      have hc2 := tx_lt hT.2 i
      have e11 : D2 1 1 = nI tx.length := by rw [q6 1 (by omega)]; exact h.1
      have ei : D2 2 i = nI (tc tx i) := by rw [q6 2 (by omega)]; exact h.2 i (by omega)
      have ki := tgK_le tx i (by omega)
      refine xi_geN i tx.length rfl rfl rfl e11 (by omega) (by omega) (fun h => absurd h (by omega)) (fun _ => ?_)
      refine x_aldN i rfl rfl rfl (by omega) rfl ?_
      rw [ei]
      refine xi_neN (tc tx i) 32 rfl rfl rfl rfl (by omega) (by omega) (fun w => ?_) (fun w => ?_)
      · obtain ⟨e1, e2, e3⟩ := tgK_n (by omega) w
        have e4 := tgX_s e2
        rw [e3] at e4
        rw [hk] at e1 e2 e3 e4
        have tm : tgM tx (i + 1) = tgM tx i + if (97 ≤ tc tx i ∧ tc tx i < 107) ∨ tc tx i = 46 then 1 else 0 := rfl
        have dp1 : 0 < tgD (tgX tx) (k + 1) := vp _ (by omega) (by omega)
        have dp2 : 0 < tgD (tgX tx) (k + 2) := vp _ (by omega) (by omega)
        have d71 := v7 (k + 1) (by omega)
        have d72 := v7 (k + 2) (by omega)
        have td : tgD (tgX tx) (k + 2) = if (tgX tx).getD (k + 1) 0 = 40 then tgD (tgX tx) (k + 1) + 1 else if (tgX tx).getD (k + 1) 0 = 41 then tgD (tgX tx) (k + 1) - 1 else tgD (tgX tx) (k + 1) := rfl
        have to : ∀ d, tgOpen (tgX tx) (k + 2) d = if (tgX tx).getD (k + 1) 0 = 40 then (if d = 0 then k + 1 else tgOpen (tgX tx) (k + 1) (d - 1)) else if (tgX tx).getD (k + 1) 0 = 41 then tgOpen (tgX tx) (k + 1) (d + 1) else tgOpen (tgX tx) (k + 1) d := fun d => by rw [tgOpen]
        generalize tc tx i = c at w e3 e4 tm hc2
        rw [e4] at td to
        have t127 : ∀ D3 : xM, D3 10 5 = nI k → (∀ j, j < k → D3 11 j = nI ((tgL tx).getD j 0)) → D3 10 6 = nI (tgM tx (i + 1)) → (∀ d, d < tgD (tgX tx) (k + 2) - 1 → D3 13 (tgD (tgX tx) (k + 2) - 2 - d) = nI (tgOpen (tgX tx) (k + 2) d - 1)) → (∀ j, j < k + 1 → (tgL tx).getD j 0 = 40 → tgc (tgX tx) (j + 1) < k + 2 → D3 12 j = nI (tgc (tgX tx) (j + 1) - 1)) → (∀ a, (a < 10 ∨ 13 < a) → D3 a = D a) → xW Γ (n + 1) hX6_take rX6_take 127 [some (xR 0 6 10), some (xR 0 5 1), some (xI (nI (tgD (tgX tx) (k + 2) - 1))), some (xI (nI i)), some (xI (nI c))] [] D3 post := by
          intro D3 p1 p2 p3 p4 p5 p6
          refine x_astN k rfl rfl p1 (by omega) rfl ?_
          have e : xup D3 11 k (nI c) 10 5 + xnum 1 = nI (k + 1) := by rw [xup_o (by omega), p1]; exact nI_1 _
          have IH := ih (i + 1) (k + 1) (xup (xup D3 11 k (nI c)) 10 5 (nI (k + 1))) (by omega) e1 (by rw [xup_at]) (fun j hj => by
            rw [xup_o (by omega)]
            by_cases z : j = k
            · rw [z, xup_at, e3]
            · rw [xup_o (by omega)]; exact p2 j (by omega)) (by rw [xup_o (by omega), xup_o (by omega)]; exact p3) (fun d hd => by rw [xup_o (by omega), xup_o (by omega)]; exact p4 d hd) (fun j hj z1 z2 => by rw [xup_o (by omega), xup_o (by omega)]; exact p5 j hj z1 z2) (fun a ha => by rw [xup_ne a (by omega), xup_ne a (by omega)]; exact p6 a ha)
          rw [← e, ← nI_1 i] at IH
          exact x_goto rfl rfl (x_drop 4 IH)
        have old : c ≠ 41 → ∀ j, j < k + 1 → (tgL tx).getD j 0 = 40 → tgc (tgX tx) (j + 1) < k + 2 → D2 12 j = nI (tgc (tgX tx) (j + 1) - 1) := by
          intro z j hj z1 z2
          have c1 : (tgX tx).getD (j + 1) 0 = 40 := by rw [tgX_s (by omega)]; exact z1
          have v := v_close V c1
          have ne : tgc (tgX tx) (j + 1) ≠ k + 1 := fun y => by rw [y, e4] at v; exact z v.2.2.2.1
          exact q5 j (by omega) z1 (by omega)
        have at101 : c ≠ 40 → c ≠ 41 → xW Γ (n + 1) hX6_take rX6_take 101 [some (xR 0 6 10), some (xR 0 5 1), some (xI (nI (tgD (tgX tx) (k + 1) - 1))), some (xI (nI i)), some (xI (nI c))] [] D2 post := by
          intro n40 n41
          rw [if_neg n40, if_neg n41] at td
          have to : ∀ d, tgOpen (tgX tx) (k + 2) d = tgOpen (tgX tx) (k + 1) d := fun d => by rw [to d, if_neg n40, if_neg n41]
          have T := t127
          rw [td] at T
          have one : ((97 ≤ c ∧ c < 107) ∨ c = 46) → xW Γ (n + 1) hX6_take rX6_take 117 [some (xR 0 6 10), some (xR 0 5 1), some (xI (nI (tgD (tgX tx) (k + 1) - 1))), some (xI (nI i)), some (xI (nI c))] [] D2 post := by
            intro z
            rw [if_pos z] at tm
            refine x_to 127 rfl ?_
            have e : D2 10 6 + xnum 1 = nI (tgM tx (i + 1)) := by rw [q3, tm]; exact nI_1 _
            rw [e]
            exact T _ (by rw [xup_o (by omega)]; exact q1) (fun j hj => by rw [xup_o (by omega)]; exact q2 j hj) (by rw [xup_at]) (fun d hd => by rw [xup_o (by omega), to]; exact q4 d hd) (fun j hj z1 z2 => by rw [xup_o (by omega)]; exact old n41 j hj z1 z2) (fun a ha => by rw [xup_ne a (by omega)]; exact q6 a ha)
          refine xi_eqN c 46 rfl rfl rfl rfl (by omega) (by omega) (fun z => one (Or.inr z)) (fun z => ?_)
          refine x_scall [xI (nI c)] rfl rfl rfl rfl rfl rfl rfl (c_wordOf hc2 ?_)
          rw [tWo]
          by_cases w1 : 97 ≤ c ∧ c < 107
          · rw [if_pos w1]
            exact xi_eq rfl rfl (fun q => absurd q (nI_nm1 (by omega))) (fun _ => one (Or.inl w1))
          · rw [if_neg w1]
            rw [if_neg (fun y => y.elim w1 z)] at tm
            refine xi_eq rfl rfl (fun _ => ?_) (fun q => absurd rfl q)
            exact T D2 q1 q2 (by rw [tm]; exact q3) (fun d hd => by rw [to]; exact q4 d hd) (old n41) q6
        refine xi_neN c 40 rfl rfl rfl rfl (by omega) (by omega) (fun n40 => ?_) (fun c40 => ?_)
        · refine xi_neN c 41 rfl rfl rfl rfl (by omega) (by omega) (fun n41 => at101 n40 n41) (fun c41 => ?_)
          rw [if_neg n40, if_pos c41] at td
          have to : ∀ d, tgOpen (tgX tx) (k + 2) d = tgOpen (tgX tx) (k + 1) (d + 1) := fun d => by rw [to d, if_neg n40, if_pos c41]
          rw [if_neg (by omega)] at tm
          have hin : tgIn (tgX tx) (tgOpen (tgX tx) (k + 1) 0) (k + 1) 0 := ⟨rfl, dp1⟩
          have hc := tgc_cl hin (by rw [e4]; exact c41) (by omega)
          have q40 := q4 0 (by omega)
          obtain ⟨i1, i2, -, -⟩ := tgIn_sc _ _ _ hin
          generalize hP : tgOpen (tgX tx) (k + 1) 0 = P at hin hc q40 i1 i2
          have p0 : P ≠ 0 := fun z => by
            have t := v_top V
            rw [z] at hc
            omega
          refine x0_le rfl rfl (fun z => absurd ((nI_le0 (by omega)).mp z) (by omega)) (fun _ => ?_)
          have ed : nI (tgD (tgX tx) (k + 1) - 1) + xnum (-1) = nI (tgD (tgX tx) (k + 1) - 2 - 0) := by
            rw [nI_d1 (by omega)]; exact congrArg nI (by omega)
          refine x_aldN (tgD (tgX tx) (k + 1) - 2 - 0) rfl rfl ed (by omega) rfl ?_
          rw [q40]
          refine x_astN (P - 1) rfl rfl rfl (by omega) rfl ?_
          have T := t127 (xup D2 12 (P - 1) (nI k)) (by rw [xup_o (by omega)]; exact q1) (fun j hj => by rw [xup_o (by omega)]; exact q2 j hj) (by rw [xup_o (by omega), tm]; exact q3) (fun d hd => by
            rw [xup_o (by omega), to, td]
            have := q4 (d + 1) (by omega)
            rw [show tgD (tgX tx) (k + 1) - 1 - 2 - d = tgD (tgX tx) (k + 1) - 2 - (d + 1) by omega]
            exact this) (fun j hj z1 z2 => by
            have c1 : (tgX tx).getD (j + 1) 0 = 40 := by rw [tgX_s (by omega)]; exact z1
            by_cases z : j = P - 1
            · rw [z, xup_at, show P - 1 + 1 = P by omega, hc]
              exact congrArg nI (by omega)
            · rw [xup_o (by omega)]
              have ne : tgc (tgX tx) (j + 1) ≠ k + 1 := fun y => by
                have := tgc_ne V c1 i2 (by rw [y, hc])
                omega
              have jk : j ≠ k := fun y => by rw [y, e3] at z1; omega
              exact q5 j (by omega) z1 (by omega)) (fun a ha => by rw [xup_ne a (by omega)]; exact q6 a ha)
          rw [td, show tgD (tgX tx) (k + 1) - 1 - 1 = tgD (tgX tx) (k + 1) - 2 - 0 by omega, ← ed, ← q1] at T
          exact x_goto rfl rfl T
        · rw [if_pos c40] at td
          have to : ∀ d, tgOpen (tgX tx) (k + 2) d = if d = 0 then k + 1 else tgOpen (tgX tx) (k + 1) (d - 1) := fun d => by rw [to d, if_pos c40]
          rw [if_neg (by omega)] at tm
          refine xi_geN (tgD (tgX tx) (k + 1) - 1) 6 rfl rfl rfl rfl (by omega) (by omega) (fun z => absurd z (by omega)) (fun _ => ?_)
          refine x_astN (tgD (tgX tx) (k + 1) - 1) rfl rfl rfl (by omega) rfl ?_
          have T := t127 (xup D2 13 (tgD (tgX tx) (k + 1) - 1) (nI k)) (by rw [xup_o (by omega)]; exact q1) (fun j hj => by rw [xup_o (by omega)]; exact q2 j hj) (by rw [xup_o (by omega), tm]; exact q3) (fun d hd => by
            rw [to, td]
            by_cases z : d = 0
            · rw [if_pos z, z, show tgD (tgX tx) (k + 1) + 1 - 2 - 0 = tgD (tgX tx) (k + 1) - 1 by omega, xup_at]
              rfl
            · rw [if_neg z, xup_o (by omega)]
              have := q4 (d - 1) (by omega)
              rw [show tgD (tgX tx) (k + 1) + 1 - 2 - d = tgD (tgX tx) (k + 1) - 2 - (d - 1) by omega]
              exact this) (fun j hj z1 z2 => by rw [xup_o (by omega)]; exact old (by omega) j hj z1 z2) (fun a ha => by rw [xup_ne a (by omega)]; exact q6 a ha)
          rw [td, show tgD (tgX tx) (k + 1) + 1 - 1 = tgD (tgX tx) (k + 1) - 1 + 1 by omega, ← nI_1 (tgD (tgX tx) (k + 1) - 1), ← q1] at T
          exact x_goto rfl rfl T
      · have e1 := tgK_b (by omega) w
        have tm : tgM tx (i + 1) = tgM tx i + if (97 ≤ tc tx i ∧ tc tx i < 107) ∨ tc tx i = 46 then 1 else 0 := rfl
        rw [if_neg (by omega)] at tm
        have IH := ih (i + 1) k D2 (by omega) (by rw [e1]; exact hk) q1 q2 (by rw [tm]; exact q3) q4 q5 q6
        rw [← nI_1 i] at IH
        exact x_goto rfl rfl (x_goto rfl rfl (x_drop 4 IH))
  have d1 : tgD (tgX tx) (0 + 1) = 1 := by rw [tgD, if_pos V.2.2.1]; rfl
  have L0 := loop tx.length 0 0 (xup (xup D 10 5 (nI 0)) 10 6 (nI 0)) (by omega) tgK_0 (by rw [xup_o (by omega), xup_at]) (fun j hj => absurd hj (Nat.not_lt_zero j)) (by rw [xup_at]; rfl) (fun d hd => absurd hd (by omega)) (fun j hj => absurd hj (Nat.not_lt_zero j)) (fun a ha => by rw [xup_ne a (by omega), xup_ne a (by omega)])
  rw [d1] at L0
  exact L0
end TT
