/-! ===== the tongue's faults, as the reference finds them ===== -/
section TM
variable {Γ : xG} {n : Nat} {D : xM} {post : Option Int32 → xM → Prop} {tx : List Nat}
theorem gI_word {c : Nat} (hc : c < 256) : (gI (nI c) 97 106).isSome = true ↔ (97 ≤ c ∧ c < 107) := by
  rw [gI, nI_toInt (by omega)]
  by_cases h : 97 ≤ c ∧ c < 107
  · rw [if_pos (by omega)]; exact ⟨fun _ => h, fun _ => rfl⟩
  · rw [if_neg (by omega)]; exact ⟨fun z => (by cases z), fun z => absurd z h⟩
theorem c_tongueFault (h : mTx D tx) (hT : tx.length ≤ 200 ∧ ∀ c ∈ tx, c < 256) (hp : post (some (xby (tgF tx tx.length 0 0 true false))) D) : xRuns Γ (n + 1) hX9_tongueFault [xR 0 9 111] D post := by
  have hL := hT.1
  generalize hR0 : tgF tx tx.length 0 0 true false = R0 at hp
  refine x_runs kX9_tongueFault (by decide +kernel) rfl ?_
  refine x_to 9 rfl ?_
  have fin : ∀ d (nd my : Bool), (R0 = if nd = true ∨ 0 < d then some tx.length else none) → d ≤ 6 → ∀ v4, xW Γ (n + 1) hX9_tongueFault rX9_tongueFault 199 [some (xR 0 9 111), some (xI (if nd then 1 else 0)), some (xI (if my then 1 else 0)), some (xI (nI d)), v4, none, none, none] [] D post := by
    intro d nd my he hd v4
    have no : (nd = true ∨ 0 < d) → xW Γ (n + 1) hX9_tongueFault rX9_tongueFault 207 [some (xR 0 9 111), some (xI (if nd then 1 else 0)), some (xI (if my then 1 else 0)), some (xI (nI d)), v4, none, none, none] [] D post := by
      intro hn
      rw [he, if_pos hn] at hp
      refine x_goto rfl rfl (x_ret rfl rfl rfl rfl ?_)
      rw [h.1]
      exact hp
    refine x0_ne rfl rfl (fun q => no (Or.inl (bI_1 q))) (fun q => ?_)
    refine x0_le rfl rfl (fun w => ?_) (fun w => no (Or.inr ?_))
    · have w := (nI_le0 (by omega)).mp w
      rw [he, if_neg (fun z => z.elim (fun z => by rw [bI_0 q] at z; cases z) (fun z => by omega))] at hp
      exact x_ret rfl rfl rfl rfl hp
    · have w : ¬ d = 0 := fun z => w ((nI_le0 (by omega)).mpr z)
      omega
  have loop : ∀ g i d (nd my : Bool), i + g = tx.length → R0 = tgF tx g i d nd my → (my = true → nd = false) → d ≤ 6 → xW Γ (n + 1) hX9_tongueFault rX9_tongueFault 9 [some (xR 0 9 111), some (xI (if nd then 1 else 0)), some (xI (if my then 1 else 0)), some (xI (nI d)), some (xI (nI i)), none, none, none] [] D post := by
    intro g
    induction g with
    | zero =>
      intro i d nd my hi he hm hd
      exact xi_geN i tx.length rfl rfl rfl h.1 (by omega) (by omega) (fun _ => fin d nd my he hd _) (fun h => absurd h (by omega))
    | succ g ih =>
      intro i d nd my hi he hm hd
      have hc2 := tx_lt hT.2 i
      have ei : D 114 i = nI (tc tx i) := h.2 i (by omega)
      refine xi_geN i tx.length rfl rfl rfl h.1 (by omega) (by omega) (fun h => absurd h (by omega)) (fun _ => ?_)
      refine x_aldN i rfl rfl rfl (by omega) rfl ?_
      rw [ei]
      rw [tgF] at he
      generalize tc tx i = c at he hc2
      have t3 : ∀ d' (nd' my' : Bool), R0 = tgF tx g (i + 1) d' nd' my' → (my' = true → nd' = false) → d' ≤ 6 → ∀ v6 v7 : Int32, xW Γ (n + 1) hX9_tongueFault rX9_tongueFault 193 [some (xR 0 9 111), some (xI (if nd' then 1 else 0)), some (xI (if my' then 1 else 0)), some (xI (nI d')), some (xI (nI i)), some (xI (nI c)), some (xI v6), some (xI v7)] [] D post := by
        intro d' nd' my' he' hm' hd' v6 v7
        have IH := ih (i + 1) d' nd' my' (by omega) he' hm' hd'
        rw [← nI_1 i] at IH
        exact x_goto rfl rfl (x_drop 5 (x_drop 6 (x_drop 7 IH)))
      refine xi_eqN c 32 rfl rfl rfl rfl (by omega) (by omega) (fun w => ?_) (fun w => ?_)
      · rw [if_pos w] at he
        have IH := ih (i + 1) d nd my (by omega) he hm hd
        rw [← nI_1 i] at IH
        exact x_goto rfl rfl (x_drop 5 IH)
      · rw [if_neg w] at he
        have t2 : ∀ d' (nd' o : Bool), R0 = tgF tx g (i + 1) d' nd' (o || decide (c = 41)) → ((o || decide (c = 41)) = true → nd' = false) → d' ≤ 6 → ∀ v2 v7 : Int32, xW Γ (n + 1) hX9_tongueFault rX9_tongueFault 175 [some (xR 0 9 111), some (xI (if nd' then 1 else 0)), some (xI v2), some (xI (nI d')), some (xI (nI i)), some (xI (nI c)), some (xI (if o then 1 else 0)), some (xI v7)] [] D post := by
          intro d' nd' o he' hm' hd' v2 v7
          cases o with
          | true =>
            refine x0_ne rfl rfl (fun _ => ?_) (fun q => absurd q (by decide))
            exact x_goto rfl rfl (x_to 193 rfl (t3 d' nd' true he' hm' hd' _ _))
          | false =>
            refine x0_ne rfl rfl (fun q => absurd rfl q) (fun _ => ?_)
            refine xi_neN c 41 rfl rfl rfl rfl (by omega) (by omega) (fun z => ?_) (fun z => ?_)
            · rw [decide_eq_false z] at he' hm'
              exact x_to 193 rfl (t3 d' nd' false he' hm' hd' _ _)
            · rw [decide_eq_true z] at he' hm'
              exact x_goto rfl rfl (x_to 193 rfl (t3 d' nd' true he' hm' hd' _ _))
        have t1 : ∀ d' (o : Bool), R0 = tgF tx g (i + 1) d' (decide (c = 40 ∨ c = 124)) (o || decide (c = 41)) → ((o || decide (c = 41)) = true → decide (c = 40 ∨ c = 124) = false) → d' ≤ 6 → ∀ v1 v2 v7 : Int32, xW Γ (n + 1) hX9_tongueFault rX9_tongueFault 155 [some (xR 0 9 111), some (xI v1), some (xI v2), some (xI (nI d')), some (xI (nI i)), some (xI (nI c)), some (xI (if o then 1 else 0)), some (xI v7)] [] D post := by
          intro d' o he' hm' hd' v1 v2 v7
          refine xi_eqN c 40 rfl rfl rfl rfl (by omega) (by omega) (fun z => ?_) (fun z => ?_)
          · rw [decide_eq_true (p := c = 40 ∨ c = 124) (Or.inl z)] at he' hm'
            exact x_goto rfl rfl (x_to 175 rfl (t2 d' true o he' hm' hd' _ _))
          · refine xi_neN c 124 rfl rfl rfl rfl (by omega) (by omega) (fun z2 => ?_) (fun z2 => ?_)
            · rw [decide_eq_false (p := c = 40 ∨ c = 124) (fun q => q.elim z z2)] at he' hm'
              exact x_to 175 rfl (t2 d' false o he' hm' hd' _ _)
            · rw [decide_eq_true (p := c = 40 ∨ c = 124) (Or.inr z2)] at he' hm'
              exact x_goto rfl rfl (x_to 175 rfl (t2 d' true o he' hm' hd' _ _))
        have t0 : ∀ d' (o : Bool), R0 = tgF tx g (i + 1) d' (decide (c = 40 ∨ c = 124)) (o || decide (c = 41)) → ((o || decide (c = 41)) = true → decide (c = 40 ∨ c = 124) = false) → d' ≤ 6 → (c = 40 → d' = d + 1) → (c = 41 → d' = d - 1 ∧ 0 < d) → (c ≠ 40 → c ≠ 41 → d' = d) → ∀ v1 v2 v7 : Int32, xW Γ (n + 1) hX9_tongueFault rX9_tongueFault 129 [some (xR 0 9 111), some (xI v1), some (xI v2), some (xI (nI d)), some (xI (nI i)), some (xI (nI c)), some (xI (if o then 1 else 0)), some (xI v7)] [] D post := by
          intro d' o he' hm' hd' y1 y2 y3 v1 v2 v7
          refine xi_neN c 40 rfl rfl rfl rfl (by omega) (by omega) (fun z => ?_) (fun z => ?_)
          · refine xi_neN c 41 rfl rfl rfl rfl (by omega) (by omega) (fun z2 => ?_) (fun z2 => ?_)
            · obtain rfl := y3 z z2
              have T := t1 d' o he' hm' hd' v1 v2 v7
              have e0 : nI d' + xnum 0 = nI d' := nI_add d' 0
              rw [← e0] at T
              exact x_to 155 rfl T
            · obtain ⟨y, y4⟩ := y2 z2
              have T := t1 d' o he' hm' hd' v1 v2 v7
              rw [y, ← nI_d1 y4] at T
              exact x_goto rfl rfl (x_to 155 rfl T)
          · have y := y1 z
            have T := t1 d' o he' hm' hd' v1 v2 v7
            rw [y, ← nI_1 d] at T
            exact x_goto rfl rfl (x_to 155 rfl T)
        rw [tgStep] at he
        -- what may stand here
        have yes : ∀ d' (o : Bool), R0 = tgF tx g (i + 1) d' (decide (c = 40 ∨ c = 124)) (o || decide (c = 41)) → ((o || decide (c = 41)) = true → decide (c = 40 ∨ c = 124) = false) → d' ≤ 6 → (c = 40 → d' = d + 1) → (c = 41 → d' = d - 1 ∧ 0 < d) → (c ≠ 40 → c ≠ 41 → d' = d) → ∀ v1 v2 : Int32, xW Γ (n + 1) hX9_tongueFault rX9_tongueFault 114 [some (xR 0 9 111), some (xI v1), some (xI v2), some (xI (nI d)), some (xI (nI i)), some (xI (nI c)), some (xI (if o then 1 else 0)), none] [] D post := by
          intro d' o a1 a2 a3 a4 a5 a6 v1 v2
          refine x_goto rfl rfl (x0_ne rfl rfl (fun _ => ?_) (fun q => absurd q (by decide)))
          exact t0 d' o a1 a2 a3 a4 a5 a6 _ _ _
        have nay : R0 = some i → ∀ v1 v2 v6 : Int32, xW Γ (n + 1) hX9_tongueFault rX9_tongueFault 118 [some (xR 0 9 111), some (xI v1), some (xI v2), some (xI (nI d)), some (xI (nI i)), some (xI (nI c)), some (xI v6), none] [] D post := by
          intro he v1 v2 v6
          refine x0_ne rfl rfl (fun q => absurd rfl q) (fun _ => ?_)
          rw [he] at hp
          exact x_ret rfl rfl rfl rfl hp
        have mid : ∀ o : Bool, (o = true ↔ ((97 ≤ c ∧ c < 107) ∨ c = 46)) → xW Γ (n + 1) hX9_tongueFault rX9_tongueFault 63 [some (xR 0 9 111), some (xI (if nd then 1 else 0)), some (xI (if my then 1 else 0)), some (xI (nI d)), some (xI (nI i)), some (xI (nI c)), some (xI (if o then 1 else 0)), none] [] D post := by
          intro o ho
          cases o with
          | true =>
            have w1 := ho.mp rfl
            rw [if_pos w1] at he
            have he : R0 = tgF tx g (i + 1) d false true := he
            refine x0_ne rfl rfl (fun _ => ?_) (fun q => absurd q (by decide))
            have f1 : decide (c = 40 ∨ c = 124) = false := decide_eq_false (by omega)
            exact yes d true (by rw [f1]; exact he) (fun _ => f1) hd (by omega) (by omega) (fun _ _ => rfl) _ _
          | false =>
            have w1 : ¬ ((97 ≤ c ∧ c < 107) ∨ c = 46) := fun z => by have := ho.mpr z; cases this
            rw [if_neg w1] at he
            refine x0_ne rfl rfl (fun q => absurd rfl q) (fun _ => ?_)
            have at103 : nd = false → ¬ (c = 40 ∧ d < 6) → ¬ (c = 41 ∧ 0 < d) → c ≠ 124 → xW Γ (n + 1) hX9_tongueFault rX9_tongueFault 103 [some (xR 0 9 111), some (xI (if nd then 1 else 0)), some (xI (if my then 1 else 0)), some (xI (nI d)), some (xI (nI i)), some (xI (nI c)), some (xI 0), none] [] D post := by
              intro z0 z1 z2 z3
              rw [if_neg z1, if_neg (fun z => z2 ⟨z.1, z.2.1⟩), if_neg (fun z => z3 z.1)] at he
              refine xi_neN c 42 rfl rfl rfl rfl (by omega) (by omega) (fun z4 => ?_) (fun z4 => ?_)
              · rw [if_neg (fun z => z4 z.1)] at he
                exact nay he _ _ _
              · refine x0_eq rfl rfl (fun q => nay ?_ _ _ _) (fun q => ?_)
                · rw [if_neg (by rw [bI_0 q]; simp)] at he; exact he
                · rw [if_pos ⟨z4, bI_1 q⟩] at he
                  have f1 : decide (c = 40 ∨ c = 124) = false := decide_eq_false (by omega)
                  have f2 : decide (c = 41) = false := decide_eq_false (by omega)
                  exact yes d false (by rw [f1, f2]; exact he) (fun _ => f1) hd (by omega) (by omega) (fun _ _ => rfl) _ _
            have at81 : ¬ (c = 40 ∧ d < 6) → xW Γ (n + 1) hX9_tongueFault rX9_tongueFault 81 [some (xR 0 9 111), some (xI (if nd then 1 else 0)), some (xI (if my then 1 else 0)), some (xI (nI d)), some (xI (nI i)), some (xI (nI c)), some (xI 0), none] [] D post := by
              intro z1
              refine x0_ne rfl rfl (fun q => nay ?_ _ _ _) (fun q => ?_)
              · have e1 := bI_1 q
                have e2 : ¬ my = true := fun z => by rw [hm z] at e1; cases e1
                rw [if_neg z1, if_neg (by rw [e1]; simp), if_neg (by rw [e1]; simp), if_neg (fun z => e2 z.2)] at he
                exact he
              · have e1 := bI_0 q
                refine xi_eqN c 124 rfl rfl rfl rfl (by omega) (by omega) (fun z3 => ?_) (fun z3 => ?_)
                · rw [if_neg z1, if_neg (by omega), if_pos ⟨z3, e1⟩] at he
                  have f1 : decide (c = 40 ∨ c = 124) = true := decide_eq_true (Or.inr z3)
                  have f2 : decide (c = 41) = false := decide_eq_false (by omega)
                  exact yes d false (by rw [f1, f2]; exact he) (fun z => by rw [f2] at z; cases z) hd (by omega) (by omega) (fun _ _ => rfl) _ _
                · refine xi_neN c 41 rfl rfl rfl rfl (by omega) (by omega) (fun z4 => at103 e1 z1 (fun z => z4 z.1) z3) (fun z4 => ?_)
                  refine x0_gt rfl rfl (fun q => ?_) (fun q => at103 e1 z1 (fun z => q ((nI_gt0 (by omega)).mpr z.2)) z3)
                  have q := (nI_gt0 (by omega)).mp q
                  rw [if_neg z1, if_pos ⟨z4, q, e1⟩] at he
                  have f1 : decide (c = 40 ∨ c = 124) = false := decide_eq_false (by omega)
                  have f2 : decide (c = 41) = true := decide_eq_true z4
                  exact yes (d - 1) false (by rw [f1, f2]; exact he) (fun _ => f1) (by omega) (by omega) (fun _ => ⟨rfl, q⟩) (by omega) _ _
            refine xi_neN c 40 rfl rfl rfl rfl (by omega) (by omega) (fun z => at81 (fun q => z q.1)) (fun z => ?_)
            refine xi_ltN d 6 rfl rfl rfl rfl (by omega) (by omega) (fun q => ?_) (fun q => at81 (by omega))
            rw [if_pos ⟨z, q⟩] at he
            have f1 : decide (c = 40 ∨ c = 124) = true := decide_eq_true (Or.inl z)
            have f2 : decide (c = 41) = false := decide_eq_false (by omega)
            exact yes (d + 1) false (by rw [f1, f2]; exact he) (fun z => by rw [f2] at z; cases z) (by omega) (fun _ => rfl) (by omega) (by omega) _ _
        refine x_scall [xL (nI c).toInt64, xL (Int64.ofNat 97), xL (Int64.ofNat 106)] rfl rfl rfl rfl rfl rfl rfl (c_inI (lo := 97) (hi := 106) (by decide) (by decide) ?_)
        have gw := gI_word hc2
        by_cases w1 : 97 ≤ c ∧ c < 107
        · rw [gw.mpr w1]
          refine x0_ne rfl rfl (fun _ => ?_) (fun q => absurd q (by decide))
          exact x_goto rfl rfl (x_to 63 rfl (mid true ⟨fun _ => Or.inl w1, fun _ => rfl⟩))
        · rw [if_neg (fun z => w1 (gw.mp z))]
          refine x0_ne rfl rfl (fun q => absurd rfl q) (fun _ => ?_)
          refine xi_neN c 46 rfl rfl rfl rfl (by omega) (by omega) (fun w2 => ?_) (fun w2 => ?_)
          · exact x_to 63 rfl (mid false ⟨fun z => (by cases z), fun z => absurd z (by omega)⟩)
          · exact x_goto rfl rfl (x_to 63 rfl (mid true ⟨fun _ => Or.inr w2, fun _ => rfl⟩))
  exact loop tx.length 0 0 true false (by omega) hR0.symm (fun z => by cases z) (by omega)
end TM
