/-! ===== the reference lays its tongue ===== -/
section TL
variable {Γ : xG} {n : Nat} {D : xM} {post : Option Int32 → xM → Prop} {L : List Nat} {tx : List Nat}
theorem c_layTongue (V : tgV L) (h9 : D 111 9 = nI L.length) (hl : rL D 118 L) (hp : ∀ D', (∀ k, k < L.length → D' 120 k = nI (tgb L k) ∧ (L.getD k 0 = 40 → D' 119 k = nI (tgc L k))) → (∀ a, a ≠ 119 → a ≠ 120 → a ≠ 135 → D' a = D a) → post none D') : xRuns Γ n hX9_layTongue [xR 0 9 111] D post := by
  have v1 := V.1
  have vp := V.2.2.2.2.1
  have v7 := V.2.2.2.2.2.1
  have sg : ∀ x, x < L.length → L.getD x 0 < 256 := fun x hx => by
    have := V.2.2.2.2.2.2.2 x hx
    unfold tgSg at this
    omega
  refine x_runs kX9_layTongue (by decide +kernel) rfl ?_
  refine x_to 4 rfl ?_
  have loop : ∀ g k (D2 : xM), k + g = L.length → (∀ d, d < tgD L k → D2 135 (tgD L k - 1 - d) = nI (tgOpen L k d)) → (∀ x, x < k → D2 120 x = nI (tgb L x)) → (∀ p, p < k → L.getD p 0 = 40 → tgc L p < k → D2 119 p = nI (tgc L p)) → (∀ a, a ≠ 119 → a ≠ 120 → a ≠ 135 → D2 a = D a) → xW Γ n hX9_layTongue rX9_layTongue 4 [some (xR 0 9 111), some (xI (nI (tgD L k))), some (xI (nI k)), none] [] D2 post := by
    intro g
    induction g with
    | zero =>
      intro k D2 hk q1 q2 q3 q4
      obtain rfl : k = L.length := by omega
      refine xi_geN L.length L.length rfl rfl rfl (by rw [q4 111 (by omega) (by omega) (by omega)]; exact h9) (by omega) (by omega) (fun _ => ?_) (fun h => absurd h (by omega))
      exact x_vret rfl rfl rfl (hp D2 (fun k hk => ⟨q2 k hk, fun c => q3 k hk c (v_close V c).2.2.1⟩) q4)
    | succ g ih =>
      intro k D2 hk q1 q2 q3 q4
      have hkl : k < L.length := by omega
      have hc2 := sg k hkl
      have ek : D2 118 k = nI (L.getD k 0) := by rw [q4 118 (by omega) (by omega) (by omega)]; exact hl k hkl
      have td : tgD L (k + 1) = if L.getD k 0 = 40 then tgD L k + 1 else if L.getD k 0 = 41 then tgD L k - 1 else tgD L k := rfl
      have to : ∀ d, tgOpen L (k + 1) d = if L.getD k 0 = 40 then (if d = 0 then k else tgOpen L k (d - 1)) else if L.getD k 0 = 41 then tgOpen L k (d + 1) else tgOpen L k d := fun d => by rw [tgOpen]
      have d7 := v7 k (by omega)
      have d8 := v7 (k + 1) (by omega)
      refine xi_geN k L.length rfl rfl rfl (by rw [q4 111 (by omega) (by omega) (by omega)]; exact h9) (by omega) (by omega) (fun h => absurd h (by omega)) (fun _ => ?_)
      refine x_aldN k rfl rfl rfl (by omega) rfl ?_
      rw [ek]
      refine x_astN k rfl rfl rfl (by omega) rfl ?_
      have t124 : ∀ D3 : xM, (∀ d, d < tgD L (k + 1) → D3 135 (tgD L (k + 1) - 1 - d) = nI (tgOpen L (k + 1) d)) → D3 120 k = nI (tgb L k) → (∀ x, x < k → D3 120 x = D2 120 x) → (∀ p, p < k + 1 → L.getD p 0 = 40 → tgc L p < k + 1 → D3 119 p = nI (tgc L p)) → (∀ a, a ≠ 119 → a ≠ 120 → a ≠ 135 → D3 a = D2 a) → xW Γ n hX9_layTongue rX9_layTongue 124 [some (xR 0 9 111), some (xI (nI (tgD L (k + 1)))), some (xI (nI k)), some (xI (nI (L.getD k 0)))] [] D3 post := by
        intro D3 p1 p2 p3 p4 p5
        have IH := ih (k + 1) D3 (by omega) p1 (fun x hx => by
          by_cases z : x = k
          · rw [z]; exact p2
          · rw [p3 x (by omega)]; exact q2 x (by omega)) p4 (fun a w1 w2 w3 => by rw [p5 a w1 w2 w3]; exact q4 a w1 w2 w3)
        rw [← nI_1 k] at IH
        exact x_goto rfl rfl (x_drop 3 IH)
      have old : L.getD k 0 ≠ 41 → ∀ p, p < k + 1 → L.getD p 0 = 40 → tgc L p < k + 1 → D2 119 p = nI (tgc L p) := by
        intro z p hpk z1 z2
        have v := v_close V z1
        have ne : tgc L p ≠ k := fun y => by rw [y] at v; exact z v.2.2.2.1
        exact q3 p (by omega) z1 (by omega)
      have k0 : L.getD k 0 ≠ 40 → 0 < k := fun z => by
        by_cases y : k = 0
        · rw [y] at z; exact absurd V.2.2.1 z
        · omega
      generalize hcc : L.getD k 0 = c at hc2 td to t124 old k0
      refine xi_neN c 40 rfl rfl rfl rfl (by omega) (by omega) (fun n40 => ?_) (fun c40 => ?_)
      · have k0 := k0 n40
        have dk := vp k k0 hkl
        refine xi_neN c 41 rfl rfl rfl rfl (by omega) (by omega) (fun n41 => ?_) (fun c41 => ?_)
        · rw [if_neg n40, if_neg n41] at td
          have to : ∀ d, tgOpen L (k + 1) d = tgOpen L k d := fun d => by rw [to d, if_neg n40, if_neg n41]
          have T := t124
          rw [td] at T
          refine xi_neN c 124 rfl rfl rfl rfl (by omega) (by omega) (fun n124 => ?_) (fun c124 => ?_)
          · refine xi_neN c 42 rfl rfl rfl rfl (by omega) (by omega) (fun n42 => ?_) (fun c42 => ?_)
            · refine T _ (fun d hd => by rw [xup_o (by omega), to]; exact q1 d hd) (by rw [xup_at, tgb_ot k0 (by omega) (by omega) (by omega)]) (fun x hx => by rw [xup_o (by omega)]) (fun p hp1 z1 z2 => by rw [xup_o (by omega)]; exact old n41 p hp1 z1 z2) (fun a w1 w2 w3 => xup_ne a w2)
            · refine x_aldN (k - 1) rfl rfl (pk_sub (b := 1) (by omega)) (by omega) rfl ?_
              refine x_astN k rfl rfl rfl (by omega) rfl ?_
              rw [xup_o (by omega)]
              refine T _ (fun d hd => by rw [xup_o (by omega), xup_o (by omega), to]; exact q1 d hd) (by
                rw [xup_at, q2 (k - 1) (by omega)]
                have := tgb_st (L := L) (k := k - 1) (by rw [show k - 1 + 1 = k by omega]; omega)
                rw [show k - 1 + 1 = k by omega] at this
                rw [this]) (fun x hx => by rw [xup_o (by omega), xup_o (by omega)]) (fun p hp1 z1 z2 => by rw [xup_o (by omega), xup_o (by omega)]; exact old n41 p hp1 z1 z2) (fun a w1 w2 w3 => by rw [xup_ne a w2, xup_ne a w2])
          · have q10 := q1 0 dk
            refine x_aldN (tgD L k - 1 - 0) rfl rfl (pk_sub (b := 1) dk) (by omega) rfl ?_
            refine x_astN k rfl rfl rfl (by omega) rfl ?_
            rw [xup_o (by omega), q10]
            refine x_goto rfl rfl ?_
            refine T _ (fun d hd => by rw [xup_o (by omega), xup_o (by omega), to]; exact q1 d hd) (by rw [xup_at, tgb_op k0 (Or.inr (by omega))]) (fun x hx => by rw [xup_o (by omega), xup_o (by omega)]) (fun p hp1 z1 z2 => by rw [xup_o (by omega), xup_o (by omega)]; exact old n41 p hp1 z1 z2) (fun a w1 w2 w3 => by rw [xup_ne a w2, xup_ne a w2])
        · rw [if_neg n40, if_pos c41] at td
          have to : ∀ d, tgOpen L (k + 1) d = tgOpen L k (d + 1) := fun d => by rw [to d, if_neg n40, if_pos c41]
          have q10 := q1 0 dk
          have hin : tgIn L (tgOpen L k 0) k 0 := ⟨rfl, dk⟩
          have hc := tgc_cl hin (by omega) (by omega)
          obtain ⟨i1, i2, -, -⟩ := tgIn_sc _ _ _ hin
          have tb := tgb_op (L := L) k0 (Or.inl (by omega))
          generalize hP : tgOpen L k 0 = P at hin hc q10 i1 i2 tb
          have ed : nI (tgD L k) + xnum (-1) = nI (tgD L k - 1 - 0) := nI_d1 dk
          refine x_aldN (tgD L k - 1 - 0) rfl rfl ed (by omega) rfl ?_
          refine x_astN k rfl rfl rfl (by omega) rfl ?_
          rw [xup_o (by omega), q10]
          refine x_aldN (tgD L k - 1 - 0) rfl rfl ed (by omega) rfl ?_
          rw [xup_o (by omega), xup_o (by omega), q10]
          refine x_astN P rfl rfl rfl (by omega) rfl ?_
          have T := t124 (xup (xup (xup D2 120 k (nI k)) 120 k (nI P)) 119 P (nI k)) (fun d hd => by
            rw [xup_o (by omega), xup_o (by omega), xup_o (by omega), to, td]
            have := q1 (d + 1) (by omega)
            rw [show tgD L k - 1 - 1 - d = tgD L k - 1 - (d + 1) by omega]
            exact this) (by rw [xup_o (by omega), xup_at, tb]) (fun x hx => by rw [xup_o (by omega), xup_o (by omega), xup_o (by omega)]) (fun p hp1 z1 z2 => by
            by_cases z : p = P
            · rw [z, xup_at, hc]
            · rw [xup_o (by omega), xup_o (by omega), xup_o (by omega)]
              have ne : tgc L p ≠ k := fun y => z (tgc_ne V z1 i2 (by rw [y, hc]))
              have pk : p ≠ k := fun y => by rw [y] at z1; omega
              exact q3 p (by omega) z1 (by omega)) (fun a w1 w2 w3 => by rw [xup_ne a w1, xup_ne a w2, xup_ne a w2])
          rw [td, show tgD L k - 1 = tgD L k - 1 - 0 by omega, ← ed] at T
          exact x_goto rfl rfl T
      · rw [if_pos c40] at td
        have to : ∀ d, tgOpen L (k + 1) d = if d = 0 then k else tgOpen L k (d - 1) := fun d => by rw [to d, if_pos c40]
        refine x_astN (tgD L k) rfl rfl rfl (by omega) rfl ?_
        have tb : tgb L k = k := by
          by_cases y : k = 0
          · rw [y]; rfl
          · exact tgb_ot (by omega) (by omega) (by omega) (by omega)
        have T := t124 (xup (xup D2 120 k (nI k)) 135 (tgD L k) (nI k)) (fun d hd => by
          rw [to, td]
          by_cases z : d = 0
          · rw [if_pos z, z, show tgD L k + 1 - 1 - 0 = tgD L k by omega, xup_at]
          · rw [if_neg z, xup_o (by omega), xup_o (by omega)]
            have := q1 (d - 1) (by omega)
            rw [show tgD L k + 1 - 1 - d = tgD L k - 1 - (d - 1) by omega]
            exact this) (by rw [xup_o (by omega), xup_at, tb]) (fun x hx => by rw [xup_o (by omega), xup_o (by omega)]) (fun p hp1 z1 z2 => by rw [xup_o (by omega), xup_o (by omega)]; exact old (by omega) p hp1 z1 z2) (fun a w1 w2 w3 => by rw [xup_ne a w3, xup_ne a w2])
        rw [td, ← nI_1 (tgD L k)] at T
        exact x_goto rfl rfl T
  exact loop L.length 0 D (by omega) (fun d hd => absurd hd (Nat.not_lt_zero d)) (fun x hx => absurd hx (Nat.not_lt_zero x)) (fun p hp1 => absurd hp1 (Nat.not_lt_zero p)) (fun _ _ _ _ => rfl)
end TL
def aTongue (G : gS) : Int32 × gS := match tgF G.tx G.tx.length 0 0 true false with
  | some _ => (-4, G)
  | none => (nI (tgM G.tx G.tx.length), gmk [] (tgL G.tx) G.told G.now G.past G.kept G.seen G.reel)
section TL2
variable {Γ : xG} {n : Nat} {D : xM} {post : Option Int32 → xM → Prop} {G : gS}
theorem a_tongue (h : RelC D G) (hg : gok G) (hp : ∀ D', RelC D' (aTongue G).2 → (∀ a, 111 ≤ a → D' a = D a) → post (some (aTongue G).1) D') : xRuns Γ (n + 3) hX8_tongue [xR 0 8 0] D post := by
  have hL := hg.1.1
  refine x_runs kX8_tongue (by decide +kernel) rfl ?_
  rw [aTongue] at hp
  refine x_scall [xR 0 5 1] rfl rfl rfl rfl rfl rfl rfl (c_faultIn h.2.2.1 hg.1 (fun D1 q1 q2 q3 => ?_))
  have rc : RelC D1 G := RelC_rd h q1 q2 (fun a w1 w2 _ => q3 a w1)
  rcases hf : tgF G.tx G.tx.length 0 0 true false with _ | p
  · rw [hf] at hp
    have V := tgX_ok hL hf
    refine xi_eq rfl rfl (fun _ => ?_) (fun q => absurd rfl q)
    refine x_call [xR 0 5 1] rfl rfl rfl rfl rfl rfl rfl (c_take rc.2.2.1 V.1 hg.1 (fun D2 k1 k2 k3 => ?_))
    refine x_call [] rfl rfl rfl rfl rfl rfl rfl ?_
    refine x_runs kX5_clear (by decide +kernel) rfl ?_
    refine x_vret rfl rfl rfl ?_
    refine x_ret rfl rfl rfl rfl ?_
    rw [xup_o (by omega), k2]
    have ea : ∀ a, a ≠ 1 → (a < 10 ∨ 13 < a) → xup D2 1 1 (xnum 0) a = D1 a := fun a w1 w2 => by rw [xup_ne a w1, k3 a w2]
    refine hp _ ?_ (fun a ha => by rw [ea a (by omega) (by omega)]; exact q3 a (by omega))
    obtain ⟨h1, h2, h3, h4, h5, h6, h7⟩ := rc
    exact ⟨rW_out h1 (fun a ha hb => ea a (by omega) (by omega)), rW_out h2 (fun a ha hb => ea a (by omega) (by omega)), ⟨by rw [xup_at]; rfl, fun j hj => absurd hj (Nat.not_lt_zero j)⟩, cHi_out h4 (fun a ha hb => ea a (by omega) (by omega)), cSe_out h5 (fun a ha hb => ea a (by omega) (by omega)), cRe_out h6 (fun a ha hb => ea a (by omega) (by omega)), cTg_out k1 (xup_o (by omega)) (xup_ne 11 (by omega)) (xup_ne 12 (by omega))⟩
  · rw [hf] at hp
    have := tgF_le G.tx _ 0 0 true false p (by omega) hf
    refine xi_eq rfl rfl (fun q => absurd q (nI_nm1 (by omega))) (fun _ => ?_)
    exact x_ret rfl rfl rfl rfl (hp D1 rc (fun a ha => q3 a (by omega)))
theorem am_tongue (h : RelM D G) (hg : gok G) (hp : ∀ D', RelM D' (aTongue G).2 → (∀ a, a < 111 → D' a = D a) → post (some (aTongue G).1) D') : xRuns Γ (n + 2) hX9_tongue [xR 0 9 111] D post := by
  have hL := hg.1.1
  have hT := hg.1
  refine x_runs kX9_tongue (by decide +kernel) rfl ?_
  rw [aTongue] at hp
  refine x_call [] rfl rfl rfl rfl rfl rfl rfl (c_tongueFault h.2.2.1 hg.1 ?_)
  rcases hf : tgF G.tx G.tx.length 0 0 true false with _ | p
  · rw [hf] at hp
    obtain ⟨V, hne⟩ := tgX_ok hL hf
    refine xi_eq rfl rfl (fun _ => ?_) (fun q => absurd rfl q)
    refine x_astN 0 rfl rfl rfl (by omega) rfl ?_
    refine x_to 28 rfl ?_
    have xl := tgX_len (tx := G.tx)
    have kl := tgK_le G.tx G.tx.length (Nat.le_refl _)
    have ke := tgK_end (tx := G.tx)
    have loop : ∀ g i k (D2 : xM), i + g = G.tx.length → tgK G.tx i = k → D2 111 9 = nI (k + 1) → (∀ j, j < k + 1 → D2 118 j = nI ((tgX G.tx).getD j 0)) → (∀ a j, ¬ (a = 111 ∧ j = 9) → a ≠ 118 → D2 a j = D a j) → xW Γ (n + 2) hX9_tongue rX9_tongue 28 [some (xR 0 9 111), some (xI (nI (tgM G.tx i))), some (xI (nI i))] [] D2 post := by
      intro g
      induction g with
      | zero =>
        intro i k D2 hi hk q1 q2 q3
        obtain rfl : i = G.tx.length := by omega
        have kk : k = (tgL G.tx).length := by omega
        subst kk
        refine xi_geN G.tx.length G.tx.length rfl rfl rfl (by rw [q3 111 4 (by omega) (by omega)]; exact h.2.2.1.1) (by omega) (by omega) (fun _ => ?_) (fun h => absurd h (by omega))
        refine x_astN ((tgL G.tx).length + 1) rfl rfl q1 (by omega) rfl ?_
        have e : xup D2 118 ((tgL G.tx).length + 1) (xnum 41) 111 9 + xnum 1 = nI (tgX G.tx).length := by
          rw [xup_o (by omega), q1, xl]; exact nI_1 _
        refine x_to 138 rfl ?_
        rw [e]
        refine x_call [] rfl rfl rfl rfl rfl rfl rfl (c_layTongue (L := tgX G.tx) V (by rw [xup_at]) (fun j hj => ?_) (fun D3 k1 k2 => ?_))
        · rw [xup_o (by omega)]
          by_cases z : j = (tgL G.tx).length + 1
          · rw [z, xup_at, tgX_e]; rfl
          · rw [xup_o (by omega)]; exact q2 j (by omega)
        · refine x_ret rfl rfl rfl rfl ?_
          have ea : ∀ a j, ¬ (a = 111 ∧ (j = 9 ∨ j = 4)) → a ≠ 118 → a ≠ 119 → a ≠ 120 → a ≠ 135 → xup D3 111 4 (xnum 0) a j = D a j := fun a j w1 w2 w3 w4 w5 => by
            rw [xup_o (by omega), k2 a w3 w4 w5, xup_o (by omega), xup_o (by omega)]; exact q3 a j (by omega) w2
          have ef : ∀ a, a ≠ 111 → a ≠ 118 → a ≠ 119 → a ≠ 120 → a ≠ 135 → xup D3 111 4 (xnum 0) a = D a := fun a w1 w2 w3 w4 w5 => funext fun j => ea a j (by omega) w2 w3 w4 w5
          refine hp _ ?_ (fun a ha => ef a (by omega) (by omega) (by omega) (by omega) (by omega))
          obtain ⟨⟨h1, h1z⟩, h2, h3, h4, h5, h6, h7, h8⟩ := h
          obtain ⟨g1, g2, g3, g4, g5, g6, g7⟩ := hg
          have e112 := ef 112 (by omega) (by omega) (by omega) (by omega) (by omega)
          refine ⟨⟨rM_out h1 g2.1 g2.2.1 (fun j _ _ => by rw [e112]), mZ_out h1z (fun j _ _ => by rw [e112]) (fun a ha hb => ef a (by omega) (by omega) (by omega) (by omega) (by omega))⟩, rM_out h2 g3.1.1 g3.1.2.1 (fun j _ _ => by rw [e112]), ⟨by rw [xup_at]; rfl, fun j hj => absurd hj (Nat.not_lt_zero j)⟩, mHi_out h4 g4.1 (fun S hS => (g4.2 S hS).1) (fun k S hk hS => (g5 k S hk hS).1) (ea 111 1 (by omega) (by omega) (by omega) (by omega) (by omega)) (fun j _ _ => by rw [e112]) (ef 113 (by omega) (by omega) (by omega) (by omega) (by omega)), mSe_out h5 (ea 111 5 (by omega) (by omega) (by omega) (by omega) (by omega)) (fun a ha hb => ef a (by omega) (by omega) (by omega) (by omega) (by omega)), mRe_out h6 (fun a ha hb => ef a (by omega) (by omega) (by omega) (by omega) (by omega)), ⟨?_, fun _ => ⟨fun j hj => ?_, fun k hk => ⟨?_, fun c => ?_⟩⟩⟩, mSp_out h8 (ef 138 (by omega) (by omega) (by omega) (by omega) (by omega)) (ef 139 (by omega) (by omega) (by omega) (by omega) (by omega))⟩
          · show xup D3 111 4 (xnum 0) 111 9 = nI (if (tgL G.tx).length = 0 then 0 else (tgL G.tx).length + 2)
            rw [if_neg hne, xup_o (by omega), k2 111 (by omega) (by omega) (by omega), xup_at, xl]
          · have hj : j < (tgX G.tx).length := hj
            show xup D3 111 4 (xnum 0) 118 j = nI ((tgX G.tx).getD j 0)
            rw [xup_o (by omega), k2 118 (by omega) (by omega) (by omega), xup_o (by omega)]
            by_cases z : j = (tgL G.tx).length + 1
            · rw [z, xup_at, tgX_e]; rfl
            · rw [xup_o (by omega)]; exact q2 j (by omega)
          · have hk : k < (tgL G.tx).length + 2 := hk
            rw [xup_o (by omega)]; exact (k1 k (by omega)).1
          · have hk : k < (tgL G.tx).length + 2 := hk
            rw [xup_o (by omega)]; exact (k1 k (by omega)).2 c
      | succ g ih =>
        intro i k D2 hi hk q1 q2 q3
        have hc2 := tx_lt hT.2 i
        have ki := tgK_le G.tx i (by omega)
        have tm : tgM G.tx (i + 1) = tgM G.tx i + if (97 ≤ tc G.tx i ∧ tc G.tx i < 107) ∨ tc G.tx i = 46 then 1 else 0 := rfl
        have ei : D2 114 i = nI (tc G.tx i) := by rw [q3 114 i (by omega) (by omega)]; exact h.2.2.1.2 i (by omega)
        refine xi_geN i G.tx.length rfl rfl rfl (by rw [q3 111 4 (by omega) (by omega)]; exact h.2.2.1.1) (by omega) (by omega) (fun h => absurd h (by omega)) (fun _ => ?_)
        refine x_aldN i rfl rfl rfl (by omega) rfl ?_
        rw [ei]
        refine xi_eqN (tc G.tx i) 32 rfl rfl rfl rfl (by omega) (by omega) (fun w => ?_) (fun w => ?_)
        · have e1 := tgK_b (by omega) w
          rw [if_neg (by omega)] at tm
          have IH := ih (i + 1) k D2 (by omega) (by rw [e1]; exact hk) q1 q2 q3
          rw [tm, ← nI_1 i] at IH
          exact x_goto rfl rfl IH
        · obtain ⟨e1, e2, e3⟩ := tgK_n (by omega) w
          have e4 := tgX_s e2
          rw [e3] at e4
          rw [hk] at e1 e2 e3 e4
          refine x_aldN i rfl rfl rfl (by omega) rfl ?_
          rw [ei]
          refine x_astN (k + 1) rfl rfl q1 (by omega) rfl ?_
          have e : xup D2 118 (k + 1) (nI (tc G.tx i)) 111 9 + xnum 1 = nI (k + 1 + 1) := by rw [xup_o (by omega), q1]; exact nI_1 _
          refine x_aldN i rfl rfl rfl (by omega) rfl ?_
          rw [e, xup_o (by omega), xup_o (by omega), ei]
          have IH := ih (i + 1) (k + 1) (xup (xup D2 118 (k + 1) (nI (tc G.tx i))) 111 9 (nI (k + 1 + 1))) (by omega) e1 (by rw [xup_at]) (fun j hj => by
            rw [xup_o (by omega)]
            by_cases z : j = k + 1
            · rw [z, xup_at, e4]
            · rw [xup_o (by omega)]; exact q2 j (by omega)) (fun a j w1 w2 => by rw [xup_o (by omega), xup_o (by omega)]; exact q3 a j w1 w2)
          refine x_scall [xL (nI (tc G.tx i)).toInt64, xL (Int64.ofNat 97), xL (Int64.ofNat 106)] rfl rfl rfl rfl rfl rfl rfl (c_inI (lo := 97) (hi := 106) (by decide) (by decide) ?_)
          have gw := gI_word hc2
          by_cases w1 : 97 ≤ tc G.tx i ∧ tc G.tx i < 107
          · rw [if_pos (Or.inl w1)] at tm
            rw [tm, ← nI_1 i, ← nI_1 (tgM G.tx i)] at IH
            rw [gw.mpr w1]
            refine x0_ne rfl rfl (fun _ => ?_) (fun q => absurd q (by decide))
            exact x_goto rfl rfl (x_goto rfl rfl IH)
          · rw [if_neg (fun z => w1 (gw.mp z))]
            refine x0_ne rfl rfl (fun q => absurd rfl q) (fun _ => ?_)
            refine x_aldN i rfl rfl rfl (by omega) rfl ?_
            rw [xup_o (by omega), xup_o (by omega), ei]
            refine xi_neN (tc G.tx i) 46 rfl rfl rfl rfl (by omega) (by omega) (fun w2 => ?_) (fun w2 => ?_)
            · rw [if_neg (fun z => z.elim w1 w2)] at tm
              rw [tm, ← nI_1 i, ← nI_add (tgM G.tx i) 0] at IH
              exact x_goto rfl rfl IH
            · rw [if_pos (Or.inr w2)] at tm
              rw [tm, ← nI_1 i, ← nI_1 (tgM G.tx i)] at IH
              exact x_goto rfl rfl (x_goto rfl rfl IH)
    exact loop G.tx.length 0 0 _ (by omega) tgK_0 (by rw [xup_at]; rfl) (fun j hj => by
      obtain rfl : j = 0 := by omega
      rw [xup_o (by omega), xup_at]; rfl) (fun a j w1 w2 => by rw [xup_o (by omega), xup_o (by omega)])
  · rw [hf] at hp
    have := tgF_le G.tx _ 0 0 true false p (by omega) hf
    refine xi_eq rfl rfl (fun q => absurd q (nI_nm1 (by omega))) (fun _ => ?_)
    exact x_ret rfl rfl rfl rfl (hp D h (fun _ _ => rfl))
theorem g_tongue (hg : gok G) (ht : G.tg = [] ∨ tgV (40 :: (G.tg ++ [41]))) : gok (aTongue G).2 ∧ (aTongue G).2.told = G.told ∧ ((aTongue G).2.tg = [] ∨ tgV (40 :: ((aTongue G).2.tg ++ [41]))) := by
  rw [aTongue]
  rcases hf : tgF G.tx G.tx.length 0 0 true false with _ | p
  · exact ⟨⟨⟨Nat.zero_le _, fun _ z => by cases z⟩, hg.2⟩, rfl, Or.inr (tgX_ok hg.1.1 hf).1⟩
  · exact ⟨hg, rfl, ht⟩
end TL2
