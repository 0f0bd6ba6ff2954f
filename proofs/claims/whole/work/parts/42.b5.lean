/-! ===== match: the reference ===== -/
section B5
variable {Γ : xG} {n : Nat} {D : xM} {post : Option Int32 → xM → Prop} {G : gS} {S : wS}
theorem mUp_le {st : mSt} {x : Nat} {l : Nat → Nat} (h : ∀ y, st.1 = some y → y ≤ 1000) (hx : x ≤ 1000) : ∀ y, (mUp st x l).1 = some y → y ≤ 1000 := by
  intro y hy
  rw [mUp] at hy
  split at hy
  · cases hy; exact hx
  · split at hy
    · cases hy; exact hx
    · exact h y hy
theorem am_matchloop {K : kT} {N : Nat} {ky kk : Int32} (hr : rM D 0 S) (ho : wok S) (hK : ∀ m b, m < S.M → b < S.B → D 140 (8 * m + b) = nI (K m b)) (hKl : ∀ m b, K m b ≤ 10) : ∀ (f m : Nat) (l : Nat → Nat) (st : mSt) (D1 : xM), m + f = S.M → (∀ j, j < 4 → D1 141 j = nI (l j)) → (∀ j, j < 4 → m ≤ j → l j = 0) → (∀ j, j < m → l j ≤ S.B) → (∀ j, j < 4 → D1 142 j = st.2 j) → (∀ y, st.1 = some y → y ≤ 1000) → (∀ a, a ≠ 141 → a ≠ 142 → D1 a = D a) →
    (∀ D2 : xM, (∀ j, j < 4 → D2 141 j = nI (if m ≤ j ∧ j < S.M then S.B else l j)) → (∀ j, j < 4 → D2 142 j = (mRes K S.B f m l st).2 j) → (∀ y, (mRes K S.B f m l st).1 = some y → y ≤ 1000) → (∀ a, a ≠ 141 → a ≠ 142 → D2 a = D a) → xW Γ (n + 2) hX9_match rX9_match 162 [some (xR 0 9 111), some (xI kk), some (xI ky), some (xI (xby (mRes K S.B f m l st).1)), some (xI 1), none, none] [] D2 post) →
    xW Γ (n + 2) hX9_match rX9_match 113 [some (xR 0 9 111), some (xI kk), some (xI ky), some (xI (xby st.1)), some (xI 1), none, none] [] D1 post := by
  have h8 := ho.1
  have h4 := ho.2.1
  intro f
  induction f with
  | zero =>
    intro m l st D1 hm hl hl0 hlB hb hst hs cont
    obtain rfl : m = S.M := by omega
    have hr1 : rM D1 0 S := rM_out hr h8 h4 (fun j _ _ => by rw [hs 112 (by omega) (by omega)])
    have hres : mRes K S.B 0 S.M l st = match ps K S.B l S.M with
      | none => st
      | some (s, _) => mUp st s l := by
      rw [mRes]
      rcases hq : ps K S.B l S.M with _ | ⟨s, u⟩
      · rfl
      · rfl
    refine x0_eq rfl rfl (fun h => absurd h (by decide)) (fun _ => ?_)
    refine x_call [] rfl rfl rfl rfl rfl rfl rfl (c_keptByLine hr1 ho (fun m b q1 q2 => by rw [hs 140 (by omega) (by omega)]; exact hK m b q1 q2) hKl hl hlB ?_)
    have hpb : ∀ x, ((ps K S.B l S.M).map Prod.fst) = some x → x ≤ 1000 := by
      intro x hx
      rcases hq : ps K S.B l S.M with _ | ⟨s, u⟩
      · rw [hq] at hx; cases hx
      · rw [hq] at hx; cases hx
        have := (ps_le h8 hKl S.M s u hq).1
        show s ≤ 1000
        omega
    have key := xby_leI (p := (ps K S.B l S.M).map Prod.fst) (q := st.1) (fun x hx => by have := hpb x hx; omega) (fun x hx => by have := hst x hx; omega)
    have line0 : ∀ D2 : xM, (∀ a, a ≠ 142 → D2 a = D1 a) → ∀ j, j < 4 → D2 141 j = nI (if S.M ≤ j ∧ j < S.M then S.B else l j) := fun D2 h2 j hj => by
      rw [h2 141 (by omega), if_neg (by omega)]
      exact hl j hj
    refine xi_le rfl rfl (fun h2 => ?_) (fun h2 => ?_)
    · have h3 := key.mp h2
      have hst' : mRes K S.B 0 S.M l st = st := by
        rw [hres]
        rcases hq : ps K S.B l S.M with _ | ⟨s, u⟩
        · rfl
        · rw [hq] at h3
          rcases hq2 : st.1 with _ | y
          · rw [hq2] at h3; exact h3.elim
          · rw [hq2] at h3
            dsimp only
            rw [mUp, hq2]
            exact if_neg (by have h3 : s ≤ y := h3; omega)
      have C := cont D1 (line0 D1 (fun _ _ => rfl)) (by rw [hst']; exact hb) (by rw [hst']; exact hst) hs
      rw [hst'] at C
      refine x_drop 5 ?_
      exact C
    · have h3 : ¬ _ := fun z => h2 (key.mpr z)
      rcases hq : ps K S.B l S.M with _ | ⟨s, u⟩
      · rw [hq] at h3; exact absurd trivial h3
      · have hst' : mRes K S.B 0 S.M l st = (some s, fun j => nI (l j)) := by
          rw [hres, hq]
          dsimp only
          rw [mUp]
          rw [hq] at h3
          rcases hq2 : st.1 with _ | y
          · rfl
          · rw [hq2] at h3
            exact if_pos (by have h3 : ¬ s ≤ y := h3; omega)
        refine x_to 136 rfl ?_
        have copy : ∀ g i (D2 : xM), i + g = 4 → (∀ a, a ≠ 142 → D2 a = D1 a) → (∀ j, j < i → D2 142 j = nI (l j)) → xW Γ (n + 2) hX9_match rX9_match 136 [some (xR 0 9 111), some (xI kk), some (xI ky), some (xI (xby (some s))), some (xI 1), some (xI (xby (some s))), some (xI (nI i))] [] D2 post := by
          intro g
          induction g with
          | zero =>
            intro i D2 hi h5 h6
            obtain rfl : i = 4 := by omega
            refine xi_geN 4 4 rfl rfl rfl rfl (by omega) (by omega) (fun _ => ?_) (fun h => absurd h (by omega))
            have C := cont D2 (line0 D2 h5) (by rw [hst']; exact fun j hj => h6 j hj) (by rw [hst']; intro y hy; cases hy; exact hpb s (by rw [hq]; rfl)) (fun a q1 q2 => by rw [h5 a q2]; exact hs a q1 q2)
            rw [hst'] at C
            refine x_drop 5 (x_drop 6 ?_)
            exact C
          | succ g ih2 =>
            intro i D2 hi h5 h6
            refine xi_geN i 4 rfl rfl rfl rfl (by omega) (by omega) (fun h => absurd h (by omega)) (fun h => ?_)
            refine x_aldN i rfl rfl rfl (by omega) rfl ?_
            refine x_astN i rfl rfl rfl (by omega) rfl ?_
            have ev : D2 141 i = nI (l i) := by rw [h5 141 (by omega)]; exact hl i (by omega)
            rw [ev]
            have IH := ih2 (i + 1) (xup D2 142 i (nI (l i))) (by omega) (fun a ha => by rw [xup_ne a ha]; exact h5 a ha) (fun j hj => by
              by_cases q : j = i
              · subst q; rw [xup_at]
              · rw [xup_o (by omega)]; exact h6 j (by omega))
            rw [← nI_1] at IH
            exact x_goto rfl rfl IH
        exact copy 4 0 D1 (by omega) (fun _ _ => rfl) (fun j hj => absurd hj (by omega))
  | succ f ih =>
    intro m l st D1 hm hl hl0 hlB hb hst hs cont
    have inner : ∀ g d (D2 : xM), d + g = S.B → (∀ j, j < 4 → D2 141 j = nI (wuf l m d j)) → (∀ j, j < 4 → D2 142 j = (mSd K S.B f m l st d).2 j) → (∀ y, (mSd K S.B f m l st d).1 = some y → y ≤ 1000) → (∀ a, a ≠ 141 → a ≠ 142 → D2 a = D a) → xW Γ (n + 2) hX9_match rX9_match 113 [some (xR 0 9 111), some (xI kk), some (xI ky), some (xI (xby (mSd K S.B f m l st d).1)), some (xI 1), none, none] [] D2 post := by
      intro g
      induction g with
      | zero =>
        intro d D2 hd k1 k2 k3 k4
        obtain rfl : d = S.B := by omega
        refine ih (m + 1) (wuf l m S.B) (mSd K S.B f m l st S.B) D2 (by omega) k1 (fun j hj hmj => by rw [wuf_ne l _ (by omega)]; exact hl0 j hj (by omega)) (fun j hj => by
          by_cases q : j = m
          · subst q; rw [wuf_at]; exact Nat.le_refl _
          · rw [wuf_ne l _ q]; exact hlB j (by omega)) k2 k3 k4 (fun D3 c1 c2 c3 c4 => ?_)
        rw [mSd_succ, mSd_last] at c2 c3 ⊢
        refine cont D3 (fun j hj => ?_) c2 c3 c4
        rw [c1 j hj]
        by_cases q : j = m
        · subst q
          rw [if_neg (by omega), wuf_at, if_pos (by omega)]
        · rw [wuf_ne l _ q]
          by_cases q2 : m + 1 ≤ j ∧ j < S.M
          · rw [if_pos q2, if_pos (by omega)]
          · rw [if_neg q2, if_neg (by omega)]
      | succ g ih2 =>
        intro d D2 hd k1 k2 k3 k4
        refine ih (m + 1) (wuf l m d) (mSd K S.B f m l st d) D2 (by omega) k1 (fun j hj hmj => by rw [wuf_ne l _ (by omega)]; exact hl0 j hj (by omega)) (fun j hj => by
          by_cases q : j = m
          · subst q; rw [wuf_at]; omega
          · rw [wuf_ne l _ q]; exact hlB j (by omega)) k2 k3 k4 (fun D3 c1 c2 c3 c4 => ?_)
        rw [mSd_succ] at c2 c3 ⊢
        have hr3 : rM D3 0 S := rM_out hr h8 h4 (fun j _ _ => by rw [c4 112 (by omega) (by omega)])
        refine x_call [] rfl rfl rfl rfl rfl rfl rfl (c_next_inc (m := m) (l := fun j => if m + 1 ≤ j ∧ j < S.M then S.B else wuf l m d j) hr3 ho c1 (fun j hj => ?_) (by omega) ?_ (fun j q1 q2 => ?_) (fun D4 e1 e2 => ?_))
        · show (if m + 1 ≤ j ∧ j < S.M then S.B else wuf l m d j) ≤ S.B
          by_cases q : m + 1 ≤ j ∧ j < S.M
          · rw [if_pos q]; exact Nat.le_refl _
          · rw [if_neg q]
            by_cases q2 : j = m
            · subst q2; rw [wuf_at]; omega
            · rw [wuf_ne l _ q2]; exact hlB j (by omega)
        · show (if m + 1 ≤ m ∧ m < S.M then S.B else wuf l m d m) < S.B
          rw [if_neg (by omega), wuf_at]; omega
        · show (if m + 1 ≤ j ∧ j < S.M then S.B else wuf l m d j) = S.B
          rw [if_pos (by omega)]
        · refine x_goto rfl rfl ?_
          refine ih2 (d + 1) D4 (by omega) (fun j hj => ?_) (fun j hj => by rw [e2 142 (by omega)]; exact c2 j hj) c3 (fun a q1 q2 => by rw [e2 a q1]; exact c4 a q1 q2)
          rw [e1 j hj]
          by_cases q : j = m
          · subst q
            rw [if_pos rfl, if_neg (by omega), wuf_at, wuf_at]
          · rw [if_neg q, wuf_ne l _ q, wuf_ne l _ q]
            by_cases q2 : m < j ∧ j < S.M
            · rw [if_pos q2]
              rw [hl0 j hj (by omega)]
            · rw [if_neg q2, if_neg (by omega)]
    have h0 : mSd K S.B f m l st 0 = st := by
      rw [mSd]
      split
      · rfl
      · rfl
    have I := inner S.B 0 D1 (by omega) (fun j hj => by
      rw [hl j hj]
      by_cases q : j = m
      · subst q; rw [wuf_at, hl0 j hj (by omega)]
      · rw [wuf_ne l _ q]) (by rw [h0]; exact hb) (by rw [h0]; exact hst) hs
    rw [h0] at I
    exact I
theorem am_match {x y : Int32} (h : RelM D G) (hg : gok G) (hp : ∀ D', RelM D' G → (∀ a, a < 111 → D' a = D a) → post (some (aMatch G x y)) D') : xRuns Γ (n + 7) hX9_match [xR 0 9 111, xI x, xI y] D post := by
  have ho := hg.2.2.1.1
  have hE := hg.2.2.1.2
  have h8 := ho.1
  have h4 := ho.2.1
  have hr := h.2.1
  refine x_runs kX9_match (by decide +kernel) rfl ?_
  rw [aMatch] at hp
  have go : ∀ o, gO y ((G.now.M : Int) - 1) = some o → xW Γ (n + 7) hX9_match rX9_match 16 [some (xR 0 9 111), some (xI x), some (xI y), none, none, none, none] [] D post := by
    intro o hq
    rw [hq] at hp
    dsimp only at hp
    obtain ⟨ey, hb⟩ := gO_b hq
    refine x_scall [xL x.toInt64, xL (Int64.ofNat 1), xL (Int64.ofNat 20)] rfl rfl rfl rfl rfl rfl rfl (c_inI (lo := 1) (hi := 20) (by decide) (by decide) ?_)
    rcases hx_k : gI x 1 20 with _ | k
    · rw [hx_k] at hp
      refine x0_ne rfl rfl (fun h => absurd rfl h) (fun _ => ?_)
      exact x_ret rfl rfl rfl rfl (hp D h (fun _ _ => rfl))
    rw [hx_k] at hp
    dsimp only at hp
    obtain ⟨e1_k, e2_k, e3_k, e4_k⟩ := gI_some (by decide) hx_k
    subst e1_k
    have h_k : k < 21 := by omega
    refine x0_ne rfl rfl (fun _ => ?_) (fun h => absurd h (by simp))
    obtain ⟨sp0, hP0, hl0⟩ := h.2.2.2.2.2.2.2
    refine x_to 33 rfl ?_
    have last : ∀ D1 : xM, (∀ a j, ¬ (a = 112 ∧ 1296 ≤ j) → a ≠ 138 → a ≠ 139 → a ≠ 140 → D1 a j = D a j) → mSp D1 → (∀ m b, m < G.now.M → b < G.now.B → D1 140 (8 * m + b) = nI (mKK G.now k m b)) → ∀ c, xW Γ (n + 7) hX9_match rX9_match 88 [some (xR 0 9 111), some (xI (nI k)), some (xI y), some (xI c), none, none, none] [] D1 post := by
      intro D1 hs1 hsp hK c
      have hr1 : rM D1 0 G.now := rM_out hr h8 h4 (fun j _ _ => hs1 112 j (by omega) (by omega) (by omega) (by omega))
      refine x_to 90 rfl ?_
      have zero : ∀ g i (D2 : xM), i + g = 4 → (∀ a, a ≠ 141 → D2 a = D1 a) → (∀ j, j < i → D2 141 j = nI 0) → xW Γ (n + 7) hX9_match rX9_match 90 [some (xR 0 9 111), some (xI (nI k)), some (xI y), some (xI (nI i)), none, none, none] [] D2 post := by
        intro g
        induction g with
        | zero =>
          intro i D2 hi k1 k2
          obtain rfl : i = 4 := by omega
          refine xi_geN 4 4 rfl rfl rfl rfl (by omega) (by omega) (fun _ => ?_) (fun h => absurd h (by omega))
          refine x_to 113 rfl ?_
          have hr2 : rM D2 0 G.now := rM_out hr1 h8 h4 (fun j _ _ => by rw [k1 112 (by omega)])
          refine am_matchloop (n := n + 5) (N := 0) (K := mKK G.now k) (st := (none, D2 142)) hr2 ho (fun m b q1 q2 => by rw [k1 140 (by omega)]; exact hK m b q1 q2) (mKK_le G.now k) G.now.M 0 (fun _ => 0) D2 (by omega) k2 (fun _ _ _ => rfl) (fun j hj => absurd hj (by omega)) (fun _ _ => rfl) (fun y hy => by cases hy) (fun _ _ _ => rfl) (fun D3 c1 c2 c3 c4 => ?_)
          have hres : mRes (mKK G.now k) G.now.B G.now.M 0 (fun _ => 0) (none, D2 142) = (some (mX (mKK G.now k) G.now.B G.now.M 0 0), fun j => nI (ext (mKK G.now k) G.now.B G.now.M 0 0 (fun _ => 0) j)) := by
            rw [mRes, ps]
            dsimp only
            rw [mUp]
            dsimp only
            rw [Nat.zero_add]
          rw [hres] at c2 c3 ⊢
          have hr3 : rM D3 0 G.now := rM_out hr2 h8 h4 (fun j _ _ => by rw [c4 112 (by omega) (by omega)])
          refine x_call [] rfl rfl rfl rfl rfl rfl rfl (c_next_end (l := fun j => if 0 ≤ j ∧ j < G.now.M then G.now.B else 0) hr3 ho c1 (fun j hj => if_pos (by omega)) (fun D4 e => ?_))
          have hs4 : ∀ a j, ¬ (a = 112 ∧ 1296 ≤ j) → a ≠ 138 → a ≠ 139 → a ≠ 140 → a ≠ 141 → a ≠ 142 → D4 a j = D a j := fun a j q1 q2 q3 q4 q5 q6 => by rw [e a q5, c4 a q5 q6, k1 a q5]; exact hs1 a j q1 q2 q3 q4
          have R := hp D4 (RelM_out h hg (fun a j q1 q2 q3 q4 => hs4 a j q1 q2 q3 (by omega) (by omega) (by omega)) (mSp_out hsp (by rw [e 138 (by omega), c4 138 (by omega) (by omega), k1 138 (by omega)]) (by rw [e 139 (by omega), c4 139 (by omega) (by omega), k1 139 (by omega)]))) (fun a ha => funext fun j => hs4 a j (by omega) (by omega) (by omega) (by omega) (by omega) (by omega))
          refine x_goto rfl rfl ?_
          refine x0_eq rfl rfl (fun _ => ?_) (fun h => absurd rfl h)
          cases o with
          | none =>
            subst ey
            refine xi_ne rfl rfl (fun h2 => absurd rfl h2) (fun _ => ?_)
            exact x_goto rfl rfl (x_ret rfl rfl rfl rfl R)
          | some m =>
            subst ey
            have hm := hb m rfl
            have hm2 : m < G.now.M := by omega
            have e142 : D4 142 m = nI (mDg (mKK G.now k) G.now.B G.now.M m) := by
              rw [e 142 (by omega), c2 m (by omega)]
              exact congrArg nI (ext_dg (mKK G.now k) G.now.B G.now.M G.now.M 0 (fun _ => 0) (by omega) m (by omega) hm2)
            have hr4 : rM D4 0 G.now := rM_out hr h8 h4 (fun j _ _ => hs4 112 j (by omega) (by omega) (by omega) (by omega) (by omega) (by omega))
            have hdl : mDg (mKK G.now k) G.now.B G.now.M m ≤ G.now.B := gd_le _ _ _ _ _
            refine xi_ne rfl rfl (fun h2 => ?_) (fun (h2 : nI m = -1) => ?_)
            · refine x_aldN m rfl rfl rfl (by omega) rfl ?_
              refine x_aldN 0 rfl rfl rfl (by omega) rfl ?_
              refine xi_neN (mDg (mKK G.now k) G.now.B G.now.M m) G.now.B rfl rfl e142 hr4.1 (by omega) (by omega) (fun h3 => ?_) (fun h3 => ?_)
              · refine x_aldN m rfl rfl rfl (by omega) rfl ?_
                refine x_ret rfl rfl rfl rfl ?_
                rw [e142]
                dsimp only at R
                rw [mNo, if_pos (by omega)] at R
                exact R
              · dsimp only at R
                rw [mNo, if_neg (by omega)] at R
                exact x_goto rfl rfl (x_ret rfl rfl rfl rfl R)
            · have := congrArg Int32.toInt h2
              rw [nI_toInt (by omega)] at this
              have e1 : (-1 : Int32).toInt = -1 := rfl
              omega
        | succ g ih =>
          intro i D2 hi k1 k2
          refine xi_geN i 4 rfl rfl rfl rfl (by omega) (by omega) (fun h => absurd h (by omega)) (fun h => ?_)
          refine x_astN i rfl rfl rfl (by omega) rfl ?_
          have IH := ih (i + 1) (xup D2 141 i (xnum 0)) (by omega) (fun a ha => by rw [xup_ne a ha]; exact k1 a ha) (fun j hj => by
            by_cases q : j = i
            · subst q; rw [xup_at]; rfl
            · rw [xup_o (by omega)]; exact k2 j (by omega))
          rw [← nI_1] at IH
          exact x_goto rfl rfl IH
      exact zero 4 0 D1 (by omega) (fun _ _ => rfl) (fun j hj => absurd hj (by omega))
    have loop : ∀ f i (D1 : xM), i + f = 8 * G.now.M → (∀ a j, ¬ (a = 112 ∧ 1296 ≤ j) → a ≠ 138 → a ≠ 139 → a ≠ 140 → D1 a j = D a j) → mSp D1 → (∀ j, j < i → j % 8 < G.now.B → D1 140 j = nI (mKK G.now k (j / 8) (j % 8))) → xW Γ (n + 7) hX9_match rX9_match 33 [some (xR 0 9 111), some (xI (nI k)), some (xI y), some (xI (nI i)), none, none, none] [] D1 post := by
      intro f
      induction f with
      | zero =>
        intro i D1 hi hs1 hsp hK
        have hr1 : rM D1 0 G.now := rM_out hr h8 h4 (fun j _ _ => hs1 112 j (by omega) (by omega) (by omega) (by omega))
        refine x_aldN (0 + 1) rfl rfl rfl (by omega) rfl ?_
        refine xi_geN i (8 * G.now.M) rfl rfl rfl (by rw [hr1.2.1]; exact pk_mul 8 _) (by omega) (by omega) (fun _ => ?_) (fun h => absurd h (by omega))
        refine last D1 hs1 hsp (fun m b q1 q2 => ?_) _
        have := hK (8 * m + b) (by omega) (by omega)
        rw [this]
        have e1 : (8 * m + b) / 8 = m := by omega
        have e2 : (8 * m + b) % 8 = b := by omega
        rw [e1, e2]
      | succ f ih =>
        intro i D1 hi hs1 hsp hK
        have hr1 : rM D1 0 G.now := rM_out hr h8 h4 (fun j _ _ => hs1 112 j (by omega) (by omega) (by omega) (by omega))
        refine x_aldN (0 + 1) rfl rfl rfl (by omega) rfl ?_
        refine xi_geN i (8 * G.now.M) rfl rfl rfl (by rw [hr1.2.1]; exact pk_mul 8 _) (by omega) (by omega) (fun h => absurd h (by omega)) (fun h2 => ?_)
        refine x_rem rfl rfl (by decide) ?_
        refine x_aldN 0 rfl rfl rfl (by omega) rfl ?_
        have er : nI i - nI i / xnum 8 * xnum 8 = nI (i % 8) := pk_rem (d := 8) (by omega) (by decide) (by decide)
        have ed : nI i / xnum 8 = nI (i / 8) := pk_div (d := 8) (by omega) (by decide) (by decide)
        have next : ∀ (D2 : xM) (v : Int32), (∀ a j, ¬ (a = 112 ∧ 1296 ≤ j) → a ≠ 138 → a ≠ 139 → D2 a j = D1 a j) → mSp D2 → (i % 8 < G.now.B → v = nI (mKK G.now k (i / 8) (i % 8))) → xW Γ (n + 7) hX9_match rX9_match 82 [some (xR 0 9 111), some (xI (nI k)), some (xI y), some (xI (nI i)), none, none, none] [] (xup D2 140 i v) post := by
          intro D2 v hs2 hsp2 hv
          have IH := ih (i + 1) (xup D2 140 i v) (by omega) (fun a j q1 q2 q3 q4 => by rw [xup_o (by omega), hs2 a j q1 q2 q3]; exact hs1 a j q1 q2 q3 q4) (mSp_out hsp2 (xup_ne 138 (by omega)) (xup_ne 139 (by omega))) (fun j hj hjB => by
            by_cases q : j = i
            · subst q; rw [xup_at]; exact hv hjB
            · rw [xup_o (by omega), hs2 140 j (by omega) (by omega) (by omega)]; exact hK j (by omega) hjB)
          rw [← nI_1] at IH
          exact x_goto rfl rfl IH
        refine xi_geN (i % 8) G.now.B rfl rfl er hr1.1 (by omega) (by omega) (fun h3 => ?_) (fun h3 => ?_)
        · refine x_astN i rfl rfl rfl (by omega) rfl ?_
          exact next D1 _ (fun _ _ _ _ _ => rfl) hsp (fun z => absurd z (by omega))
        · refine x_div rfl rfl (by decide) ?_
          refine x_rem rfl rfl (by decide) ?_
          rw [er, ed]
          obtain ⟨sp1, hP1, hl1⟩ := hsp
          refine x_call [xI (nI (i / 8)), xI (nI (i % 8)), xI (nI k)] rfl rfl rfl rfl rfl rfl rfl (c_keptBy hr1 hP1 hl1 ho (by omega) h3 (by omega) hE (fun D2 hsp2 hs2 => ?_))
          refine x_goto rfl rfl ?_
          refine x_astN i rfl rfl rfl (by omega) rfl ?_
          exact next D2 _ (fun a j q1 q2 q3 => hs2 a j (by omega) q2 q3) hsp2 (fun _ => rfl)
    exact loop (8 * G.now.M) 0 D (by omega) (fun _ _ _ _ _ _ => rfl) h.2.2.2.2.2.2.2 (fun j hj => absurd hj (by omega))
  refine xi_eq rfl rfl (fun (h2 : y = -1) => go none (by rw [gO, if_pos h2])) (fun (h2 : ¬ y = -1) => ?_)
  refine x_call [xI y] rfl rfl rfl rfl rfl rfl rfl (c_isMan hr ho ?_)
  rcases hy : gI y 0 ((G.now.M : Int) - 1) with _ | b
  · have e : gO y ((G.now.M : Int) - 1) = none := by rw [gO, if_neg h2, hy]
    rw [e] at hp
    refine x0_ne rfl rfl (fun h => absurd rfl h) (fun _ => ?_)
    exact x_ret rfl rfl rfl rfl (hp D h (fun _ _ => rfl))
  · refine x0_ne rfl rfl (fun _ => ?_) (fun h => absurd h (by simp))
    exact go (some b) (by rw [gO, if_neg h2, hy])
end B5
