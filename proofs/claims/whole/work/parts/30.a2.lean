/-! ===== calls: erase, bird, man, as, known ===== -/
def asOK (own k : Nat) : Bool := decide (k = 0 ∨ k = own + 1 ∨ (k = 1 ∧ own < 3) ∨ (k = 4 ∧ own = 4))
def aAs (G : gS) (x y : Int32) : Int32 := match gI x 0 ((G.now.B : Int) - 1) with
  | none => -2
  | some b => match gI y 0 5 with
    | none => -3
    | some k => if asOK (G.now.kd b) k then nI (wGets (G.now.kd b)) else -4
def aKnown (G : gS) (x y z : Int32) : Int32 := match gI x 0 ((G.now.B : Int) - 1) with
  | none => -2
  | some b => match gI y 0 9 with
    | none => -2
    | some k => match gI z 0 60 with
      | none => -3
      | some e => nI ((wPassN G.now e).K b k)
theorem as_tab : ∀ own, own < 5 → ∀ k, k < 6 → ((xtv 5 own >>> (nI k &&& 31)) &&& nI 1 = 0 ↔ asOK own k = false) := by decide +kernel
section A2
variable {Γ : xG} {n : Nat} {D : xM} {post : Option Int32 → xM → Prop} {G : gS}
theorem am_erase (h : RelM D G) (hg : gok G) (hp : ∀ D', RelM D' (aErase G).2 → (∀ a, a < 111 → D' a = D a) → post (some (aErase G).1) D') : xRuns Γ n hX9_erase [xR 0 9 111] D post := by
  refine x_runs kX9_erase (by decide +kernel) rfl ?_
  refine x_ret rfl rfl rfl rfl ?_
  rw [h.2.2.1.1]
  have ea : ∀ a j, ¬ (a = 111 ∧ j = 4) → xup D 111 4 (xnum 0) a j = D a j := fun a j q => xup_o q
  have ef : ∀ a, a ≠ 111 → xup D 111 4 (xnum 0) a = D a := fun a q => xup_ne a q
  refine hp _ ?_ (fun a ha => ef a (by omega))
  obtain ⟨⟨h1, h1z⟩, h2, h3, h4, h5, h6, h7, h8⟩ := h
  obtain ⟨g1, g2, g3, g4, g5, g6, g7⟩ := hg
  have e112 := ef 112 (by omega)
  exact ⟨⟨rM_out h1 g2.1 g2.2.1 (fun j _ _ => by rw [e112]), mZ_out h1z (fun j _ _ => by rw [e112]) (fun a ha hb => ef a (by omega))⟩, rM_out h2 g3.1.1 g3.1.2.1 (fun j _ _ => by rw [e112]), ⟨by rw [xup_at]; rfl, fun j hj => absurd hj (Nat.not_lt_zero j)⟩, mHi_out h4 g4.1 (fun S hS => (g4.2 S hS).1) (fun k S hk hS => (g5 k S hk hS).1) (ea 111 1 (by omega)) (fun j _ _ => by rw [e112]) (ef 113 (by omega)), mSe_out h5 (ea 111 5 (by omega)) (fun a ha hb => ef a (by omega)), mRe_out h6 (fun a ha hb => ef a (by omega)), mTg_out h7 (ea 111 9 (by omega)) (ef 118 (by omega)) (ef 119 (by omega)) (ef 120 (by omega)), mSp_out h8 (ef 138 (by omega)) (ef 139 (by omega))⟩
theorem g_erase (hg : gok G) : gok (aErase G).2 := ⟨⟨Nat.zero_le _, fun c hc => absurd hc (by intro z; cases z)⟩, hg.2⟩
theorem am_bird {x y : Int32} (h : RelM D G) (hg : gok G) (hp : post (some (aBird G x y)) D) : xRuns Γ (n + 2) hX9_bird [xR 0 9 111, xI x, xI y] D post := by
  have ho := hg.2.2.1.1
  have h8 := ho.1
  have hr := h.2.1
  have hc := ho.2.2.2.1
  refine x_runs kX9_bird (by decide +kernel) rfl ?_
  refine x_call [xI x] rfl rfl rfl rfl rfl rfl rfl (c_isBird hr ho ?_)
  rw [aBird] at hp
  cases hx : gI x 0 ((G.now.B : Int) - 1) with
  | none =>
    rw [hx] at hp
    refine x0_ne rfl rfl (fun h => absurd rfl h) (fun _ => ?_)
    exact x_ret rfl rfl rfl rfl hp
  | some b =>
    rw [hx] at hp
    dsimp only at hp
    obtain ⟨e1, e2, e3, e4⟩ := gI_some (by decide) hx
    subst e1
    have hb : b < G.now.B := by omega
    refine x0_ne rfl rfl (fun _ => ?_) (fun h => absurd h (by simp))
    cases hy : gI y 0 4 with
    | none =>
      rw [hy] at hp
      have := gI_none hy
      refine x_tout (tgt := 92) rfl rfl this (by decide) ?_
      exact x_ret rfl rfl rfl rfl hp
    | some k =>
      rw [hy] at hp
      obtain ⟨f1, f2, f3, f4⟩ := gI_some (by decide) hy
      subst f1
      match k, f3 with
      | 0, _ =>
        refine x_tin (tgt := 48) (off := 36) rfl rfl (by decide) (by decide) (by decide) (by decide) ?_
        refine x_aldN (0 + 4 + b) rfl rfl (by rw [Nat.zero_add]; exact nI_add 4 b) (by omega) rfl ?_
        refine x_ret rfl rfl rfl rfl ?_
        rw [hr.2.2.2.2.1 b hb]
        exact hp
      | 1, _ =>
        refine x_tin (tgt := 57) (off := 45) rfl rfl (by decide) (by decide) (by decide) (by decide) ?_
        refine x_aldN (0 + 12 + b) rfl rfl (by rw [Nat.zero_add]; exact nI_add 12 b) (by omega) rfl ?_
        refine x_ret rfl rfl rfl rfl ?_
        rw [hr.2.2.2.2.2.1 b hb]
        exact hp
      | 2, _ =>
        refine x_tin (tgt := 67) (off := 55) rfl rfl (by decide) (by decide) (by decide) (by decide) ?_
        refine x_aldN (0 + 3) rfl rfl rfl (by omega) rfl ?_
        refine x_ret rfl rfl rfl rfl ?_
        rw [hr.2.2.2.1]
        have e : (nI G.now.C >>> (nI b &&& 31)) &&& xnum 1 = nI (G.now.C / 2 ^ b % 2) := xb_bit (by omega) (by omega)
        rw [e]
        cases hc : G.now.C.testBit b with
        | true =>
          rw [hc] at hp
          rw [(xb_tb _ _).mpr hc]
          exact hp
        | false =>
          rw [hc] at hp
          have q : ¬ G.now.C / 2 ^ b % 2 = 1 := fun z => by rw [(xb_tb _ _).mp z] at hc; cases hc
          have : G.now.C / 2 ^ b % 2 = 0 := by omega
          rw [this]
          exact hp
      | 3, _ =>
        refine x_tin (tgt := 78) (off := 66) rfl rfl (by decide) (by decide) (by decide) (by decide) ?_
        refine x_call [xI (nI 0), xI (nI b)] rfl rfl rfl rfl rfl rfl rfl (c_manOf hr ho (by omega) (by omega) ?_)
        exact x_ret rfl rfl rfl rfl hp
      | 4, _ =>
        refine x_tin (tgt := 85) (off := 73) rfl rfl (by decide) (by decide) (by decide) (by decide) ?_
        refine x_call [xI (nI 0), xI (nI b)] rfl rfl rfl rfl rfl rfl rfl (c_mwell hr ho (by omega) hb ?_)
        exact x_ret rfl rfl rfl rfl hp
      | k + 5, h => exact absurd h (by omega)
theorem a_man {x y : Int32} (h : RelC D G) (hg : gok G) (hp : post (some (aMan G x y)) D) : xRuns Γ (n + 2) hX8_man [xR 0 8 0, xI x, xI y] D post := by
  have ho := hg.2.2.1.1
  have h4 := ho.2.1
  have hr := h.2.1
  refine x_runs kX8_man (by decide +kernel) rfl ?_
  refine x_call [xI x] rfl rfl rfl rfl rfl rfl rfl (c_noMan hr ho ?_)
  rw [aMan] at hp
  cases hx : gI x 0 ((G.now.M : Int) - 1) with
  | none =>
    rw [hx] at hp
    refine x0_eq rfl rfl (fun h => absurd h (by decide)) (fun _ => ?_)
    exact x_ret rfl rfl rfl rfl hp
  | some m =>
    rw [hx] at hp
    dsimp only at hp
    obtain ⟨e1, e2, e3, e4⟩ := gI_some (by decide) hx
    subst e1
    have hm : m < G.now.M := by omega
    refine x0_eq rfl rfl (fun _ => ?_) (fun h => absurd rfl h)
    refine x_scall [xI y, xI (nI 0), xI (nI 1)] rfl rfl rfl rfl rfl rfl rfl (c_isNot (lo := 0) (hi := 1) (by decide) (by decide) ?_)
    cases hy : gI y 0 1 with
    | none =>
      rw [hy] at hp
      refine x0_eq rfl rfl (fun h => absurd h (by decide)) (fun _ => ?_)
      exact x_ret rfl rfl rfl rfl hp
    | some k =>
      rw [hy] at hp
      obtain ⟨f1, f2, f3, f4⟩ := gI_some (by decide) hy
      subst f1
      refine x0_eq rfl rfl (fun _ => ?_) (fun h => absurd rfl h)
      match k, f3 with
      | 0, _ =>
        refine x0_ne rfl rfl (fun h => absurd rfl h) (fun _ => ?_)
        refine x_aldN m rfl rfl rfl (by omega) rfl ?_
        refine x_goto rfl rfl (x_ret rfl rfl rfl rfl ?_)
        rw [hr.2.2.2.2.2.2.2.1 m hm]
        exact hp
      | 1, _ =>
        refine x0_ne rfl rfl (fun _ => ?_) (fun h => absurd h (by decide))
        refine x_aldN m rfl rfl rfl (by omega) rfl ?_
        refine x_ret rfl rfl rfl rfl ?_
        rw [hr.2.2.2.2.2.2.2.2 m hm]
        exact hp
      | k + 2, h => exact absurd h (by omega)
theorem am_man {x y : Int32} (h : RelM D G) (hg : gok G) (hp : post (some (aMan G x y)) D) : xRuns Γ (n + 2) hX9_man [xR 0 9 111, xI x, xI y] D post := by
  have ho := hg.2.2.1.1
  have h4 := ho.2.1
  have hr := h.2.1
  refine x_runs kX9_man (by decide +kernel) rfl ?_
  refine x_call [xI x] rfl rfl rfl rfl rfl rfl rfl (c_isMan hr ho ?_)
  rw [aMan] at hp
  cases hx : gI x 0 ((G.now.M : Int) - 1) with
  | none =>
    rw [hx] at hp
    refine x0_ne rfl rfl (fun h => absurd rfl h) (fun _ => ?_)
    exact x_ret rfl rfl rfl rfl hp
  | some m =>
    rw [hx] at hp
    dsimp only at hp
    obtain ⟨e1, e2, e3, e4⟩ := gI_some (by decide) hx
    subst e1
    have hm : m < G.now.M := by omega
    refine x0_ne rfl rfl (fun _ => ?_) (fun h => absurd h (by simp))
    cases hy : gI y 0 1 with
    | none =>
      rw [hy] at hp
      have hyn := gI_none hy
      refine x0_ne rfl rfl (fun _ => ?_) (fun h => ?_)
      · refine xi_ne rfl rfl (fun _ => ?_) (fun h => ?_)
        · exact x_ret rfl rfl rfl rfl hp
        · have h : y = nI 1 := h
          rw [h] at hyn
          exact absurd hyn (by decide)
      · rw [h] at hyn
        exact absurd hyn (by decide)
    | some k =>
      rw [hy] at hp
      obtain ⟨f1, f2, f3, f4⟩ := gI_some (by decide) hy
      subst f1
      match k, f3 with
      | 0, _ =>
        refine x0_ne rfl rfl (fun h => absurd rfl h) (fun _ => ?_)
        refine x_aldN (0 + 100 + m) rfl rfl (by rw [Nat.zero_add]; exact nI_add 100 m) (by omega) rfl ?_
        refine x_goto rfl rfl (x_ret rfl rfl rfl rfl ?_)
        rw [hr.2.2.2.2.2.2.2.1 m hm]
        exact hp
      | 1, _ =>
        refine x0_ne rfl rfl (fun _ => ?_) (fun h => absurd h (by decide))
        refine xi_ne rfl rfl (fun h => absurd rfl h) (fun _ => ?_)
        refine x_aldN (0 + 104 + m) rfl rfl (by rw [Nat.zero_add]; exact nI_add 104 m) (by omega) rfl ?_
        refine x_goto rfl rfl (x_ret rfl rfl rfl rfl ?_)
        rw [hr.2.2.2.2.2.2.2.2 m hm]
        exact hp
      | k + 2, h => exact absurd h (by omega)
theorem a_as {x y : Int32} (h : RelC D G) (hg : gok G) (hp : post (some (aAs G x y)) D) : xRuns Γ (n + 2) hX8_as [xR 0 8 0, xI x, xI y] D post := by
  have ho := hg.2.2.1.1
  have h8 := ho.1
  have hr := h.2.1
  refine x_runs kX8_as (by decide +kernel) rfl ?_
  refine x_call [xI x] rfl rfl rfl rfl rfl rfl rfl (c_noBird hr ho ?_)
  rw [aAs] at hp
  cases hx : gI x 0 ((G.now.B : Int) - 1) with
  | none =>
    rw [hx] at hp
    refine x0_eq rfl rfl (fun h => absurd h (by decide)) (fun _ => ?_)
    exact x_ret rfl rfl rfl rfl hp
  | some b =>
    rw [hx] at hp
    dsimp only at hp
    obtain ⟨e1, e2, e3, e4⟩ := gI_some (by decide) hx
    subst e1
    have hb : b < G.now.B := by omega
    have h5 := ho.2.2.2.2.1 b hb
    refine x0_eq rfl rfl (fun _ => ?_) (fun h => absurd rfl h)
    refine x_scall [xI y, xI (nI 0), xI (nI 5)] rfl rfl rfl rfl rfl rfl rfl (c_isNot (lo := 0) (hi := 5) (by decide) (by decide) ?_)
    cases hy : gI y 0 5 with
    | none =>
      rw [hy] at hp
      refine x0_eq rfl rfl (fun h => absurd h (by decide)) (fun _ => ?_)
      exact x_ret rfl rfl rfl rfl hp
    | some k =>
      rw [hy] at hp
      dsimp only at hp
      obtain ⟨f1, f2, f3, f4⟩ := gI_some (by decide) hy
      subst f1
      have htab := as_tab _ h5 k (by omega)
      refine x0_eq rfl rfl (fun _ => ?_) (fun h => absurd rfl h)
      refine x_aldN b rfl rfl rfl (by omega) rfl ?_
      rw [hr.2.2.2.2.1 b hb]
      refine x_tldN (G.now.kd b) rfl rfl rfl h5 ?_
      refine x0_ne rfl rfl (fun h2 => ?_) (fun h2 => ?_)
      · have e : asOK (G.now.kd b) k = true := by
          cases hq : asOK (G.now.kd b) k with
          | true => rfl
          | false => exact absurd (htab.mpr hq) h2
        rw [e, if_pos rfl] at hp
        refine x_tldN (G.now.kd b) rfl rfl rfl h5 ?_
        refine x_ret rfl rfl rfl rfl ?_
        rw [wtab2 _ h5]
        exact hp
      · have e := htab.mp h2
        rw [e, if_neg (by decide)] at hp
        exact x_ret rfl rfl rfl rfl hp
theorem am_as {x y : Int32} (h : RelM D G) (hg : gok G) (hp : post (some (aAs G x y)) D) : xRuns Γ (n + 2) hX9_as [xR 0 9 111, xI x, xI y] D post := by
  have ho := hg.2.2.1.1
  have h8 := ho.1
  have hr := h.2.1
  refine x_runs kX9_as (by decide +kernel) rfl ?_
  refine x_call [xI x] rfl rfl rfl rfl rfl rfl rfl (c_isBird hr ho ?_)
  rw [aAs] at hp
  cases hx : gI x 0 ((G.now.B : Int) - 1) with
  | none =>
    rw [hx] at hp
    refine x0_ne rfl rfl (fun h => absurd rfl h) (fun _ => ?_)
    exact x_ret rfl rfl rfl rfl hp
  | some b =>
    rw [hx] at hp
    dsimp only at hp
    obtain ⟨e1, e2, e3, e4⟩ := gI_some (by decide) hx
    subst e1
    have hb : b < G.now.B := by omega
    have h5 := ho.2.2.2.2.1 b hb
    refine x0_ne rfl rfl (fun _ => ?_) (fun h => absurd h (by simp))
    refine x_scall [xL y.toInt64, xL (Int64.ofNat 0), xL (Int64.ofNat 5)] rfl rfl rfl rfl rfl rfl rfl (c_inI (lo := 0) (hi := 5) (by decide) (by decide) ?_)
    cases hy : gI y 0 5 with
    | none =>
      rw [hy] at hp
      refine x0_ne rfl rfl (fun h => absurd rfl h) (fun _ => ?_)
      exact x_ret rfl rfl rfl rfl hp
    | some k =>
      rw [hy] at hp
      dsimp only at hp
      obtain ⟨f1, f2, f3, f4⟩ := gI_some (by decide) hy
      subst f1
      have hk : k < 6 := by omega
      refine x0_ne rfl rfl (fun _ => ?_) (fun h => absurd h (by simp))
      refine x_aldN (0 + 4 + b) rfl rfl (by rw [Nat.zero_add]; exact nI_add 4 b) (by omega) rfl ?_
      rw [hr.2.2.2.2.1 b hb]
      have yes : asOK (G.now.kd b) k = true → xW Γ (n + 2) hX9_as rX9_as 66 [some (xR 0 9 111), some (xI (nI b)), some (xI (nI k)), some (xI (nI (G.now.kd b))), none] [] D post := by
        intro e
        rw [e, if_pos rfl] at hp
        refine x_goto rfl rfl ?_
        refine x0_eq rfl rfl (fun h => absurd h (by decide)) (fun _ => ?_)
        refine x_scall [xI (nI (G.now.kd b))] rfl rfl rfl rfl rfl rfl rfl (c_gets h5 ?_)
        exact x_goto rfl rfl (x_ret rfl rfl rfl rfl hp)
      have no : asOK (G.now.kd b) k = false → xW Γ (n + 2) hX9_as rX9_as 70 [some (xR 0 9 111), some (xI (nI b)), some (xI (nI k)), some (xI (nI (G.now.kd b))), none] [] D post := by
        intro e
        rw [e, if_neg (by decide)] at hp
        refine x0_eq rfl rfl (fun _ => ?_) (fun h => absurd rfl h)
        exact x_ret rfl rfl rfl rfl hp
      refine x0_eq rfl rfl (fun h2 => ?_) (fun h2 => ?_)
      · have : k = 0 := (nI_eq (b := 0) (by omega) (by omega)).mp h2
        exact yes (by simp [asOK, this])
      · have k0 : ¬ k = 0 := fun z => h2 (by rw [z]; rfl)
        refine xi_eqN k (G.now.kd b + 1) rfl rfl rfl (nI_1 _) (by omega) (by omega) (fun h3 => ?_) (fun h3 => ?_)
        · exact yes (by simp [asOK, h3])
        · have last : ¬ (k = 1 ∧ G.now.kd b < 3) → xW Γ (n + 2) hX9_as rX9_as 56 [some (xR 0 9 111), some (xI (nI b)), some (xI (nI k)), some (xI (nI (G.now.kd b))), none] [] D post := by
            intro hq
            refine xi_neN k 4 rfl rfl rfl rfl (by omega) (by omega) (fun h6 => ?_) (fun h6 => ?_)
            · exact no (by simp [asOK, k0, h3, h6]; omega)
            · refine xi_neN (G.now.kd b) 4 rfl rfl rfl rfl (by omega) (by omega) (fun h7 => ?_) (fun h7 => ?_)
              · exact no (by simp [asOK, k0, h3, h7]; omega)
              · exact yes (by simp [asOK, h6, h7])
          refine xi_neN k 1 rfl rfl rfl rfl (by omega) (by omega) (fun h4 => last (by omega)) (fun h4 => ?_)
          refine xi_ltN (G.now.kd b) 3 rfl rfl rfl rfl (by omega) (by omega) (fun h6 => ?_) (fun h6 => ?_)
          · exact yes (by simp [asOK, h4, h6])
          · exact last (by omega)
theorem a_known {x y z : Int32} (h : RelC D G) (hg : gok G) (hp : ∀ D', RelC D' G → (∀ a, 111 ≤ a → D' a = D a) → post (some (aKnown G x y z)) D') : xRuns Γ (n + 5) hX8_known [xR 0 8 0, xI x, xI y, xI z] D post := by
  have ho := hg.2.2.1.1
  have hE := hg.2.2.1.2
  have h8 := ho.1
  have hr := h.2.1
  refine x_runs kX8_known (by decide +kernel) rfl ?_
  refine x_call [xI x] rfl rfl rfl rfl rfl rfl rfl (c_noBird hr ho ?_)
  rw [aKnown] at hp
  cases hx : gI x 0 ((G.now.B : Int) - 1) with
  | none =>
    rw [hx] at hp
    refine x0_ne rfl rfl (fun _ => ?_) (fun h => absurd h (by decide))
    exact x_ret rfl rfl rfl rfl (hp D h (fun _ _ => rfl))
  | some b =>
    rw [hx] at hp
    dsimp only at hp
    obtain ⟨e1, e2, e3, e4⟩ := gI_some (by decide) hx
    subst e1
    have hb : b < G.now.B := by omega
    refine x0_ne rfl rfl (fun h => absurd rfl h) (fun _ => ?_)
    refine x_scall [xI y] rfl rfl rfl rfl rfl rfl rfl (c_noWord ?_)
    cases hy : gI y 0 9 with
    | none =>
      rw [hy] at hp
      refine x0_eq rfl rfl (fun h => absurd h (by decide)) (fun _ => ?_)
      exact x_ret rfl rfl rfl rfl (hp D h (fun _ _ => rfl))
    | some k =>
      rw [hy] at hp
      dsimp only at hp
      obtain ⟨f1, f2, f3, f4⟩ := gI_some (by decide) hy
      subst f1
      refine x0_eq rfl rfl (fun _ => ?_) (fun h => absurd rfl h)
      refine x_scall [xI z, xI (nI 0), xI (nI 60)] rfl rfl rfl rfl rfl rfl rfl (c_isNot (lo := 0) (hi := 60) (by decide) (by decide) ?_)
      cases hz : gI z 0 60 with
      | none =>
        rw [hz] at hp
        refine x0_eq rfl rfl (fun h => absurd h (by decide)) (fun _ => ?_)
        exact x_ret rfl rfl rfl rfl (hp D h (fun _ _ => rfl))
      | some e =>
        rw [hz] at hp
        dsimp only at hp
        obtain ⟨i1, i2, i3, i4⟩ := gI_some (by decide) hz
        subst i1
        refine x0_eq rfl rfl (fun _ => ?_) (fun h => absurd rfl h)
        refine x_call [xR 0 7 21] rfl rfl rfl rfl rfl rfl rfl (c_become (w := 27) (o := 21) (by omega) (fun D1 hc hs => ?_))
        refine x_to 45 rfl ?_
        have loop : ∀ (f i : Nat) (D2 : xM), i + f = e → rW D2 27 (wPassN G.now i) → (∀ a, (a < 27 ∨ 35 < a) → D2 a = D a) → xW Γ (n + 5) hX8_known rX8_known 45 [some (xR 0 8 0), some (xI (nI b)), some (xI (nI k)), some (xI (nI e)), some (xI (nI i))] [] D2 post := by
          intro f
          induction f with
          | zero =>
            intro i D2 hi hr2 hs2
            obtain rfl : i = e := by omega
            have ho2 := wok_passN ho i (by omega)
            refine xi_geN i i rfl rfl rfl rfl (by omega) (by omega) (fun _ => ?_) (fun h => absurd h (by omega))
            refine x_call [xI (nI b), xI (nI k)] rfl rfl rfl rfl rfl rfl rfl (c_knowledge hr2 ho2 (by rw [(passN_B G.now i).1]; exact hb) (by omega) ?_)
            exact x_ret rfl rfl rfl rfl (hp D2 (RelC_out h (fun a ha _ => hs2 a ha)) (fun a ha => hs2 a (by omega)))
          | succ f ih =>
            intro i D2 hi hr2 hs2
            have ho2 := wok_passN ho i (by omega)
            refine xi_geN i e rfl rfl rfl rfl (by omega) (by omega) (fun h => absurd h (by omega)) (fun h => ?_)
            refine x_call [xR 0 4 33] rfl rfl rfl rfl rfl rfl rfl (c_passEvening (by omega) hr2 ho2 (by rw [(passN_B G.now i).2.2]; omega) (fun D3 hr3 hP3 hs3 => ?_))
            have IH := ih (i + 1) D3 (by omega) hr3 (fun a ha => by rw [hs3 a (by omega) (by omega) (by omega)]; exact hs2 a ha)
            rw [← nI_1] at IH
            exact x_goto rfl rfl IH
        exact loop e 0 D1 (by omega) (hc G.now h8 ho.2.1 hr) (fun a ha => hs a (by omega))
theorem am_known {x y z : Int32} (h : RelM D G) (hg : gok G) (hp : ∀ D', RelM D' G → (∀ a, a < 111 → D' a = D a) → post (some (aKnown G x y z)) D') : xRuns Γ (n + 6) hX9_known [xR 0 9 111, xI x, xI y, xI z] D post := by
  have ho := hg.2.2.1.1
  have hE := hg.2.2.1.2
  have h8 := ho.1
  have hr := h.2.1
  refine x_runs kX9_known (by decide +kernel) rfl ?_
  refine x_call [xI x] rfl rfl rfl rfl rfl rfl rfl (c_isBird hr ho ?_)
  rw [aKnown] at hp
  cases hx : gI x 0 ((G.now.B : Int) - 1) with
  | none =>
    rw [hx] at hp
    refine x0_eq rfl rfl (fun _ => ?_) (fun h => absurd rfl h)
    exact x_ret rfl rfl rfl rfl (hp D h (fun _ _ => rfl))
  | some b =>
    rw [hx] at hp
    dsimp only at hp
    obtain ⟨e1, e2, e3, e4⟩ := gI_some (by decide) hx
    subst e1
    have hb : b < G.now.B := by omega
    refine x0_eq rfl rfl (fun h => absurd h (by simp)) (fun _ => ?_)
    refine x_scall [xI y] rfl rfl rfl rfl rfl rfl rfl (c_isWordN ?_)
    cases hy : gI y 0 9 with
    | none =>
      rw [hy] at hp
      refine x0_ne rfl rfl (fun h => absurd rfl h) (fun _ => ?_)
      exact x_ret rfl rfl rfl rfl (hp D h (fun _ _ => rfl))
    | some k =>
      rw [hy] at hp
      dsimp only at hp
      obtain ⟨f1, f2, f3, f4⟩ := gI_some (by decide) hy
      subst f1
      refine x0_ne rfl rfl (fun _ => ?_) (fun h => absurd h (by simp))
      refine x_scall [xL z.toInt64, xL (Int64.ofNat 0), xL (Int64.ofNat 60)] rfl rfl rfl rfl rfl rfl rfl (c_inI (lo := 0) (hi := 60) (by decide) (by decide) ?_)
      cases hz : gI z 0 60 with
      | none =>
        rw [hz] at hp
        refine x0_ne rfl rfl (fun h => absurd rfl h) (fun _ => ?_)
        exact x_ret rfl rfl rfl rfl (hp D h (fun _ _ => rfl))
      | some e =>
        rw [hz] at hp
        dsimp only at hp
        obtain ⟨i1, i2, i3, i4⟩ := gI_some (by decide) hz
        subst i1
        refine x0_ne rfl rfl (fun _ => ?_) (fun h => absurd h (by simp))
        refine x_call [] rfl rfl rfl rfl rfl rfl rfl (c_layTried hr h8 ho.2.1 (fun D1 hr1 hs1 => ?_))
        obtain ⟨sp0, hP0, hl0⟩ := h.2.2.2.2.2.2.2
        refine x_call [xI (nI e)] rfl rfl rfl rfl rfl rfl rfl (c_passTried (by omega) hr1 (rP_outM hP0 hs1) hl0 ho (by omega) (fun D2 hr2 hsp hs2 => ?_))
        refine x_aldN (1296 + 20 + (b * 10 + k)) rfl rfl (by
          show nI 1316 + nI 10 * nI b + nI k = _
          rw [pk_mul, nI_add, nI_add]
          exact congrArg nI (by omega)) (by omega) rfl ?_
        refine x_ret rfl rfl rfl rfl ?_
        rw [hr2.2.2.2.2.2.2.1 b k (by rw [(passN_B G.now e).1]; exact hb) (by omega)]
        obtain ⟨sp, q1, q2, -⟩ := hsp
        refine hp D2 (RelM_out h hg (fun a j g1 g2 g3 _ => by rw [hs2 a j (by omega) g2 g3, hs1 a j (by omega)]) ⟨sp, q1, q2⟩) (fun a ha => funext fun j => by rw [hs2 a j (by omega) (by omega) (by omega), hs1 a j (by omega)])
end A2
