/-! ===== calls: fault, harbour ===== -/
def aFault (G : gS) (x : Int32) : Int32 := match gI x 0 1 with
  | none => -3
  | some 0 => match rdA G.tx 20 1 G.told 0 with
    | .inl p => nI p
    | .inr _ => -1
  | some _ => xby (tgF G.tx G.tx.length 0 0 true false)
def aHarbour (G : gS) : Int32 × gS := match rdA G.tx 20 1 G.told 0 with
  | .inl _ => (-4, G)
  | .inr (c, S) => (nI c, gmk [] G.tg S S [] (fun _ => none) [] G.reel)
theorem RelC_rd {D D' : xM} {G : gS} (h : RelC D G) (e1 : D' 1 1 = nI G.tx.length) (e2 : rL D' 2 G.tx) (e : ∀ a, a ≠ 1 → (a < 3 ∨ 9 < a) → a ≠ 2 → D' a = D a) : RelC D' G := by
  obtain ⟨h1, h2, h3, h4, h5, h6, h7⟩ := h
  exact ⟨rW_out h1 (fun a ha hb => e a (by omega) (by omega) (by omega)), rW_out h2 (fun a ha hb => e a (by omega) (by omega) (by omega)), ⟨e1, e2⟩, cHi_out h4 (fun a ha hb => e a (by omega) (by omega) (by omega)), cSe_out h5 (fun a ha hb => e a (by omega) (by omega) (by omega)), cRe_out h6 (fun a ha hb => e a (by omega) (by omega) (by omega)), cTg_out h7 (by rw [e 10 (by omega) (by omega) (by omega)]) (e 11 (by omega) (by omega) (by omega)) (e 12 (by omega) (by omega) (by omega))⟩
theorem RelM_out2 {D D' : xM} {G : gS} (h : RelM D G) (hg : gok G) (e : ∀ a j, ¬ (a = 112 ∧ 1296 ≤ j) → ¬ (a = 111 ∧ 16 ≤ j) → a ≠ 138 → a ≠ 139 → (111 ≤ a ∧ a ≤ 134 ∧ a ≠ 124) → D' a j = D a j) (hs : mSp D') : RelM D' G := by
  obtain ⟨⟨h1, h1z⟩, h2, h3, h4, h5, h6, h7, h8⟩ := h
  obtain ⟨g1, g2, g3, g4, g5, g6, g7⟩ := hg
  have ef : ∀ a, 113 ≤ a → a ≤ 123 → D' a = D a := fun a ha hb => funext fun j => e a j (by omega) (by omega) (by omega) (by omega) (by omega)
  have er : ∀ j, j < 1296 → D' 112 j = D 112 j := fun j hj => e 112 j (by omega) (by omega) (by omega) (by omega) (by omega)
  have eo : ∀ j, j < 16 → D' 111 j = D 111 j := fun j hj => e 111 j (by omega) (by omega) (by omega) (by omega) (by omega)
  exact ⟨⟨rM_out h1 g2.1 g2.2.1 (fun j _ _ => er j (by omega)), mZ_out h1z (fun j _ _ => er j (by omega)) (fun a ha hb => funext fun j => e a j (by omega) (by omega) (by omega) (by omega) (by omega))⟩, rM_out h2 g3.1.1 g3.1.2.1 (fun j _ _ => er j (by omega)), mTx_out h3 (eo 4 (by omega)) (ef 114 (by omega) (by omega)), mHi_out h4 g4.1 (fun S hS => (g4.2 S hS).1) (fun k S hk hS => (g5 k S hk hS).1) (eo 1 (by omega)) (fun j _ _ => er j (by omega)) (ef 113 (by omega) (by omega)), mSe_out h5 (eo 5 (by omega)) (fun a ha hb => ef a (by omega) (by omega)), mRe_out h6 (fun a ha hb => ef a (by omega) (by omega)), mTg_out h7 (eo 9 (by omega)) (ef 118 (by omega) (by omega)) (ef 119 (by omega) (by omega)) (ef 120 (by omega) (by omega)), hs⟩
section HB
variable {Γ : xG} {n : Nat} {D : xM} {post : Option Int32 → xM → Prop} {G : gS}
theorem a_fault {x : Int32} (h : RelC D G) (hg : gok G) (hE : G.told.E = 0) (hp : ∀ D', RelC D' G → (∀ a, 111 ≤ a → D' a = D a) → post (some (aFault G x)) D') : xRuns Γ (n + 8) hX8_fault [xR 0 8 0, xI x] D post := by
  refine x_runs kX8_fault (by decide +kernel) rfl ?_
  rw [aFault] at hp
  refine x_scall [xI x, xI (nI 0), xI (nI 1)] rfl rfl rfl rfl rfl rfl rfl (c_isNot (lo := 0) (hi := 1) (by decide) (by decide) ?_)
  rcases hx_k : gI x 0 1 with _ | k
  · rw [hx_k] at hp
    refine x0_eq rfl rfl (fun h => absurd h (by decide)) (fun _ => ?_)
    exact x_ret rfl rfl rfl rfl (hp D h (fun _ _ => rfl))
  rw [hx_k] at hp
  try dsimp only at hp
  obtain ⟨e1_k, e2_k, e3_k, e4_k⟩ := gI_some (by decide) hx_k
  subst e1_k
  have h_k : k < 2 := by omega
  refine x0_eq rfl rfl (fun _ => ?_) (fun h => absurd rfl h)
  match k, h_k with
  | 0, _ =>
    refine x0_ne rfl rfl (fun q => absurd rfl q) (fun _ => ?_)
    refine x_call [xR 0 7 15] rfl rfl rfl rfl rfl rfl rfl (c_readOver (pl := 0) (be := 0) h.2.2.1 h.1 hg.2.1 hE hg.1 (fun D1 q1 q2 q3 => ?_))
    have rc : RelC D1 G := RelC_rd h q1 q2 (fun a w1 w2 _ => q3 a w1 w2)
    have R := hp D1 rc (fun a ha => q3 a (by omega) (by omega))
    rcases hrd : rdA G.tx 20 1 G.told 0 with p | ⟨c, S⟩
    · rw [hrd] at R
      exact x_goto rfl rfl (x_ret rfl rfl rfl rfl R)
    · rw [hrd] at R
      intro _ _
      exact x_goto rfl rfl (x_ret rfl rfl rfl rfl R)
  | 1, _ =>
    refine x0_ne rfl rfl (fun _ => ?_) (fun q => absurd q (by decide))
    refine x_scall [xR 0 5 1] rfl rfl rfl rfl rfl rfl rfl (c_faultIn h.2.2.1 hg.1 (fun D1 q1 q2 q3 => ?_))
    have rc : RelC D1 G := RelC_rd h q1 q2 (fun a w1 w2 _ => q3 a w1)
    exact x_ret rfl rfl rfl rfl (hp D1 rc (fun a ha => q3 a (by omega)))
  | k + 2, z => exact absurd z (by omega)
theorem am_fault {x : Int32} (h : RelM D G) (hg : gok G) (hE : G.told.E = 0) (hp : ∀ D', RelM D' G → (∀ a, a < 111 → D' a = D a) → post (some (aFault G x)) D') : xRuns Γ (n + 7) hX9_fault [xR 0 9 111, xI x] D post := by
  refine x_runs kX9_fault (by decide +kernel) rfl ?_
  rw [aFault] at hp
  refine x_scall [xL x.toInt64, xL (Int64.ofNat 0), xL (Int64.ofNat 1)] rfl rfl rfl rfl rfl rfl rfl (c_inI (lo := 0) (hi := 1) (by decide) (by decide) ?_)
  rcases hx_k : gI x 0 1 with _ | k
  · rw [hx_k] at hp
    refine x0_ne rfl rfl (fun h => absurd rfl h) (fun _ => ?_)
    exact x_ret rfl rfl rfl rfl (hp D h (fun _ _ => rfl))
  rw [hx_k] at hp
  try dsimp only at hp
  obtain ⟨e1_k, e2_k, e3_k, e4_k⟩ := gI_some (by decide) hx_k
  subst e1_k
  have h_k : k < 2 := by omega
  refine x0_ne rfl rfl (fun _ => ?_) (fun h => absurd h (by simp))
  match k, h_k with
  | 0, _ =>
    refine xi_neN 0 1 rfl rfl rfl rfl (by omega) (by omega) (fun _ => ?_) (fun q => absurd q (by omega))
    refine x_call [xI 0] rfl rfl rfl rfl rfl rfl rfl (c_reads (d := false) h.2.2.1 h.1.1 h.1.2 hg.2.1 hE hg.1 (fun D1 f1 => ?_))
    have rc : RelM D1 G := RelM_out2 h hg (fun a j w1 w2 w3 w4 w5 => f1 a j w2 (by omega) (fun z => by cases z.1)) (mSp_out h.2.2.2.2.2.2.2 (funext fun j => f1 138 j (by omega) (by omega) (fun z => by cases z.1)) (funext fun j => f1 139 j (by omega) (by omega) (fun z => by cases z.1)))
    have R := hp D1 rc (fun a ha => funext fun j => f1 a j (by omega) (by omega) (fun z => by cases z.1))
    rcases hrd : rdA G.tx 20 1 G.told 0 with p | ⟨c, S⟩
    · rw [hrd] at R
      intro e1
      refine x0_eq rfl rfl (fun _ => ?_) (fun q => absurd rfl q)
      refine x_ret rfl rfl rfl rfl ?_
      rw [e1]
      exact R
    · rw [hrd] at R
      intro _ _
      refine x0_eq rfl rfl (fun q => absurd q (by decide)) (fun _ => ?_)
      exact x_goto rfl rfl (x_ret rfl rfl rfl rfl R)
  | 1, _ =>
    refine xi_neN 1 1 rfl rfl rfl rfl (by omega) (by omega) (fun q => absurd rfl q) (fun _ => ?_)
    refine x_call [] rfl rfl rfl rfl rfl rfl rfl (c_tongueFault h.2.2.1 hg.1 ?_)
    exact x_ret rfl rfl rfl rfl (hp D h (fun _ _ => rfl))
  | k + 2, z => exact absurd z (by omega)
theorem a_harbour (h : RelC D G) (hg : gok G) (hE : G.told.E = 0) (hp : ∀ D', RelC D' (aHarbour G).2 → (∀ a, 111 ≤ a → D' a = D a) → post (some (aHarbour G).1) D') : xRuns Γ (n + 8) hX8_harbour [xR 0 8 0] D post := by
  refine x_runs kX8_harbour (by decide +kernel) rfl ?_
  rw [aHarbour] at hp
  refine x_call [xR 0 7 15] rfl rfl rfl rfl rfl rfl rfl (c_readOver (pl := 0) (be := 0) h.2.2.1 h.1 hg.2.1 hE hg.1 (fun D1 q1 q2 q3 => ?_))
  have rc : RelC D1 G := RelC_rd h q1 q2 (fun a w1 w2 _ => q3 a w1 w2)
  have ok := rdA_ok (tx := G.tx) 20 1 G.told 0 hg.2.1 hE (Nat.zero_le _)
  rcases hrd : rdA G.tx 20 1 G.told 0 with p | ⟨c, S⟩
  · rw [hrd] at hp ok
    have ok : p ≤ G.tx.length := ok
    have hL := hg.1.1
    refine xi_eq rfl rfl (fun q => absurd q (nI_nm1 (by omega))) (fun _ => ?_)
    exact x_ret rfl rfl rfl rfl (hp D1 rc (fun a ha => q3 a (by omega) (by omega)))
  · rw [hrd] at hp ok
    obtain ⟨-, -, o1, o2⟩ := ok
    intro r1 r2
    refine xi_eq rfl rfl (fun _ => ?_) (fun q => absurd rfl q)
    refine x_call [xR 0 7 4] rfl rfl rfl rfl rfl rfl rfl (c_become (by omega) (fun D2 c2 s2 => ?_))
    have r3 := c2 S o1.1 o1.2.1 r1
    refine x_call [xR 0 7 15] rfl rfl rfl rfl rfl rfl rfl (c_become (by omega) (fun D3 c3 s3 => ?_))
    have r4 := c3 S o1.1 o1.2.1 r3
    have r5 : rW D3 15 S := rW_out r3 (fun a ha hb => s3 a (by omega))
    refine x_call [] rfl rfl rfl rfl rfl rfl rfl ?_
    refine x_runs kX1_clear (by decide +kernel) rfl ?_
    refine x_vret rfl rfl rfl ?_
    refine x_call [] rfl rfl rfl rfl rfl rfl rfl ?_
    refine x_runs kX3_clear (by decide +kernel) rfl ?_
    refine x_vret rfl rfl rfl ?_
    refine x_call [] rfl rfl rfl rfl rfl rfl rfl ?_
    refine x_runs kX5_clear (by decide +kernel) rfl ?_
    refine x_vret rfl rfl rfl ?_
    refine x_ret rfl rfl rfl rfl ?_
    have e3 : ∀ a, (a < 15 ∨ 26 < a) → D3 a = D1 a := fun a ha => by rw [s3 a (by omega), s2 a (by omega)]
    rw [xup_o (by omega), xup_o (by omega), xup_o (by omega), xup_o (by omega), e3 3 (by omega), r2]
    have ea : ∀ a, a ≠ 1 → a ≠ 36 → a ≠ 99 → xup (xup (xup (xup D3 36 4 (xnum 0)) 36 3 (xnum 0)) 99 3 (xnum 0)) 1 1 (xnum 0) a = D3 a := fun a w1 w2 w3 => by rw [xup_ne a w1, xup_ne a w3, xup_ne a w2, xup_ne a w2]
    refine hp _ ?_ (fun a ha => by rw [ea a (by omega) (by omega) (by omega), e3 a (by omega)]; exact q3 a (by omega) (by omega))
    obtain ⟨h1, h2, h3, h4, h5, h6, h7⟩ := rc
    obtain ⟨nx, sb, n1, n2, n3, n4, n5, n6, n7⟩ := h4
    refine ⟨rW_out r5 (fun a ha hb => ea a (by omega) (by omega) (by omega)), rW_out r4 (fun a ha hb => ea a (by omega) (by omega) (by omega)), ⟨by rw [xup_at]; rfl, fun j hj => absurd hj (Nat.not_lt_zero j)⟩, ⟨nx, 0, n1, by omega, ?_, ?_, ?_, fun j hj => absurd hj (Nat.not_lt_zero j), fun k hk => ⟨by simp, fun S hS => by cases hS⟩⟩, ⟨?_, fun j hj => absurd hj (Nat.not_lt_zero j)⟩, cRe_out h6 (fun a ha hb => by rw [ea a (by omega) (by omega) (by omega), e3 a (by omega)]), cTg_out h7 (by rw [ea 10 (by omega) (by omega) (by omega), e3 10 (by omega)]) (by rw [ea 11 (by omega) (by omega) (by omega), e3 11 (by omega)]) (by rw [ea 12 (by omega) (by omega) (by omega), e3 12 (by omega)])⟩
    · rw [xup_o (by omega), xup_o (by omega), xup_o (by omega), xup_o (by omega), e3 36 (by omega)]; exact n3
    · rw [xup_o (by omega), xup_o (by omega), xup_at]; rfl
    · rw [xup_o (by omega), xup_o (by omega), xup_o (by omega), xup_at]; rfl
    · rw [xup_o (by omega), xup_at]; rfl
theorem am_harbour (h : RelM D G) (hg : gok G) (hE : G.told.E = 0) (hp : ∀ D', RelM D' (aHarbour G).2 → (∀ a, a < 111 → D' a = D a) → post (some (aHarbour G).1) D') : xRuns Γ (n + 7) hX9_harbour [xR 0 9 111] D post := by
  refine x_runs kX9_harbour (by decide +kernel) rfl ?_
  rw [aHarbour] at hp
  refine x_call [xI 0] rfl rfl rfl rfl rfl rfl rfl (c_reads (d := false) h.2.2.1 h.1.1 h.1.2 hg.2.1 hE hg.1 (fun D1 f1 => ?_))
  have f1 : ∀ a j, ¬ (a = 111 ∧ 16 ≤ j) → a ≠ 124 → D1 a j = D a j := fun a j w1 w2 => f1 a j w1 w2 (fun z => by cases z.1)
  have rc : RelM D1 G := RelM_out2 h hg (fun a j w1 w2 w3 w4 w5 => f1 a j w2 (by omega)) (mSp_out h.2.2.2.2.2.2.2 (funext fun j => f1 138 j (by omega) (by omega)) (funext fun j => f1 139 j (by omega) (by omega)))
  have ok := rdA_ok (tx := G.tx) 20 1 G.told 0 hg.2.1 hE (Nat.zero_le _)
  rcases hrd : rdA G.tx 20 1 G.told 0 with p | ⟨c, S⟩
  · rw [hrd] at hp
    intro _
    refine x0_ne rfl rfl (fun q => absurd rfl q) (fun _ => ?_)
    exact x_ret rfl rfl rfl rfl (hp D1 rc (fun a ha => funext fun j => f1 a j (by omega) (by omega)))
  · rw [hrd] at hp ok
    obtain ⟨-, -, o1, o2⟩ := ok
    intro _ _
    refine x0_ne rfl rfl (fun _ => ?_) (fun q => absurd q (by decide))
    refine x_call [xI 1] rfl rfl rfl rfl rfl rfl rfl (c_reads (d := true) rc.2.2.1 rc.1.1 rc.1.2 hg.2.1 hE hg.1 (fun D2 f2 => ?_))
    rw [hrd]
    intro r1 r2
    obtain ⟨r2, r3⟩ := r2 rfl
    have f2 : ∀ a j, ¬ (a = 111 ∧ 16 ≤ j) → a ≠ 124 → ¬ (a = 112 ∧ 108 ≤ j ∧ j < 216) → D2 a j = D1 a j := fun a j w1 w2 w3 => f2 a j w1 w2 (fun z => w3 z.2)
    refine x_call [xI (nI 108), xI (nI 0)] rfl rfl rfl rfl rfl rfl rfl (c_copyHarbour (by omega) (by omega) (by omega) (fun D3 hc3 hs3 => ?_))
    have e2 : ∀ j, j < 108 → D3 112 j = D2 112 (108 + j) := fun j hj => by
      have := hc3 j hj
      rw [Nat.zero_add] at this
      rw [this, xup_o (by omega)]
    refine x_bstN 0 rfl rfl rfl (by omega) rfl (Or.inl rfl) ?_
    refine x_bstN 1 rfl rfl rfl (by omega) rfl (Or.inl rfl) ?_
    refine x_ret rfl rfl rfl rfl ?_
    have ea : ∀ a j, ¬ (a = 111 ∧ (j = 1 ∨ j = 4 ∨ j = 5)) → ¬ (a = 112 ∧ j < 108) → ¬ (a = 113 ∧ j < 2) → xup (xup (xup (xup D3 111 1 (xnum 0)) 113 0 (xnum 0)) 113 1 (xnum 0)) 111 5 (xnum 0) a j = D2 a j := fun a j w1 w2 w3 => by
      rw [xup_o (by omega), xup_o (by omega), xup_o (by omega), xup_o (by omega), hs3 a j (by omega), xup_o (by omega)]
    rw [ea 111 21 (by omega) (by omega) (by omega), r1]
    have rS : rM (xup (xup (xup (xup D3 111 1 (xnum 0)) 113 0 (xnum 0)) 113 1 (xnum 0)) 111 5 (xnum 0)) 108 S := rM_out r2 o1.1 o1.2.1 (fun j _ _ => ea 112 j (by omega) (by omega) (by omega))
    have rN : rM (xup (xup (xup (xup D3 111 1 (xnum 0)) 113 0 (xnum 0)) 113 1 (xnum 0)) 111 5 (xnum 0)) 0 S := rM_copy o1.1 o1.2.1 r2 (fun i hi => by rw [xup_o (by omega), xup_o (by omega), xup_o (by omega), xup_o (by omega), Nat.zero_add]; exact e2 i hi)
    refine hp _ ?_ (fun a ha => funext fun j => by rw [ea a j (by omega) (by omega) (by omega), f2 a j (by omega) (by omega) (by omega)]; exact f1 a j (by omega) (by omega))
    obtain ⟨⟨h1, h1z⟩, h2, h3, h4, h5, h6, h7, h8⟩ := rc
    have eb : ∀ a, 114 ≤ a → a ≠ 124 → xup (xup (xup (xup D3 111 1 (xnum 0)) 113 0 (xnum 0)) 113 1 (xnum 0)) 111 5 (xnum 0) a = D1 a := fun a w1 w2 => funext fun j => by rw [ea a j (by omega) (by omega) (by omega), f2 a j (by omega) (by omega) (by omega)]
    refine ⟨⟨rS, fun b k w1 w2 w3 => ?_, fun q hq => rL_out (h1z.2 q hq) (eb _ (by have := tWc_in q hq; omega) (by have := tWc_in q hq; omega))⟩, rN, ⟨?_, fun j hj => absurd hj (Nat.not_lt_zero j)⟩, ⟨?_, fun j hj => absurd hj (Nat.not_lt_zero j), fun k hk => ⟨?_, fun S hS => by cases hS⟩⟩, ⟨?_, fun j hj => absurd hj (Nat.not_lt_zero j)⟩, mRe_out h6 (fun a ha hb => eb a (by omega) (by omega)), mTg_out h7 ?_ (eb 118 (by omega) (by omega)) (eb 119 (by omega) (by omega)) (eb 120 (by omega) (by omega)), mSp_out h8 (eb 138 (by omega) (by omega)) (eb 139 (by omega) (by omega))⟩
    · rw [ea 112 _ (by omega) (by omega) (by omega)]; exact r3 b k w1 w2 w3
    · rw [xup_o (by omega), xup_o (by omega), xup_o (by omega), xup_o (by omega), hs3 111 4 (by omega), xup_at]; rfl
    · rw [xup_o (by omega), xup_o (by omega), xup_o (by omega), xup_at]; rfl
    · match k, hk with
      | 0, _ => rw [xup_o (by omega), xup_o (by omega), xup_at]; rfl
      | 1, _ => rw [xup_o (by omega), xup_at]; rfl
      | k + 2, z => exact absurd z (by omega)
    · rw [xup_at]; rfl
    · rw [ea 111 9 (by omega) (by omega) (by omega), f2 111 9 (by omega) (by omega) (by omega)]
theorem g_harbour (hg : gok G) (hE : G.told.E = 0) : gok (aHarbour G).2 ∧ (aHarbour G).2.told.E = 0 ∧ (aHarbour G).2.tg = G.tg := by
  have ok := rdA_ok (tx := G.tx) 20 1 G.told 0 hg.2.1 hE (Nat.zero_le _)
  rw [aHarbour]
  rcases hrd : rdA G.tx 20 1 G.told 0 with p | ⟨c, S⟩
  · exact ⟨hg, hE, rfl⟩
  · rw [hrd] at ok
    obtain ⟨-, -, o1, o2⟩ := ok
    exact ⟨⟨⟨Nat.zero_le _, fun _ z => by cases z⟩, o1, ⟨o1, by show S.E ≤ 999; omega⟩, ⟨Nat.zero_le _, fun _ z => by cases z⟩, fun _ _ _ z => (by cases z), ⟨Nat.zero_le _, fun _ z => (by cases z)⟩, hg.2.2.2.2.2.2⟩, o2, rfl⟩
end HB
