/-! ===== calls that are done: evening, teach, moult ===== -/
theorem RelC_set {D D' : xM} {G : gS} {S' : wS} {past' : List wS} {kept' : Nat → Option wS} (h : RelC D G) (hh : cHi D' past' kept') (hr : rW D' 21 S') (e : ∀ a, (a < 21 ∨ 35 < a) → (a < 36 ∨ 98 < a) → D' a = D a) : RelC D' (gmk G.tx G.tg G.told S' past' kept' G.seen G.reel) := by
  obtain ⟨h1, h2, h3, h4, h5, h6, h7⟩ := h
  exact ⟨rW_out h1 (fun a ha hb => e a (by omega) (by omega)), hr, cTx_out h3 (by rw [e 1 (by omega) (by omega)]) (e 2 (by omega) (by omega)), hh, cSe_out h5 (fun a ha hb => e a (by omega) (by omega)), cRe_out h6 (fun a ha hb => e a (by omega) (by omega)), cTg_out h7 (by rw [e 10 (by omega) (by omega)]) (e 11 (by omega) (by omega)) (e 12 (by omega) (by omega))⟩
theorem RelM_set {D D' : xM} {G : gS} {S' : wS} {past' : List wS} {kept' : Nat → Option wS} (h : RelM D G) (hg : gok G) (hh : mHi D' past' kept') (hr : rM D' 0 S') (e : ∀ a j, ¬ (a = 112 ∧ (j < 108 ∨ 216 ≤ j)) → ¬ (a = 111 ∧ j = 1) → a ≠ 113 → a ≠ 138 → a ≠ 139 → D' a j = D a j) (hs : mSp D') : RelM D' (gmk G.tx G.tg G.told S' past' kept' G.seen G.reel) := by
  obtain ⟨⟨h1, h1z⟩, h2, h3, h4, h5, h6, h7, h8⟩ := h
  obtain ⟨g1, g2, g3, g4, g5, g6, g7⟩ := hg
  have ef : ∀ a, 114 ≤ a → a ≤ 123 → D' a = D a := fun a ha hb => funext fun j => e a j (by omega) (by omega) (by omega) (by omega) (by omega)
  have er : ∀ j, 108 ≤ j → j < 216 → D' 112 j = D 112 j := fun j ha hb => e 112 j (by omega) (by omega) (by omega) (by omega) (by omega)
  have e1 : ∀ j, j ≠ 1 → D' 111 j = D 111 j := fun j hj => e 111 j (by omega) (by omega) (by omega) (by omega) (by omega)
  exact ⟨⟨rM_out h1 g2.1 g2.2.1 (fun j q1 q2 => er j (by omega) (by omega)), mZ_out h1z er (fun a ha hb => funext fun j => e a j (by omega) (by omega) (by omega) (by omega) (by omega))⟩, hr, mTx_out h3 (e1 4 (by omega)) (ef 114 (by omega) (by omega)), hh, mSe_out h5 (e1 5 (by omega)) (fun a ha hb => ef a (by omega) (by omega)), mRe_out h6 (fun a ha hb => ef a (by omega) (by omega)), mTg_out h7 (e1 9 (by omega)) (ef 118 (by omega) (by omega)) (ef 119 (by omega) (by omega)) (ef 120 (by omega) (by omega)), hs⟩
/-- a new now, the old one to be taken back -/
def gNow (G : gS) (S : wS) : gS := gmk G.tx G.tg G.told S ((G.now :: G.past).take 8) G.kept G.seen G.reel
theorem g_now {G : gS} {S : wS} (hg : gok G) (ho : wok S) (hE : S.E ≤ 999) : gok (gNow G S) := by
  obtain ⟨g1, g2, g3, g4, g5, g6, g7⟩ := hg
  refine ⟨g1, g2, ⟨ho, hE⟩, ⟨by show ((G.now :: G.past).take 8).length ≤ 8; rw [List.length_take]; omega, fun T hT => ?_⟩, g5, g6, g7⟩
  rcases List.mem_cons.mp (List.mem_of_mem_take hT) with q | q
  · rw [q]; exact g3
  · exact g4.2 T q
theorem RelC_now {D D1 D2 : xM} {G : gS} {S : wS} (h : RelC D G) (hh : cHi D1 ((G.now :: G.past).take 8) G.kept) (e1 : ∀ a, (a < 36 ∨ 98 < a) → D1 a = D a) (hr : rW D2 21 S) (e2 : ∀ a, (a < 21 ∨ 35 < a) → D2 a = D1 a) : RelC D2 (gNow G S) :=
  RelC_set h (cHi_out hh (fun a ha hb => e2 a (by omega))) hr (fun a ha hb => by rw [e2 a ha, e1 a hb])
theorem RelM_now {D D1 D2 : xM} {G : gS} {S : wS} (h : RelM D G) (hg : gok G) (hh : mHi D1 ((G.now :: G.past).take 8) G.kept) (e1 : ∀ a j, ¬ (a = 112 ∧ 216 ≤ j ∧ j < 1080) → ¬ (a = 111 ∧ j = 1) → D1 a j = D a j) (hr : rM D2 0 S) (e2 : sameMP 0 D1 D2) (hs : mSp D2) : RelM D2 (gNow G S) := by
  obtain ⟨g1, g2, g3, g4, g5, g6, g7⟩ := id hg
  refine RelM_set h hg (mHi_out hh (by rw [List.length_take]; omega) (fun T hT => ?_) (fun k T hk hT => (g5 k T hk hT).1) (e2 111 1 (by omega) (by omega) (by omega)) (fun j _ _ => e2 112 j (by omega) (by omega) (by omega)) (funext fun j => e2 113 j (by omega) (by omega) (by omega))) hr (fun a j q1 q2 q3 q4 q5 => by rw [e2 a j (by omega) q4 q5, e1 a j (by omega) q2]) hs
  rcases List.mem_cons.mp (List.mem_of_mem_take hT) with q | q
  · rw [q]; exact g3.1
  · exact (g4.2 T q).1
theorem mSp_sameM {D D' : xM} {o : Nat} (h : mSp D) (e : sameM o D D') : mSp D' := mSp_out h (funext fun j => e 138 j (by omega)) (funext fun j => e 139 j (by omega))
def aEvening (G : gS) (x : Int32) : Int32 × gS := match gI x 1 12 with
  | none => (-3, G)
  | some e => if 999 < G.now.E + e then (-5, G) else (nI (G.now.E + e), gNow G (wPassN G.now e))
def aTeach (G : gS) (x y : Int32) : Int32 × gS := match gI x 0 ((G.now.B : Int) - 1) with
  | none => (-2, G)
  | some b => match gI y 0 9 with
    | none => (-2, G)
    | some k => (nI (min 9 (G.now.K b k + 3)), gNow G (wLearn G.now b k 3))
def aMoult (G : gS) (x : Int32) : Int32 × gS := match gI x 0 ((G.now.B : Int) - 1) with
  | none => (-2, G)
  | some b => (nI (wSum (fun k => G.now.K b k / 2) 10), gNow G (wHalve G.now b 10))
theorem wHalve_lo (S : wS) (b : Nat) : ∀ k j, j < k → (wHalve S b k).K b j = S.K b j / 2
  | 0, _, h => absurd h (by omega)
  | k + 1, j, h => by
    show wup (wHalve S b k).K b k (S.K b k / 2) b j = _
    by_cases e : j = k
    · simp [wup, e]
    · simp only [wup, e, and_false, if_false]
      exact wHalve_lo S b k j (by omega)
theorem wSum_cong {f g : Nat → Nat} : ∀ k, (∀ i, i < k → f i = g i) → wSum f k = wSum g k
  | 0, _ => rfl
  | k + 1, h => by rw [wSum, wSum, wSum_cong k (fun i hi => h i (by omega)), h k (by omega)]
theorem wok_halve {S : wS} (ho : wok S) (b : Nat) : ∀ k, wok (wHalve S b k) ∧ (wHalve S b k).E = S.E
  | 0 => ⟨ho, rfl⟩
  | k + 1 => by
    have ih := (wok_halve ho b k).1
    refine ⟨?_, rfl⟩
    refine wok_K (K := wup (wHalve S b k).K b k (S.K b k / 2)) ho (fun c j hc hj => ?_)
    have h9 := ho.2.2.2.2.2.2.1 c j hc hj
    have := wok_kok ih c j (by rw [wHalve_eq]; exact hc) hj
    simp only [wup]
    split
    · rename_i hq
      rw [← hq.1, ← hq.2]
      omega
    · exact this
theorem wok_learn {S : wS} (ho : wok S) (b k v : Nat) : wok (wLearn S b k v) := wok_K ho (kok_learn (wok_kok ho) b k v)
section A3
variable {Γ : xG} {n : Nat} {D : xM} {post : Option Int32 → xM → Prop} {G : gS}
theorem g_evening {x : Int32} (hg : gok G) : gok (aEvening G x).2 := by
  rw [aEvening]
  split
  · exact hg
  · rename_i e hx
    have h := gI_some (by decide) hx
    split
    · exact hg
    · have hE := hg.2.2.1.2
      exact g_now hg (wok_passN hg.2.2.1.1 e (by omega)) (by rw [(passN_B G.now e).2.2]; omega)
theorem g_teach {x y : Int32} (hg : gok G) : gok (aTeach G x y).2 := by
  rw [aTeach]
  split
  · exact hg
  · split
    · exact hg
    · exact g_now hg (wok_learn hg.2.2.1.1 _ _ _) hg.2.2.1.2
theorem g_moult {x : Int32} (hg : gok G) : gok (aMoult G x).2 := by
  rw [aMoult]
  split
  · exact hg
  · rename_i b hx
    have h := wok_halve hg.2.2.1.1 b 10
    exact g_now hg h.1 (by rw [h.2]; exact hg.2.2.1.2)
theorem a_evening {x : Int32} (h : RelC D G) (hg : gok G) (hp : ∀ D', RelC D' (aEvening G x).2 → (∀ a, 111 ≤ a → D' a = D a) → post (some (aEvening G x).1) D') : xRuns Γ (n + 5) hX8_evening [xR 0 8 0, xI x] D post := by
  have ho := hg.2.2.1.1
  have hE := hg.2.2.1.2
  have h8 := ho.1
  have h4 := ho.2.1
  have hr := h.2.1
  refine x_runs kX8_evening (by decide +kernel) rfl ?_
  rw [aEvening] at hp
  refine x_scall [xI x, xI (nI 1), xI (nI 12)] rfl rfl rfl rfl rfl rfl rfl (c_isNot (lo := 1) (hi := 12) (by decide) (by decide) ?_)
  rcases hx_e : gI x 1 12 with _ | e
  · rw [hx_e] at hp
    refine x0_eq rfl rfl (fun h => absurd h (by decide)) (fun _ => ?_)
    exact x_ret rfl rfl rfl rfl (hp D h (fun _ _ => rfl))
  rw [hx_e] at hp
  dsimp only at hp
  obtain ⟨e1_e, e2_e, e3_e, e4_e⟩ := gI_some (by decide) hx_e
  subst e1_e
  have h_e : e < 13 := by omega
  refine x0_eq rfl rfl (fun _ => ?_) (fun h => absurd rfl h)
  refine xi_leN (G.now.E + e) 999 rfl rfl (by rw [hr.2.2.1]; exact nI_add _ _) rfl (by omega) (by omega) (fun h2 => ?_) (fun h2 => ?_)
  · rw [if_neg (by omega)] at hp
    refine x_call [xR 0 7 21] rfl rfl rfl rfl rfl rfl rfl (c_remember h.2.2.2.1 hr h8 h4 hg.2.2.2.1.1 (fun D1 hh1 hs1 => ?_))
    refine x_to 44 rfl ?_
    have loop : ∀ (f i : Nat) (D2 : xM), i + f = e → rW D2 21 (wPassN G.now i) → (∀ a, (a < 21 ∨ 26 < a) → a ≠ 34 → a ≠ 35 → D2 a = D1 a) → xW Γ (n + 5) hX8_evening rX8_evening 44 [some (xR 0 8 0), some (xI (nI e)), some (xI (nI i))] [] D2 post := by
      intro f
      induction f with
      | zero =>
        intro i D2 hi hr2 hs2
        obtain rfl : i = e := by omega
        refine xi_geN i i rfl rfl rfl rfl (by omega) (by omega) (fun _ => ?_) (fun h => absurd h (by omega))
        refine x_ret rfl rfl rfl rfl ?_
        rw [hr2.2.2.1, (passN_B G.now i).2.2]
        exact hp D2 (RelC_now h hh1 hs1 hr2 (fun a ha => hs2 a (by omega) (by omega) (by omega))) (fun a ha => by rw [hs2 a (by omega) (by omega) (by omega), hs1 a (by omega)])
      | succ f ih =>
        intro i D2 hi hr2 hs2
        have ho2 := wok_passN ho i (by omega)
        refine xi_geN i e rfl rfl rfl rfl (by omega) (by omega) (fun h => absurd h (by omega)) (fun h => ?_)
        refine x_call [xR 0 4 33] rfl rfl rfl rfl rfl rfl rfl (c_passEvening (by omega) hr2 ho2 (by rw [(passN_B G.now i).2.2]; omega) (fun D3 hr3 hP3 hs3 => ?_))
        have IH := ih (i + 1) D3 (by omega) hr3 (fun a ha hb hc => by rw [hs3 a (by omega) hb hc]; exact hs2 a ha hb hc)
        rw [← nI_1] at IH
        exact x_goto rfl rfl IH
    exact loop e 0 D1 (by omega) (rW_out hr (fun a ha hb => hs1 a (by omega))) (fun _ _ _ _ => rfl)
  · rw [if_pos (by omega)] at hp
    exact x_ret rfl rfl rfl rfl (hp D h (fun _ _ => rfl))
theorem am_evening {x : Int32} (h : RelM D G) (hg : gok G) (hp : ∀ D', RelM D' (aEvening G x).2 → (∀ a, a < 111 → D' a = D a) → post (some (aEvening G x).1) D') : xRuns Γ (n + 5) hX9_evening [xR 0 9 111, xI x] D post := by
  have ho := hg.2.2.1.1
  have hE := hg.2.2.1.2
  have h8 := ho.1
  have h4 := ho.2.1
  have hr := h.2.1
  refine x_runs kX9_evening (by decide +kernel) rfl ?_
  rw [aEvening] at hp
  refine x_scall [xL x.toInt64, xL (Int64.ofNat 1), xL (Int64.ofNat 12)] rfl rfl rfl rfl rfl rfl rfl (c_inI (lo := 1) (hi := 12) (by decide) (by decide) ?_)
  rcases hx_e : gI x 1 12 with _ | e
  · rw [hx_e] at hp
    refine x0_ne rfl rfl (fun h => absurd rfl h) (fun _ => ?_)
    exact x_ret rfl rfl rfl rfl (hp D h (fun _ _ => rfl))
  rw [hx_e] at hp
  dsimp only at hp
  obtain ⟨e1_e, e2_e, e3_e, e4_e⟩ := gI_some (by decide) hx_e
  subst e1_e
  have h_e : e < 13 := by omega
  refine x0_ne rfl rfl (fun _ => ?_) (fun h => absurd h (by simp))
  refine x_aldN (0 + 2) rfl rfl rfl (by omega) rfl ?_
  refine xi_leN (G.now.E + e) 999 rfl rfl (by rw [hr.2.2.1]; exact nI_add _ _) rfl (by omega) (by omega) (fun h2 => ?_) (fun h2 => ?_)
  · rw [if_neg (by omega)] at hp
    refine x_call [] rfl rfl rfl rfl rfl rfl rfl (c_keepPast h.2.2.2.1 hg.2.2.2.1.1 (fun S hS => (hg.2.2.2.1.2 S hS).1) (fun k S hk hS => (hg.2.2.2.2.1 k S hk hS).1) hr h8 h4 (fun D1 hh1 hs1 => ?_))
    refine x_to 38 rfl ?_
    have loop : ∀ (f i : Nat) (D2 : xM) (sp : Nat → List Nat), i + f = e → rM D2 0 (wPassN G.now i) → rP D2 138 139 sp → (∀ z, z < 4 → (sp z).length ≤ 16) → sameMP 0 D1 D2 → xW Γ (n + 5) hX9_evening rX9_evening 38 [some (xR 0 9 111), some (xI (nI e)), some (xI (nI i))] [] D2 post := by
      intro f
      induction f with
      | zero =>
        intro i D2 sp hi hr2 hP2 hl2 hs2
        obtain rfl : i = e := by omega
        refine xi_geN i i rfl rfl rfl rfl (by omega) (by omega) (fun _ => ?_) (fun h => absurd h (by omega))
        refine x_aldN (0 + 2) rfl rfl rfl (by omega) rfl ?_
        refine x_ret rfl rfl rfl rfl ?_
        rw [hr2.2.2.1, (passN_B G.now i).2.2]
        exact hp D2 (RelM_now h hg hh1 hs1 hr2 hs2 ⟨sp, hP2, hl2⟩) (fun a ha => funext fun j => by rw [hs2 a j (by omega) (by omega) (by omega), hs1 a j (by omega) (by omega)])
      | succ f ih =>
        intro i D2 sp hi hr2 hP2 hl2 hs2
        have ho2 := wok_passN ho i (by omega)
        refine xi_geN i e rfl rfl rfl rfl (by omega) (by omega) (fun h => absurd h (by omega)) (fun h => ?_)
        refine x_call [xI (nI 0)] rfl rfl rfl rfl rfl rfl rfl (c_passes hr2 hP2 hl2 ho2 (by omega) (by rw [(passN_B G.now i).2.2]; omega) (fun D3 hr3 hP3 hs3 => ?_))
        have IH := ih (i + 1) D3 _ (by omega) hr3 hP3 (len_said ho2) (hs2.tr hs3)
        rw [← nI_1] at IH
        exact x_goto rfl rfl IH
    obtain ⟨sp0, hP0, hl0⟩ := h.2.2.2.2.2.2.2
    exact loop e 0 D1 sp0 (by omega) (rM_out hr h8 h4 (fun j _ _ => hs1 112 j (by omega) (by omega))) (rP_out hP0 (funext fun j => hs1 138 j (by omega) (by omega)) (funext fun j => hs1 139 j (by omega) (by omega))) hl0 sameMP.rf
  · rw [if_pos (by omega)] at hp
    exact x_ret rfl rfl rfl rfl (hp D h (fun _ _ => rfl))
theorem a_teach {x y : Int32} (h : RelC D G) (hg : gok G) (hp : ∀ D', RelC D' (aTeach G x y).2 → (∀ a, 111 ≤ a → D' a = D a) → post (some (aTeach G x y).1) D') : xRuns Γ (n + 3) hX8_teach [xR 0 8 0, xI x, xI y] D post := by
  have ho := hg.2.2.1.1
  have h8 := ho.1
  have h4 := ho.2.1
  have hr := h.2.1
  refine x_runs kX8_teach (by decide +kernel) rfl ?_
  rw [aTeach] at hp
  refine x_call [xI x] rfl rfl rfl rfl rfl rfl rfl (c_noBird hr ho ?_)
  rcases hx_b : gI x 0 ((G.now.B : Int) - 1) with _ | b
  · rw [hx_b] at hp
    refine x0_ne rfl rfl (fun _ => ?_) (fun h => absurd h (by decide))
    exact x_ret rfl rfl rfl rfl (hp D h (fun _ _ => rfl))
  rw [hx_b] at hp
  dsimp only at hp
  obtain ⟨e1_b, e2_b, e3_b, e4_b⟩ := gI_some (by decide) hx_b
  subst e1_b
  have h_b : b < G.now.B := by omega
  refine x0_ne rfl rfl (fun h => absurd rfl h) (fun _ => ?_)
  refine x_scall [xI y] rfl rfl rfl rfl rfl rfl rfl (c_noWord ?_)
  rcases hx_k : gI y 0 9 with _ | k
  · rw [hx_k] at hp
    refine x0_eq rfl rfl (fun h => absurd h (by decide)) (fun _ => ?_)
    exact x_ret rfl rfl rfl rfl (hp D h (fun _ _ => rfl))
  rw [hx_k] at hp
  dsimp only at hp
  obtain ⟨e1_k, e2_k, e3_k, e4_k⟩ := gI_some (by decide) hx_k
  subst e1_k
  have h_k : k < 10 := by omega
  refine x0_eq rfl rfl (fun _ => ?_) (fun h => absurd rfl h)
  refine x_call [xR 0 7 21] rfl rfl rfl rfl rfl rfl rfl (c_remember h.2.2.2.1 hr h8 h4 hg.2.2.2.1.1 (fun D1 hh1 hs1 => ?_))
  have hr1 : rW D1 21 G.now := rW_out hr (fun a ha hb => hs1 a (by omega))
  refine x_call [xI (nI b), xI (nI k), xI (nI 3)] rfl rfl rfl rfl rfl rfl rfl (c_learn hr1 ho h_b (by omega) (by omega) ?_)
  have hr2 := rW_K (b := b) (k := k) (v := min 9 (G.now.K b k + 3)) hr1 (by omega)
  refine x_call [xI (nI b), xI (nI k)] rfl rfl rfl rfl rfl rfl rfl (c_knowledge hr2 (wok_learn ho b k 3) h_b (by omega) ?_)
  refine x_ret rfl rfl rfl rfl ?_
  have e : wup G.now.K b k (min 9 (G.now.K b k + 3)) b k = min 9 (G.now.K b k + 3) := by simp [wup]
  show post (some (nI (wup G.now.K b k (min 9 (G.now.K b k + 3)) b k))) _
  rw [e]
  exact hp _ (RelC_now h hh1 hs1 hr2 (fun a ha => xup_ne a (by omega))) (fun a ha => by rw [xup_ne a (by omega), hs1 a (by omega)])
theorem am_teach {x y : Int32} (h : RelM D G) (hg : gok G) (hp : ∀ D', RelM D' (aTeach G x y).2 → (∀ a, a < 111 → D' a = D a) → post (some (aTeach G x y).1) D') : xRuns Γ (n + 3) hX9_teach [xR 0 9 111, xI x, xI y] D post := by
  have ho := hg.2.2.1.1
  have h8 := ho.1
  have h4 := ho.2.1
  have hr := h.2.1
  refine x_runs kX9_teach (by decide +kernel) rfl ?_
  rw [aTeach] at hp
  refine x_call [xI x] rfl rfl rfl rfl rfl rfl rfl (c_isBird hr ho ?_)
  rcases hx_b : gI x 0 ((G.now.B : Int) - 1) with _ | b
  · rw [hx_b] at hp
    refine x0_eq rfl rfl (fun _ => ?_) (fun h => absurd rfl h)
    exact x_ret rfl rfl rfl rfl (hp D h (fun _ _ => rfl))
  rw [hx_b] at hp
  dsimp only at hp
  obtain ⟨e1_b, e2_b, e3_b, e4_b⟩ := gI_some (by decide) hx_b
  subst e1_b
  have h_b : b < G.now.B := by omega
  refine x0_eq rfl rfl (fun h => absurd h (by simp)) (fun _ => ?_)
  refine x_scall [xI y] rfl rfl rfl rfl rfl rfl rfl (c_isWordN ?_)
  rcases hx_k : gI y 0 9 with _ | k
  · rw [hx_k] at hp
    refine x0_ne rfl rfl (fun h => absurd rfl h) (fun _ => ?_)
    exact x_ret rfl rfl rfl rfl (hp D h (fun _ _ => rfl))
  rw [hx_k] at hp
  dsimp only at hp
  obtain ⟨e1_k, e2_k, e3_k, e4_k⟩ := gI_some (by decide) hx_k
  subst e1_k
  have h_k : k < 10 := by omega
  refine x0_ne rfl rfl (fun _ => ?_) (fun h => absurd h (by simp))
  refine x_call [] rfl rfl rfl rfl rfl rfl rfl (c_keepPast h.2.2.2.1 hg.2.2.2.1.1 (fun S hS => (hg.2.2.2.1.2 S hS).1) (fun k S hk hS => (hg.2.2.2.2.1 k S hk hS).1) hr h8 h4 (fun D1 hh1 hs1 => ?_))
  have hr1 : rM D1 0 G.now := rM_out hr h8 h4 (fun j _ _ => hs1 112 j (by omega) (by omega))
  refine x_call [xI (nI 0), xI (nI b), xI (nI k), xI (nI 3)] rfl rfl rfl rfl rfl rfl rfl (c_learns hr1 ho (by omega) h_b (by omega) (by omega) ?_)
  have hr2 := rM_K (b := b) (k := k) (v := min 9 (G.now.K b k + 3)) hr1 h8 h4 h_b (by omega)
  refine x_aldN (0 + 20 + (b * 10 + k)) rfl rfl (by
    show nI 20 + nI 10 * nI b + nI k = _
    rw [pk_mul, nI_add, nI_add]
    exact congrArg nI (by omega)) (by omega) rfl ?_
  refine x_ret rfl rfl rfl rfl ?_
  rw [xup_at]
  have hs2 : sameM 0 D1 (xup D1 112 (0 + 20 + (b * 10 + k)) (nI (min 9 (G.now.K b k + 3)))) := sameM.rf.up (by omega) (by omega)
  exact hp _ (RelM_now h hg hh1 hs1 hr2 (sameMP.ofM hs2) (mSp_sameM (mSp_out h.2.2.2.2.2.2.2 (funext fun j => hs1 138 j (by omega) (by omega)) (funext fun j => hs1 139 j (by omega) (by omega))) hs2)) (fun a ha => funext fun j => by rw [hs2 a j (by omega), hs1 a j (by omega) (by omega)])
theorem a_moult {x : Int32} (h : RelC D G) (hg : gok G) (hp : ∀ D', RelC D' (aMoult G x).2 → (∀ a, 111 ≤ a → D' a = D a) → post (some (aMoult G x).1) D') : xRuns Γ (n + 3) hX8_moult [xR 0 8 0, xI x] D post := by
  have ho := hg.2.2.1.1
  have h8 := ho.1
  have h4 := ho.2.1
  have hr := h.2.1
  refine x_runs kX8_moult (by decide +kernel) rfl ?_
  rw [aMoult] at hp
  refine x_call [xI x] rfl rfl rfl rfl rfl rfl rfl (c_noBird hr ho ?_)
  rcases hx_b : gI x 0 ((G.now.B : Int) - 1) with _ | b
  · rw [hx_b] at hp
    refine x0_eq rfl rfl (fun h => absurd h (by decide)) (fun _ => ?_)
    exact x_ret rfl rfl rfl rfl (hp D h (fun _ _ => rfl))
  rw [hx_b] at hp
  dsimp only at hp
  obtain ⟨e1_b, e2_b, e3_b, e4_b⟩ := gI_some (by decide) hx_b
  subst e1_b
  have h_b : b < G.now.B := by omega
  refine x0_eq rfl rfl (fun _ => ?_) (fun h => absurd rfl h)
  refine x_call [xR 0 7 21] rfl rfl rfl rfl rfl rfl rfl (c_remember h.2.2.2.1 hr h8 h4 hg.2.2.2.1.1 (fun D1 hh1 hs1 => ?_))
  have hr1 : rW D1 21 G.now := rW_out hr (fun a ha hb => hs1 a (by omega))
  refine x_call [xI (nI b)] rfl rfl rfl rfl rfl rfl rfl (c_halve hr1 ho h_b (fun D2 hr2 hs2 => ?_))
  refine x_call [xI (nI b)] rfl rfl rfl rfl rfl rfl rfl (c_allKnowledge hr2 (wok_halve ho b 10).1 (by rw [wHalve_eq]; exact h_b) ?_)
  refine x_ret rfl rfl rfl rfl ?_
  have e : wSum ((wHalve G.now b 10).K b) 10 = wSum (fun k => G.now.K b k / 2) 10 := wSum_cong 10 (fun i hi => wHalve_lo G.now b 10 i hi)
  rw [e]
  exact hp D2 (RelC_now h hh1 hs1 hr2 (fun a ha => hs2 a (by omega))) (fun a ha => by rw [hs2 a (by omega), hs1 a (by omega)])
theorem am_moult {x : Int32} (h : RelM D G) (hg : gok G) (hp : ∀ D', RelM D' (aMoult G x).2 → (∀ a, a < 111 → D' a = D a) → post (some (aMoult G x).1) D') : xRuns Γ (n + 3) hX9_moult [xR 0 9 111, xI x] D post := by
  have ho := hg.2.2.1.1
  have h8 := ho.1
  have h4 := ho.2.1
  have hr := h.2.1
  refine x_runs kX9_moult (by decide +kernel) rfl ?_
  rw [aMoult] at hp
  refine x_call [xI x] rfl rfl rfl rfl rfl rfl rfl (c_isBird hr ho ?_)
  rcases hx_b : gI x 0 ((G.now.B : Int) - 1) with _ | b
  · rw [hx_b] at hp
    refine x0_ne rfl rfl (fun h => absurd rfl h) (fun _ => ?_)
    exact x_ret rfl rfl rfl rfl (hp D h (fun _ _ => rfl))
  rw [hx_b] at hp
  dsimp only at hp
  obtain ⟨e1_b, e2_b, e3_b, e4_b⟩ := gI_some (by decide) hx_b
  subst e1_b
  have h_b : b < G.now.B := by omega
  refine x0_ne rfl rfl (fun _ => ?_) (fun h => absurd h (by simp))
  refine x_call [] rfl rfl rfl rfl rfl rfl rfl (c_keepPast h.2.2.2.1 hg.2.2.2.1.1 (fun S hS => (hg.2.2.2.1.2 S hS).1) (fun k S hk hS => (hg.2.2.2.2.1 k S hk hS).1) hr h8 h4 (fun D1 hh1 hs1 => ?_))
  have hr1 : rM D1 0 G.now := rM_out hr h8 h4 (fun j _ _ => hs1 112 j (by omega) (by omega))
  refine x_to 19 rfl ?_
  have ix : ∀ i, xnum 20 + xnum 10 * nI b + nI i = nI (0 + 20 + (b * 10 + i)) := fun i => by
    show nI 20 + nI 10 * nI b + nI i = _
    rw [pk_mul, nI_add, nI_add]
    exact congrArg nI (by omega)
  have loop : ∀ (f i : Nat) (D2 : xM), i + f = 10 → rM D2 0 (wHalve G.now b i) → sameM 0 D1 D2 → xW Γ (n + 3) hX9_moult rX9_moult 19 [some (xR 0 9 111), some (xI (nI b)), some (xI (nI (wSum (fun k => G.now.K b k / 2) i))), some (xI (nI i))] [] D2 post := by
    intro f
    induction f with
    | zero =>
      intro i D2 hi hr2 hs2
      obtain rfl : i = 10 := by omega
      refine xi_geN 10 10 rfl rfl rfl rfl (by omega) (by omega) (fun _ => ?_) (fun h => absurd h (by omega))
      refine x_ret rfl rfl rfl rfl ?_
      exact hp D2 (RelM_now h hg hh1 hs1 hr2 (sameMP.ofM hs2) (mSp_sameM (mSp_out h.2.2.2.2.2.2.2 (funext fun j => hs1 138 j (by omega) (by omega)) (funext fun j => hs1 139 j (by omega) (by omega))) hs2)) (fun a ha => funext fun j => by rw [hs2 a j (by omega), hs1 a j (by omega) (by omega)])
    | succ f ih =>
      intro i D2 hi hr2 hs2
      have h9 := ho.2.2.2.2.2.2.1 b i h_b (by omega)
      refine xi_geN i 10 rfl rfl rfl rfl (by omega) (by omega) (fun h => absurd h (by omega)) (fun h => ?_)
      refine x_aldN (0 + 20 + (b * 10 + i)) rfl rfl (ix i) (by omega) rfl ?_
      have e1 : D2 112 (0 + 20 + (b * 10 + i)) = nI (G.now.K b i) := by
        rw [hr2.2.2.2.2.2.2.1 b i (by rw [wHalve_eq]; exact h_b) (by omega), wHalve_K G.now b i i (Nat.le_refl i)]
      rw [e1]
      refine x_div rfl rfl (by decide) ?_
      refine x_astN (0 + 20 + (b * 10 + i)) rfl rfl (ix i) (by omega) rfl ?_
      have e2 : nI (G.now.K b i) / xnum 2 = nI (G.now.K b i / 2) := pk_div (d := 2) (by omega) (by decide) (by decide)
      rw [e2]
      refine x_aldN (0 + 20 + (b * 10 + i)) rfl rfl (ix i) (by omega) rfl ?_
      rw [xup_at]
      have IH := ih (i + 1) (xup D2 112 (0 + 20 + (b * 10 + i)) (nI (G.now.K b i / 2))) (by omega) (by
        have := rM_K (b := b) (k := i) (v := G.now.K b i / 2) hr2 (by rw [wHalve_eq]; exact h8) (by rw [wHalve_eq]; exact h4) (by rw [wHalve_eq]; exact h_b) (by omega)
        rw [wHalve_eq] at this
        exact this) (hs2.up (by omega) (by omega))
      rw [wSum, ← nI_add, ← nI_1] at IH
      exact x_goto rfl rfl IH
  exact loop 10 0 D1 rfl hr1 sameM.rf
end A3
