/-! ===== reel, record, play, splice, drop ===== -/
def aReel (G : gS) (x y z : Int32) : Int32 × gS := match gI x 0 2 with
  | none => (-2, G)
  | some r => match gI y 0 3 with
    | none => (-3, G)
    | some s => if 12 < z.toInt then (-3, G) else if z < 0 then (-16, G) else (z, gReel G (wuf G.reel r (some (s, z.toInt.toNat, fun _ => if s = 3 then -1 else 0))))
def rFind (q : Option reT) (s : Nat) (i : Int32) : Int32 := match q with
  | none => -11
  | some (s', l, _) => if s' = s then (if (gI i 0 ((l : Int) - 1)).isSome then 0 else -14) else -12
def rCut (s : Nat) (v : Int32) : Int32 := if s = 0 then v.toInt8.toInt32 else if s = 1 then v.toInt16.toInt32 else v
def rPut (s : Nat) (v : Int32) : Int32 := if s < 2 then rCut s v + 100000 else if s = 2 then 1 else v
def rRem (x : Int32) : Int32 := x - x / 1000003 * 1000003
def rSound (s : Nat) (v : Int32) : Int32 := if s = 3 then (if v = -1 then -15 else v) else if s < 2 then v + 100000 else if 0 ≤ v then rRem v else rRem (v ^^^ -1) + 2000000
def fup (f : Nat → Int32) (i : Nat) (v : Int32) : Nat → Int32 := fun j => if j = i then v else f j
def aRecord (G : gS) (x y i v : Int32) : Int32 × gS := match gI x 0 2 with
  | none => (-2, G)
  | some r => if y = 3 ∧ gO v ((G.now.B : Int) - 1) = none then (-2, G) else match gI y 0 3 with
    | none => (-3, G)
    | some s => match G.reel r with
      | none => (-11, G)
      | some (s', l, f) => if s' = s then (match gI i 0 ((l : Int) - 1) with
        | none => (-14, G)
        | some j => (rPut s v, gReel G (wuf G.reel r (some (s, l, fup f j (rCut s v)))))) else (-12, G)
def aPlay (G : gS) (x y i : Int32) : Int32 := match gI x 0 2 with
  | none => -2
  | some r => match gI y 0 3 with
    | none => -3
    | some s => match G.reel r with
      | none => -11
      | some (s', l, f) => if s' = s then (match gI i 0 ((l : Int) - 1) with
        | none => -14
        | some j => rSound s (f j)) else -12
def aDrop (G : gS) (x : Int32) : Int32 × gS := match gI x 0 2 with
  | none => (-2, G)
  | some r => match G.reel r with
    | none => (-11, G)
    | some (_, l, _) => (nI l, gReel G (wuf G.reel r none))
theorem RelC_reel {D D' : xM} {G : gS} {q : Nat → Option reT} (h : RelC D G) (hh : cRe D' q) (e : ∀ a, (a < 104 ∨ 109 < a) → D' a = D a) : RelC D' (gReel G q) := by
  obtain ⟨h1, h2, h3, h4, h5, h6, h7⟩ := h
  exact ⟨rW_out h1 (fun a ha hb => e a (by omega)), rW_out h2 (fun a ha hb => e a (by omega)), cTx_out h3 (by rw [e 1 (by omega)]) (e 2 (by omega)), cHi_out h4 (fun a ha hb => e a (by omega)), cSe_out h5 (fun a ha hb => e a (by omega)), hh, cTg_out h7 (by rw [e 10 (by omega)]) (e 11 (by omega)) (e 12 (by omega))⟩
theorem RelM_reel {D D' : xM} {G : gS} {q : Nat → Option reT} (h : RelM D G) (hg : gok G) (hh : mRe D' q) (e : ∀ a, (a < 121 ∨ 123 < a) → a ≠ 143 → D' a = D a) : RelM D' (gReel G q) := by
  obtain ⟨⟨h1, h1z⟩, h2, h3, h4, h5, h6, h7, h8⟩ := h
  obtain ⟨g1, g2, g3, g4, g5, g6, g7⟩ := hg
  have e112 := e 112 (by omega) (by omega)
  have e111 := e 111 (by omega) (by omega)
  exact ⟨⟨rM_out h1 g2.1 g2.2.1 (fun j q1 q2 => by rw [e112]), mZ_out h1z (fun j _ _ => by rw [e112]) (fun a ha hb => e a (by omega) (by omega))⟩, rM_out h2 g3.1.1 g3.1.2.1 (fun j _ _ => by rw [e112]), mTx_out h3 (by rw [e111]) (e 114 (by omega) (by omega)), mHi_out h4 g4.1 (fun S hS => (g4.2 S hS).1) (fun k S hk hS => (g5 k S hk hS).1) (by rw [e111]) (fun j _ _ => by rw [e112]) (e 113 (by omega) (by omega)), mSe_out h5 (by rw [e111]) (fun a ha hb => e a (by omega) (by omega)), hh, mTg_out h7 (by rw [e111]) (e 118 (by omega) (by omega)) (e 119 (by omega) (by omega)) (e 120 (by omega) (by omega)), mSp_out h8 (e 138 (by omega) (by omega)) (e 139 (by omega) (by omega))⟩
/-- one reel changed -/
theorem cRe_one {D D' : xM} {q : Nat → Option reT} {r : Nat} {v : Option reT} (h : cRe D q) (hr : r < 3) (hv : match v with
  | none => D' (104 + 2 * r) 1 = 0
  | some (s, l, f) => D' (104 + 2 * r) 1 = 1 ∧ D' (104 + 2 * r) 2 = nI s ∧ D' (104 + 2 * r) 3 = nI l ∧ ∀ j, j < 12 → D' (105 + 2 * r) j = f j) (e : ∀ a, a ≠ 104 + 2 * r → a ≠ 105 + 2 * r → D' a = D a) : cRe D' (wuf q r v) := by
  intro r' hr'
  by_cases er : r' = r
  · subst er
    have : wuf q r' v r' = v := by simp [wuf]
    rw [this]
    exact hv
  · have : wuf q r v r' = q r' := by simp [wuf, er]
    rw [this, e (104 + 2 * r') (by omega) (by omega), e (105 + 2 * r') (by omega) (by omega)]
    exact h r' hr'
theorem mRe_one {D D' : xM} {q : Nat → Option reT} {r : Nat} {v : Option reT} (h : mRe D q) (hr : r < 3) (hv : match v with
  | none => D' 121 r = -1
  | some (s, l, f) => D' 121 r = nI l ∧ D' 122 r = nI s ∧ ∀ j, j < 12 → D' 123 (12 * r + j) = f j) (e1 : ∀ j, j ≠ r → D' 121 j = D 121 j) (e2 : ∀ j, j ≠ r → D' 122 j = D 122 j) (e3 : ∀ r' j, r' ≠ r → j < 12 → D' 123 (12 * r' + j) = D 123 (12 * r' + j)) : mRe D' (wuf q r v) := by
  intro r' hr'
  by_cases er : r' = r
  · subst er
    have : wuf q r' v r' = v := by simp [wuf]
    rw [this]
    exact hv
  · have : wuf q r v r' = q r' := by simp [wuf, er]
    rw [this, e1 r' er, e2 r' er]
    have h1 := h r' hr'
    cases hq : q r' with
    | none => rw [hq] at h1; exact h1
    | some t =>
      rw [hq] at h1
      exact ⟨h1.1, h1.2.1, fun j hj => by rw [e3 r' j er hj]; exact h1.2.2 j hj⟩
theorem g_reelset {G : gS} {q : Nat → Option reT} (hg : gok G) (h : ∀ r s l f, r < 3 → q r = some (s, l, f) → s < 4 ∧ l ≤ 12) : gok (gReel G q) := by
  obtain ⟨g1, g2, g3, g4, g5, g6, g7⟩ := id hg
  exact ⟨g1, g2, g3, g4, g5, g6, h⟩
theorem reel_one {q : Nat → Option reT} {r : Nat} {v : Option reT} (h : ∀ r s l f, r < 3 → q r = some (s, l, f) → s < 4 ∧ l ≤ 12) (hv : ∀ s l f, v = some (s, l, f) → s < 4 ∧ l ≤ 12) : ∀ r' s l f, r' < 3 → wuf q r v r' = some (s, l, f) → s < 4 ∧ l ≤ 12 := by
  intro r' s l f hr' hq
  simp only [wuf] at hq
  split at hq
  · exact hv s l f hq
  · exact h r' s l f hr' hq
theorem z_nat {z : Int32} (h1 : ¬ 12 < z.toInt) (h2 : ¬ z < 0) : z = nI z.toInt.toNat ∧ z.toInt.toNat ≤ 12 := by
  obtain ⟨j, hj, rfl⟩ := nI_of h2
  rw [nI_toInt hj] at h1 ⊢
  exact ⟨rfl, by omega⟩
section A8
variable {Γ : xG} {n : Nat} {D : xM} {post : Option Int32 → xM → Prop} {G : gS} {S : wS}
theorem g_reel {x y z : Int32} (hg : gok G) : gok (aReel G x y z).2 := by
  rw [aReel]
  split
  · exact hg
  · split
    · exact hg
    · rename_i s hs
      have h := gI_some (by decide) hs
      split
      · exact hg
      · rename_i h1
        split
        · exact hg
        · rename_i h2
          refine g_reelset hg (reel_one hg.2.2.2.2.2.2 (fun s' l f e => ?_))
          cases e
          exact ⟨by omega, (z_nat h1 h2).2⟩
theorem g_record {x y i v : Int32} (hg : gok G) : gok (aRecord G x y i v).2 := by
  rw [aRecord]
  split
  · exact hg
  · rename_i r hr
    have h := gI_some (by decide) hr
    split
    · exact hg
    · split
      · exact hg
      · rename_i s hs
        have h2 := gI_some (by decide) hs
        split
        · exact hg
        · rename_i s' l f hq
          have h3 := hg.2.2.2.2.2.2 r s' l f (by omega) hq
          split
          · split
            · exact hg
            · refine g_reelset hg (reel_one hg.2.2.2.2.2.2 (fun s'' l' f' e => ?_))
              cases e
              exact ⟨by omega, h3.2⟩
          · exact hg
theorem g_drop {x : Int32} (hg : gok G) : gok (aDrop G x).2 := by
  rw [aDrop]
  split
  · exact hg
  · split
    · exact hg
    · exact g_reelset hg (reel_one hg.2.2.2.2.2.2 (fun s l f e => by cases e))
theorem c_wind {r s : Nat} {z : Int32} (hs : s < 4) (hp : ∀ D', D' (104 + 2 * r) 1 = 1 → D' (104 + 2 * r) 2 = nI s → D' (104 + 2 * r) 3 = z → (∀ j, j < 12 → D' (105 + 2 * r) j = if s = 3 then -1 else 0) → (∀ a, a ≠ 104 + 2 * r → a ≠ 105 + 2 * r → D' a = D a) → post none D') : xRuns Γ n hX2_wind [xR 0 2 (104 + 2 * r), xI (nI s), xI z] D post := by
  refine x_runs kX2_wind (by decide +kernel) rfl ?_
  refine x_pfz (a := 0) rfl rfl (by decide) rfl (Or.inr rfl) ?_
  refine x_to 17 rfl ?_
  have loop : ∀ (f i : Nat) (D1 : xM), i + f = 12 → (∀ j, D1 (104 + 2 * r) j = xup (xup (xup D (104 + 2 * r) 1 (xnum 1)) (104 + 2 * r) 2 (nI s)) (104 + 2 * r) 3 z (104 + 2 * r) j) → (∀ j, j < i → D1 (105 + 2 * r) j = if s = 3 then -1 else 0) → (∀ a, a ≠ 104 + 2 * r → a ≠ 105 + 2 * r → D1 a = D a) → xW Γ n hX2_wind rX2_wind 17 [some (xR 0 2 (104 + 2 * r)), some (xI (nI s)), some (xI z), some (xI (nI i))] [] D1 post := by
    intro f
    induction f with
    | zero =>
      intro i D1 hi h1 h2 h3
      obtain rfl : i = 12 := by omega
      refine xi_geN 12 12 rfl rfl rfl rfl (by omega) (by omega) (fun _ => ?_) (fun h => absurd h (by omega))
      refine x_vret rfl rfl rfl (hp D1 ?_ ?_ ?_ h2 h3)
      · rw [h1, xup_o (by omega), xup_o (by omega), xup_at]; rfl
      · rw [h1, xup_o (by omega), xup_at]
      · rw [h1, xup_at]
    | succ f ih =>
      intro i D1 hi h1 h2 h3
      refine xi_geN i 12 rfl rfl rfl rfl (by omega) (by omega) (fun h => absurd h (by omega)) (fun h => ?_)
      have go : ∀ v : Int32, v = (if s = 3 then -1 else 0) → xW Γ n hX2_wind rX2_wind 39 [some (xR 0 2 (104 + 2 * r)), some (xI (nI s)), some (xI z), some (xI (nI i))] [] (xup D1 (104 + 2 * r + 1) i v) post := by
        intro v hv
        have IH := ih (i + 1) (xup D1 (104 + 2 * r + 1) i v) (by omega) (fun j => by rw [xup_o (by omega)]; exact h1 j) (fun j hj => by
          have e : 105 + 2 * r = 104 + 2 * r + 1 := by omega
          rw [e]
          by_cases q : j = i
          · subst q; rw [xup_at]; exact hv
          · rw [xup_o (by omega), ← e]; exact h2 j (by omega)) (fun a q1 q2 => by rw [xup_ne a (by omega)]; exact h3 a q1 q2)
        rw [← nI_1] at IH
        exact x_goto rfl rfl IH
      refine xi_neN s 3 rfl rfl rfl rfl (by omega) (by omega) (fun h4 => ?_) (fun h4 => ?_)
      · refine x_astN i rfl rfl rfl (by omega) rfl ?_
        exact go _ (by rw [if_neg h4]; rfl)
      · refine x_goto rfl rfl ?_
        refine x_astN i rfl rfl rfl (by omega) rfl ?_
        exact go _ (by rw [if_pos h4]; rfl)
  exact loop 12 0 _ (by omega) (fun j => rfl) (fun j hj => absurd hj (by omega)) (fun a q1 q2 => by rw [xup_ne a q1, xup_ne a q1, xup_ne a q1])
theorem a_reel {x y z : Int32} (h : RelC D G) (hg : gok G) (hp : ∀ D', RelC D' (aReel G x y z).2 → (∀ a, 111 ≤ a → D' a = D a) → post (some (aReel G x y z).1) D') : xRuns Γ (n + 2) hX8_reel [xR 0 8 0, xI x, xI y, xI z] D post := by
  refine x_runs kX8_reel (by decide +kernel) rfl ?_
  rw [aReel] at hp
  refine x_scall [xI x] rfl rfl rfl rfl rfl rfl rfl (c_noReel ?_)
  rcases hx_r : gI x 0 2 with _ | r
  · rw [hx_r] at hp
    refine x0_eq rfl rfl (fun h => absurd h (by decide)) (fun _ => ?_)
    exact x_ret rfl rfl rfl rfl (hp D h (fun _ _ => rfl))
  rw [hx_r] at hp
  dsimp only at hp
  obtain ⟨e1_r, e2_r, e3_r, e4_r⟩ := gI_some (by decide) hx_r
  subst e1_r
  have h_r : r < 3 := by omega
  refine x0_eq rfl rfl (fun _ => ?_) (fun h => absurd rfl h)
  refine x_scall [xI y] rfl rfl rfl rfl rfl rfl rfl (c_noSort ?_)
  rcases hx_s : gI y 0 3 with _ | s
  · rw [hx_s] at hp
    refine x0_ne rfl rfl (fun _ => ?_) (fun h => absurd h (by decide))
    exact x_ret rfl rfl rfl rfl (hp D h (fun _ _ => rfl))
  rw [hx_s] at hp
  dsimp only at hp
  obtain ⟨e1_s, e2_s, e3_s, e4_s⟩ := gI_some (by decide) hx_s
  subst e1_s
  have h_s : s < 4 := by omega
  refine x0_ne rfl rfl (fun h => absurd rfl h) (fun _ => ?_)
  refine xi_le rfl rfl (fun h1 => ?_) (fun h1 => ?_)
  · have h1' : ¬ 12 < z.toInt := by have := Int32.le_iff_toInt_le.mp h1; have e : (xnum 12).toInt = 12 := (by decide); omega
    rw [if_neg h1'] at hp
    refine x0_ge rfl rfl (fun h2 => ?_) (fun h2 => ?_)
    · have h2' : ¬ z < 0 := Int32.not_lt.mpr h2
      rw [if_neg h2'] at hp
      obtain ⟨ez, hz⟩ := z_nat h1' h2'
      refine x_rldN r rfl rfl rfl (by omega) rfl ?_
      refine x_call [xI (nI s), xI z] rfl rfl rfl rfl rfl rfl rfl (c_wind h_s (fun D1 q1 q2 q3 q4 q5 => ?_))
      refine x_ret rfl rfl rfl rfl ?_
      refine hp D1 (RelC_reel h (cRe_one h.2.2.2.2.2.1 h_r ⟨q1, q2, q3.trans ez, q4⟩ q5) (fun a ha => q5 a (by omega) (by omega))) (fun a ha => q5 a (by omega) (by omega))
    · have h2' : z < 0 := Int32.not_le.mp h2
      rw [if_pos h2'] at hp
      exact x_ret rfl rfl rfl rfl (hp D h (fun _ _ => rfl))
  · have h1' : 12 < z.toInt := by
      have := Int32.lt_iff_toInt_lt.mp (Int32.not_le.mp h1); have e : (xnum 12).toInt = 12 := by decide
      omega
    rw [if_pos h1'] at hp
    exact x_ret rfl rfl rfl rfl (hp D h (fun _ _ => rfl))
theorem am_reel {x y z : Int32} (h : RelM D G) (hg : gok G) (hp : ∀ D', RelM D' (aReel G x y z).2 → (∀ a, a < 111 → D' a = D a) → post (some (aReel G x y z).1) D') : xRuns Γ (n + 2) hX9_reel [xR 0 9 111, xI x, xI y, xI z] D post := by
  refine x_runs kX9_reel (by decide +kernel) rfl ?_
  rw [aReel] at hp
  refine x_scall [xI x] rfl rfl rfl rfl rfl rfl rfl (c_isReel ?_)
  rcases hx_r : gI x 0 2 with _ | r
  · rw [hx_r] at hp
    refine x0_ne rfl rfl (fun h => absurd rfl h) (fun _ => ?_)
    exact x_ret rfl rfl rfl rfl (hp D h (fun _ _ => rfl))
  rw [hx_r] at hp
  dsimp only at hp
  obtain ⟨e1_r, e2_r, e3_r, e4_r⟩ := gI_some (by decide) hx_r
  subst e1_r
  have h_r : r < 3 := by omega
  refine x0_ne rfl rfl (fun _ => ?_) (fun h => absurd h (by simp))
  refine x_scall [xL y.toInt64, xL (Int64.ofNat 0), xL (Int64.ofNat 3)] rfl rfl rfl rfl rfl rfl rfl (c_inI (lo := 0) (hi := 3) (by decide) (by decide) ?_)
  rcases hx_s : gI y 0 3 with _ | s
  · rw [hx_s] at hp
    refine x0_eq rfl rfl (fun _ => ?_) (fun h => absurd rfl h)
    exact x_ret rfl rfl rfl rfl (hp D h (fun _ _ => rfl))
  rw [hx_s] at hp
  dsimp only at hp
  obtain ⟨e1_s, e2_s, e3_s, e4_s⟩ := gI_some (by decide) hx_s
  subst e1_s
  have h_s : s < 4 := by omega
  refine x0_eq rfl rfl (fun h => absurd h (by simp)) (fun _ => ?_)
  refine xi_le rfl rfl (fun h1 => ?_) (fun h1 => ?_)
  · have h1' : ¬ 12 < z.toInt := by have := Int32.le_iff_toInt_le.mp h1; have e : (xnum 12).toInt = 12 := (by decide); omega
    rw [if_neg h1'] at hp
    refine x0_ge rfl rfl (fun h2 => ?_) (fun h2 => ?_)
    · have h2' : ¬ z < 0 := Int32.not_lt.mpr h2
      rw [if_neg h2'] at hp
      obtain ⟨ez, hz⟩ := z_nat h1' h2'
      refine x_astN r rfl rfl rfl (by omega) rfl ?_
      refine x_astN r rfl rfl rfl (by omega) rfl ?_
      refine x_to 55 rfl ?_
      have loop : ∀ (f i : Nat) (D1 : xM), i + f = 12 → (∀ a, a ≠ 123 → D1 a = xup (xup D 121 r z) 122 r (nI s) a) → (∀ j, j < i → D1 123 (12 * r + j) = if s = 3 then -1 else 0) → (∀ r' j, r' ≠ r → j < 12 → D1 123 (12 * r' + j) = D 123 (12 * r' + j)) → xW Γ (n + 2) hX9_reel rX9_reel 55 [some (xR 0 9 111), some (xI (nI r)), some (xI (nI s)), some (xI z), some (xI (nI i))] [] D1 post := by
        intro f
        induction f with
        | zero =>
          intro i D1 hi k1 k2 k3
          obtain rfl : i = 12 := by omega
          refine xi_geN 12 12 rfl rfl rfl rfl (by omega) (by omega) (fun _ => ?_) (fun h => absurd h (by omega))
          refine x_ret rfl rfl rfl rfl ?_
          refine hp D1 (RelM_reel h hg (mRe_one h.2.2.2.2.2.1 h_r ⟨?_, ?_, k2⟩ (fun j hj => ?_) (fun j hj => ?_) k3) (fun a ha hb => ?_)) (fun a ha => ?_)
          · rw [k1 121 (by omega), xup_o (by omega), xup_at]; exact ez
          · rw [k1 122 (by omega), xup_at]
          · rw [k1 121 (by omega), xup_o (by omega), xup_o (by omega)]
          · rw [k1 122 (by omega), xup_o (by omega), xup_o (by omega)]
          · rw [k1 a (by omega), xup_ne a (by omega), xup_ne a (by omega)]
          · rw [k1 a (by omega), xup_ne a (by omega), xup_ne a (by omega)]
        | succ f ih =>
          intro i D1 hi k1 k2 k3
          refine xi_geN i 12 rfl rfl rfl rfl (by omega) (by omega) (fun h => absurd h (by omega)) (fun h => ?_)
          have ix : xnum 12 * nI r + nI i = nI (12 * r + i) := by
            show nI 12 * nI r + nI i = _
            rw [pk_mul, nI_add]
          have go : ∀ v : Int32, v = (if s = 3 then -1 else 0) → xW Γ (n + 2) hX9_reel rX9_reel 84 [some (xR 0 9 111), some (xI (nI r)), some (xI (nI s)), some (xI z), some (xI (nI i))] [] (xup D1 123 (12 * r + i) v) post := by
            intro v hv
            have IH := ih (i + 1) (xup D1 123 (12 * r + i) v) (by omega) (fun a ha => by rw [xup_ne a ha]; exact k1 a ha) (fun j hj => by
              by_cases q : j = i
              · subst q; rw [xup_at]; exact hv
              · rw [xup_o (by omega)]; exact k2 j (by omega)) (fun r' j q1 q2 => by rw [xup_o (by omega)]; exact k3 r' j q1 q2)
            rw [← nI_1] at IH
            exact x_goto rfl rfl IH
          refine xi_neN s 3 rfl rfl rfl rfl (by omega) (by omega) (fun h4 => ?_) (fun h4 => ?_)
          · refine x_astN (12 * r + i) rfl rfl ix (by omega) rfl ?_
            exact go _ (by rw [if_neg h4]; rfl)
          · refine x_goto rfl rfl ?_
            refine x_astN (12 * r + i) rfl rfl ix (by omega) rfl ?_
            exact go _ (by rw [if_pos h4]; rfl)
      exact loop 12 0 _ (by omega) (fun a _ => rfl) (fun j hj => absurd hj (by omega)) (fun r' j _ _ => by rw [xup_ne 123 (by omega), xup_ne 123 (by omega)])
    · have h2' : z < 0 := Int32.not_le.mp h2
      rw [if_pos h2'] at hp
      exact x_ret rfl rfl rfl rfl (hp D h (fun _ _ => rfl))
  · have h1' : 12 < z.toInt := by
      have := Int32.lt_iff_toInt_lt.mp (Int32.not_le.mp h1); have e : (xnum 12).toInt = 12 := by decide
      omega
    rw [if_pos h1'] at hp
    exact x_ret rfl rfl rfl rfl (hp D h (fun _ _ => rfl))
theorem c_find {r s : Nat} {i : Int32} {q : Nat → Option reT} (h : cRe D q) (hr : r < 3) (hs : s < 4) (hl : ∀ r s l f, r < 3 → q r = some (s, l, f) → s < 4 ∧ l ≤ 12) (hp : post (some (rFind (q r) s i)) D) : xRuns Γ n hX2_find [xR 0 2 (104 + 2 * r), xI (nI s), xI i] D post := by
  have h1 := h r hr
  have hl1 := hl r
  refine x_runs kX2_find (by decide +kernel) rfl ?_
  rcases hq : q r with _ | ⟨s', l, f⟩
  · rw [hq] at h1 hp
    refine x0_ne rfl rfl (fun h2 => absurd h1 h2) (fun _ => ?_)
    exact x_ret rfl rfl rfl rfl hp
  · rw [hq] at h1 hp
    obtain ⟨q1, q2, q3, q4⟩ := h1
    have hl2 := hl r s' l f hr hq
    rw [rFind] at hp
    refine x0_ne rfl rfl (fun _ => ?_) (fun h2 => absurd (q1.symm.trans h2) (by decide))
    refine xi_eqN s' s rfl rfl q2 rfl (by omega) (by omega) (fun h2 => ?_) (fun h2 => ?_)
    · rw [if_pos h2] at hp
      refine x0_lt rfl rfl (fun h3 => ?_) (fun h3 => ?_)
      · have h3 := Int32.lt_iff_toInt_lt.mp h3
        have e : gI i 0 ((l : Int) - 1) = none := by rw [gI, if_neg (by have : (0 : Int32).toInt = 0 := rfl; omega)]
        rw [e] at hp
        exact x_goto rfl rfl (x_ret rfl rfl rfl rfl hp)
      · obtain ⟨j, hj, rfl⟩ := nI_of h3
        refine xi_ltN j l rfl rfl rfl q3 hj (by omega) (fun h4 => ?_) (fun h4 => ?_)
        · rw [gI_nI hj (by omega) (by omega)] at hp
          exact x_ret rfl rfl rfl rfl hp
        · have e : gI (nI j) 0 ((l : Int) - 1) = none := by rw [gI, nI_toInt hj, if_neg (by omega)]
          rw [e] at hp
          exact x_goto rfl rfl (x_ret rfl rfl rfl rfl hp)
    · rw [if_neg h2] at hp
      exact x_ret rfl rfl rfl rfl hp
theorem c_noPlace {r s : Nat} {i : Int32} {q : Nat → Option reT} (h : mRe D q) (hr : r < 3) (hs : s < 4) (hl : ∀ r s l f, r < 3 → q r = some (s, l, f) → s < 4 ∧ l ≤ 12) (hp : post (some (rFind (q r) s i)) D) : xRuns Γ (n + 1) hX9_noPlace [xR 0 9 111, xI (nI r), xI (nI s), xI i] D post := by
  have h1 := h r hr
  refine x_runs kX9_noPlace (by decide +kernel) rfl ?_
  refine x_aldN r rfl rfl rfl (by omega) rfl ?_
  rcases hq : q r with _ | ⟨s', l, f⟩
  · rw [hq] at h1 hp
    dsimp only at h1
    rw [h1]
    refine x0_ge rfl rfl (fun h2 => absurd h2 (by decide)) (fun _ => ?_)
    exact x_ret rfl rfl rfl rfl hp
  · rw [hq] at h1 hp
    obtain ⟨q1, q2, q3⟩ := h1
    have hl2 := hl r s' l f hr hq
    rw [rFind] at hp
    refine x0_ge rfl rfl (fun _ => ?_) (fun h2 => absurd (q1 ▸ nI_pos' (by omega)) h2)
    refine x_aldN r rfl rfl rfl (by omega) rfl ?_
    refine xi_eqN s' s rfl rfl q2 rfl (by omega) (by omega) (fun h2 => ?_) (fun h2 => ?_)
    · rw [if_pos h2] at hp
      refine x_aldN r rfl rfl rfl (by omega) rfl ?_
      refine x_scall [xL i.toInt64, xL (Int64.ofNat 0), xL (D 121 r - xnum 1).toInt64] rfl rfl rfl rfl rfl rfl rfl (c_inI (lo := 0) (hi := (l : Int) - 1) (by decide) (by rw [Int32.toInt_toInt64, q1]; exact pk_sub_toInt (b := 1) (by omega) (by decide)) ?_)
      rcases hg : gI i 0 ((l : Int) - 1) with _ | j
      · rw [hg] at hp
        refine x0_eq rfl rfl (fun _ => ?_) (fun h => absurd rfl h)
        exact x_ret rfl rfl rfl rfl hp
      · rw [hg] at hp
        refine x0_eq rfl rfl (fun h => absurd h (by simp)) (fun _ => ?_)
        exact x_goto rfl rfl (x_ret rfl rfl rfl rfl hp)
    · rw [if_neg h2] at hp
      exact x_ret rfl rfl rfl rfl hp
theorem a_drop {x : Int32} (h : RelC D G) (hg : gok G) (hp : ∀ D', RelC D' (aDrop G x).2 → (∀ a, 111 ≤ a → D' a = D a) → post (some (aDrop G x).1) D') : xRuns Γ (n + 2) hX8_drop [xR 0 8 0, xI x] D post := by
  refine x_runs kX8_drop (by decide +kernel) rfl ?_
  rw [aDrop] at hp
  refine x_scall [xI x] rfl rfl rfl rfl rfl rfl rfl (c_noReel ?_)
  rcases hx_r : gI x 0 2 with _ | r
  · rw [hx_r] at hp
    refine x0_eq rfl rfl (fun h => absurd h (by decide)) (fun _ => ?_)
    exact x_ret rfl rfl rfl rfl (hp D h (fun _ _ => rfl))
  rw [hx_r] at hp
  dsimp only at hp
  obtain ⟨e1_r, e2_r, e3_r, e4_r⟩ := gI_some (by decide) hx_r
  subst e1_r
  have h_r : r < 3 := by omega
  refine x0_eq rfl rfl (fun _ => ?_) (fun h => absurd rfl h)
  have h1 := h.2.2.2.2.2.1 r h_r
  refine x_rldN r rfl rfl rfl (by omega) rfl ?_
  rcases hq : G.reel r with _ | ⟨s, l, f⟩
  · rw [hq] at h1 hp
    refine x0_ne rfl rfl (fun h2 => absurd h1 h2) (fun _ => ?_)
    exact x_ret rfl rfl rfl rfl (hp D h (fun _ _ => rfl))
  · rw [hq] at h1 hp
    dsimp only at hp
    obtain ⟨q1, q2, q3, q4⟩ := h1
    refine x0_ne rfl rfl (fun _ => ?_) (fun h2 => absurd (q1.symm.trans h2) (by decide))
    refine x_rldN r rfl rfl rfl (by omega) rfl ?_
    refine x_pfz (a := 0) rfl rfl (by decide) rfl (Or.inl rfl) ?_
    refine x_rldN r rfl rfl rfl (by omega) rfl ?_
    refine x_ret rfl rfl rfl rfl ?_
    have e : xup D (xR0 + 2 * r) 1 (xnum 0) (xR0 + 2 * r) 3 = nI l := by rw [xup_o (by omega)]; exact q3
    rw [e]
    exact hp _ (RelC_reel h (cRe_one (v := none) h.2.2.2.2.2.1 h_r xup_at (fun a q1 q2 => xup_ne a q1)) (fun a ha => xup_ne a (by show a ≠ 104 + 2 * r; omega))) (fun a ha => xup_ne a (by show a ≠ 104 + 2 * r; omega))
theorem am_drop {x : Int32} (h : RelM D G) (hg : gok G) (hp : ∀ D', RelM D' (aDrop G x).2 → (∀ a, a < 111 → D' a = D a) → post (some (aDrop G x).1) D') : xRuns Γ (n + 2) hX9_drop [xR 0 9 111, xI x] D post := by
  refine x_runs kX9_drop (by decide +kernel) rfl ?_
  rw [aDrop] at hp
  refine x_scall [xI x] rfl rfl rfl rfl rfl rfl rfl (c_isReel ?_)
  rcases hx_r : gI x 0 2 with _ | r
  · rw [hx_r] at hp
    refine x0_ne rfl rfl (fun h => absurd rfl h) (fun _ => ?_)
    exact x_ret rfl rfl rfl rfl (hp D h (fun _ _ => rfl))
  rw [hx_r] at hp
  dsimp only at hp
  obtain ⟨e1_r, e2_r, e3_r, e4_r⟩ := gI_some (by decide) hx_r
  subst e1_r
  have h_r : r < 3 := by omega
  refine x0_ne rfl rfl (fun _ => ?_) (fun h => absurd h (by simp))
  have h1 := h.2.2.2.2.2.1 r h_r
  have hl := hg.2.2.2.2.2.2 r
  refine x_aldN r rfl rfl rfl (by omega) rfl ?_
  rcases hq : G.reel r with _ | ⟨s, l, f⟩
  · rw [hq] at h1 hp
    dsimp only at h1
    rw [h1]
    refine x0_ge rfl rfl (fun h2 => absurd h2 (by decide)) (fun _ => ?_)
    exact x_ret rfl rfl rfl rfl (hp D h (fun _ _ => rfl))
  · have hl2 := hl s l f h_r hq
    rw [hq] at h1 hp
    dsimp only at hp
    obtain ⟨q1, q2, q3⟩ := h1
    refine x0_ge rfl rfl (fun _ => ?_) (fun h2 => absurd (q1 ▸ nI_pos' (by omega)) h2)
    refine x_aldN r rfl rfl rfl (by omega) rfl ?_
    refine x_astN r rfl rfl rfl (by omega) rfl ?_
    refine x_ret rfl rfl rfl rfl ?_
    rw [q1]
    exact hp _ (RelM_reel h hg (mRe_one (v := none) h.2.2.2.2.2.1 h_r xup_at (fun j hj => xup_o (by omega)) (fun j hj => xup_o (by omega)) (fun r' j _ _ => xup_o (by omega))) (fun a ha hb => xup_ne a (by omega))) (fun a ha => xup_ne a (by omega))
end A8
