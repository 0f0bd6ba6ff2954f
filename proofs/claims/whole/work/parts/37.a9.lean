/-! ===== record, play ===== -/
theorem neg_not (v : Int32) : -(v + 1) = v ^^^ -1 := by
  apply Int32.toBitVec_inj.mp
  rw [Int32.toBitVec_neg, Int32.toBitVec_add, Int32.toBitVec_xor]
  have e1 : (-1 : Int32).toBitVec = BitVec.allOnes 32 := by decide
  have e2 : (1 : Int32).toBitVec = 1#32 := by decide
  rw [e1, e2, BitVec.xor_allOnes]
  have := BitVec.neg_eq_not_add v.toBitVec
  rw [BitVec.neg_add, this]
  exact BitVec.add_sub_cancel _ _
section A9
variable {Γ : xG} {n : Nat} {D : xM} {post : Option Int32 → xM → Prop} {G : gS} {S : wS}
theorem c_put {r s i : Nat} {v : Int32} (hs : s < 4) (hi : i < 12) (q2 : D (104 + 2 * r) 2 = nI s) (hp : post (some (rPut s v)) (xup D (105 + 2 * r) i (rCut s v))) : xRuns Γ n hX2_put [xR 0 2 (104 + 2 * r), xI (nI i), xI v] D post := by
  refine x_runs kX2_put (by decide +kernel) rfl ?_
  have e5 : 105 + 2 * r = 104 + 2 * r + 1 := by omega
  rw [e5] at hp
  refine x_to 4 rfl ?_
  rw [q2]
  have hcase : s = 0 ∨ s = 1 ∨ s = 2 ∨ s = 3 := by omega
  rcases hcase with e | e | e | e
  · subst e
    have ec : rCut 0 v = v.toInt8.toInt32 := by rw [rCut, if_pos rfl]
    have ep : rPut 0 v = v.toInt8.toInt32 + xnum 100000 := by rw [rPut, if_pos (by decide), ec]; rfl
    rw [ec, ep] at hp
    refine x_tin (tgt := 32) (off := 28) rfl rfl (by decide) (by decide) (by decide) (by decide) ?_
    refine x_astN i rfl rfl rfl (by omega) rfl ?_
    refine x_aldN i rfl rfl rfl (by omega) rfl ?_
    refine x_ret rfl rfl rfl rfl ?_
    rw [xup_at]
    exact hp
  · subst e
    have ec : rCut 1 v = v.toInt16.toInt32 := by rw [rCut, if_neg (by decide), if_pos rfl]
    have ep : rPut 1 v = v.toInt16.toInt32 + xnum 100000 := by rw [rPut, if_pos (by decide), ec]; rfl
    rw [ec, ep] at hp
    refine x_tin (tgt := 50) (off := 46) rfl rfl (by decide) (by decide) (by decide) (by decide) ?_
    refine x_astN i rfl rfl rfl (by omega) rfl ?_
    refine x_aldN i rfl rfl rfl (by omega) rfl ?_
    refine x_ret rfl rfl rfl rfl ?_
    rw [xup_at]
    exact hp
  · subst e
    have ec : rCut 2 v = v := by rw [rCut, if_neg (by decide), if_neg (by decide)]
    have ep : rPut 2 v = 1 := by rw [rPut, if_neg (by decide), if_pos rfl]
    rw [ec, ep] at hp
    refine x_tin (tgt := 68) (off := 64) rfl rfl (by decide) (by decide) (by decide) (by decide) ?_
    refine x_astN i rfl rfl rfl (by omega) rfl ?_
    exact x_ret rfl rfl rfl rfl hp
  · subst e
    have ec : rCut 3 v = v := by rw [rCut, if_neg (by decide), if_neg (by decide)]
    have ep : rPut 3 v = v := by rw [rPut, if_neg (by decide), if_neg (by decide)]
    rw [ec, ep] at hp
    refine x_tout (tgt := 77) rfl rfl (by decide) (by decide) ?_
    refine x_astN i rfl rfl rfl (by omega) rfl ?_
    exact x_ret rfl rfl rfl rfl hp
theorem c_sound {r s i : Nat} (hs : s < 4) (hi : i < 12) (q2 : D (104 + 2 * r) 2 = nI s) (hp : post (some (rSound s (D (105 + 2 * r) i))) D) : xRuns Γ n hX2_sound [xR 0 2 (104 + 2 * r), xI (nI i)] D post := by
  have e5 : 105 + 2 * r = 104 + 2 * r + 1 := by omega
  rw [e5] at hp
  refine x_runs kX2_sound (by decide +kernel) rfl ?_
  refine x_aldN i rfl rfl rfl (by omega) rfl ?_
  generalize D (104 + 2 * r + 1) i = v at hp ⊢
  refine x_to 11 rfl ?_
  rw [q2]
  rw [rSound] at hp
  have hcase : s = 0 ∨ s = 1 ∨ s = 2 ∨ s = 3 := by omega
  rcases hcase with e | e | e | e
  · subst e
    rw [if_neg (by decide), if_pos (by decide)] at hp
    refine x_tin (tgt := 36) (off := 25) rfl rfl (by decide) (by decide) (by decide) (by decide) ?_
    exact x_ret rfl rfl rfl rfl hp
  · subst e
    rw [if_neg (by decide), if_pos (by decide)] at hp
    refine x_tin (tgt := 36) (off := 25) rfl rfl (by decide) (by decide) (by decide) (by decide) ?_
    exact x_ret rfl rfl rfl rfl hp
  · subst e
    refine x_tin (tgt := 41) (off := 30) rfl rfl (by decide) (by decide) (by decide) (by decide) ?_
    rw [if_neg (by decide), if_neg (by decide)] at hp
    refine x0_ge rfl rfl (fun h2 => ?_) (fun h2 => ?_)
    · rw [if_pos h2] at hp
      refine x_rem rfl rfl (by decide) ?_
      exact x_ret rfl rfl rfl rfl hp
    · rw [if_neg h2] at hp
      refine x_rem rfl rfl (by decide) ?_
      exact x_goto rfl rfl (x_ret rfl rfl rfl rfl hp)
  · subst e
    refine x_tout (tgt := 62) rfl rfl (by decide) (by decide) ?_
    rw [if_pos rfl] at hp
    refine xi_ne rfl rfl (fun (h2 : ¬ v = -1) => ?_) (fun (h2 : v = -1) => ?_)
    · rw [if_neg h2] at hp
      exact x_ret rfl rfl rfl rfl hp
    · rw [if_pos h2] at hp
      exact x_goto rfl rfl (x_ret rfl rfl rfl rfl hp)
theorem a_play {x y i : Int32} (h : RelC D G) (hg : gok G) (hp : post (some (aPlay G x y i)) D) : xRuns Γ (n + 2) hX8_play [xR 0 8 0, xI x, xI y, xI i] D post := by
  have hl := hg.2.2.2.2.2.2
  refine x_runs kX8_play (by decide +kernel) rfl ?_
  rw [aPlay] at hp
  refine x_scall [xI x] rfl rfl rfl rfl rfl rfl rfl (c_noReel ?_)
  rcases hx_r : gI x 0 2 with _ | r
  · rw [hx_r] at hp
    refine x0_eq rfl rfl (fun h => absurd h (by decide)) (fun _ => ?_)
    exact x_ret rfl rfl rfl rfl hp
  rw [hx_r] at hp
  dsimp only at hp
  obtain ⟨e1_r, e2_r, e3_r, e4_r⟩ := gI_some (by decide) hx_r
  subst e1_r
  have h_r : r < 3 := by omega
  refine x0_eq rfl rfl (fun _ => ?_) (fun h => absurd rfl h)
  refine x_scall [xI y] rfl rfl rfl rfl rfl rfl rfl (c_noSort ?_)
  rcases hx_s : gI y 0 3 with _ | s
  · rw [hx_s] at hp
    refine x0_eq rfl rfl (fun h => absurd h (by decide)) (fun _ => ?_)
    exact x_ret rfl rfl rfl rfl hp
  rw [hx_s] at hp
  dsimp only at hp
  obtain ⟨e1_s, e2_s, e3_s, e4_s⟩ := gI_some (by decide) hx_s
  subst e1_s
  have h_s : s < 4 := by omega
  refine x0_eq rfl rfl (fun _ => ?_) (fun h => absurd rfl h)
  have h1 := h.2.2.2.2.2.1 r h_r
  refine x_rldN r rfl rfl rfl (by omega) rfl ?_
  refine x_call [xI (nI s), xI i] rfl rfl rfl rfl rfl rfl rfl (c_find h.2.2.2.2.2.1 h_r h_s hl ?_)
  rcases hq : G.reel r with _ | ⟨s', l, f⟩
  · rw [hq] at hp
    refine x0_ge rfl rfl (fun h => absurd h (by show ¬ (0 : Int32) ≤ -11; decide)) (fun _ => ?_)
    exact x_ret rfl rfl rfl rfl hp
  · have hl2 := hl r s' l f h_r hq
    rw [hq] at hp h1
    dsimp only at hp
    obtain ⟨q1, q2, q3, q4⟩ := h1
    rw [rFind]
    by_cases e : s' = s
    · subst e
      rw [if_pos rfl] at hp ⊢
      rcases hi : gI i 0 ((l : Int) - 1) with _ | j
      · rw [hi] at hp
        refine x0_ge rfl rfl (fun h => absurd h (by show ¬ (0 : Int32) ≤ -14; decide)) (fun _ => ?_)
        exact x_ret rfl rfl rfl rfl hp
      · rw [hi] at hp
        dsimp only at hp
        obtain ⟨i1, i2, i3, i4⟩ := gI_some (by decide) hi
        subst i1
        refine x0_ge rfl rfl (fun _ => ?_) (fun h => absurd (by show (0 : Int32) ≤ 0; decide) h)
        refine x_rldN r rfl rfl rfl (by omega) rfl ?_
        refine x_call [xI (nI j)] rfl rfl rfl rfl rfl rfl rfl (c_sound h_s (by omega) q2 ?_)
        refine x_ret rfl rfl rfl rfl ?_
        rw [q4 j (by omega)]
        exact hp
    · rw [if_neg e] at hp ⊢
      refine x0_ge rfl rfl (fun h => absurd h (by decide)) (fun _ => ?_)
      exact x_ret rfl rfl rfl rfl hp
theorem am_play {x y i : Int32} (h : RelM D G) (hg : gok G) (hp : post (some (aPlay G x y i)) D) : xRuns Γ (n + 2) hX9_play [xR 0 9 111, xI x, xI y, xI i] D post := by
  have hl := hg.2.2.2.2.2.2
  refine x_runs kX9_play (by decide +kernel) rfl ?_
  rw [aPlay] at hp
  refine x_scall [xI x] rfl rfl rfl rfl rfl rfl rfl (c_isReel ?_)
  rcases hx_r : gI x 0 2 with _ | r
  · rw [hx_r] at hp
    refine x0_ne rfl rfl (fun h => absurd rfl h) (fun _ => ?_)
    exact x_ret rfl rfl rfl rfl hp
  rw [hx_r] at hp
  dsimp only at hp
  obtain ⟨e1_r, e2_r, e3_r, e4_r⟩ := gI_some (by decide) hx_r
  subst e1_r
  have h_r : r < 3 := by omega
  refine x0_ne rfl rfl (fun _ => ?_) (fun h => absurd h (by simp))
  refine x_scall [xL y.toInt64, xL (Int64.ofNat 0), xL (Int64.ofNat 3)] rfl rfl rfl rfl rfl rfl rfl (c_inI (lo := 0) (hi := 3) (by decide) (by decide) ?_)
  rcases hx_s : gI y 0 3 with _ | s
  · rw [hx_s] at hp
    refine x0_ne rfl rfl (fun h => absurd rfl h) (fun _ => ?_)
    exact x_ret rfl rfl rfl rfl hp
  rw [hx_s] at hp
  dsimp only at hp
  obtain ⟨e1_s, e2_s, e3_s, e4_s⟩ := gI_some (by decide) hx_s
  subst e1_s
  have h_s : s < 4 := by omega
  refine x0_ne rfl rfl (fun _ => ?_) (fun h => absurd h (by simp))
  have h1 := h.2.2.2.2.2.1 r h_r
  refine x_call [xI (nI r), xI (nI s), xI i] rfl rfl rfl rfl rfl rfl rfl (c_noPlace h.2.2.2.2.2.1 h_r h_s hl ?_)
  rcases hq : G.reel r with _ | ⟨s', l, f⟩
  · rw [hq] at hp
    refine x0_eq rfl rfl (fun h => absurd h (by show ¬ (-11 : Int32) = 0; decide)) (fun _ => ?_)
    exact x_ret rfl rfl rfl rfl hp
  · have hl2 := hl r s' l f h_r hq
    rw [hq] at hp h1
    dsimp only at hp
    obtain ⟨q1, q2, q3⟩ := h1
    rw [rFind]
    by_cases e : s' = s
    · subst e
      rw [if_pos rfl] at hp ⊢
      rcases hi : gI i 0 ((l : Int) - 1) with _ | j
      · rw [hi] at hp
        refine x0_eq rfl rfl (fun h => absurd h (by show ¬ (-14 : Int32) = 0; decide)) (fun _ => ?_)
        exact x_ret rfl rfl rfl rfl hp
      · rw [hi] at hp
        dsimp only at hp
        obtain ⟨i1, i2, i3, i4⟩ := gI_some (by decide) hi
        subst i1
        refine x0_eq rfl rfl (fun _ => ?_) (fun h => absurd rfl h)
        refine x_aldN (12 * r + j) rfl rfl (by
          show nI 12 * nI r + nI j = _
          rw [pk_mul, nI_add]) (by omega) rfl ?_
        rw [q3 j (by omega)]
        generalize f j = v at hp
        rw [rSound] at hp
        refine xi_neN s' 3 rfl rfl rfl rfl (by omega) (by omega) (fun h2 => ?_) (fun h2 => ?_)
        · rw [if_neg h2] at hp
          refine xi_geN s' 2 rfl rfl rfl rfl (by omega) (by omega) (fun h3 => ?_) (fun h3 => ?_)
          · rw [if_neg (by omega)] at hp
            refine x0_ge rfl rfl (fun h4 => ?_) (fun h4 => ?_)
            · rw [if_pos h4] at hp
              refine x_rem rfl rfl (by decide) ?_
              exact x_ret rfl rfl rfl rfl hp
            · rw [if_neg h4] at hp
              refine x_rem rfl rfl (by decide) ?_
              have e : -(v + xnum 1) = v ^^^ -1 := neg_not v
              rw [e]
              exact x_goto rfl rfl (x_ret rfl rfl rfl rfl hp)
          · rw [if_pos h3] at hp
            exact x_goto rfl rfl (x_ret rfl rfl rfl rfl hp)
        · rw [if_pos h2] at hp
          refine xi_ne rfl rfl (fun (h2 : ¬ v = -1) => ?_) (fun (h2 : v = -1) => ?_)
          · rw [if_neg h2] at hp
            exact x_ret rfl rfl rfl rfl hp
          · rw [if_pos h2] at hp
            exact x_goto rfl rfl (x_ret rfl rfl rfl rfl hp)
    · rw [if_neg e] at hp ⊢
      refine x0_eq rfl rfl (fun h => absurd h (by decide)) (fun _ => ?_)
      exact x_ret rfl rfl rfl rfl hp
theorem a_record {x y i v : Int32} (h : RelC D G) (hg : gok G) (hp : ∀ D', RelC D' (aRecord G x y i v).2 → (∀ a, 111 ≤ a → D' a = D a) → post (some (aRecord G x y i v).1) D') : xRuns Γ (n + 2) hX8_record [xR 0 8 0, xI x, xI y, xI i, xI v] D post := by
  have ho := hg.2.2.1.1
  have hr := h.2.1
  have hl := hg.2.2.2.2.2.2
  refine x_runs kX8_record (by decide +kernel) rfl ?_
  rw [aRecord] at hp
  refine x_scall [xI x] rfl rfl rfl rfl rfl rfl rfl (c_noReel ?_)
  rcases hx_r : gI x 0 2 with _ | r
  · rw [hx_r] at hp
    refine x0_ne rfl rfl (fun _ => ?_) (fun h => absurd h (by decide))
    exact x_ret rfl rfl rfl rfl (hp D h (fun _ _ => rfl))
  rw [hx_r] at hp
  dsimp only at hp
  obtain ⟨e1_r, e2_r, e3_r, e4_r⟩ := gI_some (by decide) hx_r
  subst e1_r
  have h_r : r < 3 := by omega
  refine x0_ne rfl rfl (fun h => absurd rfl h) (fun _ => ?_)
  have h1 := h.2.2.2.2.2.1 r h_r
  have go : ¬ (y = 3 ∧ gO v ((G.now.B : Int) - 1) = none) → xW Γ (n + 2) hX8_record rX8_record 30 [some (xR 0 8 0), some (xI (nI r)), some (xI y), some (xI i), some (xI v), none] [] D post := by
    intro hno
    rw [if_neg hno] at hp
    refine x_scall [xI y] rfl rfl rfl rfl rfl rfl rfl (c_noSort ?_)
    rcases hx_s : gI y 0 3 with _ | s
    · rw [hx_s] at hp
      refine x0_eq rfl rfl (fun h => absurd h (by decide)) (fun _ => ?_)
      exact x_ret rfl rfl rfl rfl (hp D h (fun _ _ => rfl))
    rw [hx_s] at hp
    dsimp only at hp
    obtain ⟨e1_s, e2_s, e3_s, e4_s⟩ := gI_some (by decide) hx_s
    subst e1_s
    have h_s : s < 4 := by omega
    refine x0_eq rfl rfl (fun _ => ?_) (fun h => absurd rfl h)
    refine x_rldN r rfl rfl rfl (by omega) rfl ?_
    refine x_call [xI (nI s), xI i] rfl rfl rfl rfl rfl rfl rfl (c_find h.2.2.2.2.2.1 h_r h_s hl ?_)
    rcases hq : G.reel r with _ | ⟨s', l, f⟩
    · rw [hq] at hp
      refine x0_ge rfl rfl (fun h => absurd h (by show ¬ (0 : Int32) ≤ -11; decide)) (fun _ => ?_)
      exact x_ret rfl rfl rfl rfl (hp D h (fun _ _ => rfl))
    · have hl2 := hl r s' l f h_r hq
      rw [hq] at hp h1
      dsimp only at hp
      obtain ⟨q1, q2, q3, q4⟩ := h1
      rw [rFind]
      by_cases e : s' = s
      · subst e
        rw [if_pos rfl] at hp ⊢
        rcases hi : gI i 0 ((l : Int) - 1) with _ | j
        · rw [hi] at hp
          refine x0_ge rfl rfl (fun h => absurd h (by show ¬ (0 : Int32) ≤ -14; decide)) (fun _ => ?_)
          exact x_ret rfl rfl rfl rfl (hp D h (fun _ _ => rfl))
        · rw [hi] at hp
          dsimp only at hp
          obtain ⟨i1, i2, i3, i4⟩ := gI_some (by decide) hi
          subst i1
          refine x0_ge rfl rfl (fun _ => ?_) (fun h => absurd (by show (0 : Int32) ≤ 0; decide) h)
          refine x_rldN r rfl rfl rfl (by omega) rfl ?_
          refine x_call [xI (nI j), xI v] rfl rfl rfl rfl rfl rfl rfl (c_put h_s (by omega) q2 ?_)
          refine x_ret rfl rfl rfl rfl ?_
          refine hp _ (RelC_reel h (cRe_one h.2.2.2.2.2.1 h_r ⟨by rw [xup_ne _ (by omega)]; exact q1, by rw [xup_ne _ (by omega)]; exact q2, by rw [xup_ne _ (by omega)]; exact q3, fun k hk => ?_⟩ (fun a q1 q2 => xup_ne a q2)) (fun a ha => xup_ne a (by omega))) (fun a ha => xup_ne a (by omega))
          by_cases ek : k = j
          · subst ek; rw [xup_at]; simp [fup]
          · rw [xup_o (by omega), q4 k hk]; simp [fup, ek]
      · rw [if_neg e] at hp ⊢
        refine x0_ge rfl rfl (fun h => absurd h (by decide)) (fun _ => ?_)
        exact x_ret rfl rfl rfl rfl (hp D h (fun _ _ => rfl))
  refine xi_ne rfl rfl (fun (h2 : ¬ y = 3) => go (fun z => h2 z.1)) (fun (h2 : y = 3) => ?_)
  refine xi_eq rfl rfl (fun (h3 : v = -1) => go (fun z => by rw [gO, if_pos h3] at z; cases z.2)) (fun (h3 : ¬ v = -1) => ?_)
  refine x_call [xI v] rfl rfl rfl rfl rfl rfl rfl (c_noBird hr ho ?_)
  rcases hy : gI v 0 ((G.now.B : Int) - 1) with _ | b
  · have e : gO v ((G.now.B : Int) - 1) = none := by rw [gO, if_neg h3, hy]
    rw [if_pos ⟨h2, e⟩] at hp
    refine x0_eq rfl rfl (fun h => absurd h (by decide)) (fun _ => ?_)
    exact x_ret rfl rfl rfl rfl (hp D h (fun _ _ => rfl))
  · refine x0_eq rfl rfl (fun _ => ?_) (fun h => absurd rfl h)
    exact go (fun z => by rw [gO, if_neg h3, hy] at z; cases z.2)
theorem am_record {x y i v : Int32} (h : RelM D G) (hg : gok G) (hp : ∀ D', RelM D' (aRecord G x y i v).2 → (∀ a, a < 111 → D' a = D a) → post (some (aRecord G x y i v).1) D') : xRuns Γ (n + 2) hX9_record [xR 0 9 111, xI x, xI y, xI i, xI v] D post := by
  have ho := hg.2.2.1.1
  have hr := h.2.1
  have hl := hg.2.2.2.2.2.2
  refine x_runs kX9_record (by decide +kernel) rfl ?_
  rw [aRecord] at hp
  refine x_scall [xI x] rfl rfl rfl rfl rfl rfl rfl (c_isReel ?_)
  rcases hx_r : gI x 0 2 with _ | r
  · rw [hx_r] at hp
    refine x0_eq rfl rfl (fun _ => ?_) (fun h => absurd rfl h)
    exact x_ret rfl rfl rfl rfl (hp D h (fun _ _ => rfl))
  rw [hx_r] at hp
  dsimp only at hp
  obtain ⟨e1_r, e2_r, e3_r, e4_r⟩ := gI_some (by decide) hx_r
  subst e1_r
  have h_r : r < 3 := by omega
  refine x0_eq rfl rfl (fun h => absurd h (by simp)) (fun _ => ?_)
  have h1 := h.2.2.2.2.2.1 r h_r
  have go : ¬ (y = 3 ∧ gO v ((G.now.B : Int) - 1) = none) → xW Γ (n + 2) hX9_record rX9_record 30 [some (xR 0 9 111), some (xI (nI r)), some (xI y), some (xI i), some (xI v), none, none] [] D post := by
    intro hno
    rw [if_neg hno] at hp
    refine x_scall [xL y.toInt64, xL (Int64.ofNat 0), xL (Int64.ofNat 3)] rfl rfl rfl rfl rfl rfl rfl (c_inI (lo := 0) (hi := 3) (by decide) (by decide) ?_)
    rcases hx_s : gI y 0 3 with _ | s
    · rw [hx_s] at hp
      refine x0_ne rfl rfl (fun h => absurd rfl h) (fun _ => ?_)
      exact x_ret rfl rfl rfl rfl (hp D h (fun _ _ => rfl))
    rw [hx_s] at hp
    dsimp only at hp
    obtain ⟨e1_s, e2_s, e3_s, e4_s⟩ := gI_some (by decide) hx_s
    subst e1_s
    have h_s : s < 4 := by omega
    refine x0_ne rfl rfl (fun _ => ?_) (fun h => absurd h (by simp))
    refine x_call [xI (nI r), xI (nI s), xI i] rfl rfl rfl rfl rfl rfl rfl (c_noPlace h.2.2.2.2.2.1 h_r h_s hl ?_)
    rcases hq : G.reel r with _ | ⟨s', l, f⟩
    · rw [hq] at hp
      refine x0_eq rfl rfl (fun h => absurd h (by show ¬ (-11 : Int32) = 0; decide)) (fun _ => ?_)
      exact x_ret rfl rfl rfl rfl (hp D h (fun _ _ => rfl))
    · have hl2 := hl r s' l f h_r hq
      rw [hq] at hp h1
      dsimp only at hp
      obtain ⟨q1, q2, q3⟩ := h1
      rw [rFind]
      by_cases e : s' = s
      · subst e
        rw [if_pos rfl] at hp ⊢
        rcases hi : gI i 0 ((l : Int) - 1) with _ | j
        · rw [hi] at hp
          refine x0_eq rfl rfl (fun h => absurd h (by show ¬ (-14 : Int32) = 0; decide)) (fun _ => ?_)
          exact x_ret rfl rfl rfl rfl (hp D h (fun _ _ => rfl))
        · rw [hi] at hp
          dsimp only at hp
          obtain ⟨i1, i2, i3, i4⟩ := gI_some (by decide) hi
          subst i1
          have fin : post (some (rPut s' v)) (xup D 123 (12 * r + j) (rCut s' v)) := by
            refine hp _ (RelM_reel h hg (mRe_one h.2.2.2.2.2.1 h_r ⟨by rw [xup_o (by omega)]; exact q1, by rw [xup_o (by omega)]; exact q2, fun k hk => ?_⟩ (fun j hj => xup_o (by omega)) (fun j hj => xup_o (by omega)) (fun r' k q1 q2 => xup_o (by omega))) (fun a ha hb => xup_ne a (by omega))) (fun a ha => xup_ne a (by omega))
            by_cases ek : k = j
            · subst ek; rw [xup_at]; simp [fup]
            · rw [xup_o (by omega), q3 k hk]; simp [fup, ek]
          refine x0_eq rfl rfl (fun _ => ?_) (fun h => absurd rfl h)
          have tail : ∀ c : Int32, c = rCut s' v → xW Γ (n + 2) hX9_record rX9_record 85 [some (xR 0 9 111), some (xI (nI r)), some (xI (nI s')), some (xI (nI j)), some (xI v), some (xI 0), none] [xI c] D post := by
            intro c hc
            refine x_astN (12 * r + j) rfl rfl (by
              show nI 12 * nI r + nI j = _
              rw [pk_mul, nI_add]) (by omega) rfl ?_
            rw [rPut, ← hc] at fin
            refine xi_geN s' 2 rfl rfl rfl rfl (by omega) (by omega) (fun h3 => ?_) (fun h3 => ?_)
            · rw [if_neg (by omega)] at fin
              refine xi_neN s' 2 rfl rfl rfl rfl (by omega) (by omega) (fun h4 => ?_) (fun h4 => ?_)
              · rw [if_neg h4] at fin
                exact x_ret rfl rfl rfl rfl fin
              · rw [if_pos h4] at fin
                exact x_goto rfl rfl (x_ret rfl rfl rfl rfl fin)
            · rw [if_pos h3] at fin
              exact x_goto rfl rfl (x_ret rfl rfl rfl rfl fin)
          refine x0_ne rfl rfl (fun h2 => ?_) (fun h2 => ?_)
          · have s0 : ¬ s' = 0 := fun z => h2 (by rw [z]; rfl)
            refine xi_neN s' 1 rfl rfl rfl rfl (by omega) (by omega) (fun h3 => ?_) (fun h3 => ?_)
            · refine x_to 85 rfl ?_
              exact tail v (by rw [rCut, if_neg s0, if_neg h3])
            · refine x_goto rfl rfl ?_
              exact tail _ (by rw [rCut, if_neg s0, if_pos h3])
          · have s0 : s' = 0 := (nI_eq (b := 0) (by omega) (by omega)).mp h2
            refine x_goto rfl rfl ?_
            exact tail _ (by rw [rCut, if_pos s0])
      · rw [if_neg e] at hp ⊢
        refine x0_eq rfl rfl (fun h => absurd h (by decide)) (fun _ => ?_)
        exact x_ret rfl rfl rfl rfl (hp D h (fun _ _ => rfl))
  refine xi_ne rfl rfl (fun (h2 : ¬ y = 3) => go (fun z => h2 z.1)) (fun (h2 : y = 3) => ?_)
  refine xi_eq rfl rfl (fun (h3 : v = -1) => go (fun z => by rw [gO, if_pos h3] at z; cases z.2)) (fun (h3 : ¬ v = -1) => ?_)
  refine x_call [xI v] rfl rfl rfl rfl rfl rfl rfl (c_isBird hr ho ?_)
  rcases hy : gI v 0 ((G.now.B : Int) - 1) with _ | b
  · have e : gO v ((G.now.B : Int) - 1) = none := by rw [gO, if_neg h3, hy]
    rw [if_pos ⟨h2, e⟩] at hp
    refine x0_ne rfl rfl (fun h => absurd rfl h) (fun _ => ?_)
    exact x_ret rfl rfl rfl rfl (hp D h (fun _ _ => rfl))
  · refine x0_ne rfl rfl (fun _ => ?_) (fun h => absurd h (by simp))
    exact go (fun z => by rw [gO, if_neg h3, hy] at z; cases z.2)
end A9
