/-! ===== perch, cover, sit, undo, keep, back ===== -/
abbrev wPe (S : wS) (b p : Nat) : wS := wmk S.B S.M S.E S.C S.kd (wuf S.pe b p) S.K S.ha S.bi
abbrev wCo (S : wS) (c : Nat) : wS := wmk S.B S.M S.E c S.kd S.pe S.K S.ha S.bi
theorem wok_pe {S : wS} {b p : Nat} (ho : wok S) (hp : p < 4) : wok (wPe S b p) := by
  obtain ⟨o1, o2, o3, o4, o5, o6, o7, o8, o9, o10⟩ := ho
  refine ⟨o1, o2, o3, o4, o5, fun c hc => ?_, o7, o8, o9, o10⟩
  show wuf S.pe b p c < 4
  simp only [wuf]
  split
  · exact hp
  · exact o6 c hc
theorem wok_co {S : wS} {c : Nat} (ho : wok S) (hc : c < 256) : wok (wCo S c) := by
  obtain ⟨o1, o2, o3, o4, o5, o6, o7, o8, o9, o10⟩ := ho
  exact ⟨o1, o2, o3, hc, o5, o6, o7, o8, o9, o10⟩
theorem wok_seat {S : wS} {m : Nat} {o : Option Nat} (ho : wok S) (hb : ∀ b, o = some b → b < S.B) : wok (wSeat S m o) := by
  obtain ⟨o1, o2, o3, o4, o5, o6, o7, o8, o9, o10⟩ := ho
  refine ⟨o1, o2, o3, o4, o5, o6, o7, o8, fun m' b hm' h => ?_, fun m' m2 b hm' hm2 h h2 => ?_⟩
  · change (if m' = m then o else if o ≠ none ∧ S.bi m' = o then none else S.bi m') = some b at h
    split at h
    · exact hb b h
    · split at h
      · cases h
      · exact o9 m' b hm' h
  · change (if m' = m then o else if o ≠ none ∧ S.bi m' = o then none else S.bi m') = some b at h
    change (if m2 = m then o else if o ≠ none ∧ S.bi m2 = o then none else S.bi m2) = some b at h2
    by_cases q1 : m' = m
    · by_cases q2 : m2 = m
      · omega
      · rw [if_pos q1] at h
        rw [if_neg q2, h] at h2
        split at h2
        · cases h2
        · rename_i hq
          exact absurd ⟨by simp, h2⟩ hq
    · rw [if_neg q1] at h
      by_cases q2 : m2 = m
      · rw [if_pos q2] at h2
        rw [h2] at h
        split at h
        · cases h
        · rename_i hq
          exact absurd ⟨by simp, h⟩ hq
      · rw [if_neg q2] at h2
        split at h
        · cases h
        · split at h2
          · cases h2
          · exact o10 m' m2 b hm' hm2 h h2
def gO (y : Int32) (hi : Int) : Option (Option Nat) := if y = -1 then some none else match gI y 0 hi with
  | none => none
  | some b => some (some b)
def aPerch (G : gS) (x y : Int32) : Int32 × gS := match gI x 0 ((G.now.B : Int) - 1) with
  | none => (-2, G)
  | some b => match gI y 0 3 with
    | none => (-2, G)
    | some p => if G.now.pe b = p then (-4, G) else (nI (G.now.pe b), gNow G (wPe G.now b p))
def aCover (G : gS) (x : Int32) : Int32 × gS := match gI x 0 ((G.now.B : Int) - 1) with
  | none => (-2, G)
  | some b => (if (G.now.C ^^^ 2 ^ b).testBit b then 1 else 0, gNow G (wCo G.now (G.now.C ^^^ 2 ^ b)))
def aSit (G : gS) (x y : Int32) : Int32 × gS := match gI x 0 ((G.now.M : Int) - 1) with
  | none => (-2, G)
  | some m => match gO y ((G.now.B : Int) - 1) with
    | none => (-2, G)
    | some o => if G.now.bi m = o then (-4, G) else (xby (G.now.bi m), gNow G (wSeat G.now m o))
def aUndo (G : gS) : Int32 × gS := match G.past with
  | [] => (-4, G)
  | S :: past => (nI past.length, gmk G.tx G.tg G.told S past G.kept G.seen G.reel)
def aKeep (G : gS) (x : Int32) : Int32 × gS := match gI x 0 1 with
  | none => (-2, G)
  | some k => (nI G.now.E, gmk G.tx G.tg G.told G.now G.past (wuf G.kept k (some G.now)) G.seen G.reel)
def aBack (G : gS) (x : Int32) : Int32 × gS := match gI x 0 1 with
  | none => (-2, G)
  | some k => match G.kept k with
    | none => (-4, G)
    | some S => (nI S.E, gmk G.tx G.tg G.told S [] G.kept G.seen G.reel)
theorem xor_lt {a b : Nat} (ha : a < 256) (hb : b < 8) : a ^^^ 2 ^ b < 256 := Nat.xor_lt_two_pow (n := 8) ha (Nat.pow_lt_pow_right (by decide) hb)
section A4
variable {Γ : xG} {n : Nat} {D : xM} {post : Option Int32 → xM → Prop} {G : gS}
theorem g_perch {x y : Int32} (hg : gok G) : gok (aPerch G x y).2 := by
  rw [aPerch]
  split
  · exact hg
  · split
    · exact hg
    · rename_i p hy
      have h := gI_some (by decide) hy
      split
      · exact hg
      · exact g_now hg (wok_pe hg.2.2.1.1 (by omega)) hg.2.2.1.2
theorem g_cover {x : Int32} (hg : gok G) : gok (aCover G x).2 := by
  have ho := hg.2.2.1.1
  have h8 := ho.1
  rw [aCover]
  split
  · exact hg
  · rename_i b hx
    have h := gI_some (by decide) hx
    exact g_now hg (wok_co ho (xor_lt ho.2.2.2.1 (by omega))) hg.2.2.1.2
theorem gO_b {y : Int32} {hi : Int} {o : Option Nat} (h : gO y hi = some o) : y = xby o ∧ ∀ b, o = some b → (b : Int) ≤ hi := by
  rw [gO] at h
  split at h
  · rename_i e
    cases h
    exact ⟨e, fun b hb => by cases hb⟩
  · split at h
    · cases h
    · rename_i b hb
      cases h
      have := gI_some (by decide) hb
      exact ⟨this.1, fun c hc => by cases hc; exact this.2.2.1⟩
theorem g_sit {x y : Int32} (hg : gok G) : gok (aSit G x y).2 := by
  have ho := hg.2.2.1.1
  rw [aSit]
  split
  · exact hg
  · split
    · exact hg
    · rename_i o hy
      have h := gO_b hy
      split
      · exact hg
      · exact g_now hg (wok_seat ho (fun b hb => by have := h.2 b hb; omega)) hg.2.2.1.2
theorem g_undo (hg : gok G) : gok (aUndo G).2 := by
  obtain ⟨g1, g2, g3, g4, g5, g6, g7⟩ := id hg
  rw [aUndo]
  split
  · exact hg
  · rename_i S past hq
    rw [hq] at g4
    refine ⟨g1, g2, g4.2 S (List.mem_cons_self ..), ⟨?_, fun T hT => g4.2 T (List.mem_cons_of_mem _ hT)⟩, g5, g6, g7⟩
    have := g4.1
    rw [List.length_cons] at this
    show past.length ≤ 8
    omega
theorem g_keep {x : Int32} (hg : gok G) : gok (aKeep G x).2 := by
  obtain ⟨g1, g2, g3, g4, g5, g6, g7⟩ := id hg
  rw [aKeep]
  split
  · exact hg
  · rename_i k hk
    refine ⟨g1, g2, g3, g4, fun j S hj hS => ?_, g6, g7⟩
    change wuf G.kept k (some G.now) j = some S at hS
    simp only [wuf] at hS
    split at hS
    · cases hS; exact g3
    · exact g5 j S hj hS
theorem g_back {x : Int32} (hg : gok G) : gok (aBack G x).2 := by
  obtain ⟨g1, g2, g3, g4, g5, g6, g7⟩ := id hg
  rw [aBack]
  split
  · exact hg
  · rename_i k hk
    have h := gI_some (by decide) hk
    split
    · exact hg
    · rename_i S hS
      exact ⟨g1, g2, g5 k S (by omega) hS, ⟨Nat.zero_le _, fun T hT => absurd hT (by intro z; cases z)⟩, g5, g6, g7⟩
theorem a_perch {x y : Int32} (h : RelC D G) (hg : gok G) (hp : ∀ D', RelC D' (aPerch G x y).2 → (∀ a, 111 ≤ a → D' a = D a) → post (some (aPerch G x y).1) D') : xRuns Γ (n + 3) hX8_perch [xR 0 8 0, xI x, xI y] D post := by
  have ho := hg.2.2.1.1
  have h8 := ho.1
  have h4 := ho.2.1
  have hr := h.2.1
  refine x_runs kX8_perch (by decide +kernel) rfl ?_
  rw [aPerch] at hp
  refine x_call [xI x] rfl rfl rfl rfl rfl rfl rfl (c_noBird hr ho ?_)
  rcases hx_b : gI x 0 ((G.now.B : Int) - 1) with _ | b
  · rw [hx_b] at hp
    refine x0_ne rfl rfl (fun _ => ?_) (fun h => absurd h (by decide))
    exact x_ret rfl rfl rfl rfl (hp D h (fun _ _ => rfl))
  rw [hx_b] at hp
  dsimp only at hp
  obtain ⟨e1_b, e2_b, e3_b, e4_b⟩ := gI_some (by decide) hx_b
  subst e1_b
  have h_b : b < G.now.B := by omega
  refine x0_ne rfl rfl (fun h => absurd rfl h) (fun _ => ?_)
  refine x_scall [xI y] rfl rfl rfl rfl rfl rfl rfl (c_noPerch ?_)
  rcases hx_p : gI y 0 3 with _ | p
  · rw [hx_p] at hp
    refine x0_eq rfl rfl (fun h => absurd h (by decide)) (fun _ => ?_)
    exact x_ret rfl rfl rfl rfl (hp D h (fun _ _ => rfl))
  rw [hx_p] at hp
  dsimp only at hp
  obtain ⟨e1_p, e2_p, e3_p, e4_p⟩ := gI_some (by decide) hx_p
  subst e1_p
  have h_p : p < 4 := by omega
  refine x0_eq rfl rfl (fun _ => ?_) (fun h => absurd rfl h)
  have hpe := ho.2.2.2.2.2.1 b h_b
  refine x_aldN b rfl rfl rfl (by omega) rfl ?_
  rw [hr.2.2.2.2.2.1 b h_b]
  refine xi_neN (G.now.pe b) p rfl rfl rfl rfl (by omega) (by omega) (fun h2 => ?_) (fun h2 => ?_)
  · rw [if_neg h2] at hp
    refine x_call [xR 0 7 21] rfl rfl rfl rfl rfl rfl rfl (c_remember h.2.2.2.1 hr h8 h4 hg.2.2.2.1.1 (fun D1 hh1 hs1 => ?_))
    have hr1 : rW D1 21 G.now := rW_out hr (fun a ha hb => hs1 a (by omega))
    refine x_astN b rfl rfl rfl (by omega) rfl ?_
    refine x_ret rfl rfl rfl rfl ?_
    exact hp _ (RelC_now h hh1 hs1 (rW_pe (i := b) (v := p) hr1) (fun a ha => xup_ne a (by omega))) (fun a ha => by rw [xup_ne a (by omega), hs1 a (by omega)])
  · rw [if_pos h2] at hp
    exact x_ret rfl rfl rfl rfl (hp D h (fun _ _ => rfl))
theorem rM_pe {D : xM} {o : Nat} {S : wS} {i v : Nat} (h : rM D o S) (hB : S.B ≤ 8) (hM : S.M ≤ 4) (hi : i < S.B) : rM (xup D 112 (o + 12 + i) (nI v)) o (wPe S i v) := by
  obtain ⟨h1, h2, h3, h4, h5, h6, h7, h8, h9⟩ := h
  refine ⟨by rw [xup_o (by omega)]; exact h1, by rw [xup_o (by omega)]; exact h2, by rw [xup_o (by omega)]; exact h3, by rw [xup_o (by omega)]; exact h4, fun b hb => ?_, fun b hb => ?_, fun b k hb hk => ?_, fun m hm => ?_, fun m hm => ?_⟩
  · have : b < S.B := hb
    rw [xup_o (by omega)]; exact h5 b hb
  · have hb' : b < S.B := hb
    show _ = nI (wuf S.pe i v b)
    by_cases e : b = i
    · subst e; rw [xup_at]; simp [wuf]
    · rw [xup_o (by omega), h6 b hb]; simp [wuf, e]
  · have : b < S.B := hb
    rw [xup_o (by omega)]; exact h7 b k hb hk
  · have : m < S.M := hm
    rw [xup_o (by omega)]; exact h8 m hm
  · have : m < S.M := hm
    rw [xup_o (by omega)]; exact h9 m hm
theorem rM_C {D : xM} {o : Nat} {S : wS} {v : Nat} (h : rM D o S) (hB : S.B ≤ 8) (hM : S.M ≤ 4) : rM (xup D 112 (o + 3) (nI v)) o (wCo S v) := by
  obtain ⟨h1, h2, h3, h4, h5, h6, h7, h8, h9⟩ := h
  exact ⟨by rw [xup_o (by omega)]; exact h1, by rw [xup_o (by omega)]; exact h2, by rw [xup_o (by omega)]; exact h3, by rw [xup_at], fun b hb => by rw [xup_o (by omega)]; exact h5 b hb, fun b hb => by rw [xup_o (by omega)]; exact h6 b hb, fun b k hb hk => by rw [xup_o (by omega)]; exact h7 b k hb hk, fun m hm => by rw [xup_o (by omega)]; exact h8 m hm, fun m hm => by rw [xup_o (by omega)]; exact h9 m hm⟩
/-- the reference's push, then a change of now -/
theorem x_push (h : RelM D G) (hg : gok G) (hp : ∀ D1, mHi D1 ((G.now :: G.past).take 8) G.kept → (∀ a j, ¬ (a = 112 ∧ 216 ≤ j ∧ j < 1080) → ¬ (a = 111 ∧ j = 1) → D1 a j = D a j) → rM D1 0 G.now → mSp D1 → post none D1) : xRuns Γ (n + 2) hX9_keepPast [xR 0 9 111] D post :=
  c_keepPast h.2.2.2.1 hg.2.2.2.1.1 (fun S hS => (hg.2.2.2.1.2 S hS).1) (fun k S hk hS => (hg.2.2.2.2.1 k S hk hS).1) h.2.1 hg.2.2.1.1.1 hg.2.2.1.1.2.1 (fun D1 hh1 hs1 => hp D1 hh1 hs1 (rM_out h.2.1 hg.2.2.1.1.1 hg.2.2.1.1.2.1 (fun j _ _ => hs1 112 j (by omega) (by omega))) (mSp_out h.2.2.2.2.2.2.2 (funext fun j => hs1 138 j (by omega) (by omega)) (funext fun j => hs1 139 j (by omega) (by omega))))
theorem am_perch {x y : Int32} (h : RelM D G) (hg : gok G) (hp : ∀ D', RelM D' (aPerch G x y).2 → (∀ a, a < 111 → D' a = D a) → post (some (aPerch G x y).1) D') : xRuns Γ (n + 3) hX9_perch [xR 0 9 111, xI x, xI y] D post := by
  have ho := hg.2.2.1.1
  have h8 := ho.1
  have h4 := ho.2.1
  have hr := h.2.1
  refine x_runs kX9_perch (by decide +kernel) rfl ?_
  rw [aPerch] at hp
  refine x_call [xI x] rfl rfl rfl rfl rfl rfl rfl (c_isBird hr ho ?_)
  rcases hx_b : gI x 0 ((G.now.B : Int) - 1) with _ | b
  · rw [hx_b] at hp
    refine x0_eq rfl rfl (fun _ => ?_) (fun h => absurd rfl h)
    exact x_ret rfl rfl rfl rfl (hp D h (fun _ _ => rfl))
  rw [hx_b] at hp
  dsimp only at hp
  obtain ⟨e1_b, e2_b, e3_b, e4_b⟩ := gI_some (by decide) hx_b
  subst e1_b
  have h_b : b < G.now.B := by omega
  refine x0_eq rfl rfl (fun h => absurd h (by simp)) (fun _ => ?_)
  refine x_scall [xL y.toInt64, xL (Int64.ofNat 0), xL (Int64.ofNat 3)] rfl rfl rfl rfl rfl rfl rfl (c_inI (lo := 0) (hi := 3) (by decide) (by decide) ?_)
  rcases hx_p : gI y 0 3 with _ | p
  · rw [hx_p] at hp
    refine x0_ne rfl rfl (fun h => absurd rfl h) (fun _ => ?_)
    exact x_ret rfl rfl rfl rfl (hp D h (fun _ _ => rfl))
  rw [hx_p] at hp
  dsimp only at hp
  obtain ⟨e1_p, e2_p, e3_p, e4_p⟩ := gI_some (by decide) hx_p
  subst e1_p
  have h_p : p < 4 := by omega
  refine x0_ne rfl rfl (fun _ => ?_) (fun h => absurd h (by simp))
  have hpe := ho.2.2.2.2.2.1 b h_b
  refine x_aldN (0 + 12 + b) rfl rfl (by rw [Nat.zero_add]; exact nI_add 12 b) (by omega) rfl ?_
  rw [hr.2.2.2.2.2.1 b h_b]
  refine xi_neN (G.now.pe b) p rfl rfl rfl rfl (by omega) (by omega) (fun h2 => ?_) (fun h2 => ?_)
  · rw [if_neg h2] at hp
    refine x_call [] rfl rfl rfl rfl rfl rfl rfl (x_push h hg (fun D1 hh1 hs1 hr1 hsp1 => ?_))
    refine x_astN (0 + 12 + b) rfl rfl (by rw [Nat.zero_add]; exact nI_add 12 b) (by omega) rfl ?_
    refine x_ret rfl rfl rfl rfl ?_
    have hs2 : sameM 0 D1 (xup D1 112 (0 + 12 + b) (nI p)) := sameM.rf.up (by omega) (by omega)
    exact hp _ (RelM_now h hg hh1 hs1 (rM_pe hr1 h8 h4 h_b) (sameMP.ofM hs2) (mSp_sameM hsp1 hs2)) (fun a ha => funext fun j => by rw [hs2 a j (by omega), hs1 a j (by omega) (by omega)])
  · rw [if_pos h2] at hp
    exact x_ret rfl rfl rfl rfl (hp D h (fun _ _ => rfl))
theorem a_cover {x : Int32} (h : RelC D G) (hg : gok G) (hp : ∀ D', RelC D' (aCover G x).2 → (∀ a, 111 ≤ a → D' a = D a) → post (some (aCover G x).1) D') : xRuns Γ (n + 3) hX8_cover [xR 0 8 0, xI x] D post := by
  have ho := hg.2.2.1.1
  have h8 := ho.1
  have h4 := ho.2.1
  have hr := h.2.1
  refine x_runs kX8_cover (by decide +kernel) rfl ?_
  rw [aCover] at hp
  refine x_call [xI x] rfl rfl rfl rfl rfl rfl rfl (c_noBird hr ho ?_)
  rcases hx_b : gI x 0 ((G.now.B : Int) - 1) with _ | b
  · rw [hx_b] at hp
    refine x0_eq rfl rfl (fun h => absurd h (by decide)) (fun _ => ?_)
    exact x_ret rfl rfl rfl rfl (hp D h (fun _ _ => rfl))
  rw [hx_b] at hp
  dsimp only at hp
  obtain ⟨e1_b, e2_b, e3_b, e4_b⟩ := gI_some (by decide) hx_b
  subst e1_b
  have h_b : b < G.now.B := by omega
  refine x0_eq rfl rfl (fun _ => ?_) (fun h => absurd rfl h)
  have hc := xor_lt ho.2.2.2.1 (show b < 8 by omega)
  refine x_call [xR 0 7 21] rfl rfl rfl rfl rfl rfl rfl (c_remember h.2.2.2.1 hr h8 h4 hg.2.2.2.1.1 (fun D1 hh1 hs1 => ?_))
  have hr1 : rW D1 21 G.now := rW_out hr (fun a ha hb => hs1 a (by omega))
  refine x_to 37 rfl ?_
  have e : D1 21 3 ^^^ (xnum 1 <<< (nI b &&& 31)) = nI (G.now.C ^^^ 2 ^ b) := by
    rw [hr1.2.2.2.1, ← xb_xor, ← xb_sh1 (by omega)]
    rfl
  rw [e]
  have hr2 := rW_C (v := G.now.C ^^^ 2 ^ b) hr1
  refine x_call [xI (nI b)] rfl rfl rfl rfl rfl rfl rfl (c_isCovered hr2 (wok_co ho hc) (by omega) ?_)
  have fin := hp _ (RelC_now h hh1 hs1 hr2 (fun a ha => xup_ne a (by omega))) (fun a ha => by rw [xup_ne a (by omega), hs1 a (by omega)])
  change post (some (if (G.now.C ^^^ 2 ^ b).testBit b then 1 else 0)) _ at fin
  show xW Γ _ _ _ _ _ [xI (if (G.now.C ^^^ 2 ^ b).testBit b then 1 else 0)] _ _
  cases hq : (G.now.C ^^^ 2 ^ b).testBit b with
  | true =>
    rw [hq] at fin
    refine x0_eq rfl rfl (fun h => absurd h (by decide)) (fun _ => ?_)
    exact x_goto rfl rfl (x_ret rfl rfl rfl rfl fin)
  | false =>
    rw [hq] at fin
    refine x0_eq rfl rfl (fun _ => ?_) (fun h => absurd rfl h)
    exact x_ret rfl rfl rfl rfl fin
theorem am_cover {x : Int32} (h : RelM D G) (hg : gok G) (hp : ∀ D', RelM D' (aCover G x).2 → (∀ a, a < 111 → D' a = D a) → post (some (aCover G x).1) D') : xRuns Γ (n + 3) hX9_cover [xR 0 9 111, xI x] D post := by
  have ho := hg.2.2.1.1
  have h8 := ho.1
  have h4 := ho.2.1
  have hr := h.2.1
  refine x_runs kX9_cover (by decide +kernel) rfl ?_
  rw [aCover] at hp
  refine x_call [xI x] rfl rfl rfl rfl rfl rfl rfl (c_isBird hr ho ?_)
  rcases hx_b : gI x 0 ((G.now.B : Int) - 1) with _ | b
  · rw [hx_b] at hp
    refine x0_ne rfl rfl (fun h => absurd rfl h) (fun _ => ?_)
    exact x_ret rfl rfl rfl rfl (hp D h (fun _ _ => rfl))
  rw [hx_b] at hp
  dsimp only at hp
  obtain ⟨e1_b, e2_b, e3_b, e4_b⟩ := gI_some (by decide) hx_b
  subst e1_b
  have h_b : b < G.now.B := by omega
  refine x0_ne rfl rfl (fun _ => ?_) (fun h => absurd h (by simp))
  have hc := xor_lt ho.2.2.2.1 (show b < 8 by omega)
  refine x_call [] rfl rfl rfl rfl rfl rfl rfl (x_push h hg (fun D1 hh1 hs1 hr1 hsp1 => ?_))
  refine x_aldN (0 + 3) rfl rfl rfl (by omega) rfl ?_
  refine x_astN (0 + 3) rfl rfl rfl (by omega) rfl ?_
  have e : D1 112 (0 + 3) ^^^ (xnum 1 <<< (nI b &&& 31)) = nI (G.now.C ^^^ 2 ^ b) := by
    rw [hr1.2.2.2.1, ← xb_xor, ← xb_sh1 (by omega)]
    rfl
  rw [e]
  refine x_aldN (0 + 3) rfl rfl rfl (by omega) rfl ?_
  refine x_ret rfl rfl rfl rfl ?_
  rw [xup_at]
  have e2 : (nI (G.now.C ^^^ 2 ^ b) >>> (nI b &&& 31)) &&& xnum 1 = nI ((G.now.C ^^^ 2 ^ b) / 2 ^ b % 2) := xb_bit (by omega) (by omega)
  rw [e2]
  have hs2 : sameM 0 D1 (xup D1 112 (0 + 3) (nI (G.now.C ^^^ 2 ^ b))) := sameM.rf.up (by omega) (by omega)
  have fin := hp _ (RelM_now h hg hh1 hs1 (rM_C hr1 h8 h4) (sameMP.ofM hs2) (mSp_sameM hsp1 hs2)) (fun a ha => funext fun j => by rw [hs2 a j (by omega), hs1 a j (by omega) (by omega)])
  change post (some (if (G.now.C ^^^ 2 ^ b).testBit b then 1 else 0)) _ at fin
  cases hq : (G.now.C ^^^ 2 ^ b).testBit b with
  | true =>
    rw [hq] at fin
    rw [(xb_tb _ _).mpr hq]
    exact fin
  | false =>
    rw [hq] at fin
    have q : ¬ (G.now.C ^^^ 2 ^ b) / 2 ^ b % 2 = 1 := fun z => by rw [(xb_tb _ _).mp z] at hq; cases hq
    have : (G.now.C ^^^ 2 ^ b) / 2 ^ b % 2 = 0 := by omega
    rw [this]
    exact fin
theorem a_sit {x y : Int32} (h : RelC D G) (hg : gok G) (hp : ∀ D', RelC D' (aSit G x y).2 → (∀ a, 111 ≤ a → D' a = D a) → post (some (aSit G x y).1) D') : xRuns Γ (n + 3) hX8_sit [xR 0 8 0, xI x, xI y] D post := by
  have ho := hg.2.2.1.1
  have h8 := ho.1
  have h4 := ho.2.1
  have hr := h.2.1
  refine x_runs kX8_sit (by decide +kernel) rfl ?_
  rw [aSit] at hp
  refine x_call [xI x] rfl rfl rfl rfl rfl rfl rfl (c_noMan hr ho ?_)
  rcases hx_m : gI x 0 ((G.now.M : Int) - 1) with _ | m
  · rw [hx_m] at hp
    refine x0_ne rfl rfl (fun _ => ?_) (fun h => absurd h (by decide))
    exact x_ret rfl rfl rfl rfl (hp D h (fun _ _ => rfl))
  rw [hx_m] at hp
  dsimp only at hp
  obtain ⟨e1_m, e2_m, e3_m, e4_m⟩ := gI_some (by decide) hx_m
  subst e1_m
  have h_m : m < G.now.M := by omega
  refine x0_ne rfl rfl (fun h => absurd rfl h) (fun _ => ?_)
  have go : ∀ o, gO y ((G.now.B : Int) - 1) = some o → xW Γ (n + 3) hX8_sit rX8_sit 24 [some (xR 0 8 0), some (xI (nI m)), some (xI y), none] [] D post := by
    intro o hq
    rw [hq] at hp
    dsimp only at hp
    obtain ⟨ey, hb⟩ := gO_b hq
    subst ey
    have hob : ∀ c, o = some c → c < 2 ^ 31 := fun c hc => by have := hb c hc; omega
    refine x_aldN m rfl rfl rfl (by omega) rfl ?_
    rw [hr.2.2.2.2.2.2.2.2 m h_m]
    have key : xby (G.now.bi m) = xby o ↔ G.now.bi m = o := by
      cases o with
      | none => exact xby_m1 (wok_bi ho h_m)
      | some b => exact xby_eq (hob b rfl) (wok_bi ho h_m)
    refine xi_ne rfl rfl (fun h2 => ?_) (fun h2 => ?_)
    · rw [if_neg (fun z => h2 (key.mpr z))] at hp
      refine x_call [xR 0 7 21] rfl rfl rfl rfl rfl rfl rfl (c_remember h.2.2.2.1 hr h8 h4 hg.2.2.2.1.1 (fun D1 hh1 hs1 => ?_))
      have hr1 : rW D1 21 G.now := rW_out hr (fun a ha hb => hs1 a (by omega))
      refine x_call [xI (nI m), xI (xby o)] rfl rfl rfl rfl rfl rfl rfl (c_seat hr1 ho h_m (fun b hq => by have := hb b hq; omega) (fun D2 hr2 hs2 => ?_))
      refine x_ret rfl rfl rfl rfl ?_
      exact hp _ (RelC_now h hh1 hs1 hr2 (fun a ha => hs2 a (by omega))) (fun a ha => by rw [hs2 a (by omega), hs1 a (by omega)])
    · rw [if_pos (key.mp h2)] at hp
      exact x_ret rfl rfl rfl rfl (hp D h (fun _ _ => rfl))
  refine xi_eq rfl rfl (fun (h2 : y = -1) => go none (by rw [gO, if_pos h2])) (fun (h2 : ¬ y = -1) => ?_)
  refine x_call [xI y] rfl rfl rfl rfl rfl rfl rfl (c_noBird hr ho ?_)
  rcases hy : gI y 0 ((G.now.B : Int) - 1) with _ | b
  · have e : gO y ((G.now.B : Int) - 1) = none := by rw [gO, if_neg h2, hy]
    rw [e] at hp
    refine x0_eq rfl rfl (fun h => absurd h (by decide)) (fun _ => ?_)
    exact x_ret rfl rfl rfl rfl (hp D h (fun _ _ => rfl))
  · refine x0_eq rfl rfl (fun _ => ?_) (fun h => absurd rfl h)
    exact go (some b) (by rw [gO, if_neg h2, hy])
theorem am_sit {x y : Int32} (h : RelM D G) (hg : gok G) (hp : ∀ D', RelM D' (aSit G x y).2 → (∀ a, a < 111 → D' a = D a) → post (some (aSit G x y).1) D') : xRuns Γ (n + 3) hX9_sit [xR 0 9 111, xI x, xI y] D post := by
  have ho := hg.2.2.1.1
  have h8 := ho.1
  have h4 := ho.2.1
  have hr := h.2.1
  refine x_runs kX9_sit (by decide +kernel) rfl ?_
  rw [aSit] at hp
  refine x_call [xI x] rfl rfl rfl rfl rfl rfl rfl (c_isMan hr ho ?_)
  rcases hx_m : gI x 0 ((G.now.M : Int) - 1) with _ | m
  · rw [hx_m] at hp
    refine x0_eq rfl rfl (fun _ => ?_) (fun h => absurd rfl h)
    exact x_ret rfl rfl rfl rfl (hp D h (fun _ _ => rfl))
  rw [hx_m] at hp
  dsimp only at hp
  obtain ⟨e1_m, e2_m, e3_m, e4_m⟩ := gI_some (by decide) hx_m
  subst e1_m
  have h_m : m < G.now.M := by omega
  refine x0_eq rfl rfl (fun h => absurd h (by simp)) (fun _ => ?_)
  have go : ∀ o, gO y ((G.now.B : Int) - 1) = some o → xW Γ (n + 3) hX9_sit rX9_sit 24 [some (xR 0 9 111), some (xI (nI m)), some (xI y), none] [] D post := by
    intro o hq
    rw [hq] at hp
    dsimp only at hp
    obtain ⟨ey, hb⟩ := gO_b hq
    subst ey
    have hob : ∀ c, o = some c → c < 2 ^ 31 := fun c hc => by have := hb c hc; omega
    refine x_aldN (0 + 104 + m) rfl rfl (by rw [Nat.zero_add]; exact nI_add 104 m) (by omega) rfl ?_
    rw [hr.2.2.2.2.2.2.2.2 m h_m]
    have key : xby (G.now.bi m) = xby o ↔ G.now.bi m = o := by
      cases o with
      | none => exact xby_m1 (wok_bi ho h_m)
      | some b => exact xby_eq (hob b rfl) (wok_bi ho h_m)
    refine xi_ne rfl rfl (fun h2 => ?_) (fun h2 => ?_)
    · rw [if_neg (fun z => h2 (key.mpr z))] at hp
      refine x_call [] rfl rfl rfl rfl rfl rfl rfl (x_push h hg (fun D1 hh1 hs1 hr1 hsp1 => ?_))
      refine x_call [xI (nI 0), xI (nI m), xI (xby o)] rfl rfl rfl rfl rfl rfl rfl (c_sets hr1 ho (by omega) h_m (fun b hq => by have := hb b hq; omega) (fun D2 hr2 hs2 => ?_))
      refine x_ret rfl rfl rfl rfl ?_
      exact hp _ (RelM_now h hg hh1 hs1 hr2 (sameMP.ofM hs2) (mSp_sameM hsp1 hs2)) (fun a ha => funext fun j => by rw [hs2 a j (by omega), hs1 a j (by omega) (by omega)])
    · rw [if_pos (key.mp h2)] at hp
      exact x_ret rfl rfl rfl rfl (hp D h (fun _ _ => rfl))
  refine xi_eq rfl rfl (fun (h2 : y = -1) => go none (by rw [gO, if_pos h2])) (fun (h2 : ¬ y = -1) => ?_)
  refine x_call [xI y] rfl rfl rfl rfl rfl rfl rfl (c_isBird hr ho ?_)
  rcases hy : gI y 0 ((G.now.B : Int) - 1) with _ | b
  · have e : gO y ((G.now.B : Int) - 1) = none := by rw [gO, if_neg h2, hy]
    rw [e] at hp
    refine x0_ne rfl rfl (fun h => absurd rfl h) (fun _ => ?_)
    exact x_ret rfl rfl rfl rfl (hp D h (fun _ _ => rfl))
  · refine x0_ne rfl rfl (fun _ => ?_) (fun h => absurd h (by simp))
    exact go (some b) (by rw [gO, if_neg h2, hy])
theorem a_undo (h : RelC D G) (hg : gok G) (hp : ∀ D', RelC D' (aUndo G).2 → (∀ a, 111 ≤ a → D' a = D a) → post (some (aUndo G).1) D') : xRuns Γ (n + 3) hX8_undo [xR 0 8 0] D post := by
  have g4 := hg.2.2.2.1
  have hh := h.2.2.2.1
  have hsz : D 36 4 = nI G.past.length := by obtain ⟨nx, sb, q⟩ := hh; exact q.2.2.2.2.1
  refine x_runs kX8_undo (by decide +kernel) rfl ?_
  rw [aUndo] at hp
  rcases hq : G.past with _ | ⟨S, past⟩
  · rw [hq] at hp hsz
    refine x0_ne rfl rfl (fun h2 => absurd hsz h2) (fun _ => ?_)
    exact x_ret rfl rfl rfl rfl (hp D h (fun _ _ => rfl))
  · rw [hq] at hp hsz hh g4
    dsimp only at hp
    rw [List.length_cons] at hsz
    have hl := g4.1
    rw [List.length_cons] at hl
    have hS := (g4.2 S (List.mem_cons_self ..)).1
    refine x0_ne rfl rfl (fun _ => ?_) (fun h2 => absurd (hsz.symm.trans h2) (nI_ne0 (by omega) (by omega)))
    refine x_call [xR 0 7 21] rfl rfl rfl rfl rfl rfl rfl (c_takeBack hh (by omega) hS.1 hS.2.1 (fun D1 hh1 hr1 hs1 => ?_))
    refine x_ret rfl rfl rfl rfl ?_
    have hz : D1 36 4 = nI past.length := by obtain ⟨nx, sb, q⟩ := hh1; exact q.2.2.2.2.1
    rw [hz]
    exact hp D1 (RelC_set h hh1 hr1 (fun a ha hb => hs1 a (by omega) (by omega))) (fun a ha => hs1 a (by omega) (by omega))
theorem am_undo (h : RelM D G) (hg : gok G) (hp : ∀ D', RelM D' (aUndo G).2 → (∀ a, a < 111 → D' a = D a) → post (some (aUndo G).1) D') : xRuns Γ (n + 3) hX9_undo [xR 0 9 111] D post := by
  have g4 := hg.2.2.2.1
  have hh := h.2.2.2.1
  have hsz := hh.1
  refine x_runs kX9_undo (by decide +kernel) rfl ?_
  rw [aUndo] at hp
  rcases hq : G.past with _ | ⟨S, past⟩
  · rw [hq] at hp hsz
    refine x0_ne rfl rfl (fun h2 => absurd hsz h2) (fun _ => ?_)
    exact x_ret rfl rfl rfl rfl (hp D h (fun _ _ => rfl))
  · rw [hq] at hp hsz hh g4
    dsimp only at hp
    rw [List.length_cons] at hsz
    have hl := g4.1
    rw [List.length_cons] at hl
    have hS := (g4.2 S (List.mem_cons_self ..)).1
    refine x0_ne rfl rfl (fun _ => ?_) (fun h2 => absurd (hsz.symm.trans h2) (nI_ne0 (by omega) (by omega)))
    refine x_to 20 rfl ?_
    have e : D 111 1 - xnum 1 = nI past.length := by rw [hsz]; exact nI_pred _
    rw [e]
    have e2 : xnum 216 + xnum 108 * xup D 111 1 (nI past.length) 111 1 = nI (216 + 108 * past.length) := by
      rw [xup_at]
      show nI 216 + nI 108 * nI past.length = _
      rw [pk_mul, nI_add]
    refine x_to 33 rfl ?_
    rw [e2]
    refine x_call [xI (nI (216 + 108 * past.length)), xI (nI 0)] rfl rfl rfl rfl rfl rfl rfl (c_copyHarbour (by omega) (by omega) (by omega) (fun D1 hc1 hs1 => ?_))
    refine x_ret rfl rfl rfl rfl ?_
    have hz : D1 111 1 = nI past.length := by rw [hs1 111 1 (by omega), xup_at]
    rw [hz]
    have ea : ∀ a j, ¬ (a = 112 ∧ j < 108) → ¬ (a = 111 ∧ j = 1) → D1 a j = D a j := fun a j q1 q2 => by rw [hs1 a j (by omega), xup_o q2]
    have h0 := hh.2.1 0 (by rw [List.length_cons]; omega)
    have e0 : (S :: past).length - 1 - 0 = past.length := by rw [List.length_cons]; omega
    rw [e0] at h0
    have hr1 : rM D1 0 S := rM_copy hS.1 hS.2.1 (rM_out (D' := xup D 111 1 (nI past.length)) h0 hS.1 hS.2.1 (fun j _ _ => xup_o (by omega))) hc1
    refine hp D1 (RelM_set h hg ⟨hz, fun j hj => ?_, fun k hk => ⟨by rw [ea 113 k (by omega) (by omega)]; exact (hh.2.2 k hk).1, fun T hT => ?_⟩⟩ hr1 (fun a j q1 q2 q3 q4 q5 => ea a j (by omega) q2) (mSp_out h.2.2.2.2.2.2.2 (funext fun j => ea 138 j (by omega) (by omega)) (funext fun j => ea 139 j (by omega) (by omega)))) (fun a ha => funext fun j => ea a j (by omega) (by omega))
    · have hj2 := hh.2.1 (j + 1) (by rw [List.length_cons]; omega)
      have hok := (g4.2 past[j] (List.mem_cons_of_mem _ (List.getElem_mem hj))).1
      have ej : (S :: past).length - 1 - (j + 1) = past.length - 1 - j := by rw [List.length_cons]; omega
      rw [ej] at hj2
      exact rM_out hj2 hok.1 hok.2.1 (fun i q1 q2 => ea 112 i (by omega) (by omega))
    · have hok := (hg.2.2.2.2.1 k T hk hT).1
      exact rM_out ((hh.2.2 k hk).2 T hT) hok.1 hok.2.1 (fun i q1 q2 => ea 112 i (by omega) (by omega))
theorem a_keep {x : Int32} (h : RelC D G) (hg : gok G) (hp : ∀ D', RelC D' (aKeep G x).2 → (∀ a, 111 ≤ a → D' a = D a) → post (some (aKeep G x).1) D') : xRuns Γ (n + 3) hX8_keep [xR 0 8 0, xI x] D post := by
  have ho := hg.2.2.1.1
  have hr := h.2.1
  refine x_runs kX8_keep (by decide +kernel) rfl ?_
  rw [aKeep] at hp
  refine x_scall [xI x, xI (nI 0), xI (nI 1)] rfl rfl rfl rfl rfl rfl rfl (c_isNot (lo := 0) (hi := 1) (by decide) (by decide) ?_)
  rcases hx_k : gI x 0 1 with _ | k
  · rw [hx_k] at hp
    refine x0_eq rfl rfl (fun h => absurd h (by decide)) (fun _ => ?_)
    exact x_ret rfl rfl rfl rfl (hp D h (fun _ _ => rfl))
  rw [hx_k] at hp
  dsimp only at hp
  obtain ⟨e1_k, e2_k, e3_k, e4_k⟩ := gI_some (by decide) hx_k
  subst e1_k
  have h_k : k < 2 := by omega
  refine x0_eq rfl rfl (fun _ => ?_) (fun h => absurd rfl h)
  refine x_call [xI (nI k), xR 0 7 21] rfl rfl rfl rfl rfl rfl rfl (c_store h_k h.2.2.2.1 hr ho.1 ho.2.1 (fun D1 hh1 hs1 => ?_))
  refine x_ret rfl rfl rfl rfl ?_
  have hr1 : rW D1 21 G.now := rW_out hr (fun a ha hb => hs1 a (by omega))
  rw [hr1.2.2.1]
  exact hp D1 (RelC_set h hh1 hr1 (fun a ha hb => hs1 a hb)) (fun a ha => hs1 a (by omega))
theorem am_keep {x : Int32} (h : RelM D G) (hg : gok G) (hp : ∀ D', RelM D' (aKeep G x).2 → (∀ a, a < 111 → D' a = D a) → post (some (aKeep G x).1) D') : xRuns Γ (n + 3) hX9_keep [xR 0 9 111, xI x] D post := by
  have ho := hg.2.2.1.1
  have hr := h.2.1
  have hh := h.2.2.2.1
  have g4 := hg.2.2.2.1
  refine x_runs kX9_keep (by decide +kernel) rfl ?_
  rw [aKeep] at hp
  refine x_scall [xL x.toInt64, xL (Int64.ofNat 0), xL (Int64.ofNat 1)] rfl rfl rfl rfl rfl rfl rfl (c_inI (lo := 0) (hi := 1) (by decide) (by decide) ?_)
  rcases hx_k : gI x 0 1 with _ | k
  · rw [hx_k] at hp
    refine x0_ne rfl rfl (fun h => absurd rfl h) (fun _ => ?_)
    exact x_ret rfl rfl rfl rfl (hp D h (fun _ _ => rfl))
  rw [hx_k] at hp
  dsimp only at hp
  obtain ⟨e1_k, e2_k, e3_k, e4_k⟩ := gI_some (by decide) hx_k
  subst e1_k
  have h_k : k < 2 := by omega
  refine x0_ne rfl rfl (fun _ => ?_) (fun h => absurd h (by simp))
  have e2 : xnum 1080 + xnum 108 * nI k = nI (1080 + 108 * k) := by
    show nI 1080 + nI 108 * nI k = _
    rw [pk_mul, nI_add]
  refine x_to 23 rfl ?_
  rw [e2]
  refine x_call [xI (nI 0), xI (nI (1080 + 108 * k))] rfl rfl rfl rfl rfl rfl rfl (c_copyHarbour (by omega) (by omega) (by omega) (fun D1 hc1 hs1 => ?_))
  refine x_bstN k rfl rfl rfl h_k rfl (Or.inr rfl) ?_
  refine x_aldN (0 + 2) rfl rfl rfl (by omega) rfl ?_
  refine x_ret rfl rfl rfl rfl ?_
  have ea : ∀ a j, ¬ (a = 112 ∧ 1080 + 108 * k ≤ j ∧ j < 1080 + 108 * k + 108) → ¬ (a = 113 ∧ j = k) → xup D1 113 k (xnum 1) a j = D a j := fun a j q1 q2 => by rw [xup_o q2, hs1 a j q1]
  have hr2 : rM (xup D1 113 k (xnum 1)) 0 G.now := rM_out hr ho.1 ho.2.1 (fun j _ _ => ea 112 j (by omega) (by omega))
  rw [hr2.2.2.1]
  refine hp _ (RelM_set h hg ⟨by rw [ea 111 1 (by omega) (by omega)]; exact hh.1, fun j hj => ?_, fun i hi => ?_⟩ hr2 (fun a j q1 q2 q3 q4 q5 => ea a j (by omega) (by omega)) (mSp_out h.2.2.2.2.2.2.2 (funext fun j => ea 138 j (by omega) (by omega)) (funext fun j => ea 139 j (by omega) (by omega)))) (fun a ha => funext fun j => ea a j (by omega) (by omega))
  · have hok := (g4.2 G.past[j] (List.getElem_mem hj)).1
    have := g4.1
    exact rM_out (hh.2.1 j hj) hok.1 hok.2.1 (fun i q1 q2 => ea 112 i (by omega) (by omega))
  · by_cases e : i = k
    · subst e
      refine ⟨by rw [xup_at]; simp [wuf]; rfl, fun T hT => ?_⟩
      have : G.now = T := by simpa [wuf] using hT
      subst this
      refine rM_copy ho.1 ho.2.1 hr (fun j hj => ?_)
      rw [xup_o (by omega)]
      exact hc1 j hj
    · have ew : wuf G.kept k (some G.now) i = G.kept i := by simp [wuf, e]
      rw [ew, ea 113 i (by omega) (by omega)]
      refine ⟨(hh.2.2 i hi).1, fun T hT => ?_⟩
      have hok := (hg.2.2.2.2.1 i T hi hT).1
      exact rM_out ((hh.2.2 i hi).2 T hT) hok.1 hok.2.1 (fun j q1 q2 => ea 112 j (by omega) (by omega))
theorem a_back {x : Int32} (h : RelC D G) (hg : gok G) (hp : ∀ D', RelC D' (aBack G x).2 → (∀ a, 111 ≤ a → D' a = D a) → post (some (aBack G x).1) D') : xRuns Γ (n + 3) hX8_back [xR 0 8 0, xI x] D post := by
  refine x_runs kX8_back (by decide +kernel) rfl ?_
  rw [aBack] at hp
  refine x_scall [xI x, xI (nI 0), xI (nI 1)] rfl rfl rfl rfl rfl rfl rfl (c_isNot (lo := 0) (hi := 1) (by decide) (by decide) ?_)
  rcases hx_k : gI x 0 1 with _ | k
  · rw [hx_k] at hp
    refine x0_eq rfl rfl (fun h => absurd h (by decide)) (fun _ => ?_)
    exact x_ret rfl rfl rfl rfl (hp D h (fun _ _ => rfl))
  rw [hx_k] at hp
  dsimp only at hp
  obtain ⟨e1_k, e2_k, e3_k, e4_k⟩ := gI_some (by decide) hx_k
  subst e1_k
  have h_k : k < 2 := by omega
  refine x0_eq rfl rfl (fun _ => ?_) (fun h => absurd rfl h)
  refine x_call [xI (nI k)] rfl rfl rfl rfl rfl rfl rfl (c_isStored h_k h.2.2.2.1 ?_)
  rcases hq : G.kept k with _ | S
  · rw [hq] at hp
    refine x0_ne rfl rfl (fun h => absurd rfl h) (fun _ => ?_)
    exact x_ret rfl rfl rfl rfl (hp D h (fun _ _ => rfl))
  · rw [hq] at hp
    dsimp only at hp
    have hok := (hg.2.2.2.2.1 k S h_k hq).1
    refine x0_ne rfl rfl (fun _ => ?_) (fun h => absurd h (by simp))
    refine x_call [xI (nI k), xR 0 7 21] rfl rfl rfl rfl rfl rfl rfl (c_restore h_k h.2.2.2.1 hq hok.1 hok.2.1 (fun D1 hh1 hr1 hs1 => ?_))
    refine x_ret rfl rfl rfl rfl ?_
    rw [hr1.2.2.1]
    exact hp D1 (RelC_set h hh1 hr1 (fun a ha hb => hs1 a (by omega) (by omega))) (fun a ha => hs1 a (by omega) (by omega))
theorem am_back {x : Int32} (h : RelM D G) (hg : gok G) (hp : ∀ D', RelM D' (aBack G x).2 → (∀ a, a < 111 → D' a = D a) → post (some (aBack G x).1) D') : xRuns Γ (n + 3) hX9_back [xR 0 9 111, xI x] D post := by
  have hh := h.2.2.2.1
  refine x_runs kX9_back (by decide +kernel) rfl ?_
  rw [aBack] at hp
  refine x_scall [xL x.toInt64, xL (Int64.ofNat 0), xL (Int64.ofNat 1)] rfl rfl rfl rfl rfl rfl rfl (c_inI (lo := 0) (hi := 1) (by decide) (by decide) ?_)
  rcases hx_k : gI x 0 1 with _ | k
  · rw [hx_k] at hp
    refine x0_ne rfl rfl (fun h => absurd rfl h) (fun _ => ?_)
    exact x_ret rfl rfl rfl rfl (hp D h (fun _ _ => rfl))
  rw [hx_k] at hp
  dsimp only at hp
  obtain ⟨e1_k, e2_k, e3_k, e4_k⟩ := gI_some (by decide) hx_k
  subst e1_k
  have h_k : k < 2 := by omega
  refine x0_ne rfl rfl (fun _ => ?_) (fun h => absurd h (by simp))
  refine x_bldN k rfl rfl rfl h_k rfl ?_
  rw [(hh.2.2 k h_k).1]
  rcases hq : G.kept k with _ | S
  · rw [hq] at hp
    refine x0_ne rfl rfl (fun h => absurd rfl h) (fun _ => ?_)
    exact x_ret rfl rfl rfl rfl (hp D h (fun _ _ => rfl))
  · rw [hq] at hp
    dsimp only at hp
    have hok := (hg.2.2.2.2.1 k S h_k hq).1
    refine x0_ne rfl rfl (fun _ => ?_) (fun h => absurd h (by simp))
    have e2 : xnum 1080 + xnum 108 * nI k = nI (1080 + 108 * k) := by
      show nI 1080 + nI 108 * nI k = _
      rw [pk_mul, nI_add]
    refine x_to 35 rfl ?_
    rw [e2]
    refine x_call [xI (nI (1080 + 108 * k)), xI (nI 0)] rfl rfl rfl rfl rfl rfl rfl (c_copyHarbour (by omega) (by omega) (by omega) (fun D1 hc1 hs1 => ?_))
    refine x_aldN (0 + 2) rfl rfl rfl (by omega) rfl ?_
    refine x_ret rfl rfl rfl rfl ?_
    have ea : ∀ a j, ¬ (a = 112 ∧ j < 108) → ¬ (a = 111 ∧ j = 1) → xup D1 111 1 (xnum 0) a j = D a j := fun a j q1 q2 => by rw [xup_o q2, hs1 a j (by omega)]
    have hr1 : rM D1 0 S := rM_copy hok.1 hok.2.1 ((hh.2.2 k h_k).2 S hq) hc1
    have hr2 : rM (xup D1 111 1 (xnum 0)) 0 S := rM_out hr1 hok.1 hok.2.1 (fun j _ _ => xup_o (by omega))
    rw [hr2.2.2.1]
    refine hp _ (RelM_set h hg ⟨by rw [xup_at]; rfl, fun j hj => absurd hj (Nat.not_lt_zero j), fun i hi => ⟨by rw [ea 113 i (by omega) (by omega)]; exact (hh.2.2 i hi).1, fun T hT => ?_⟩⟩ hr2 (fun a j q1 q2 q3 q4 q5 => ea a j (by omega) q2) (mSp_out h.2.2.2.2.2.2.2 (funext fun j => ea 138 j (by omega) (by omega)) (funext fun j => ea 139 j (by omega) (by omega)))) (fun a ha => funext fun j => ea a j (by omega) (by omega))
    have hokT := (hg.2.2.2.2.1 i T hi hT).1
    exact rM_out ((hh.2.2 i hi).2 T hT) hokT.1 hokT.2.1 (fun j q1 q2 => ea 112 j (by omega) (by omega))
end A4
