/-! ===== the two sides' relations to the state ===== -/
def tgScan (l : List Nat) : Nat → Nat → Nat → Nat
  | 0, p, _ => p
  | f + 1, p, d => if l.getD p 0 = 41 then (if d = 0 then p else tgScan l f (p + 1) (d - 1)) else if l.getD p 0 = 40 then tgScan l f (p + 1) (d + 1) else tgScan l f (p + 1) d
/-- where an opening sign is closed -/
def tgc (l : List Nat) (j : Nat) : Nat := tgScan l 210 (j + 1) 0
/-- the opening sign that a place lies behind -/
def tgOpen (l : List Nat) : Nat → Nat → Nat
  | 0, _ => 0
  | p + 1, d => if l.getD p 0 = 40 then (if d = 0 then p else tgOpen l p (d - 1)) else if l.getD p 0 = 41 then tgOpen l p (d + 1) else tgOpen l p d
def tgb (l : List Nat) : Nat → Nat
  | 0 => 0
  | k + 1 => if l.getD (k + 1) 0 = 41 then tgOpen l (k + 1) 0 else if l.getD (k + 1) 0 = 124 then tgOpen l (k + 1) 0 else if l.getD (k + 1) 0 = 42 then tgb l k else k + 1
def cTg (D : xM) (tg : List Nat) : Prop := D 10 5 = nI tg.length ∧ rL D 11 tg ∧ ∀ j, j < tg.length → tg.getD j 0 = 40 → D 12 j = nI (tgc (40 :: (tg ++ [41])) (j + 1) - 1)
def mTg (D : xM) (tg : List Nat) : Prop := D 111 9 = nI (if tg.length = 0 then 0 else tg.length + 2) ∧ (tg.length ≠ 0 → rL D 118 (40 :: (tg ++ [41])) ∧ ∀ k, k < tg.length + 2 → D 120 k = nI (tgb (40 :: (tg ++ [41])) k) ∧ ((40 :: (tg ++ [41])).getD k 0 = 40 → D 119 k = nI (tgc (40 :: (tg ++ [41])) k)))
theorem cTg_out {D D' : xM} {tg : List Nat} (h : cTg D tg) (e1 : D' 10 5 = D 10 5) (e2 : D' 11 = D 11) (e3 : D' 12 = D 12) : cTg D' tg := ⟨by rw [e1]; exact h.1, rL_out h.2.1 e2, by rw [e3]; exact h.2.2⟩
theorem mTg_out {D D' : xM} {tg : List Nat} (h : mTg D tg) (e1 : D' 111 9 = D 111 9) (e2 : D' 118 = D 118) (e3 : D' 119 = D 119) (e4 : D' 120 = D 120) : mTg D' tg := ⟨by rw [e1]; exact h.1, fun hn => ⟨rL_out (h.2 hn).1 e2, by rw [e3, e4]; exact (h.2 hn).2⟩⟩
def RelC (D : xM) (G : gS) : Prop := rW D 15 G.told ∧ rW D 21 G.now ∧ cTx D G.tx ∧ cHi D G.past G.kept ∧ cSe D G.seen ∧ cRe D G.reel ∧ cTg D G.tg
/-- behind the told birds nothing is known -/
def tWl : List (List Nat) := [[112, 97, 114, 114, 111, 116], [103, 114, 101, 121], [99, 111, 99, 107, 97, 116, 111, 111], [104, 97, 119, 107], [103, 114, 101, 101, 110], [104, 97, 114, 98, 111, 117, 114], [109, 97, 110], [107, 110, 111, 119, 115], [115, 105, 116, 115], [99, 111, 118, 101, 114]]
def tWc : List Nat := [126, 127, 128, 129, 130, 125, 131, 132, 133, 134]
def mZ (D : xM) (S : wS) : Prop := (∀ b k, S.B ≤ b → b < 8 → k < 10 → D 112 (108 + 20 + (b * 10 + k)) = 0) ∧ ∀ q, q < 10 → rL D (tWc.getD q 0) (tWl.getD q [])
def RelM (D : xM) (G : gS) : Prop := (rM D 108 G.told ∧ mZ D G.told) ∧ rM D 0 G.now ∧ mTx D G.tx ∧ mHi D G.past G.kept ∧ mSe D G.seen ∧ mRe D G.reel ∧ mTg D G.tg ∧ mSp D
theorem RelC_out {D D' : xM} {G : gS} (h : RelC D G) (e : ∀ a, (a < 27 ∨ 35 < a) → a ≠ 110 → D' a = D a) : RelC D' G := by
  obtain ⟨h1, h2, h3, h4, h5, h6, h7⟩ := h
  exact ⟨rW_out h1 (fun a ha hb => e a (by omega) (by omega)), rW_out h2 (fun a ha hb => e a (by omega) (by omega)), cTx_out h3 (by rw [e 1 (by omega) (by omega)]) (e 2 (by omega) (by omega)), cHi_out h4 (fun a ha hb => e a (by omega) (by omega)), cSe_out h5 (fun a ha hb => e a (by omega) (by omega)), cRe_out h6 (fun a ha hb => e a (by omega) (by omega)), cTg_out h7 (by rw [e 10 (by omega) (by omega)]) (e 11 (by omega) (by omega)) (e 12 (by omega) (by omega))⟩
/-- the other side is left alone -/
theorem RelC_far {D D' : xM} {G : gS} (h : RelC D G) (e : ∀ a, a < 111 → D' a = D a) : RelC D' G := by
  obtain ⟨h1, h2, h3, h4, h5, h6, h7⟩ := h
  exact ⟨rW_out h1 (fun a ha hb => e a (by omega)), rW_out h2 (fun a ha hb => e a (by omega)), cTx_out h3 (by rw [e 1 (by omega)]) (e 2 (by omega)), cHi_out h4 (fun a ha hb => e a (by omega)), cSe_out h5 (fun a ha hb => e a (by omega)), cRe_out h6 (fun a ha hb => e a (by omega)), cTg_out h7 (by rw [e 10 (by omega)]) (e 11 (by omega)) (e 12 (by omega))⟩
theorem mSe_out {D D' : xM} {seen : List (Nat × Nat × Option Nat)} (h : mSe D seen) (e0 : D' 111 5 = D 111 5) (e : ∀ a, 115 ≤ a → a ≤ 117 → D' a = D a) : mSe D' seen := by
  rw [mSe, e0, e 115 (by omega) (by omega), e 116 (by omega) (by omega), e 117 (by omega) (by omega)]
  exact h
theorem mRe_out {D D' : xM} {reel : Nat → Option (Nat × Nat × (Nat → Int32))} (h : mRe D reel) (e : ∀ a, 121 ≤ a → a ≤ 123 → D' a = D a) : mRe D' reel := by
  intro r hr
  have h1 := h r hr
  rw [e 121 (by omega) (by omega), e 122 (by omega) (by omega), e 123 (by omega) (by omega)]
  exact h1
theorem mTx_out {D D' : xM} {tx : List Nat} (h : mTx D tx) (e1 : D' 111 4 = D 111 4) (e2 : D' 114 = D 114) : mTx D' tx := ⟨by rw [e1]; exact h.1, rL_out h.2 e2⟩
theorem tWc_in : ∀ q, q < 10 → 125 ≤ tWc.getD q 0 ∧ tWc.getD q 0 ≤ 134 := by decide
theorem mZ_out {D D' : xM} {S : wS} (h : mZ D S) (e : ∀ j, 108 ≤ j → j < 216 → D' 112 j = D 112 j) (ew : ∀ a, 125 ≤ a → a ≤ 134 → D' a = D a) : mZ D' S := ⟨fun b k hb hb8 hk => by
  rw [e _ (by omega) (by omega)]
  exact h.1 b k hb hb8 hk, fun q hq => rL_out (h.2 q hq) (ew _ (tWc_in q hq).1 (tWc_in q hq).2)⟩
theorem mSp_out {D D' : xM} (h : mSp D) (e1 : D' 138 = D 138) (e2 : D' 139 = D 139) : mSp D' := by
  obtain ⟨sp, h1, h2⟩ := h
  exact ⟨sp, rP_out h1 e1 e2, h2⟩
theorem RelM_out {D D' : xM} {G : gS} (h : RelM D G) (hg : gok G) (e : ∀ a j, ¬ (a = 112 ∧ 1296 ≤ j) → a ≠ 138 → a ≠ 139 → (111 ≤ a ∧ a ≤ 134 ∧ a ≠ 124) → D' a j = D a j) (hs : mSp D') : RelM D' G := by
  obtain ⟨⟨h1, h1z⟩, h2, h3, h4, h5, h6, h7, h8⟩ := h
  obtain ⟨g1, g2, g3, g4, g5, g6, g7⟩ := hg
  have ef : ∀ a, 113 ≤ a → a ≤ 123 → D' a = D a := fun a ha hb => funext fun j => e a j (by omega) (by omega) (by omega) (by omega)
  exact ⟨⟨rM_out h1 g2.1 g2.2.1 (fun j _ _ => e 112 j (by omega) (by omega) (by omega) (by omega)), mZ_out h1z (fun j _ _ => e 112 j (by omega) (by omega) (by omega) (by omega)) (fun a ha hb => funext fun j => e a j (by omega) (by omega) (by omega) (by omega))⟩, rM_out h2 g3.1.1 g3.1.2.1 (fun j _ _ => e 112 j (by omega) (by omega) (by omega) (by omega)), mTx_out h3 (e 111 4 (by omega) (by omega) (by omega) (by omega)) (ef 114 (by omega) (by omega)), mHi_out h4 g4.1 (fun S hS => (g4.2 S hS).1) (fun k S hk hS => (g5 k S hk hS).1) (e 111 1 (by omega) (by omega) (by omega) (by omega)) (fun j _ _ => e 112 j (by omega) (by omega) (by omega) (by omega)) (ef 113 (by omega) (by omega)), mSe_out h5 (e 111 5 (by omega) (by omega) (by omega) (by omega)) (fun a ha hb => ef a (by omega) (by omega)), mRe_out h6 (fun a ha hb => ef a (by omega) (by omega)), mTg_out h7 (e 111 9 (by omega) (by omega) (by omega) (by omega)) (ef 118 (by omega) (by omega)) (ef 119 (by omega) (by omega)) (ef 120 (by omega) (by omega)), hs⟩
theorem RelM_far {D D' : xM} {G : gS} (h : RelM D G) (hg : gok G) (e : ∀ a, 111 ≤ a → D' a = D a) : RelM D' G :=
  RelM_out h hg (fun a j _ _ _ h4 => by rw [e a (by omega)]) (mSp_out h.2.2.2.2.2.2.2 (e 138 (by omega)) (e 139 (by omega)))
/-! ===== calls: write, erase, bird, man, as ===== -/
def aWrite (G : gS) (x : Int32) : Int32 × gS := match gI x 0 255 with
  | none => (-3, G)
  | some c => if 200 ≤ G.tx.length then (-5, G) else (nI (G.tx.length + 1), gmk (G.tx ++ [c]) G.tg G.told G.now G.past G.kept G.seen G.reel)
def aErase (G : gS) : Int32 × gS := (nI G.tx.length, gmk [] G.tg G.told G.now G.past G.kept G.seen G.reel)
def aBird (G : gS) (x y : Int32) : Int32 := match gI x 0 ((G.now.B : Int) - 1) with
  | none => -2
  | some b => match gI y 0 4 with
    | none => -3
    | some 0 => nI (G.now.kd b)
    | some 1 => nI (G.now.pe b)
    | some 2 => if G.now.C.testBit b then 1 else 0
    | some 3 => xby (wBy G.now b)
    | some _ => nI (wWell G.now b)
def aMan (G : gS) (x y : Int32) : Int32 := match gI x 0 ((G.now.M : Int) - 1) with
  | none => -2
  | some m => match gI y 0 1 with
    | none => -3
    | some 0 => nI (G.now.ha m)
    | some _ => xby (G.now.bi m)
section A1
variable {Γ : xG} {n : Nat} {D : xM} {post : Option Int32 → xM → Prop} {G : gS}
theorem c_txAdd {c : Nat} (h : cTx D G.tx) (hl : G.tx.length < 200) (hp : post none (xup (xup D 2 G.tx.length (nI c)) 1 1 (nI (G.tx.length + 1)))) : xRuns Γ n hX5_add [xR 0 5 1, xI (nI c)] D post := by
  refine x_runs kX5_add (by decide +kernel) rfl ?_
  refine x_astN G.tx.length rfl rfl h.1 hl rfl ?_
  refine x_vret rfl rfl rfl ?_
  have e : xup D 2 G.tx.length (nI c) 1 1 + xnum 1 = nI (G.tx.length + 1) := by
    rw [xup_o (by omega), h.1]
    exact nI_1 _
  rw [e]
  exact hp
theorem a_write {x : Int32} (h : RelC D G) (hg : gok G) (hp : ∀ D', RelC D' (aWrite G x).2 → (∀ a, 111 ≤ a → D' a = D a) → post (some (aWrite G x).1) D') : xRuns Γ (n + 2) hX8_write [xR 0 8 0, xI x] D post := by
  have hl := hg.1.1
  refine x_runs kX8_write (by decide +kernel) rfl ?_
  refine x_scall [xI x, xI (nI 0), xI (nI 255)] rfl rfl rfl rfl rfl rfl rfl (c_isNot (lo := 0) (hi := 255) (by decide) (by decide) ?_)
  rw [aWrite] at hp
  cases hx : gI x 0 255 with
  | none =>
    rw [hx] at hp
    refine x0_eq rfl rfl (fun h => absurd h (by decide)) (fun _ => ?_)
    exact x_ret rfl rfl rfl rfl (hp D h (fun _ _ => rfl))
  | some c =>
    rw [hx] at hp
    dsimp only at hp
    obtain ⟨e1, e2, e3, e4⟩ := gI_some (by decide) hx
    refine x0_eq rfl rfl (fun _ => ?_) (fun h => absurd rfl h)
    refine xi_ltN G.tx.length 200 rfl rfl h.2.2.1.1 rfl (by omega) (by omega) (fun h2 => ?_) (fun h2 => ?_)
    · rw [if_neg (by omega)] at hp
      subst e1
      refine x_call [xI (nI c)] rfl rfl rfl rfl rfl rfl rfl (c_txAdd h.2.2.1 h2 ?_)
      refine x_ret rfl rfl rfl rfl ?_
      rw [xup_at]
      have ea : ∀ a, a ≠ 1 → a ≠ 2 → xup (xup D 2 G.tx.length (nI c)) 1 1 (nI (G.tx.length + 1)) a = D a := fun a q1 q2 => by rw [xup_ne a q1, xup_ne a q2]
      refine hp _ ?_ (fun a ha => ea a (by omega) (by omega))
      obtain ⟨h1, h2, h3, h4, h5, h6, h7⟩ := h
      exact ⟨rW_out h1 (fun a ha hb => ea a (by omega) (by omega)), rW_out h2 (fun a ha hb => ea a (by omega) (by omega)), ⟨by rw [xup_at]; show nI _ = nI (G.tx ++ [c]).length; rw [List.length_append]; rfl, rL_out (rL_add h3.2) (xup_ne 2 (by omega))⟩, cHi_out h4 (fun a ha hb => ea a (by omega) (by omega)), cSe_out h5 (fun a ha hb => ea a (by omega) (by omega)), cRe_out h6 (fun a ha hb => ea a (by omega) (by omega)), cTg_out h7 (by rw [ea 10 (by omega) (by omega)]) (ea 11 (by omega) (by omega)) (ea 12 (by omega) (by omega))⟩
    · rw [if_pos (by omega)] at hp
      exact x_ret rfl rfl rfl rfl (hp D h (fun _ _ => rfl))
theorem am_write {x : Int32} (h : RelM D G) (hg : gok G) (hp : ∀ D', RelM D' (aWrite G x).2 → (∀ a, a < 111 → D' a = D a) → post (some (aWrite G x).1) D') : xRuns Γ (n + 1) hX9_write [xR 0 9 111, xI x] D post := by
  have hl := hg.1.1
  refine x_runs kX9_write (by decide +kernel) rfl ?_
  refine x_scall [xL x.toInt64, xL (Int64.ofNat 0), xL (Int64.ofNat 255)] rfl rfl rfl rfl rfl rfl rfl (c_inI (lo := 0) (hi := 255) (by decide) (by decide) ?_)
  rw [aWrite] at hp
  cases hx : gI x 0 255 with
  | none =>
    rw [hx] at hp
    refine x0_ne rfl rfl (fun h => absurd rfl h) (fun _ => ?_)
    exact x_ret rfl rfl rfl rfl (hp D h (fun _ _ => rfl))
  | some c =>
    rw [hx] at hp
    dsimp only at hp
    obtain ⟨e1, e2, e3, e4⟩ := gI_some (by decide) hx
    refine x0_ne rfl rfl (fun _ => ?_) (fun h => absurd h (by simp))
    refine xi_neN G.tx.length 200 rfl rfl h.2.2.1.1 rfl (by omega) (by omega) (fun h2 => ?_) (fun h2 => ?_)
    · rw [if_neg (by omega)] at hp
      subst e1
      refine x_astN G.tx.length rfl rfl h.2.2.1.1 (by omega) rfl ?_
      refine x_ret rfl rfl rfl rfl ?_
      have e : xup D 114 G.tx.length (nI c) 111 4 + xnum 1 = nI (G.tx.length + 1) := by
        rw [xup_o (by omega), h.2.2.1.1]
        exact nI_1 _
      rw [xup_at, e]
      have ea : ∀ a j, ¬ (a = 111 ∧ j = 4) → a ≠ 114 → xup (xup D 114 G.tx.length (nI c)) 111 4 (nI (G.tx.length + 1)) a j = D a j := fun a j q1 q2 => by rw [xup_o (by omega), xup_o (by omega)]
      have ef : ∀ a, a ≠ 111 → a ≠ 114 → xup (xup D 114 G.tx.length (nI c)) 111 4 (nI (G.tx.length + 1)) a = D a := fun a q1 q2 => funext fun j => ea a j (by omega) q2
      refine hp _ ?_ (fun a ha => ef a (by omega) (by omega))
      obtain ⟨⟨h1, h1z⟩, h2, h3, h4, h5, h6, h7, h8⟩ := h
      obtain ⟨g1, g2, g3, g4, g5, g6, g7⟩ := hg
      have e112 := ef 112 (by omega) (by omega)
      exact ⟨⟨rM_out h1 g2.1 g2.2.1 (fun j _ _ => by rw [e112]), mZ_out h1z (fun j _ _ => by rw [e112]) (fun a ha hb => ef a (by omega) (by omega))⟩, rM_out h2 g3.1.1 g3.1.2.1 (fun j _ _ => by rw [e112]), ⟨by rw [xup_at]; show nI _ = nI (G.tx ++ [c]).length; rw [List.length_append]; rfl, rL_out (rL_add h3.2) (xup_ne 114 (by omega))⟩, mHi_out h4 g4.1 (fun S hS => (g4.2 S hS).1) (fun k S hk hS => (g5 k S hk hS).1) (ea 111 1 (by omega) (by omega)) (fun j _ _ => by rw [e112]) (ef 113 (by omega) (by omega)), mSe_out h5 (ea 111 5 (by omega) (by omega)) (fun a ha hb => ef a (by omega) (by omega)), mRe_out h6 (fun a ha hb => ef a (by omega) (by omega)), mTg_out h7 (ea 111 9 (by omega) (by omega)) (ef 118 (by omega) (by omega)) (ef 119 (by omega) (by omega)) (ef 120 (by omega) (by omega)), mSp_out h8 (ef 138 (by omega) (by omega)) (ef 139 (by omega) (by omega))⟩
    · rw [if_pos (by omega)] at hp
      exact x_ret rfl rfl rfl rfl (hp D h (fun _ _ => rfl))
theorem g_write {x : Int32} (hg : gok G) : gok (aWrite G x).2 := by
  rw [aWrite]
  split
  · exact hg
  · rename_i c hx
    obtain ⟨e1, e2, e3, e4⟩ := gI_some (by decide) hx
    split
    · exact hg
    · refine ⟨⟨by show (G.tx ++ [c]).length ≤ 200; rw [List.length_append]; simp; omega, fun d hd => ?_⟩, hg.2⟩
      rcases List.mem_append.mp hd with q | q
      · exact hg.1.2 d q
      · rw [List.mem_singleton.mp q]; omega
theorem a_erase (h : RelC D G) (hg : gok G) (hp : ∀ D', RelC D' (aErase G).2 → (∀ a, 111 ≤ a → D' a = D a) → post (some (aErase G).1) D') : xRuns Γ (n + 1) hX8_erase [xR 0 8 0] D post := by
  refine x_runs kX8_erase (by decide +kernel) rfl ?_
  refine x_call [] rfl rfl rfl rfl rfl rfl rfl ?_
  refine x_runs kX5_clear (by decide +kernel) rfl ?_
  refine x_vret rfl rfl rfl ?_
  refine x_ret rfl rfl rfl rfl ?_
  rw [h.2.2.1.1]
  have ea : ∀ a, a ≠ 1 → xup D 1 1 (xnum 0) a = D a := fun a q => xup_ne a q
  refine hp _ ?_ (fun a ha => ea a (by omega))
  obtain ⟨h1, h2, h3, h4, h5, h6, h7⟩ := h
  exact ⟨rW_out h1 (fun a ha hb => ea a (by omega)), rW_out h2 (fun a ha hb => ea a (by omega)), ⟨by rw [xup_at]; rfl, fun j hj => absurd hj (Nat.not_lt_zero j)⟩, cHi_out h4 (fun a ha hb => ea a (by omega)), cSe_out h5 (fun a ha hb => ea a (by omega)), cRe_out h6 (fun a ha hb => ea a (by omega)), cTg_out h7 (by rw [ea 10 (by omega)]) (ea 11 (by omega)) (ea 12 (by omega))⟩
theorem a_bird {x y : Int32} (h : RelC D G) (hg : gok G) (hp : post (some (aBird G x y)) D) : xRuns Γ (n + 2) hX8_bird [xR 0 8 0, xI x, xI y] D post := by
  have ho := hg.2.2.1.1
  have h8 := ho.1
  have hr := h.2.1
  refine x_runs kX8_bird (by decide +kernel) rfl ?_
  refine x_call [xI x] rfl rfl rfl rfl rfl rfl rfl (c_noBird hr ho ?_)
  rw [aBird] at hp
  cases hx : gI x 0 ((G.now.B : Int) - 1) with
  | none =>
    rw [hx] at hp
    refine x0_eq rfl rfl (fun h => absurd h (by decide)) (fun _ => ?_)
    exact x_ret rfl rfl rfl rfl hp
  | some b =>
    rw [hx] at hp
    dsimp only at hp
    obtain ⟨e1, e2, e3, e4⟩ := gI_some (by decide) hx
    subst e1
    have hb : b < G.now.B := by omega
    refine x0_eq rfl rfl (fun _ => ?_) (fun h => absurd rfl h)
    cases hy : gI y 0 4 with
    | none =>
      rw [hy] at hp
      have := gI_none hy
      refine x_tout (tgt := 103) rfl rfl this (by decide) ?_
      exact x_ret rfl rfl rfl rfl hp
    | some k =>
      rw [hy] at hp
      obtain ⟨f1, f2, f3, f4⟩ := gI_some (by decide) hy
      subst f1
      match k, f3 with
      | 0, _ =>
        refine x_tin (tgt := 48) (off := 36) rfl rfl (by decide) (by decide) (by decide) (by decide) ?_
        refine x_aldN b rfl rfl rfl (by omega) rfl ?_
        refine x_ret rfl rfl rfl rfl ?_
        rw [hr.2.2.2.2.1 b hb]
        exact hp
      | 1, _ =>
        refine x_tin (tgt := 58) (off := 46) rfl rfl (by decide) (by decide) (by decide) (by decide) ?_
        refine x_aldN b rfl rfl rfl (by omega) rfl ?_
        refine x_ret rfl rfl rfl rfl ?_
        rw [hr.2.2.2.2.2.1 b hb]
        exact hp
      | 2, _ =>
        refine x_tin (tgt := 68) (off := 56) rfl rfl (by decide) (by decide) (by decide) (by decide) ?_
        refine x_call [xI (nI b)] rfl rfl rfl rfl rfl rfl rfl (c_isCovered hr ho (by omega) ?_)
        cases hc : G.now.C.testBit b with
        | true =>
          rw [hc] at hp
          exact x0_eq rfl rfl (fun h => absurd h (by decide)) (fun _ => x_goto rfl rfl (x_ret rfl rfl rfl rfl hp))
        | false =>
          rw [hc] at hp
          exact x0_eq rfl rfl (fun _ => x_ret rfl rfl rfl rfl hp) (fun h => absurd rfl h)
      | 3, _ =>
        refine x_tin (tgt := 85) (off := 73) rfl rfl (by decide) (by decide) (by decide) (by decide) ?_
        refine x_call [xI (nI b)] rfl rfl rfl rfl rfl rfl rfl (c_manBeside hr ho (by omega) ?_)
        exact x_ret rfl rfl rfl rfl hp
      | 4, _ =>
        refine x_tin (tgt := 94) (off := 82) rfl rfl (by decide) (by decide) (by decide) (by decide) ?_
        refine x_call [xI (nI b)] rfl rfl rfl rfl rfl rfl rfl (c_wellKnown hr ho hb ?_)
        exact x_ret rfl rfl rfl rfl hp
      | k + 5, h => exact absurd h (by omega)
end A1
