/-! ===== call: of (class) ===== -/
noncomputable def tgT (tg hd : List Nat) (j : Nat) : Bool := @decide (tgA (tgY tg) hd 1 0 j ∨ tgB (tgY tg) hd 1 0 j) (Classical.propDecidable _)
theorem tgT_iff {tg hd : List Nat} {j : Nat} : tgT tg hd j = true ↔ (tgA (tgY tg) hd 1 0 j ∨ tgB (tgY tg) hd 1 0 j) := by
  rw [tgT]
  exact @decide_eq_true_iff _ (Classical.propDecidable _)
def tgLo (T : Nat → Bool) : Nat → Option Nat
  | 0 => if T 0 = true then some 0 else none
  | k + 1 => if T (k + 1) = true then some (k + 1) else tgLo T k
noncomputable def aOf (G : gS) (x y : Int32) : Int32 := match gI x 0 3 with
  | none => -2
  | some p => match gI y 0 1 with
    | none => -3
    | some k => if G.tg.length = 0 then -4 else if k = 0 then (if tgT G.tg (wSaid G.now p) (wSaid G.now p).length = true then 1 else 0) else xby (tgLo (tgT G.tg (wSaid G.now p)) (wSaid G.now p).length)
section TO
variable {Γ : xG} {n : Nat} {D : xM} {post : Option Int32 → xM → Prop} {tg : List Nat} {G : gS}
theorem c_endsIn {sp : Nat → List Nat} {p : Nat} (V : tgV (tgY tg)) (hT : cTg D tg) (hr : rP D 34 35 sp) (hall : ∀ q, q < 4 → (sp q).length ≤ 16) (h10 : ∀ w ∈ sp p, w < 10) (hp4 : p < 4) (hp : ∀ Y D', Y < 2 ^ 17 → (∀ j, Y.testBit j = true ↔ (tgA (tgY tg) (sp p) 1 0 j ∨ tgB (tgY tg) (sp p) 1 0 j)) → (∀ a, a ≠ 10 → a ≠ 14 → D' a = D a) → D' 10 5 = D 10 5 → post (some (nI Y)) D') : xRuns Γ (n + 23) hX6_endsIn [xR 0 6 10, xR 0 4 33, xI (nI p)] D post := by
  have h16 := hall p hp4
  have v1 := V.1
  have yl := tgY_len (tg := tg)
  refine x_runs kX6_endsIn (by decide +kernel) rfl ?_
  refine x_aldN p rfl rfl rfl (by omega) rfl ?_
  rw [(hr p hp4).1]
  refine x_to 12 rfl ?_
  have loop : ∀ g i (D2 : xM), i + g = (sp p).length → D2 10 4 = nI (sp p).length → D2 10 5 = D 10 5 → (∀ j, j < i → D2 14 j = nI ((sp p).getD j 0)) → (∀ a, a ≠ 10 → a ≠ 14 → D2 a = D a) → xW Γ (n + 23) hX6_endsIn rX6_endsIn 12 [some (xR 0 6 10), some (xR 0 4 33), some (xI (nI p)), some (xI (nI i))] [] D2 post := by
    intro g
    induction g with
    | zero =>
      intro i D2 hi q1 q2 q3 q4
      refine xi_geN i (sp p).length rfl rfl rfl q1 (by omega) (by omega) (fun _ => ?_) (fun h => absurd h (by omega))
      have E : cEv D2 tg (sp p) := ⟨V, cTg_out hT q2 (q4 11 (by omega) (by omega)) (q4 12 (by omega) (by omega)), q1, fun j hj => q3 j (by omega), h16, h10⟩
      refine x_to 46 rfl ?_
      rw [q2, hT.1]
      have c0 : (tgY tg).getD 0 0 = 40 := rfl
      have top := (v_top V).1
      have d1 : tgD (tgY tg) (0 + 1) = 0 + 1 := by rw [tgD, if_pos c0]; rfl
      refine x_call [xI (nI 0), xI (nI tg.length), xI (nI 1), xI (nI 0)] rfl rfl rfl rfl rfl rfl rfl (c_sumAll E 6 0 n (by omega) 0 0 tg.length 1 _ (tgIn_0 c0) (by omega) (at_1 V (by omega) (Or.inl c0)) d1 (by omega) (by decide) (fun Y hY => ?_))
      refine x_ret rfl rfl rfl rfl (hp Y D2 hY.1 (fun j => ?_) q4 q2)
      rw [hY.2 j]
      refine ⟨fun ⟨i, w1, w2⟩ => ?_, fun w => ⟨0, rfl, w⟩⟩
      have i0 : i = 0 := by
        have e : (1 : Nat) = 2 ^ 0 := rfl
        rw [e, Nat.testBit_two_pow, decide_eq_true_eq] at w1
        exact w1.symm
      rw [i0] at w2
      exact w2
    | succ g ih =>
      intro i D2 hi q1 q2 q3 q4
      refine xi_geN i (sp p).length rfl rfl rfl q1 (by omega) (by omega) (fun h => absurd h (by omega)) (fun hlt => ?_)
      refine x_call [xI (nI p), xI (nI i)] rfl rfl rfl rfl rfl rfl rfl (c_wordAt (rP_out hr (q4 34 (by omega) (by omega)) (q4 35 (by omega) (by omega))) hall hp4 (by omega) ?_)
      have e : xby ((sp p)[i]?) = nI ((sp p).getD i 0) := by rw [List.getD_eq_getElem?_getD, List.getElem?_eq_getElem hlt]; rfl
      rw [e]
      refine x_astN i rfl rfl rfl (by omega) rfl ?_
      have IH := ih (i + 1) (xup D2 14 i (nI ((sp p).getD i 0))) (by omega) (by rw [xup_o (by omega)]; exact q1) (by rw [xup_o (by omega)]; exact q2) (fun j hj => by
        by_cases z : j = i
        · rw [z, xup_at]
        · rw [xup_o (by omega)]; exact q3 j (by omega)) (fun a w1 w2 => by rw [xup_ne a w2]; exact q4 a w1 w2)
      rw [← nI_1 i] at IH
      exact x_goto rfl rfl IH
  exact loop (sp p).length 0 _ (by omega) (by rw [xup_at]) (by rw [xup_o (by omega)]) (fun j hj => absurd hj (Nat.not_lt_zero j)) (fun a w1 w2 => xup_ne a w1)
theorem RelC_tg {D D' : xM} {G : gS} (h : RelC D G) (e : ∀ a, (a < 27 ∨ 35 < a) → a ≠ 110 → a ≠ 10 → a ≠ 14 → D' a = D a) (e5 : D' 10 5 = D 10 5) : RelC D' G := by
  obtain ⟨h1, h2, h3, h4, h5, h6, h7⟩ := h
  exact ⟨rW_out h1 (fun a ha hb => e a (by omega) (by omega) (by omega) (by omega)), rW_out h2 (fun a ha hb => e a (by omega) (by omega) (by omega) (by omega)), cTx_out h3 (by rw [e 1 (by omega) (by omega) (by omega) (by omega)]) (e 2 (by omega) (by omega) (by omega) (by omega)), cHi_out h4 (fun a ha hb => e a (by omega) (by omega) (by omega) (by omega)), cSe_out h5 (fun a ha hb => e a (by omega) (by omega) (by omega) (by omega)), cRe_out h6 (fun a ha hb => e a (by omega) (by omega) (by omega) (by omega)), cTg_out h7 e5 (e 11 (by omega) (by omega) (by omega) (by omega)) (e 12 (by omega) (by omega) (by omega) (by omega))⟩
theorem tgV_len (h : G.tg = [] ∨ tgV (tgY G.tg)) (hn : ¬ G.tg.length = 0) : tgV (tgY G.tg) := by
  rcases h with h | h
  · rw [h] at hn; exact absurd rfl hn
  · exact h
theorem tg_le (h : G.tg = [] ∨ tgV (tgY G.tg)) : G.tg.length ≤ 200 := by
  rcases h with h | h
  · rw [h]; exact Nat.zero_le _
  · have := h.1; rw [tgY_len] at this; omega
theorem a_of {x y : Int32} (h : RelC D G) (hg : gok G) (ht : G.tg = [] ∨ tgV (tgY G.tg)) (hp : ∀ D', RelC D' G → (∀ a, 111 ≤ a → D' a = D a) → post (some (aOf G x y)) D') : xRuns Γ (n + 24) hX8_of [xR 0 8 0, xI x, xI y] D post := by
  have ho := hg.2.2.1.1
  have hE := hg.2.2.1.2
  have hr := h.2.1
  have hTg := h.2.2.2.2.2.2
  have h200 := tg_le ht
  refine x_runs kX8_of (by decide +kernel) rfl ?_
  rw [aOf] at hp
  refine x_scall [xI x] rfl rfl rfl rfl rfl rfl rfl (c_noPerch ?_)
  rcases hx_p : gI x 0 3 with _ | p
  · rw [hx_p] at hp
    refine x0_eq rfl rfl (fun h => absurd h (by decide)) (fun _ => ?_)
    exact x_ret rfl rfl rfl rfl (hp D h (fun _ _ => rfl))
  rw [hx_p] at hp
  try dsimp only at hp
  obtain ⟨e1_p, e2_p, e3_p, e4_p⟩ := gI_some (by decide) hx_p
  subst e1_p
  have h_p : p < 4 := by omega
  refine x0_eq rfl rfl (fun _ => ?_) (fun h => absurd rfl h)
  refine x_scall [xI y, xI (nI 0), xI (nI 1)] rfl rfl rfl rfl rfl rfl rfl (c_isNot (lo := 0) (hi := 1) (by decide) (by decide) ?_)
  rcases hx_k : gI y 0 1 with _ | k
  · rw [hx_k] at hp
    refine x0_eq rfl rfl (fun h => absurd h (by decide)) (fun _ => ?_)
    exact x_ret rfl rfl rfl rfl (hp D h (fun _ _ => rfl))
  rw [hx_k] at hp
  try dsimp only at hp
  obtain ⟨e1_k, e2_k, e3_k, e4_k⟩ := gI_some (by decide) hx_k
  subst e1_k
  have h_k : k < 2 := by omega
  refine x0_eq rfl rfl (fun _ => ?_) (fun h => absurd rfl h)
  refine x0_ne rfl rfl (fun z => ?_) (fun z => ?_)
  · have hn : ¬ G.tg.length = 0 := fun w => z (by rw [hTg.1, w]; rfl)
    rw [if_neg hn] at hp
    have V := tgV_len ht hn
    refine x_call [] rfl rfl rfl rfl rfl rfl rfl (c_foretell (n := n + 18) hr ho (by omega) (fun D1 hP1 hs1 => ?_))
    have h16 := len_said ho p h_p
    have hT1 : cTg D1 G.tg := cTg_out hTg (by rw [hs1 10 (by omega)]) (hs1 11 (by omega)) (hs1 12 (by omega))
    refine x_call [xR 0 4 33, xI (nI p)] rfl rfl rfl rfl rfl rfl rfl (c_endsIn (tg := G.tg) V hT1 hP1 (len_said ho) (fun w hw => said_lt G.now p w hw) h_p (fun Y D2 hY hb hs2 h5 => ?_))
    have rc : RelC D2 G := RelC_tg h (fun a w1 w2 w3 w4 => by rw [hs2 a w3 w4]; exact hs1 a w1) (by rw [h5, hs1 10 (by omega)])
    have R := hp D2 rc (fun a ha => by rw [hs2 a (by omega) (by omega)]; exact hs1 a (by omega))
    have ec : D2 35 p = nI (wSaid G.now p).length := by rw [hs2 35 (by omega) (by omega)]; exact (hP1 p h_p).1
    have bt : ∀ j, j < 17 → (Y / 2 ^ j % 2 = 1 ↔ tgT G.tg (wSaid G.now p) j = true) := fun j hj => by rw [xb_tb, hb j, tgT_iff]
    have eb : ∀ j, j < 17 → (nI Y >>> (nI j &&& 31)) &&& xnum 1 = nI (Y / 2 ^ j % 2) := fun j hj => xb_bit (by omega) (by omega)
    match k, h_k with
    | 0, _ =>
      rw [if_pos rfl] at R
      refine x0_ne rfl rfl (fun q => absurd rfl q) (fun _ => ?_)
      refine x_aldN p rfl rfl rfl (by omega) rfl ?_
      rw [ec]
      refine x_ret rfl rfl rfl rfl ?_
      rw [eb _ (by omega)]
      by_cases w : tgT G.tg (wSaid G.now p) (wSaid G.now p).length = true
      · rw [if_pos w] at R
        rw [(bt _ (by omega)).mpr w]; exact R
      · rw [if_neg w] at R
        have : ¬ Y / 2 ^ (wSaid G.now p).length % 2 = 1 := fun z => w ((bt _ (by omega)).mp z)
        have e0 : Y / 2 ^ (wSaid G.now p).length % 2 = 0 := by omega
        rw [e0]; exact R
    | 1, _ =>
      rw [if_neg (by decide)] at R
      refine x0_ne rfl rfl (fun _ => ?_) (fun q => absurd q (by decide))
      refine x_aldN p rfl rfl rfl (by omega) rfl ?_
      rw [ec]
      refine x_to 81 rfl ?_
      have loop : ∀ m, m < 17 → tgLo (tgT G.tg (wSaid G.now p)) (wSaid G.now p).length = tgLo (tgT G.tg (wSaid G.now p)) m → xW Γ (n + 24) hX8_of rX8_of 81 [some (xR 0 8 0), some (xI (nI p)), some (xI (nI 1)), some (xI (nI Y)), some (xI (nI m))] [] D2 post := by
        intro m
        induction m with
        | zero =>
          intro hm he
          refine x0_lt rfl rfl (fun q => absurd (Int32.lt_iff_toInt_lt.mp q) (by decide)) (fun _ => ?_)
          refine xi_neN (Y / 2 ^ 0 % 2) 1 rfl rfl (eb 0 (by omega)) rfl (by omega) (by omega) (fun z => ?_) (fun z => ?_)
          · refine x_goto rfl rfl ?_
            refine x0_lt rfl rfl (fun _ => ?_) (fun q => absurd (by decide) q)
            rw [he, tgLo, if_neg (fun w => z ((bt 0 (by omega)).mpr w))] at R
            exact x_ret rfl rfl rfl rfl R
          · rw [he, tgLo, if_pos ((bt 0 (by omega)).mp z)] at R
            exact x_ret rfl rfl rfl rfl R
        | succ m ih =>
          intro hm he
          rw [tgLo] at he
          refine x0_lt rfl rfl (fun q => absurd q (by rw [Int32.lt_iff_toInt_lt, nI_toInt (by omega)]; have : (0 : Int32).toInt = 0 := rfl; omega)) (fun _ => ?_)
          refine xi_neN (Y / 2 ^ (m + 1) % 2) 1 rfl rfl (eb (m + 1) hm) rfl (by omega) (by omega) (fun z => ?_) (fun z => ?_)
          · rw [if_neg (fun w => z ((bt (m + 1) hm).mpr w))] at he
            have IH := ih (by omega) he
            have e1 := nI_d1 (d := m + 1) (by omega)
            rw [Nat.add_sub_cancel] at e1
            rw [← e1] at IH
            exact x_goto rfl rfl IH
          · rw [if_pos ((bt (m + 1) hm).mp z)] at he
            rw [he] at R
            exact x_ret rfl rfl rfl rfl R
      exact loop _ (by omega) rfl
    | k + 2, z => exact absurd z (by omega)
  · have hn : G.tg.length = 0 := (nI_z0 (by omega)).mp (by rw [← hTg.1]; exact z)
    rw [if_pos hn] at hp
    exact x_ret rfl rfl rfl rfl (hp D h (fun _ _ => rfl))
end TO
