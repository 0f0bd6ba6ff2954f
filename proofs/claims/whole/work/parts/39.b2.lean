/-! ===== left ===== -/
def wTen (S : wS) (w : Nat) : Nat → Nat := wSum (fun b => if 5 ≤ S.K b w then 1 else 0)
theorem wTen_le (S : wS) (w : Nat) : ∀ i, wTen S w i ≤ i
  | 0 => Nat.le_refl _
  | i + 1 => by
    have := wTen_le S w i
    rw [wTen, wSum]
    rw [wTen] at this
    split <;> omega
def aLeft (G : gS) (x y z : Int32) : Int32 := match gI x 0 9 with
  | none => -2
  | some w => match gI y 0 10 with
    | none => -3
    | some q => match gI z 0 1 with
      | none => -3
      | some p => nI ((if p = 0 then 10 ^ wTen G.now w G.now.B - q ^ wTen G.now w G.now.B else 10 ^ wTen G.now w G.now.B) / Nat.gcd (10 ^ wTen G.now w G.now.B) (10 ^ wTen G.now w G.now.B - q ^ wTen G.now w G.now.B))
theorem ten_lt {k : Nat} (h : k ≤ 8) : 10 ^ k ≤ 100000000 := Nat.pow_le_pow_right (n := 10) (by decide) h
theorem mod_half {a b : Nat} (hr : 0 < a % b) (hb : 0 < b) : 2 * (b % (a % b)) < b := by
  have h1 := Nat.mod_lt a hb
  have h2 := Nat.mod_lt b hr
  have h3 := Nat.div_add_mod b (a % b)
  have h4 : 1 ≤ b / (a % b) := (Nat.one_le_div_iff hr).mpr (Nat.le_of_lt h1)
  have h5 : a % b * 1 ≤ a % b * (b / (a % b)) := Nat.mul_le_mul_left _ h4
  omega
section B2
variable {Γ : xG} {n : Nat} {D : xM} {post : Option Int32 → xM → Prop} {G : gS} {S : wS}
theorem c_gcd {a0 b0 : Nat} (ha0 : 0 < a0) (ha1 : a0 ≤ 100000000) (hb1 : b0 ≤ 100000000) (hp : post (some (nI (Nat.gcd a0 b0))) D) : xRuns Γ (n + 1) hX8_commonDivisor [xI (nI a0), xI (nI b0)] D post := by
  refine x_runs kX8_commonDivisor (by decide +kernel) rfl ?_
  refine x_to 7 rfl ?_
  have fin : ∀ (a b t : Nat), a = Nat.gcd a0 b0 → a < 2 ^ 31 → xW Γ (n + 1) hX8_commonDivisor rX8_commonDivisor 34 [some (xI (nI a0)), some (xI (nI b0)), some (xI (nI a)), some (xI (nI b)), some (xI (nI t)), none] [] D post := by
    intro a b t e ha
    refine x_max (rest := []) rfl rfl rfl ?_
    refine x_ret rfl rfl rfl rfl ?_
    have hpos : 0 < a := by rw [e]; exact Nat.gcd_pos_of_pos_left _ ha0
    have em : (if nI a < xnum 1 then xnum 1 else nI a) = nI a := if_neg (fun h => absurd ((nI_ltI (b := 1) ha (by decide)).mp h) (by omega))
    rw [em, e]
    exact hp
  have main : ∀ (t : Nat) (a b k : Nat), b < 2 ^ t → k + 2 * t ≤ 100 → Nat.gcd a b = Nat.gcd a0 b0 → a ≤ 100000000 → b ≤ 100000000 → xW Γ (n + 1) hX8_commonDivisor rX8_commonDivisor 7 [some (xI (nI a0)), some (xI (nI b0)), some (xI (nI a)), some (xI (nI b)), some (xI (nI k)), none] [] D post := by
    have zero : ∀ (a k : Nat), k ≤ 100 → Nat.gcd a 0 = Nat.gcd a0 b0 → a ≤ 100000000 → xW Γ (n + 1) hX8_commonDivisor rX8_commonDivisor 7 [some (xI (nI a0)), some (xI (nI b0)), some (xI (nI a)), some (xI (nI 0)), some (xI (nI k)), none] [] D post := by
      intro a k hk hg ha
      rw [Nat.gcd_zero_right] at hg
      refine xi_geN k 100 rfl rfl rfl rfl (by omega) (by omega) (fun _ => fin a 0 k hg (by omega)) (fun _ => ?_)
      exact x0_le rfl rfl (fun _ => fin a 0 k hg (by omega)) (fun h => absurd (by decide) h)
    have step : ∀ (a b k : Nat), 0 < b → k < 100 → a ≤ 100000000 → b ≤ 100000000 → xW Γ (n + 1) hX8_commonDivisor rX8_commonDivisor 7 [some (xI (nI a0)), some (xI (nI b0)), some (xI (nI b)), some (xI (nI (a % b))), some (xI (nI (k + 1))), none] [] D post → xW Γ (n + 1) hX8_commonDivisor rX8_commonDivisor 7 [some (xI (nI a0)), some (xI (nI b0)), some (xI (nI a)), some (xI (nI b)), some (xI (nI k)), none] [] D post := by
      intro a b k hb hk ha hb1 kk
      refine xi_geN k 100 rfl rfl rfl rfl (by omega) (by omega) (fun h => absurd h (by omega)) (fun _ => ?_)
      refine x0_le rfl rfl (fun h => absurd h (nI_nle hb (by omega))) (fun _ => ?_)
      refine x_rem rfl rfl (nI_ne0 hb (by omega)) ?_
      rw [pk_rem (by omega) hb (by omega)]
      refine x_to 28 rfl ?_
      refine x_drop 5 ?_
      rw [← nI_1] at kk
      exact x_goto rfl rfl kk
    intro t
    induction t with
    | zero =>
      intro a b k hb hk hg ha hb1
      have : b = 0 := by simp at hb; omega
      subst this
      exact zero a k (by omega) hg ha
    | succ t ih =>
      intro a b k hb hk hg ha hb1
      by_cases b0 : b = 0
      · subst b0
        exact zero a k (by omega) hg ha
      · have hm := Nat.mod_lt a (show 0 < b by omega)
        have g1 : Nat.gcd b (a % b) = Nat.gcd a b := by rw [Nat.gcd_comm b, ← Nat.gcd_rec, Nat.gcd_comm]
        refine step a b k (by omega) (by omega) ha hb1 ?_
        by_cases r0 : a % b = 0
        · rw [r0] at g1 ⊢
          exact zero b (k + 1) (by omega) (g1.trans hg) hb1
        · have hh := mod_half (show 0 < a % b by omega) (show 0 < b by omega)
          have g2 : Nat.gcd (a % b) (b % (a % b)) = Nat.gcd b (a % b) := by rw [Nat.gcd_comm (a % b), ← Nat.gcd_rec, Nat.gcd_comm]
          refine step b (a % b) (k + 1) (by omega) (by omega) hb1 (by omega) ?_
          refine ih (a % b) (b % (a % b)) (k + 1 + 1) ?_ (by omega) (g2.trans (g1.trans hg)) (by omega) (by omega)
          rw [Nat.pow_succ] at hb
          omega
  exact main 27 a0 b0 0 (by omega) (by omega) rfl ha1 hb1
theorem a_left {x y z : Int32} (h : RelC D G) (hg : gok G) (hp : post (some (aLeft G x y z)) D) : xRuns Γ (n + 2) hX8_left [xR 0 8 0, xI x, xI y, xI z] D post := by
  have ho := hg.2.2.1.1
  have h8 := ho.1
  have hr := h.2.1
  refine x_runs kX8_left (by decide +kernel) rfl ?_
  rw [aLeft] at hp
  refine x_scall [xI x] rfl rfl rfl rfl rfl rfl rfl (c_noWord ?_)
  rcases hx_w : gI x 0 9 with _ | w
  · rw [hx_w] at hp
    refine x0_eq rfl rfl (fun h => absurd h (by decide)) (fun _ => ?_)
    exact x_ret rfl rfl rfl rfl hp
  rw [hx_w] at hp
  dsimp only at hp
  obtain ⟨e1_w, e2_w, e3_w, e4_w⟩ := gI_some (by decide) hx_w
  subst e1_w
  have h_w : w < 10 := by omega
  refine x0_eq rfl rfl (fun _ => ?_) (fun h => absurd rfl h)
  refine x_scall [xI y, xI (nI 0), xI (nI 10)] rfl rfl rfl rfl rfl rfl rfl (c_isNot (lo := 0) (hi := 10) (by decide) (by decide) ?_)
  rcases hx_q : gI y 0 10 with _ | q
  · rw [hx_q] at hp
    refine x0_ne rfl rfl (fun _ => ?_) (fun h => absurd h (by decide))
    exact x_ret rfl rfl rfl rfl hp
  rw [hx_q] at hp
  dsimp only at hp
  obtain ⟨e1_q, e2_q, e3_q, e4_q⟩ := gI_some (by decide) hx_q
  subst e1_q
  have h_q : q < 11 := by omega
  refine x0_ne rfl rfl (fun h => absurd rfl h) (fun _ => ?_)
  refine x_scall [xI z, xI (nI 0), xI (nI 1)] rfl rfl rfl rfl rfl rfl rfl (c_isNot (lo := 0) (hi := 1) (by decide) (by decide) ?_)
  rcases hx_p : gI z 0 1 with _ | p
  · rw [hx_p] at hp
    refine x0_eq rfl rfl (fun h => absurd h (by decide)) (fun _ => ?_)
    exact x_ret rfl rfl rfl rfl hp
  rw [hx_p] at hp
  dsimp only at hp
  obtain ⟨e1_p, e2_p, e3_p, e4_p⟩ := gI_some (by decide) hx_p
  subst e1_p
  have h_p : p < 2 := by omega
  refine x0_eq rfl rfl (fun _ => ?_) (fun h => absurd rfl h)
  refine x_to 41 rfl ?_
  have loop : ∀ f i, i + f = G.now.B → xW Γ (n + 2) hX8_left rX8_left 41 [some (xR 0 8 0), some (xI (nI w)), some (xI (nI q)), some (xI (nI p)), some (xI (nI (10 ^ wTen G.now w i))), some (xI (nI (q ^ wTen G.now w i))), some (xI (nI i)), none] [] D post := by
    intro f
    induction f with
    | zero =>
      intro i hi
      obtain rfl : i = G.now.B := by omega
      refine xi_geN G.now.B G.now.B rfl rfl rfl hr.1 (by omega) (by omega) (fun _ => ?_) (fun h => absurd h (by omega))
      have t8 := wTen_le G.now w G.now.B
      generalize wTen G.now w G.now.B = t at hp t8 ⊢
      have h10 := ten_lt (show t ≤ 8 by omega)
      have hq : q ^ t ≤ 10 ^ t := Nat.pow_le_pow_left (by omega) t
      have hpos : 0 < 10 ^ t := Nat.pow_pos (by decide)
      refine x_to 97 rfl ?_
      rw [pk_sub hq]
      refine x_scall [xI (nI (10 ^ t)), xI (nI (10 ^ t - q ^ t))] rfl rfl rfl rfl rfl rfl rfl (c_gcd hpos h10 (by omega) ?_)
      have gpos : 0 < Nat.gcd (10 ^ t) (10 ^ t - q ^ t) := Nat.gcd_pos_of_pos_left _ hpos
      have gle : Nat.gcd (10 ^ t) (10 ^ t - q ^ t) ≤ 10 ^ t := Nat.le_of_dvd hpos (Nat.gcd_dvd_left _ _)
      refine x0_ne rfl rfl (fun h2 => ?_) (fun h2 => ?_)
      · rw [if_neg (fun e => h2 (by rw [e]; rfl))] at hp
        refine x_div rfl rfl (nI_ne0 gpos (by omega)) ?_
        rw [pk_div (by omega) gpos (by omega)]
        exact x_ret rfl rfl rfl rfl hp
      · rw [if_pos ((nI_eq (b := 0) (by omega) (by omega)).mp h2)] at hp
        refine x_goto rfl rfl ?_
        refine x_div rfl rfl (nI_ne0 gpos (by omega)) ?_
        rw [pk_div (by omega) gpos (by omega)]
        exact x_ret rfl rfl rfl rfl hp
    | succ f ih =>
      intro i hi
      have IH := ih (i + 1) (by omega)
      have h9 := ho.2.2.2.2.2.2.1 i w (by omega) h_w
      have es : wTen G.now w (i + 1) = wTen G.now w i + (if 5 ≤ G.now.K i w then 1 else 0) := rfl
      refine xi_geN i G.now.B rfl rfl rfl hr.1 (by omega) (by omega) (fun h => absurd h (by omega)) (fun h => ?_)
      refine x_call [xI (nI i), xI (nI w)] rfl rfl rfl rfl rfl rfl rfl (c_knowledge hr ho (by omega) h_w ?_)
      refine xi_ltN (G.now.K i w) 5 rfl rfl rfl rfl (by omega) (by omega) (fun h2 => ?_) (fun h2 => ?_)
      · rw [es, if_neg (by omega), Nat.add_zero, ← nI_1] at IH
        exact x_goto rfl rfl IH
      · rw [es, if_pos h2, ← nI_1, Nat.pow_succ, Nat.pow_succ, ← pk_mul, ← pk_mul] at IH
        exact x_goto rfl rfl IH
  exact loop G.now.B 0 (by omega)
theorem am_left {x y z : Int32} (h : RelM D G) (hg : gok G) (hp : post (some (aLeft G x y z)) D) : xRuns Γ (n + 2) hX9_left [xR 0 9 111, xI x, xI y, xI z] D post := by
  have ho := hg.2.2.1.1
  have h8 := ho.1
  have hr := h.2.1
  refine x_runs kX9_left (by decide +kernel) rfl ?_
  rw [aLeft] at hp
  refine x_scall [xI x] rfl rfl rfl rfl rfl rfl rfl (c_isWordN ?_)
  rcases hx_w : gI x 0 9 with _ | w
  · rw [hx_w] at hp
    refine x0_ne rfl rfl (fun h => absurd rfl h) (fun _ => ?_)
    exact x_ret rfl rfl rfl rfl hp
  rw [hx_w] at hp
  dsimp only at hp
  obtain ⟨e1_w, e2_w, e3_w, e4_w⟩ := gI_some (by decide) hx_w
  subst e1_w
  have h_w : w < 10 := by omega
  refine x0_ne rfl rfl (fun _ => ?_) (fun h => absurd h (by simp))
  refine x_scall [xL y.toInt64, xL (Int64.ofNat 0), xL (Int64.ofNat 10)] rfl rfl rfl rfl rfl rfl rfl (c_inI (lo := 0) (hi := 10) (by decide) (by decide) ?_)
  rcases hx_q : gI y 0 10 with _ | q
  · rw [hx_q] at hp
    refine x0_eq rfl rfl (fun _ => ?_) (fun h => absurd rfl h)
    exact x_ret rfl rfl rfl rfl hp
  rw [hx_q] at hp
  dsimp only at hp
  obtain ⟨e1_q, e2_q, e3_q, e4_q⟩ := gI_some (by decide) hx_q
  subst e1_q
  have h_q : q < 11 := by omega
  refine x0_eq rfl rfl (fun h => absurd h (by simp)) (fun _ => ?_)
  refine x_scall [xL z.toInt64, xL (Int64.ofNat 0), xL (Int64.ofNat 1)] rfl rfl rfl rfl rfl rfl rfl (c_inI (lo := 0) (hi := 1) (by decide) (by decide) ?_)
  rcases hx_p : gI z 0 1 with _ | p
  · rw [hx_p] at hp
    refine x0_ne rfl rfl (fun h => absurd rfl h) (fun _ => ?_)
    exact x_ret rfl rfl rfl rfl hp
  rw [hx_p] at hp
  dsimp only at hp
  obtain ⟨e1_p, e2_p, e3_p, e4_p⟩ := gI_some (by decide) hx_p
  subst e1_p
  have h_p : p < 2 := by omega
  refine x0_ne rfl rfl (fun _ => ?_) (fun h => absurd h (by simp))
  refine x_to 44 rfl ?_
  have fin : ∀ (N t a b : Nat), b ≤ N → t ≤ 8 → t = wTen G.now w G.now.B → a ≤ 100000000 → b ≤ 100000000 → Nat.gcd a b = Nat.gcd (10 ^ t) (10 ^ t - q ^ t) → xW Γ (n + 2) hX9_left rX9_left 116 [some (xR 0 9 111), some (xI (nI w)), some (xI (nI q)), some (xI (nI p)), some (xI (nI (q ^ t))), some (xI (nI (10 ^ t))), some (xI (nI a)), some (xI (nI b)), none] [] D post := by
    intro N
    induction N with
    | zero =>
      intro t a b hb ht et ha hb1 hgc
      obtain rfl : b = 0 := by omega
      rw [Nat.gcd_zero_right] at hgc
      rw [← et] at hp
      have h10 := ten_lt ht
      have hq : q ^ t ≤ 10 ^ t := Nat.pow_le_pow_left (by omega) t
      have hpos : 0 < 10 ^ t := Nat.pow_pos (by decide)
      have gpos : 0 < Nat.gcd (10 ^ t) (10 ^ t - q ^ t) := Nat.gcd_pos_of_pos_left _ hpos
      rw [← hgc] at hp gpos
      refine x0_eq rfl rfl (fun _ => ?_) (fun h => absurd rfl h)
      refine x0_ne rfl rfl (fun h2 => ?_) (fun h2 => ?_)
      · rw [if_neg (fun e => h2 (by rw [e]; rfl))] at hp
        refine x_div rfl rfl (nI_ne0 gpos (by omega)) ?_
        rw [pk_div (by omega) gpos (by omega)]
        exact x_ret rfl rfl rfl rfl hp
      · rw [if_pos ((nI_eq (b := 0) (by omega) (by omega)).mp h2)] at hp
        refine x_to 150 rfl ?_
        rw [pk_sub hq]
        refine x_div rfl rfl (nI_ne0 gpos (by omega)) ?_
        rw [pk_div (by omega) gpos (by omega)]
        exact x_goto rfl rfl (x_ret rfl rfl rfl rfl hp)
    | succ N ih =>
      intro t a b hb ht et ha hb1 hgc
      by_cases b0 : b = 0
      · exact ih t a b (by omega) ht et ha hb1 hgc
      · have hm := Nat.mod_lt a (show 0 < b by omega)
        have g1 : Nat.gcd b (a % b) = Nat.gcd a b := by rw [Nat.gcd_comm b, ← Nat.gcd_rec, Nat.gcd_comm]
        refine x0_eq rfl rfl (fun h => absurd h (nI_ne0 (by omega) (by omega))) (fun _ => ?_)
        refine x_rem rfl rfl (nI_ne0 (by omega) (by omega)) ?_
        rw [pk_rem (by omega) (by omega) (by omega)]
        refine x_to 136 rfl ?_
        refine x_drop 8 ?_
        exact x_goto rfl rfl (ih t b (a % b) (by omega) ht et hb1 (by omega) (g1.trans hgc))
  have loop : ∀ f i, i + f = G.now.B → xW Γ (n + 2) hX9_left rX9_left 44 [some (xR 0 9 111), some (xI (nI w)), some (xI (nI q)), some (xI (nI p)), some (xI (nI (q ^ wTen G.now w i))), some (xI (nI (10 ^ wTen G.now w i))), some (xI (nI i)), none, none] [] D post := by
    intro f
    induction f with
    | zero =>
      intro i hi
      obtain rfl : i = G.now.B := by omega
      refine x_aldN 0 rfl rfl rfl (by omega) rfl ?_
      refine xi_geN G.now.B G.now.B rfl rfl rfl hr.1 (by omega) (by omega) (fun _ => ?_) (fun h => absurd h (by omega))
      have t8 := wTen_le G.now w G.now.B
      have F := fin (10 ^ wTen G.now w G.now.B) (wTen G.now w G.now.B) (10 ^ wTen G.now w G.now.B - q ^ wTen G.now w G.now.B) (10 ^ wTen G.now w G.now.B) (Nat.le_refl _) (by omega) rfl (by have := ten_lt (show wTen G.now w G.now.B ≤ 8 by omega); omega) (ten_lt (by omega)) (Nat.gcd_comm _ _)
      generalize wTen G.now w G.now.B = t at t8 F ⊢
      have hq : q ^ t ≤ 10 ^ t := Nat.pow_le_pow_left (by omega) t
      refine x_to 116 rfl ?_
      rw [pk_sub hq]
      exact F
    | succ f ih =>
      intro i hi
      have IH := ih (i + 1) (by omega)
      have hlt := wbits_lt (fun k => decide (5 ≤ G.now.K i k)) 10
      have es : wTen G.now w (i + 1) = wTen G.now w i + (if 5 ≤ G.now.K i w then 1 else 0) := rfl
      have eb : (wWell G.now i).testBit w = decide (5 ≤ G.now.K i w) := by rw [wWell, wbits_tb, decide_eq_true h_w, Bool.true_and]
      refine x_aldN 0 rfl rfl rfl (by omega) rfl ?_
      refine xi_geN i G.now.B rfl rfl rfl hr.1 (by omega) (by omega) (fun h => absurd h (by omega)) (fun h => ?_)
      refine x_call [xI (nI 0), xI (nI i)] rfl rfl rfl rfl rfl rfl rfl (c_mwell hr ho (by omega) (by omega) ?_)
      refine x_scall [xI (nI (wWell G.now i)), xI (nI w)] rfl rfl rfl rfl rfl rfl rfl (c_has (by rw [wWell]; omega) (by omega) ?_)
      rw [eb]
      by_cases h5 : 5 ≤ G.now.K i w
      · rw [es, if_pos h5, ← nI_1, Nat.pow_succ, Nat.pow_succ, ← pk_mul, ← pk_mul] at IH
        rw [decide_eq_true h5]
        refine x0_eq rfl rfl (fun h => absurd h (by decide)) (fun _ => ?_)
        refine x_goto rfl rfl ?_
        refine x0_eq rfl rfl (fun h => absurd h (by decide)) (fun _ => ?_)
        refine x_goto rfl rfl ?_
        refine x_to 99 rfl ?_
        refine x_drop 7 ?_
        exact x_goto rfl rfl IH
      · rw [es, if_neg h5, Nat.add_zero, ← nI_1] at IH
        rw [decide_eq_false h5]
        refine x0_eq rfl rfl (fun _ => ?_) (fun h => absurd rfl h)
        refine x0_eq rfl rfl (fun _ => ?_) (fun h => absurd rfl h)
        refine x_to 99 rfl ?_
        have e1 : ∀ c, nI c * xnum 1 = nI c := fun c => by show nI c * nI 1 = _; rw [pk_mul, Nat.mul_one]
        rw [e1, e1]
        refine x_drop 7 ?_
        exact x_goto rfl rfl IH
  exact loop G.now.B 0 (by omega)
end B2
