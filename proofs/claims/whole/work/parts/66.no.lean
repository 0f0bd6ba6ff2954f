/-! ===== call: of (reference) ===== -/
/-- marks after each of the first words -/
def rOf (L hd : List Nat) (i : Nat) (R : Nat → Nat → Bool) : Prop := R 0 0 = true ∧ (∀ k j, R k j = true → j ≤ i) ∧ (∀ k k' j, k < L.length → R k j = true → tgEps L k k' → R k' j = true) ∧ (∀ k j m, k < L.length → j < i → R k j = true → tgw L hd k j m → R (k + 1) m = true) ∧ ∀ k j, R k j = true → ∀ m, tgCC L hd k j m → tgCC L hd 0 0 m
theorem rOf_0 {L hd : List Nat} (V : tgV L) {Y : Nat → Bool} (h1 : Y 0 = true) (h2 : epsC L (fun k => Y k = true)) (h3 : ∀ P : Nat → Prop, (∀ j, decide (j = 0) = true → P j) → epsC L P → ∀ j, Y j = true → P j) {R' : Nat → Nat → Bool} (hR' : ∀ k j, R' k j = (Y k && decide (j = 0))) : rOf L hd 0 R' := by
  refine ⟨by rw [hR', h1]; rfl, fun k j h => ?_, fun k k' j hk h he => ?_, fun k j m _ hj => absurd hj (Nat.not_lt_zero _), fun k j h => ?_⟩
  · rw [hR', Bool.and_eq_true, decide_eq_true_eq] at h; omega
  · rw [hR', Bool.and_eq_true] at h ⊢
    exact ⟨h2 k k' hk h.1 he, h.2⟩
  · rw [hR', Bool.and_eq_true, decide_eq_true_eq] at h
    rw [h.2]
    refine h3 (fun k => ∀ m, tgCC L hd k 0 m → tgCC L hd 0 0 m) (fun j hj m hm => ?_) (fun k1 k2 a1 a2 a3 m hm => ?_) k h.1
    · rw [decide_eq_true_eq] at hj; rw [hj] at hm; exact hm
    · exact a2 m (tgC_eps V a1 a3 hm)
theorem rOf_s {L hd : List Nat} (V : tgV L) (h10 : ∀ w ∈ hd, w < 10) {i : Nat} (hi : i < hd.length) {R : Nat → Nat → Bool} (h : rOf L hd i R) {X Y : Nat → Bool} (hX : ∀ k, k < 203 → R k i = X k) (h1 : ∀ j, stepX L (hd.getD i 0) X j = true → Y j = true) (h2 : epsC L (fun k => Y k = true)) (h3 : ∀ P : Nat → Prop, (∀ j, stepX L (hd.getD i 0) X j = true → P j) → epsC L P → ∀ j, Y j = true → P j) {R' : Nat → Nat → Bool} (hR' : ∀ k j, R' k j = if j = i + 1 then Y k else R k j) : rOf L hd (i + 1) R' := by
  have v1 := V.1
  obtain ⟨r1, r2, r3, r4, r5⟩ := h
  refine ⟨by rw [hR', if_neg (by omega)]; exact r1, fun k j h => ?_, fun k k' j hk h he => ?_, fun k j m hk hj h hw => ?_, fun k j h => ?_⟩
  · by_cases z : j = i + 1
    · omega
    · rw [hR', if_neg z] at h; have := r2 k j h; omega
  · by_cases z : j = i + 1
    · rw [hR', if_pos z] at h ⊢; exact h2 k k' hk h he
    · rw [hR', if_neg z] at h ⊢; exact r3 k k' j hk h he
  · rw [hR', if_neg (by omega)] at h
    have em := hw.1
    by_cases z : j = i
    · subst z
      rw [em, hR', if_pos rfl]
      refine h1 _ (decide_eq_true ⟨by omega, by omega, ?_, ?_⟩)
      · rw [Nat.add_sub_cancel, ← hX k (by omega)]; exact h
      · rw [Nat.add_sub_cancel]; exact hw.2.2
    · rw [em, hR', if_neg (by omega), ← em]
      exact r4 k j m hk (by omega) h hw
  · by_cases z : j = i + 1
    · rw [hR', if_pos z] at h
      rw [z]
      refine h3 (fun k => ∀ m, tgCC L hd k (i + 1) m → tgCC L hd 0 0 m) (fun j hj m hm => ?_) (fun k1 k2 a1 a2 a3 m hm => ?_) k h
      · obtain ⟨s1, s2, s3, s4⟩ := of_decide_eq_true hj
        rw [← hX (j - 1) (by omega)] at s3
        refine r5 (j - 1) i s3 m (tgC_word V h10 (by omega) ⟨rfl, hi, s4⟩ ?_)
        rw [show j - 1 + 1 = j by omega]; exact hm
      · exact a2 m (tgC_eps V a1 a3 hm)
    · rw [hR', if_neg z] at h; exact r5 k j h
theorem rOf_end {tg hd : List Nat} (V : tgV (tgY tg)) (h10 : ∀ w ∈ hd, w < 10) {R : Nat → Nat → Bool} (h : rOf (tgY tg) hd hd.length R) (j : Nat) : R (tgY tg).length j = tgT tg hd j := by
  obtain ⟨r1, r2, r3, r4, r5⟩ := h
  have key := tg_all V h10 (R := fun k i => R k i = true) r1 (fun k k' i hk _ h he => r3 k k' i hk h he) (fun k i m hk h hw => r4 k i m hk hw.2.1 h hw) r2 r5 j
  cases hT : tgT tg hd j with
  | true => exact key.mpr (tgT_iff.mp hT)
  | false =>
    cases hR : R (tgY tg).length j with
    | false => rfl
    | true =>
      rw [tgT_iff.mpr (key.mp hR)] at hT
      cases hT
section NO
variable {Γ : xG} {n : Nat} {D : xM} {post : Option Int32 → xM → Prop} {G : gS}
theorem am_of {x y : Int32} (h : RelM D G) (hg : gok G) (ht : G.tg = [] ∨ tgV (tgY G.tg)) (hp : ∀ D', RelM D' G → (∀ a, a < 111 → D' a = D a) → post (some (aOf G x y)) D') : xRuns Γ (n + 7) hX9_of [xR 0 9 111, xI x, xI y] D post := by
  have ho := hg.2.2.1.1
  have hE := hg.2.2.1.2
  have hr := h.2.1
  have h200 := tg_le ht
  refine x_runs kX9_of (by decide +kernel) rfl ?_
  rw [aOf] at hp
  refine x_scall [xL x.toInt64, xL (Int64.ofNat 0), xL (Int64.ofNat 3)] rfl rfl rfl rfl rfl rfl rfl (c_inI (lo := 0) (hi := 3) (by decide) (by decide) ?_)
  rcases hx_p : gI x 0 3 with _ | p
  · rw [hx_p] at hp
    refine x0_ne rfl rfl (fun h => absurd rfl h) (fun _ => ?_)
    exact x_ret rfl rfl rfl rfl (hp D h (fun _ _ => rfl))
  rw [hx_p] at hp
  try dsimp only at hp
  obtain ⟨e1_p, e2_p, e3_p, e4_p⟩ := gI_some (by decide) hx_p
  subst e1_p
  have h_p : p < 4 := by omega
  refine x0_ne rfl rfl (fun _ => ?_) (fun h => absurd h (by simp))
  refine x_scall [xL y.toInt64, xL (Int64.ofNat 0), xL (Int64.ofNat 1)] rfl rfl rfl rfl rfl rfl rfl (c_inI (lo := 0) (hi := 1) (by decide) (by decide) ?_)
  rcases hx_kk : gI y 0 1 with _ | kk
  · rw [hx_kk] at hp
    refine x0_ne rfl rfl (fun h => absurd rfl h) (fun _ => ?_)
    exact x_ret rfl rfl rfl rfl (hp D h (fun _ _ => rfl))
  rw [hx_kk] at hp
  try dsimp only at hp
  obtain ⟨e1_kk, e2_kk, e3_kk, e4_kk⟩ := gI_some (by decide) hx_kk
  subst e1_kk
  have h_kk : kk < 2 := by omega
  refine x0_ne rfl rfl (fun _ => ?_) (fun h => absurd h (by simp))
  have hTg := h.2.2.2.2.2.2.1
  refine x0_ne rfl rfl (fun z => ?_) (fun z => ?_)
  · have hn : ¬ G.tg.length = 0 := fun w => z (by rw [hTg.1, if_pos w]; rfl)
    rw [if_neg hn] at hp
    have V := tgV_len ht hn
    have v1 := V.1
    have yl := tgY_len (tg := G.tg)
    refine x_call [] rfl rfl rfl rfl rfl rfl rfl (c_layTried hr ho.1 ho.2.1 (fun D1 hr1 hs1 => ?_))
    obtain ⟨sp0, hP0, hl0⟩ := h.2.2.2.2.2.2.2
    refine x_call [xI (nI 1)] rfl rfl rfl rfl rfl rfl rfl (c_passTried (k := 1) (by omega) hr1 (rP_outM hP0 hs1) hl0 ho (by omega) (fun D2 hr2 hsp hs2 => ?_))
    obtain ⟨sp, q1, q2, q3⟩ := hsp
    have q3 := q3 (by omega)
    subst q3
    have q1 : rP D2 138 139 (wSaid G.now) := q1
    have e2 : ∀ a j, ¬ (a = 112 ∧ 1296 ≤ j) → a ≠ 138 → a ≠ 139 → D2 a j = D a j := fun a j w1 w2 w3 => by rw [hs2 a j (by omega) w2 w3, hs1 a j (by omega)]
    have h16 := len_said ho p h_p
    have h10 : ∀ w ∈ wSaid G.now p, w < 10 := fun w hw => said_lt G.now p w hw
    have E2 : mEv D2 (tgY G.tg) := by
      obtain ⟨t1, t2⟩ := hTg.2 hn
      refine ⟨V, by rw [e2 111 9 (by omega) (by omega) (by omega), hTg.1, if_neg hn, yl], fun j hj => by rw [e2 118 j (by omega) (by omega) (by omega)]; exact t1 j hj, fun k hk => ?_⟩
      rw [e2 119 k (by omega) (by omega) (by omega), e2 120 k (by omega) (by omega) (by omega)]
      exact t2 k (by omega)
    generalize hhd : wSaid G.now p = hd at hp h16 h10
    have m1 : D2 139 p = nI hd.length := by rw [← hhd]; exact (q1 p h_p).1
    have m2 : ∀ j, j < hd.length → D2 138 (p * 16 + j) = nI (hd.getD j 0) := fun j hj => by rw [← hhd] at hj ⊢; exact (q1 p h_p).2 j hj
    have fin : ∀ (D3 : xM), (∀ a, a ≠ 136 → a ≠ 137 → D3 a = D2 a) → RelM D3 G ∧ ∀ a, a < 111 → D3 a = D a := fun D3 w => ⟨RelM_out h hg (fun a j g1 g2 g3 g4 => by rw [w a (by omega) (by omega)]; exact e2 a j g1 g2 g3) ⟨wSaid G.now, rP_out q1 (w 138 (by omega) (by omega)) (w 139 (by omega) (by omega)), len_said ho⟩, fun a ha => by rw [w a (by omega) (by omega)]; exact funext fun j => e2 a j (by omega) (by omega) (by omega)⟩
    refine x_to 49 rfl ?_
    have words : ∀ g i (X : Nat → Bool) (R : Nat → Nat → Bool) (D3 : xM), i + g = hd.length → mNow D3 X → rOf (tgY G.tg) hd i R → (∀ k, k < 203 → R k i = X k) → (∀ a, a ≠ 136 → a ≠ 137 → D3 a = D2 a) → xW Γ (n + 7) hX9_of rX9_of 102 [some (xR 0 9 111), some (xI (nI p)), some (xI (nI kk)), some (xI (xby (tgLo (R (tgY G.tg).length) i))), some (xI (nI i))] [] D3 post := by
      intro g
      induction g with
      | zero =>
        intro i X R D3 hi w1 w2 w3 w4
        obtain rfl : i = hd.length := by omega
        have c1 : D3 139 p = nI hd.length := by rw [w4 139 (by omega) (by omega)]; exact m1
        refine x_aldN p rfl rfl rfl (by omega) rfl ?_
        refine xi_geN hd.length hd.length rfl rfl rfl c1 (by omega) (by omega) (fun _ => ?_) (fun h => absurd h (by omega))
        have eT : tgLo (R (tgY G.tg).length) hd.length = tgLo (tgT G.tg hd) hd.length := tgLo_c _ (fun j _ => rOf_end V h10 w2 j)
        rw [eT]
        obtain ⟨f1, f2⟩ := fin D3 w4
        have RR := hp D3 f1 f2
        match kk, h_kk with
        | 1, _ =>
          rw [if_neg (by decide)] at RR
          refine xi_neN 1 1 rfl rfl rfl rfl (by omega) (by omega) (fun z => absurd rfl z) (fun _ => ?_)
          exact x_goto rfl rfl (x_ret rfl rfl rfl rfl RR)
        | 0, _ =>
          rw [if_pos rfl] at RR
          refine xi_neN 0 1 rfl rfl rfl rfl (by omega) (by omega) (fun _ => ?_) (fun z => absurd z (by omega))
          refine x_aldN p rfl rfl rfl (by omega) rfl ?_
          rw [c1]
          have eq := tgLo_eq (tgT G.tg hd) hd.length
          rcases hlo : tgLo (tgT G.tg hd) hd.length with _ | m
          · rw [hlo] at eq
            rw [if_neg (fun z => by have := eq.mpr z; cases this)] at RR
            refine xi_ne rfl rfl (fun _ => ?_) (fun q => absurd q.symm (nI_nm1 (by omega)))
            exact x_ret rfl rfl rfl rfl RR
          · have ml := tgLo_le _ _ _ hlo
            rw [hlo] at eq
            refine xi_neN m hd.length rfl rfl rfl rfl (by omega) (by omega) (fun z => ?_) (fun z => ?_)
            · rw [if_neg (fun w => z (by have := eq.mpr w; cases this; rfl))] at RR
              exact x_ret rfl rfl rfl rfl RR
            · rw [if_pos (eq.mp (by rw [z]))] at RR
              exact x_goto rfl rfl (x_ret rfl rfl rfl rfl RR)
        | kk + 2, z => exact absurd z (by omega)
      | succ g ih =>
        intro i X R D3 hi w1 w2 w3 w4
        have c1 : D3 139 p = nI hd.length := by rw [w4 139 (by omega) (by omega)]; exact m1
        refine x_aldN p rfl rfl rfl (by omega) rfl ?_
        refine xi_geN i hd.length rfl rfl rfl c1 (by omega) (by omega) (fun h => absurd h (by omega)) (fun hlt => ?_)
        refine x_aldN (p * 16 + i) rfl rfl (by
          show nI 16 * nI p + nI i = _
          rw [pk_mul, nI_add]
          exact congrArg nI (by omega)) (by omega) rfl ?_
        rw [w4 138 (by omega) (by omega), m2 i hlt]
        refine x_call [xI (nI (hd.getD i 0))] rfl rfl rfl rfl rfl rfl rfl (c_hearWord (n := n + 3) (mEv_out E2 w4) w1 (hd_lt h10 hlt) (fun Y D4 y1 y2 y3 y4 y5 => ?_))
        have R' := rOf_s V h10 hlt w2 w3 y2 y3 y4 (R' := fun k j => if j = i + 1 then Y k else R k j) (fun _ _ => rfl)
        have w5 : ∀ a, a ≠ 136 → a ≠ 137 → D4 a = D2 a := fun a u1 u2 => by rw [y5 a u1 u2]; exact w4 a u1 u2
        have e9 : D4 111 9 = nI (tgY G.tg).length := by rw [w5 111 (by omega) (by omega)]; exact E2.2.1
        refine x_bldN (tgY G.tg).length rfl rfl e9 (by omega) rfl ?_
        rw [y1 _ (by omega)]
        have IH := ih (i + 1) Y _ D4 (by omega) y1 R' (fun k _ => if_pos rfl) w5
        have eL : tgLo (fun j => if j = i + 1 then Y (tgY G.tg).length else R (tgY G.tg).length j) (i + 1) = if Y (tgY G.tg).length = true then some (i + 1) else tgLo (R (tgY G.tg).length) i := by
          rw [tgLo, if_pos rfl, tgLo_c (T := fun j => if j = i + 1 then Y (tgY G.tg).length else R (tgY G.tg).length j) (T' := R (tgY G.tg).length) i (fun j hj => by rw [if_neg (by omega)])]
        have IH : xW Γ (n + 7) hX9_of rX9_of 102 [some (xR 0 9 111), some (xI (nI p)), some (xI (nI kk)), some (xI (xby (tgLo (fun j => if j = i + 1 then Y (tgY G.tg).length else R (tgY G.tg).length j) (i + 1)))), some (xI (nI (i + 1)))] [] D4 post := IH
        rw [eL] at IH
        cases hY : Y (tgY G.tg).length with
        | true =>
          rw [hY, if_pos rfl] at IH
          have IH : xW Γ (n + 7) hX9_of rX9_of 102 [some (xR 0 9 111), some (xI (nI p)), some (xI (nI kk)), some (xI (nI (i + 1))), some (xI (nI (i + 1)))] [] D4 post := IH
          rw [← nI_1 i] at IH
          refine x0_eq rfl rfl (fun q => absurd q (by decide)) (fun _ => ?_)
          exact x_goto rfl rfl (x_goto rfl rfl IH)
        | false =>
          rw [hY, if_neg (by decide), ← nI_1 i] at IH
          refine x0_eq rfl rfl (fun _ => ?_) (fun q => absurd rfl q)
          exact x_goto rfl rfl IH
    have init : ∀ g k (D3 : xM), k + g = 203 → (∀ j, j < k → D3 136 j = if decide (j = 0) = true then 1 else 0) → (∀ a, a ≠ 136 → D3 a = D2 a) → xW Γ (n + 7) hX9_of rX9_of 49 [some (xR 0 9 111), some (xI (nI p)), some (xI (nI kk)), some (xI (nI k)), none] [] D3 post := by
      intro g
      induction g with
      | zero =>
        intro k D3 hk w1 w2
        refine xi_geN k 203 rfl rfl rfl rfl (by omega) (by omega) (fun _ => ?_) (fun h => absurd h (by omega))
        refine x_call [] rfl rfl rfl rfl rfl rfl rfl (c_goOnAll (n := n + 4) (mEv_out E2 (fun a u1 u2 => w2 a u1)) (X0 := fun j => decide (j = 0)) (fun j hj => w1 j (by omega)) (fun Y D4 y1 y2 y3 y4 y5 => ?_))
        have R' := rOf_0 (hd := hd) V (y2 0 rfl) y3 y4 (R' := fun k j => Y k && decide (j = 0)) (fun _ _ => rfl)
        have w5 : ∀ a, a ≠ 136 → a ≠ 137 → D4 a = D2 a := fun a u1 u2 => by rw [y5 a u1]; exact w2 a u1
        have e9 : D4 111 9 = nI (tgY G.tg).length := by rw [w5 111 (by omega) (by omega)]; exact E2.2.1
        refine x_bldN (tgY G.tg).length rfl rfl e9 (by omega) rfl ?_
        rw [y1 _ (by omega)]
        have W := words hd.length 0 Y _ D4 (by omega) y1 R' (fun k _ => by show (Y k && decide (0 = 0)) = Y k; simp) w5
        have eL : tgLo (fun j => Y (tgY G.tg).length && decide (j = 0)) 0 = if Y (tgY G.tg).length = true then some 0 else none := by
          rw [tgLo, decide_eq_true rfl, Bool.and_true]
        have W : xW Γ (n + 7) hX9_of rX9_of 102 [some (xR 0 9 111), some (xI (nI p)), some (xI (nI kk)), some (xI (xby (tgLo (fun j => Y (tgY G.tg).length && decide (j = 0)) 0))), some (xI (nI 0))] [] D4 post := W
        rw [eL] at W
        cases hY : Y (tgY G.tg).length with
        | true =>
          rw [hY, if_pos rfl] at W
          refine x0_eq rfl rfl (fun q => absurd q (by decide)) (fun _ => ?_)
          exact x_goto rfl rfl (x_to 102 rfl W)
        | false =>
          rw [hY, if_neg (by decide)] at W
          refine x0_eq rfl rfl (fun _ => ?_) (fun q => absurd rfl q)
          exact x_to 102 rfl W
      | succ g ih =>
        intro k D3 hk w1 w2
        refine xi_geN k 203 rfl rfl rfl rfl (by omega) (by omega) (fun h => absurd h (by omega)) (fun _ => ?_)
        have put : ∀ v : Int32, v = (if decide (k = 0) = true then 1 else 0) → xW Γ (n + 7) hX9_of rX9_of 70 [some (xR 0 9 111), some (xI (nI p)), some (xI (nI kk)), some (xI (nI k)), none] [xI v, xI (nI k), xR 2 203 136] D3 post := by
          intro v hv
          refine x_bstN k rfl rfl rfl (by omega) rfl (by rw [hv]; split <;> simp) ?_
          have IH := ih (k + 1) (xup D3 136 k v) (by omega) (fun j hj => by
            by_cases z : j = k
            · rw [z, xup_at, hv]
            · rw [xup_o (by omega)]; exact w1 j (by omega)) (fun a ha => by rw [xup_ne a ha]; exact w2 a ha)
          rw [← nI_1 k] at IH
          exact x_goto rfl rfl IH
        refine x0_ne rfl rfl (fun z => ?_) (fun z => ?_)
        · have z : ¬ k = 0 := fun y => z ((nI_z0 (by omega)).mpr y)
          exact x_to 70 rfl (put _ (by rw [decide_eq_false z]; rfl))
        · have z : k = 0 := (nI_z0 (by omega)).mp z
          exact x_goto rfl rfl (put _ (by rw [decide_eq_true z]; rfl))
    exact init 203 0 D2 (by omega) (fun j hj => absurd hj (Nat.not_lt_zero _)) (fun _ _ => rfl)
  · have hn : G.tg.length = 0 := by
      have e := hTg.1
      by_cases w : G.tg.length = 0
      · exact w
      · rw [if_neg w] at e
        have z2 : nI (G.tg.length + 2) = 0 := by rw [← e]; exact z
        have := (nI_z0 (by omega)).mp z2
        omega
    rw [if_pos hn] at hp
    exact x_ret rfl rfl rfl rfl (hp D h (fun _ _ => rfl))
end NO
