/-! ===== clean: the walks ===== -/
theorem sub_r {j a : Nat} (hj : j < 256) : wbits (fun i => j.testBit i && !a.testBit i) 8 = 0 ↔ j &&& a = j := by
  constructor
  · intro h
    apply tb_sub
    intro i hi
    have := congrArg (fun x => Nat.testBit x i) h
    simp only [wbits_tb, hi, Nat.zero_testBit, Bool.true_and] at this
    have hi8 : i < 8 := by
      rcases Nat.lt_or_ge i 8 with q | q
      · exact q
      · have := Nat.testBit_lt_two_pow (i := i) (x := j) (Nat.lt_of_lt_of_le hj (Nat.pow_le_pow_right (n := 2) (by decide) q))
        rw [hi] at this; cases this
    rw [decide_eq_true hi8] at this
    cases q : a.testBit i with
    | true => rfl
    | false => rw [q] at this; cases this
  · intro h
    apply Nat.eq_of_testBit_eq
    intro i
    rw [wbits_tb, Nat.zero_testBit, ← h, Nat.testBit_and]
    cases j.testBit i <;> cases a.testBit i <;> simp
theorem sub_I {j a : Nat} (hj : j < 256) : nI j &&& (nI a ^^^ -1) = nI (wbits (fun i => j.testBit i && !a.testBit i) 8) := by
  apply xb_andn (by omega)
  intro i
  rw [wbits_tb]
  rcases Nat.lt_or_ge i 8 with q | q
  · rw [decide_eq_true q, Bool.true_and]
  · have := Nat.testBit_lt_two_pow (i := i) (x := j) (Nat.lt_of_lt_of_le hj (Nat.pow_le_pow_right (n := 2) (by decide) q))
    rw [this, decide_eq_false (by omega)]
    rfl
section B7
variable {Γ : xG} {n : Nat} {D : xM} {post : Option Int32 → xM → Prop} {G : gS} {S : wS}
theorem c_staysClean {b w k t : Nat} (hr : rW D 21 S) (ho : wok S) (hb : b < S.B) (hw : w < 10) (hk : k ≤ 20) (hE : S.E ≤ 999) (ht : t < 256) (hp : ∀ D', (∀ a, (a < 27 ∨ 35 < a) → D' a = D a) → post (some (if clP S b w k t then 1 else 0)) D') : xRuns Γ (n + 5) hX8_staysClean [xR 0 8 0, xI (nI b), xI (nI w), xI (nI k), xI (nI t)] D post := by
  have h8 := ho.1
  have h4 := ho.2.1
  have hos : wok (wCo S (S.C ||| t)) := wok_co ho (Nat.or_lt_two_pow (n := 8) ho.2.2.2.1 ht)
  refine x_runs kX8_staysClean (by decide +kernel) rfl ?_
  refine x_call [xR 0 7 21] rfl rfl rfl rfl rfl rfl rfl (c_become (by omega) (fun D1 hc hs => ?_))
  have hr1 := hc S h8 h4 hr
  refine x_to 28 rfl ?_
  have eC : D1 27 3 ||| nI t = nI (S.C ||| t) := by rw [hr1.2.2.2.1]; exact xb_or _ _
  rw [eC]
  have hr2 := rW_C (v := S.C ||| t) hr1
  have loop : ∀ (f i : Nat) (D3 : xM), i + f = k → rW D3 27 (wPassN (wCo S (S.C ||| t)) i) → (∀ a, (a < 27 ∨ 35 < a) → D3 a = D a) → xW Γ (n + 5) hX8_staysClean rX8_staysClean 28 [some (xR 0 8 0), some (xI (nI b)), some (xI (nI w)), some (xI (nI k)), some (xI (nI t)), some (xI (nI i))] [] D3 post := by
    intro f
    induction f with
    | zero =>
      intro i D3 hi hr3 hs3
      obtain rfl : i = k := by omega
      have ho3 := wok_passN hos i (by show S.E + i < _; omega)
      have hb3 : b < (wPassN (wCo S (S.C ||| t)) i).B := by rw [(passN_B _ i).1]; exact hb
      have h9 := ho3.2.2.2.2.2.2.1 b w hb3 hw
      have R := hp D3 hs3
      rw [clP] at R
      refine xi_geN i i rfl rfl rfl rfl (by omega) (by omega) (fun _ => ?_) (fun h => absurd h (by omega))
      refine x_call [xI (nI b), xI (nI w)] rfl rfl rfl rfl rfl rfl rfl (c_knowledge hr3 ho3 hb3 hw ?_)
      refine xi_geN ((wPassN (wCo S (S.C ||| t)) i).K b w) 5 rfl rfl rfl rfl (by omega) (by omega) (fun h2 => ?_) (fun h2 => ?_)
      · rw [decide_eq_false (by omega)] at R
        exact x_ret rfl rfl rfl rfl R
      · rw [decide_eq_true h2] at R
        exact x_goto rfl rfl (x_ret rfl rfl rfl rfl R)
    | succ f ih =>
      intro i D3 hi hr3 hs3
      have ho3 := wok_passN hos i (by show S.E + i < _; omega)
      refine xi_geN i k rfl rfl rfl rfl (by omega) (by omega) (fun h => absurd h (by omega)) (fun h => ?_)
      refine x_call [xR 0 4 33] rfl rfl rfl rfl rfl rfl rfl (c_passEvening (by omega) hr3 ho3 (by rw [(passN_B _ i).2.2]; show S.E + i + 1 < _; omega) (fun D4 hr4 hP4 hs4 => ?_))
      have IH := ih (i + 1) D4 (by omega) hr4 (fun a ha => by rw [hs4 a (by omega) (by omega) (by omega)]; exact hs3 a ha)
      rw [← nI_1] at IH
      exact x_goto rfl rfl IH
  exact loop k 0 _ (by omega) hr2 (fun a ha => by rw [xup_ne a (by omega), hs a (by omega)])
theorem a_clean {x y z : Int32} (h : RelC D G) (hg : gok G) (hp : ∀ D', RelC D' G → (∀ a, 111 ≤ a → D' a = D a) → post (some (aClean G x y z)) D') : xRuns Γ (n + 6) hX8_clean [xR 0 8 0, xI x, xI y, xI z] D post := by
  have ho := hg.2.2.1.1
  have hE := hg.2.2.1.2
  have h8 := ho.1
  have hr := h.2.1
  refine x_runs kX8_clean (by decide +kernel) rfl ?_
  rw [aClean] at hp
  refine x_call [xI x] rfl rfl rfl rfl rfl rfl rfl (c_noBird hr ho ?_)
  rcases hx_b : gI x 0 ((G.now.B : Int) - 1) with _ | b
  · rw [hx_b] at hp
    refine x0_ne rfl rfl (fun _ => ?_) (fun h => absurd h (by decide))
    exact x_ret rfl rfl rfl rfl (hp D h (fun _ _ => rfl))
  rw [hx_b] at hp
  dsimp only at hp
  obtain ⟨e1_b, e2_b, e3_b, e4_b⟩ := gI_some (by decide) hx_b
  subst e1_b
  have h_b : b < G.now.B := by omega
  refine x0_ne rfl rfl (fun h => absurd rfl h) (fun _ => ?_)
  refine x_scall [xI y] rfl rfl rfl rfl rfl rfl rfl (c_noWord ?_)
  rcases hx_w : gI y 0 9 with _ | w
  · rw [hx_w] at hp
    refine x0_eq rfl rfl (fun h => absurd h (by decide)) (fun _ => ?_)
    exact x_ret rfl rfl rfl rfl (hp D h (fun _ _ => rfl))
  rw [hx_w] at hp
  dsimp only at hp
  obtain ⟨e1_w, e2_w, e3_w, e4_w⟩ := gI_some (by decide) hx_w
  subst e1_w
  have h_w : w < 10 := by omega
  refine x0_eq rfl rfl (fun _ => ?_) (fun h => absurd rfl h)
  refine x_scall [xI z, xI (nI 1), xI (nI 20)] rfl rfl rfl rfl rfl rfl rfl (c_isNot (lo := 1) (hi := 20) (by decide) (by decide) ?_)
  rcases hx_k : gI z 1 20 with _ | k
  · rw [hx_k] at hp
    refine x0_eq rfl rfl (fun h => absurd h (by decide)) (fun _ => ?_)
    exact x_ret rfl rfl rfl rfl (hp D h (fun _ _ => rfl))
  rw [hx_k] at hp
  dsimp only at hp
  obtain ⟨e1_k, e2_k, e3_k, e4_k⟩ := gI_some (by decide) hx_k
  subst e1_k
  have h_k : k < 21 := by omega
  refine x0_eq rfl rfl (fun _ => ?_) (fun h => absurd rfl h)
  refine x_call [xI (nI b)] rfl rfl rfl rfl rfl rfl rfl (c_hearable hr ho h_b ?_)
  refine x_to 44 rfl ?_
  have outer : ∀ (f i : Nat) (D1 : xM), i + f = 8 → (∀ a, (a < 27 ∨ 35 < a) → D1 a = D a) → (∀ t, t < 256 → t &&& clAb G.now b = t → clP G.now b w k t = true → i ≤ wCnt t) → xW Γ (n + 6) hX8_clean rX8_clean 44 [some (xR 0 8 0), some (xI (nI b)), some (xI (nI w)), some (xI (nI k)), some (xI (nI (clAb G.now b))), some (xI (nI i)), none] [] D1 post := by
    intro f
    induction f with
    | zero =>
      intro i D1 hi hs1 hno
      obtain rfl : i = 8 := by omega
      refine xi_geN 8 8 rfl rfl rfl rfl (by omega) (by omega) (fun _ => ?_) (fun h => absurd h (by omega))
      refine x_ret rfl rfl rfl rfl ?_
      have e : cR G.now b w k (2 ^ G.now.B) = none := cl_none ho hE h_b (by omega) (fun t ht h1 h2 => by
        have := hno t ht h1 h2
        have := cnt7 t ht b (by omega) (clA_ab ho h1).2.2
        omega)
      rw [e] at hp
      exact hp D1 (RelC_out h (fun a ha _ => hs1 a ha)) (fun a ha => hs1 a (by omega))
    | succ f ih =>
      intro i D1 hi hs1 hno
      refine xi_geN i 8 rfl rfl rfl rfl (by omega) (by omega) (fun h => absurd h (by omega)) (fun _ => ?_)
      refine x_to 54 rfl ?_
      have inner : ∀ (g j : Nat) (D2 : xM), j + g = 256 → (∀ a, (a < 27 ∨ 35 < a) → D2 a = D a) → (∀ t, t < j → t &&& clAb G.now b = t → clP G.now b w k t = true → i < wCnt t) → xW Γ (n + 6) hX8_clean rX8_clean 54 [some (xR 0 8 0), some (xI (nI b)), some (xI (nI w)), some (xI (nI k)), some (xI (nI (clAb G.now b))), some (xI (nI i)), some (xI (nI j))] [] D2 post := by
        intro g
        induction g with
        | zero =>
          intro j D2 hj hs2 hno2
          obtain rfl : j = 256 := by omega
          refine xi_geN 256 256 rfl rfl rfl rfl (by omega) (by omega) (fun _ => ?_) (fun h => absurd h (by omega))
          have IH := ih (i + 1) D2 (by omega) hs2 (fun t ht h1 h2 => hno2 t ht h1 h2)
          rw [← nI_1] at IH
          refine x_drop 6 ?_
          exact x_goto rfl rfl IH
        | succ g ih2 =>
          intro j D2 hj hs2 hno2
          have hr2 : rW D2 21 G.now := rW_out hr (fun a ha hb => hs2 a (by omega))
          have next : ∀ D3 : xM, (∀ a, (a < 27 ∨ 35 < a) → D3 a = D a) → (j &&& clAb G.now b = j → clP G.now b w k j = true → i < wCnt j) → xW Γ (n + 6) hX8_clean rX8_clean 97 [some (xR 0 8 0), some (xI (nI b)), some (xI (nI w)), some (xI (nI k)), some (xI (nI (clAb G.now b))), some (xI (nI i)), some (xI (nI j))] [] D3 post := by
            intro D3 hs3 hj3
            have IH := ih2 (j + 1) D3 (by omega) hs3 (fun t ht h1 h2 => by
              by_cases e : t = j
              · subst e; exact hj3 h1 h2
              · exact hno2 t (by omega) h1 h2)
            rw [← nI_1] at IH
            exact x_goto rfl rfl IH
          refine xi_geN j 256 rfl rfl rfl rfl (by omega) (by omega) (fun h => absurd h (by omega)) (fun h2 => ?_)
          refine x_to 69 rfl ?_
          have eI : nI j &&& (nI (clAb G.now b) ^^^ xnum (-1)) = nI (wbits (fun i => j.testBit i && !(clAb G.now b).testBit i) 8) := sub_I h2
          rw [eI]
          have hlt := wbits_lt (fun i => j.testBit i && !(clAb G.now b).testBit i) 8
          refine x0_ne rfl rfl (fun h3 => ?_) (fun h3 => ?_)
          · refine next D2 hs2 (fun q _ => absurd ?_ h3)
            rw [(sub_r h2).mpr q]; rfl
          · have hsub := (sub_r h2).mp ((nI_eq (b := 0) (by omega) (by omega)).mp h3)
            have hc10 := wCnt_le j
            refine x_scall [xI (nI j)] rfl rfl rfl rfl rfl rfl rfl (c_bitCount ?_)
            rw [jbc_cnt j (by omega)]
            refine xi_neN (wCnt j) i rfl rfl rfl rfl (by omega) (by omega) (fun h4 => ?_) (fun h4 => ?_)
            · exact next D2 hs2 (fun q1 q2 => by have := hno j h2 q1 q2; omega)
            · refine x_call [xI (nI b), xI (nI w), xI (nI k), xI (nI j)] rfl rfl rfl rfl rfl rfl rfl (c_staysClean hr2 ho h_b h_w (by omega) hE h2 (fun D3 hs3 => ?_))
              have hs4 : ∀ a, (a < 27 ∨ 35 < a) → D3 a = D a := fun a ha => by rw [hs3 a ha]; exact hs2 a ha
              cases hq : clP G.now b w k j with
              | false =>
                refine x0_eq rfl rfl (fun _ => ?_) (fun h => absurd rfl h)
                exact next D3 hs4 (fun _ q => by rw [hq] at q; cases q)
              | true =>
                refine x0_eq rfl rfl (fun h => absurd h (by decide)) (fun _ => ?_)
                have e : cR G.now b w k (2 ^ G.now.B) = some j := cl_found ho hE h_b (by omega) hsub hq (fun t ht h1 h2 => ⟨by have := hno t ht h1 h2; omega, fun z => by have := hno2 t z h1 h2; omega⟩)
                rw [e] at hp
                exact x_ret rfl rfl rfl rfl (hp D3 (RelC_out h (fun a ha _ => hs4 a ha)) (fun a ha => hs4 a (by omega)))
      exact inner 256 0 D1 (by omega) hs1 (fun t ht => absurd ht (by omega))
  exact outer 8 0 D (by omega) (fun _ _ => rfl) (fun t _ _ _ => Nat.zero_le _)
theorem cR_lt {S : wS} {b w n : Nat} : ∀ i t, cR S b w n i = some t → t < i := fun i t h => (cR_some i t h).1
theorem am_clean {x y z : Int32} (h : RelM D G) (hg : gok G) (hp : ∀ D', RelM D' G → (∀ a, a < 111 → D' a = D a) → post (some (aClean G x y z)) D') : xRuns Γ (n + 6) hX9_clean [xR 0 9 111, xI x, xI y, xI z] D post := by
  have ho := hg.2.2.1.1
  have hE := hg.2.2.1.2
  have h8 := ho.1
  have h4 := ho.2.1
  have hC := ho.2.2.2.1
  have hr := h.2.1
  have p8 : 2 ^ G.now.B ≤ 256 := p2_lt h8
  refine x_runs kX9_clean (by decide +kernel) rfl ?_
  rw [aClean] at hp
  refine x_call [xI x] rfl rfl rfl rfl rfl rfl rfl (c_isBird hr ho ?_)
  rcases hx_b : gI x 0 ((G.now.B : Int) - 1) with _ | b
  · rw [hx_b] at hp
    refine x0_eq rfl rfl (fun _ => ?_) (fun h => absurd rfl h)
    exact x_ret rfl rfl rfl rfl (hp D h (fun _ _ => rfl))
  rw [hx_b] at hp
  dsimp only at hp
  obtain ⟨e1_b, e2_b, e3_b, e4_b⟩ := gI_some (by decide) hx_b
  subst e1_b
  have h_b : b < G.now.B := by omega
  refine x0_eq rfl rfl (fun h => absurd h (by simp)) (fun _ => ?_)
  refine x_scall [xI y] rfl rfl rfl rfl rfl rfl rfl (c_isWordN ?_)
  rcases hx_w : gI y 0 9 with _ | w
  · rw [hx_w] at hp
    refine x0_ne rfl rfl (fun h => absurd rfl h) (fun _ => ?_)
    exact x_ret rfl rfl rfl rfl (hp D h (fun _ _ => rfl))
  rw [hx_w] at hp
  dsimp only at hp
  obtain ⟨e1_w, e2_w, e3_w, e4_w⟩ := gI_some (by decide) hx_w
  subst e1_w
  have h_w : w < 10 := by omega
  refine x0_ne rfl rfl (fun _ => ?_) (fun h => absurd h (by simp))
  refine x_scall [xL z.toInt64, xL (Int64.ofNat 1), xL (Int64.ofNat 20)] rfl rfl rfl rfl rfl rfl rfl (c_inI (lo := 1) (hi := 20) (by decide) (by decide) ?_)
  rcases hx_k : gI z 1 20 with _ | k
  · rw [hx_k] at hp
    refine x0_ne rfl rfl (fun h => absurd rfl h) (fun _ => ?_)
    exact x_ret rfl rfl rfl rfl (hp D h (fun _ _ => rfl))
  rw [hx_k] at hp
  dsimp only at hp
  obtain ⟨e1_k, e2_k, e3_k, e4_k⟩ := gI_some (by decide) hx_k
  subst e1_k
  have h_k : k < 21 := by omega
  refine x0_ne rfl rfl (fun _ => ?_) (fun h => absurd h (by simp))
  refine x_aldN (0 + 3) rfl rfl rfl (by omega) rfl ?_
  refine x_to 51 rfl ?_
  have eN : D 112 (0 + 3) ||| (xnum 1 <<< (nI b &&& 31)) = nI (G.now.C ||| 2 ^ b) := by
    rw [hr.2.2.2.1, ← xb_or, ← xb_sh1 (by omega)]
    rfl
  rw [eN]
  have eS : xnum 1 <<< (nI G.now.B &&& 31) = nI (2 ^ G.now.B) := xb_sh1 (by omega)
  have hNl : G.now.C ||| 2 ^ b < 256 := Nat.or_lt_two_pow (n := 8) hC (Nat.pow_lt_pow_right (by decide) (by omega))
  have loop : ∀ (f i : Nat) (D1 : xM), i + f = 2 ^ G.now.B → sameMP 1296 D D1 → mSp D1 → xW Γ (n + 6) hX9_clean rX9_clean 51 [some (xR 0 9 111), some (xI (nI b)), some (xI (nI w)), some (xI (nI k)), some (xI (xby (cR G.now b w k i))), some (xI (nI (G.now.C ||| 2 ^ b))), some (xI (nI i))] [] D1 post := by
    intro f
    induction f with
    | zero =>
      intro i D1 hi hs1 hsp
      obtain rfl : i = 2 ^ G.now.B := by omega
      refine x_aldN 0 rfl rfl rfl (by omega) rfl ?_
      refine xi_geN (2 ^ G.now.B) (2 ^ G.now.B) rfl rfl rfl (by rw [hs1 112 0 (by omega) (by omega) (by omega), hr.1]; exact eS) (by omega) (by omega) (fun _ => ?_) (fun h => absurd h (by omega))
      exact x_ret rfl rfl rfl rfl (hp D1 (RelM_out h hg (fun a j g1 g2 g3 _ => hs1 a j (by omega) g2 g3) hsp) (fun a ha => funext fun j => hs1 a j (by omega) (by omega) (by omega)))
    | succ f ih =>
      intro i D1 hi hs1 hsp
      have hr1 : rM D1 0 G.now := rM_out hr h8 h4 (fun j _ _ => hs1 112 j (by omega) (by omega) (by omega))
      have IHn : ∀ (D2 : xM) (q : Option Nat), sameMP 1296 D D2 → mSp D2 → cR G.now b w k (i + 1) = q → xW Γ (n + 6) hX9_clean rX9_clean 141 [some (xR 0 9 111), some (xI (nI b)), some (xI (nI w)), some (xI (nI k)), some (xI (xby q)), some (xI (nI (G.now.C ||| 2 ^ b))), some (xI (nI i))] [] D2 post := by
        intro D2 q hs2 hsp2 e
        have IH := ih (i + 1) D2 (by omega) hs2 hsp2
        rw [e, ← nI_1] at IH
        exact x_goto rfl rfl IH
      have hcR : cR G.now b w k (i + 1) = if clA G.now b i = true ∧ clB (cR G.now b w k i) i = true ∧ clP G.now b w k i = true then some i else cR G.now b w k i := rfl
      have hct : ∀ t, cR G.now b w k i = some t → t < 256 := fun t ht => by have := cR_lt i t ht; omega
      refine x_aldN 0 rfl rfl rfl (by omega) rfl ?_
      refine xi_geN i (2 ^ G.now.B) rfl rfl rfl (by rw [hr1.1]; exact eS) (by omega) (by omega) (fun h => absurd h (by omega)) (fun h2 => ?_)
      refine x_to 69 rfl ?_
      rw [xb_and]
      have hil : i &&& (G.now.C ||| 2 ^ b) < 256 := Nat.lt_of_le_of_lt Nat.and_le_left (by omega)
      refine x0_ne rfl rfl (fun h3 => ?_) (fun h3 => ?_)
      · refine IHn D1 _ hs1 hsp ?_
        rw [hcR, if_neg]
        intro q
        exact h3 (by rw [of_decide_eq_true q.1]; rfl)
      · have hA : clA G.now b i = true := decide_eq_true ((nI_eq (b := 0) (by omega) (by omega)).mp h3)
        have try1 : clB (cR G.now b w k i) i = true → xW Γ (n + 6) hX9_clean rX9_clean 91 [some (xR 0 9 111), some (xI (nI b)), some (xI (nI w)), some (xI (nI k)), some (xI (xby (cR G.now b w k i))), some (xI (nI (G.now.C ||| 2 ^ b))), some (xI (nI i))] [] D1 post := by
          intro hB
          refine x_call [] rfl rfl rfl rfl rfl rfl rfl (c_layTried hr1 h8 h4 (fun D2 hr2 hs2 => ?_))
          refine x_aldN (1296 + 3) rfl rfl rfl (by omega) rfl ?_
          refine x_astN (1296 + 3) rfl rfl rfl (by omega) rfl ?_
          have eC : D2 112 (1296 + 3) ||| nI i = nI (G.now.C ||| i) := by rw [hr2.2.2.2.1]; exact xb_or _ _
          rw [eC]
          have hos : wok (wCo G.now (G.now.C ||| i)) := wok_co ho (Nat.or_lt_two_pow (n := 8) hC (by omega))
          have hs3 : sameM 1296 D2 (xup D2 112 (1296 + 3) (nI (G.now.C ||| i))) := sameM.rf.up (by omega) (by omega)
          obtain ⟨sp1, hP1, hl1⟩ := hsp
          refine x_call [xI (nI k)] rfl rfl rfl rfl rfl rfl rfl (c_passTried (by omega) (rM_C hr2 h8 h4) (rP_outM (rP_outM hP1 hs2) hs3) hl1 hos (by show G.now.E + k < _; omega) (fun D4 hr4 hsp4 hs4 => ?_))
          have ho4 := wok_passN hos k (by show G.now.E + k < _; omega)
          have hb4 : b < (wPassN (wCo G.now (G.now.C ||| i)) k).B := by rw [(passN_B _ k).1]; exact h_b
          have h9 := ho4.2.2.2.2.2.2.1 b w hb4 h_w
          have hs5 : sameMP 1296 D D4 := ((hs1.tr (sameMP.ofM hs2)).tr (sameMP.ofM hs3)).tr hs4
          obtain ⟨sp4, hP4, hl4, -⟩ := hsp4
          refine x_aldN (1296 + 20 + (b * 10 + w)) rfl rfl (by
            show nI 1316 + nI 10 * nI b + nI w = _
            rw [pk_mul, nI_add, nI_add]
            exact congrArg nI (by omega)) (by omega) rfl ?_
          rw [hr4.2.2.2.2.2.2.1 b w hb4 h_w]
          refine xi_geN ((wPassN (wCo G.now (G.now.C ||| i)) k).K b w) 5 rfl rfl rfl rfl (by omega) (by omega) (fun h5 => ?_) (fun h5 => ?_)
          · refine x_to 141 rfl ?_
            refine IHn D4 _ hs5 ⟨sp4, hP4, hl4⟩ ?_
            rw [hcR, if_neg]
            intro q
            have := of_decide_eq_true q.2.2
            omega
          · refine x_goto rfl rfl ?_
            refine x_to 141 rfl ?_
            refine IHn D4 (some i) hs5 ⟨sp4, hP4, hl4⟩ ?_
            rw [hcR, if_pos ⟨hA, hB, decide_eq_true h5⟩]
        rcases hq : cR G.now b w k i with _ | t
        · rw [hq] at try1
          refine xi_eq rfl rfl (fun _ => try1 rfl) (fun h5 => absurd rfl h5)
        · rw [hq] at try1 hcR
          have ht := hct t hq
          have hc1 := wCnt_le i
          have hc2 := wCnt_le t
          refine xi_eq rfl rfl (fun (h5 : nI t = -1) => ?_) (fun _ => ?_)
          · have := congrArg Int32.toInt h5
            rw [nI_toInt (by omega)] at this
            have e1 : (-1 : Int32).toInt = -1 := rfl
            omega
          · refine x_scall [xI (nI i)] rfl rfl rfl rfl rfl rfl rfl (c_bits (by omega) ?_)
            refine x_scall [xI (nI t)] rfl rfl rfl rfl rfl rfl rfl (c_bits (by omega) ?_)
            refine xi_geN (wCnt i) (wCnt t) rfl rfl rfl rfl (by omega) (by omega) (fun h6 => ?_) (fun h6 => ?_)
            · refine IHn D1 _ hs1 hsp ?_
              rw [hcR, if_neg]
              intro q
              have := of_decide_eq_true q.2.1
              omega
            · exact try1 (decide_eq_true h6)
  exact loop (2 ^ G.now.B) 0 D (by omega) sameMP.rf h.2.2.2.2.2.2.2
end B7
