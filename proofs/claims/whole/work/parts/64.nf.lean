/-! ===== the reference's marks ===== -/
def mNow (D : xM) (X : Nat → Bool) : Prop := ∀ k, k < 203 → D 136 k = if X k = true then 1 else 0
def bSet (X : Nat → Bool) (m : Nat) : Nat → Bool := fun j => X j || decide (j = m)
theorem bSet_t {X : Nat → Bool} {m j : Nat} : bSet X m j = true ↔ X j = true ∨ j = m := by rw [bSet, Bool.or_eq_true, decide_eq_true_eq]
def gInv (X0 : Nat → Bool) (S : Nat → Prop) (b : Bool) (X : Nat → Bool) : Prop := (∀ j, X j = true ↔ (X0 j = true ∨ S j)) ∧ (b = true ↔ ∃ j, S j ∧ X0 j = false) ∧ ∀ j, S j → j < 203
theorem gInv_m {X0 X : Nat → Bool} {S : Nat → Prop} {b : Bool} {m : Nat} (h : gInv X0 S b X) (hm : m < 203) : gInv X0 (fun j => S j ∨ j = m) (!(X m) || b) (bSet X m) := by
  obtain ⟨h1, h2, h3⟩ := h
  refine ⟨fun j => ?_, ?_, fun j hj => hj.elim (h3 j) (fun z => by omega)⟩
  · rw [bSet_t, h1 j]
    exact ⟨fun z => z.elim (fun z => z.elim Or.inl (fun z => Or.inr (Or.inl z))) (fun z => Or.inr (Or.inr z)), fun z => z.elim (fun z => Or.inl (Or.inl z)) (fun z => z.elim (fun z => Or.inl (Or.inr z)) Or.inr)⟩
  · cases hX : X m with
    | true =>
      rw [Bool.not_true, Bool.false_or, h2]
      refine ⟨fun ⟨j, z1, z2⟩ => ⟨j, Or.inl z1, z2⟩, fun ⟨j, z1, z2⟩ => ?_⟩
      rcases z1 with z1 | z1
      · exact ⟨j, z1, z2⟩
      · subst z1
        rcases (h1 j).mp hX with w | w
        · rw [z2] at w; cases w
        · exact ⟨j, w, z2⟩
    | false =>
      refine ⟨fun _ => ⟨m, Or.inr rfl, ?_⟩, fun _ => rfl⟩
      cases hx0 : X0 m with
      | false => rfl
      | true => rw [(h1 m).mpr (Or.inl hx0)] at hX; cases hX
theorem gInv_0 {X : Nat → Bool} : gInv X (fun _ => False) false X := ⟨fun j => ⟨Or.inl, fun z => z.elim id False.elim⟩, ⟨fun z => (by cases z), fun ⟨_, z, _⟩ => z.elim⟩, fun _ z => z.elim⟩
theorem gInv_c {X0 X : Nat → Bool} {S S' : Nat → Prop} {b : Bool} (h : gInv X0 S b X) (e : ∀ j, S j ↔ S' j) : gInv X0 S' b X := by
  have : S = S' := funext fun j => propext (e j)
  rw [← this]; exact h
def mEv (D : xM) (L : List Nat) : Prop := tgV L ∧ D 111 9 = nI L.length ∧ rL D 118 L ∧ ∀ k, k < L.length → D 120 k = nI (tgb L k) ∧ (L.getD k 0 = 40 → D 119 k = nI (tgc L k))
theorem mEv_out {D D' : xM} {L : List Nat} (h : mEv D L) (e : ∀ a, a ≠ 136 → a ≠ 137 → D' a = D a) : mEv D' L := ⟨h.1, by rw [e 111 (by omega) (by omega)]; exact h.2.1, rL_out h.2.2.1 (e 118 (by omega) (by omega)), by rw [e 119 (by omega) (by omega), e 120 (by omega) (by omega)]; exact h.2.2.2⟩
section NF
variable {Γ : xG} {n : Nat} {D : xM} {post : Option Int32 → xM → Prop} {L : List Nat}
theorem c_mark {X : Nat → Bool} {m : Nat} (h : mNow D X) (hm : m < 203) (hp : ∀ D', mNow D' (bSet X m) → (∀ a, a ≠ 136 → D' a = D a) → post (some (if (!(X m)) = true then 1 else 0)) D') : xRuns Γ n hX9_mark [xR 0 9 111, xI (nI m)] D post := by
  refine x_runs kX9_mark (by decide +kernel) rfl ?_
  refine x_bldN m rfl rfl rfl hm rfl ?_
  rw [h m hm]
  have nw : mNow (xup D 136 m 1) (bSet X m) := fun k hk => by
    by_cases e : k = m
    · rw [e, xup_at, if_pos (bSet_t.mpr (Or.inr rfl))]
    · rw [xup_o (by omega), h k hk]
      have : bSet X m k = X k := by rw [bSet, decide_eq_false e, Bool.or_false]
      rw [this]
  have R := hp _ nw (fun a ha => xup_ne a ha)
  cases hX : X m with
  | true =>
    rw [hX] at R
    refine x0_ne rfl rfl (fun _ => ?_) (fun q => absurd q (by decide))
    refine x_bstN m rfl rfl rfl hm rfl (Or.inr rfl) ?_
    exact x_ret rfl rfl rfl rfl R
  | false =>
    rw [hX] at R
    refine x0_ne rfl rfl (fun q => absurd rfl q) (fun _ => ?_)
    refine x_goto rfl rfl ?_
    refine x_bstN m rfl rfl rfl hm rfl (Or.inr rfl) ?_
    exact x_ret rfl rfl rfl rfl R
theorem c_goesOn {X : Nat → Bool} {k : Nat} (E : mEv D L) (h : mNow D X) (hk : k < L.length) (hp : ∀ (b : Bool) X' D', gInv X (tgEps L k) b X' → mNow D' X' → (∀ a, a ≠ 136 → D' a = D a) → post (some (if b = true then 1 else 0)) D') : xRuns Γ (n + 1) hX9_goesOn [xR 0 9 111, xI (nI k)] D post := by
  have V := E.1
  have v1 := V.1
  have sg := V.2.2.2.2.2.2.2
  have s1 := sg k hk
  have s0 : ∀ x, x < L.length → L.getD x 0 < 256 := fun x hx => by have := sg x hx; unfold tgSg at this; omega
  unfold tgSg at s1
  refine x_runs kX9_goesOn (by decide +kernel) rfl ?_
  refine x_aldN k rfl rfl rfl (by omega) rfl ?_
  rw [E.2.2.1 k hk]
  -- the end
  have ret : ∀ (b : Bool) X' (D2 : xM) (v4 : Option xV), gInv X (tgEps L k) b X' → mNow D2 X' → (∀ a, a ≠ 136 → D2 a = D a) → xW Γ (n + 1) hX9_goesOn rX9_goesOn 242 [some (xR 0 9 111), some (xI (nI k)), some (xI (nI (L.getD k 0))), some (xI (if b = true then 1 else 0)), v4] [] D2 post := by
    intro b X' D2 v4 q1 q2 q3
    exact x_ret rfl rfl rfl (by split <;> rfl) (hp b X' D2 q1 q2 q3)
  -- is = mark(m) || is
  have t178 : ∀ (b : Bool) S X' (D2 : xM) (last : Nat), tgPt0 (L.getD k 0) → gInv X S b X' → mNow D2 X' → (∀ a, a ≠ 136 → D2 a = D a) → last + 1 = tgP L k → tgP L k ≤ L.length → (∀ j, tgEps L k j ↔ S j ∨ (L.getD (tgP L k) 0 = 42 ∧ j = tgP L k + 1)) → xW Γ (n + 1) hX9_goesOn rX9_goesOn 178 [some (xR 0 9 111), some (xI (nI k)), some (xI (nI (L.getD k 0))), some (xI (if b = true then 1 else 0)), some (xI (nI last))] [] D2 post := by
    intro b S X' D2 last c q1 q2 q3 hl hle he
    have e1 : nI last + xnum 1 = nI (tgP L k) := by rw [← hl]; exact nI_1 _
    have no : L.getD (tgP L k) 0 ≠ 42 → xW Γ (n + 1) hX9_goesOn rX9_goesOn 242 [some (xR 0 9 111), some (xI (nI k)), some (xI (nI (L.getD k 0))), some (xI (if b = true then 1 else 0)), some (xI (nI last))] [] D2 post := by
      intro z
      exact ret b X' D2 _ (gInv_c q1 (fun j => by rw [he j]; exact ⟨Or.inl, fun w => w.elim id (fun w => absurd w.1 z)⟩)) q2 q3
    have c2 := c
    unfold tgPt0 at c2
    refine xi_eqN (L.getD k 0) 124 rfl rfl rfl rfl (by omega) (by omega) (fun z => absurd z c2.2.1) (fun _ => ?_)
    refine xi_eqN (L.getD k 0) 41 rfl rfl rfl rfl (by omega) (by omega) (fun z => absurd z c2.1) (fun _ => ?_)
    refine xi_eqN (L.getD k 0) 42 rfl rfl rfl rfl (by omega) (by omega) (fun z => absurd z c2.2.2) (fun _ => ?_)
    refine xi_geN (tgP L k) L.length rfl rfl e1 (by rw [q3 111 (by omega)]; exact E.2.1) (by omega) (by omega) (fun z => no (by rw [gD_out z]; omega)) (fun z => ?_)
    refine x_aldN (tgP L k) rfl rfl e1 (by omega) rfl ?_
    have := s0 _ z
    rw [q3 118 (by omega), E.2.2.1 _ z]
    refine xi_neN (L.getD (tgP L k) 0) 42 rfl rfl rfl rfl (by omega) (by omega) (fun w => no w) (fun w => ?_)
    have e2 : nI last + xnum 2 = nI (tgP L k + 1) := by rw [← hl]; exact nI_add last 2
    refine x_to 226 rfl ?_
    rw [e2]
    refine x_call [xI (nI (tgP L k + 1))] rfl rfl rfl rfl rfl rfl rfl (c_mark q2 (by omega) (fun D3 y1 y2 => ?_))
    have G := gInv_c (gInv_m (m := tgP L k + 1) q1 (by omega)) (S' := tgEps L k) (fun j => by rw [he j]; exact ⟨fun z => z.elim Or.inl (fun z => Or.inr ⟨w, z⟩), fun z => z.elim Or.inl (fun z => Or.inr z.2)⟩)
    have y3 : ∀ a, a ≠ 136 → D3 a = D a := fun a ha => by rw [y2 a ha]; exact q3 a ha
    have fin := fun bb => ret bb (bSet X' (tgP L k + 1)) D3 (some (xI (nI last)))
    cases hX : X' (tgP L k + 1) with
    | false =>
      rw [hX] at G
      refine x0_ne rfl rfl (fun _ => ?_) (fun q => absurd q (by decide))
      exact x_goto rfl rfl (x_to 242 rfl (fin true G y1 y3))
    | true =>
      rw [hX] at G
      refine x0_ne rfl rfl (fun q => absurd rfl q) (fun _ => ?_)
      cases b with
      | true =>
        refine x0_eq rfl rfl (fun q => absurd q (by decide)) (fun _ => ?_)
        exact x_goto rfl rfl (x_to 242 rfl (fin true G y1 y3))
      | false =>
        refine x0_eq rfl rfl (fun _ => ?_) (fun q => absurd rfl q)
        exact x_to 242 rfl (fin false G y1 y3)
  -- signs that end or repeat
  have t160 : ∀ (b : Bool) X' (D2 : xM), ¬ tgPt0 (L.getD k 0) → gInv X (tgEps L k) b X' → mNow D2 X' → (∀ a, a ≠ 136 → D2 a = D a) → xW Γ (n + 1) hX9_goesOn rX9_goesOn 160 [some (xR 0 9 111), some (xI (nI k)), some (xI (nI (L.getD k 0))), some (xI (if b = true then 1 else 0)), none] [] D2 post := by
    intro b X' D2 c q1 q2 q3
    unfold tgPt0 at c
    refine xi_neN (L.getD k 0) 40 rfl rfl rfl rfl (by omega) (by omega) (fun _ => ?_) (fun z => absurd z (by omega))
    refine x_to 178 rfl ?_
    refine xi_eqN (L.getD k 0) 124 rfl rfl rfl rfl (by omega) (by omega) (fun z => ret b X' D2 _ q1 q2 q3) (fun z1 => ?_)
    refine xi_eqN (L.getD k 0) 41 rfl rfl rfl rfl (by omega) (by omega) (fun z => ret b X' D2 _ q1 q2 q3) (fun z2 => ?_)
    exact xi_eqN (L.getD k 0) 42 rfl rfl rfl rfl (by omega) (by omega) (fun z => ret b X' D2 _ q1 q2 q3) (fun z3 => absurd ⟨z2, z1, z3⟩ c)
  by_cases c40 : L.getD k 0 = 40
  · obtain ⟨k0, k1, k2, k3, k4⟩ := v_close V c40
    refine xi_neN (L.getD k 0) 40 rfl rfl rfl rfl (by omega) (by omega) (fun z => absurd c40 z) (fun _ => ?_)
    have ek1 : nI k + xnum 1 = nI (k + 1) := nI_1 k
    refine x_to 19 rfl ?_
    rw [ek1]
    refine x_call [xI (nI (k + 1))] rfl rfl rfl rfl rfl rfl rfl (c_mark h (by omega) (fun D1 y1 y2 => ?_))
    have G0 := gInv_m (m := k + 1) (gInv_0 (X := X)) (by omega)
    rw [Bool.or_false] at G0
    refine x_to 28 rfl ?_
    rw [ek1]
    have hP : tgP L k = tgc L k + 1 := by rw [tgP, if_pos c40, Nat.max_eq_right (by omega)]
    have loop : ∀ g bar (b : Bool) X' (D2 : xM), bar + g = tgc L k → k < bar → gInv X (fun j => j = k + 1 ∨ ∃ x, k < x ∧ x < bar ∧ L.getD x 0 = 124 ∧ tgb L x = k ∧ j = x + 1) b X' → mNow D2 X' → (∀ a, a ≠ 136 → D2 a = D a) → xW Γ (n + 1) hX9_goesOn rX9_goesOn 28 [some (xR 0 9 111), some (xI (nI k)), some (xI (nI (L.getD k 0))), some (xI (if b = true then 1 else 0)), some (xI (nI bar))] [] D2 post := by
      intro g
      induction g with
      | zero =>
        intro bar b X' D2 hb hkb q1 q2 q3
        obtain rfl : bar = tgc L k := by omega
        have e119 : D2 119 k = nI (tgc L k) := by rw [q3 119 (by omega)]; exact (E.2.2.2 k hk).2 c40
        refine x_aldN k rfl rfl rfl (by omega) rfl ?_
        refine xi_geN (tgc L k) (tgc L k) rfl rfl rfl e119 (by omega) (by omega) (fun _ => ?_) (fun h => absurd h (by omega))
        refine xi_neN (L.getD k 0) 124 rfl rfl rfl rfl (by omega) (by omega) (fun _ => ?_) (fun z => absurd z (by omega))
        refine xi_eqN (L.getD k 0) 41 rfl rfl rfl rfl (by omega) (by omega) (fun z => absurd z (by omega)) (fun _ => ?_)
        refine xi_neN (L.getD k 0) 42 rfl rfl rfl rfl (by omega) (by omega) (fun _ => ?_) (fun z => absurd z (by omega))
        refine xi_neN (L.getD k 0) 42 rfl rfl rfl rfl (by omega) (by omega) (fun _ => ?_) (fun z => absurd z (by omega))
        refine xi_neN (L.getD k 0) 40 rfl rfl rfl rfl (by omega) (by omega) (fun z => absurd c40 z) (fun _ => ?_)
        refine x_aldN k rfl rfl rfl (by omega) rfl ?_
        rw [e119]
        refine x_goto rfl rfl ?_
        refine x_to 178 rfl ?_
        refine t178 b _ X' D2 (tgc L k) ⟨by omega, by omega, by omega⟩ q1 q2 q3 hP.symm (by omega) (fun j => ?_)
        unfold tgEps tgPt0
        constructor
        · rintro (⟨_, z⟩ | ⟨_, x, z1, z2, z3, z4, z5⟩ | ⟨z, _⟩ | ⟨z, _⟩ | ⟨z, _⟩ | ⟨_, z1, z2⟩)
          · exact Or.inl (Or.inl z)
          · exact Or.inl (Or.inr ⟨x, z1, z2, z3, z4, z5⟩)
          · omega
          · omega
          · omega
          · exact Or.inr ⟨z1, z2⟩
        · rintro ((z | ⟨x, z1, z2, z3, z4, z5⟩) | ⟨z1, z2⟩)
          · exact Or.inl ⟨c40, z⟩
          · exact Or.inr (Or.inl ⟨c40, x, z1, z2, z3, z4, z5⟩)
          · exact Or.inr (Or.inr (Or.inr (Or.inr (Or.inr ⟨⟨by omega, by omega, by omega⟩, z1, z2⟩))))
      | succ g ih =>
        intro bar b X' D2 hb hkb q1 q2 q3
        have hbl : bar < L.length := by omega
        have hbs := s0 bar hbl
        have e119 : D2 119 k = nI (tgc L k) := by rw [q3 119 (by omega)]; exact (E.2.2.2 k hk).2 c40
        have e120 : D2 120 bar = nI (tgb L bar) := by rw [q3 120 (by omega)]; exact (E.2.2.2 bar hbl).1
        have tbl : tgb L bar ≤ bar := by
          by_cases w1 : L.getD bar 0 = 41 ∨ L.getD bar 0 = 124
          · rw [tgb_op (by omega) w1]
            have := (tgIn_sc _ _ _ (tgIn_op (l := L) bar 0 (V.2.2.2.2.1 bar (by omega) hbl))).1
            omega
          · by_cases w2 : L.getD bar 0 = 42
            · have := (v_star2 V hbl w2).2.2; omega
            · rw [tgb_ot (by omega) (by omega) (by omega) w2]; exact Nat.le_refl _
        refine x_aldN k rfl rfl rfl (by omega) rfl ?_
        refine xi_geN bar (tgc L k) rfl rfl rfl e119 (by omega) (by omega) (fun h => absurd h (by omega)) (fun _ => ?_)
        refine x_aldN bar rfl rfl rfl (by omega) rfl ?_
        rw [q3 118 (by omega), E.2.2.1 bar hbl]
        have skip : ¬ (L.getD bar 0 = 124 ∧ tgb L bar = k) → xW Γ (n + 1) hX9_goesOn rX9_goesOn 73 [some (xR 0 9 111), some (xI (nI k)), some (xI (nI (L.getD k 0))), some (xI (if b = true then 1 else 0)), some (xI (nI bar))] [] D2 post := by
          intro no
          have IH := ih (bar + 1) b X' D2 (by omega) (by omega) (gInv_c q1 (fun j => by
            constructor
            · rintro (z | ⟨x, z1, z2, z3⟩)
              · exact Or.inl z
              · exact Or.inr ⟨x, z1, by omega, z3⟩
            · rintro (z | ⟨x, z1, z2, z3, z4, z5⟩)
              · exact Or.inl z
              · by_cases w : x = bar
                · subst w; exact absurd ⟨z3, z4⟩ no
                · exact Or.inr ⟨x, z1, by omega, z3, z4, z5⟩)) q2 q3
          rw [← nI_1 bar] at IH
          cases b with
          | true =>
            refine x0_eq rfl rfl (fun q => absurd q (by decide)) (fun _ => ?_)
            exact x_goto rfl rfl (x_goto rfl rfl IH)
          | false =>
            refine x0_eq rfl rfl (fun _ => ?_) (fun q => absurd rfl q)
            exact x_goto rfl rfl IH
        refine xi_neN (L.getD bar 0) 124 rfl rfl rfl rfl (by omega) (by omega) (fun z => skip (fun w => z w.1)) (fun z1 => ?_)
        refine x_aldN bar rfl rfl rfl (by omega) rfl ?_
        rw [e120]
        refine xi_neN (tgb L bar) k rfl rfl rfl rfl (by omega) (by omega) (fun z => skip (fun w => z w.2)) (fun z2 => ?_)
        have eb1 : nI bar + xnum 1 = nI (bar + 1) := nI_1 bar
        refine x_to 67 rfl ?_
        rw [eb1]
        refine x_call [xI (nI (bar + 1))] rfl rfl rfl rfl rfl rfl rfl (c_mark q2 (by omega) (fun D3 y1 y2 => ?_))
        have G := gInv_c (gInv_m (m := bar + 1) q1 (by omega)) (S' := fun j => j = k + 1 ∨ ∃ x, k < x ∧ x < bar + 1 ∧ L.getD x 0 = 124 ∧ tgb L x = k ∧ j = x + 1) (fun j => by
          constructor
          · rintro ((z | ⟨x, w1, w2, w3⟩) | z)
            · exact Or.inl z
            · exact Or.inr ⟨x, w1, by omega, w3⟩
            · exact Or.inr ⟨bar, hkb, by omega, z1, z2, z⟩
          · rintro (z | ⟨x, w1, w2, w3, w4, w5⟩)
            · exact Or.inl (Or.inl z)
            · by_cases w : x = bar
              · subst w; exact Or.inr w5
              · exact Or.inl (Or.inr ⟨x, w1, by omega, w3, w4, w5⟩))
        have y3 : ∀ a, a ≠ 136 → D3 a = D a := fun a ha => by rw [y2 a ha]; exact q3 a ha
        have IH := fun bb => ih (bar + 1) bb (bSet X' (bar + 1)) D3 (by omega) (by omega)
        rw [← nI_1 bar] at IH
        cases hX : X' (bar + 1) with
        | false =>
          rw [hX] at G
          refine x0_ne rfl rfl (fun _ => ?_) (fun q => absurd q (by decide))
          exact x_goto rfl rfl (x_goto rfl rfl (IH true G y1 y3))
        | true =>
          rw [hX] at G
          refine x0_ne rfl rfl (fun q => absurd rfl q) (fun _ => ?_)
          cases b with
          | true =>
            refine x0_eq rfl rfl (fun q => absurd q (by decide)) (fun _ => ?_)
            exact x_goto rfl rfl (x_goto rfl rfl (IH true G y1 y3))
          | false =>
            refine x0_eq rfl rfl (fun _ => ?_) (fun q => absurd rfl q)
            exact x_goto rfl rfl (IH false G y1 y3)
    exact loop (tgc L k - (k + 1)) (k + 1) (!(X (k + 1))) _ D1 (by omega) (by omega) (gInv_c G0 (fun j => ⟨fun z => z.elim False.elim Or.inl, fun z => z.elim Or.inr (fun ⟨x, w1, w2, _⟩ => absurd w1 (by omega))⟩)) y1 y2
  · refine xi_neN (L.getD k 0) 40 rfl rfl rfl rfl (by omega) (by omega) (fun _ => ?_) (fun z => absurd z c40)
    have kp : 0 < k := by
      by_cases w : k = 0
      · subst w; exact absurd V.2.2.1 c40
      · omega
    by_cases c124 : L.getD k 0 = 124
    · refine xi_neN (L.getD k 0) 124 rfl rfl rfl rfl (by omega) (by omega) (fun z => absurd c124 z) (fun _ => ?_)
      have i1 := tgIn_op (l := L) k 0 (V.2.2.2.2.1 k kp hk)
      have eb := tgb_op kp (Or.inr c124)
      obtain ⟨w1, w2, -, -⟩ := tgIn_sc _ _ _ i1
      rw [← eb] at w1 w2
      have w3 := v_close V w2
      refine x_aldN k rfl rfl rfl (by omega) rfl ?_
      rw [(E.2.2.2 k hk).1]
      refine x_aldN (tgb L k) rfl rfl rfl (by omega) rfl ?_
      rw [(E.2.2.2 _ (by omega)).2 w2]
      refine x_call [xI (nI (tgc L (tgb L k)))] rfl rfl rfl rfl rfl rfl rfl (c_mark h (by omega) (fun D1 y1 y2 => ?_))
      have G := gInv_c (gInv_m (m := tgc L (tgb L k)) (gInv_0 (X := X)) (by omega)) (S' := tgEps L k) (fun j => by
        unfold tgEps tgPt0
        constructor
        · rintro (z | z)
          · exact z.elim
          · exact Or.inr (Or.inr (Or.inl ⟨c124, z⟩))
        · rintro (⟨z, _⟩ | ⟨z, _⟩ | ⟨_, z⟩ | ⟨z, _⟩ | ⟨z, _⟩ | ⟨z, _⟩)
          · omega
          · omega
          · exact Or.inr z
          · omega
          · omega
          · omega)
      rw [Bool.or_false] at G
      refine xi_eqN (L.getD k 0) 41 rfl rfl rfl rfl (by omega) (by omega) (fun z => absurd z (by omega)) (fun _ => ?_)
      refine xi_neN (L.getD k 0) 42 rfl rfl rfl rfl (by omega) (by omega) (fun _ => ?_) (fun z => absurd z (by omega))
      refine xi_neN (L.getD k 0) 42 rfl rfl rfl rfl (by omega) (by omega) (fun _ => ?_) (fun z => absurd z (by omega))
      exact t160 _ _ D1 (fun z => z.2.1 c124) G y1 y2
    · refine xi_neN (L.getD k 0) 124 rfl rfl rfl rfl (by omega) (by omega) (fun _ => ?_) (fun z => absurd z c124)
      have ek1 : nI k + xnum 1 = nI (k + 1) := nI_1 k
      by_cases c41 : L.getD k 0 = 41
      · refine xi_eqN (L.getD k 0) 41 rfl rfl rfl rfl (by omega) (by omega) (fun _ => ?_) (fun z => absurd c41 z)
        refine x_to 127 rfl ?_
        rw [ek1]
        refine x_call [xI (nI (k + 1))] rfl rfl rfl rfl rfl rfl rfl (c_mark h (by omega) (fun D1 y1 y2 => ?_))
        have G := gInv_c (gInv_m (m := k + 1) (gInv_0 (X := X)) (by omega)) (S' := tgEps L k) (fun j => by
          unfold tgEps tgPt0
          constructor
          · rintro (z | z)
            · exact z.elim
            · exact Or.inr (Or.inr (Or.inr (Or.inl ⟨Or.inl c41, z⟩)))
          · rintro (⟨z, _⟩ | ⟨z, _⟩ | ⟨z, _⟩ | ⟨_, z⟩ | ⟨z, _⟩ | ⟨z, _⟩)
            · omega
            · omega
            · omega
            · exact Or.inr z
            · omega
            · omega)
        rw [Bool.or_false] at G
        refine xi_neN (L.getD k 0) 42 rfl rfl rfl rfl (by omega) (by omega) (fun _ => ?_) (fun z => absurd z (by omega))
        exact t160 _ _ D1 (fun z => z.1 c41) G y1 y2
      · refine xi_eqN (L.getD k 0) 41 rfl rfl rfl rfl (by omega) (by omega) (fun z => absurd z c41) (fun _ => ?_)
        by_cases c42 : L.getD k 0 = 42
        · refine xi_neN (L.getD k 0) 42 rfl rfl rfl rfl (by omega) (by omega) (fun z => absurd c42 z) (fun _ => ?_)
          have w3 := v_star2 V hk c42
          refine x_to 127 rfl ?_
          rw [ek1]
          refine x_call [xI (nI (k + 1))] rfl rfl rfl rfl rfl rfl rfl (c_mark h (by omega) (fun D1 y1 y2 => ?_))
          have G1 := gInv_m (m := k + 1) (gInv_0 (X := X)) (by omega)
          rw [Bool.or_false] at G1
          refine xi_neN (L.getD k 0) 42 rfl rfl rfl rfl (by omega) (by omega) (fun z => absurd c42 z) (fun _ => ?_)
          refine x_aldN k rfl rfl rfl (by omega) rfl ?_
          rw [y2 120 (by omega), (E.2.2.2 k hk).1]
          refine x_call [xI (nI (tgb L k))] rfl rfl rfl rfl rfl rfl rfl (c_mark y1 (by omega) (fun D2 y3 y4 => ?_))
          have G := gInv_c (gInv_m (m := tgb L k) G1 (by omega)) (S' := tgEps L k) (fun j => by
            unfold tgEps tgPt0
            constructor
            · rintro ((z | z) | z)
              · exact z.elim
              · exact Or.inr (Or.inr (Or.inr (Or.inl ⟨Or.inr c42, z⟩)))
              · exact Or.inr (Or.inr (Or.inr (Or.inr (Or.inl ⟨c42, z⟩))))
            · rintro (⟨z, _⟩ | ⟨z, _⟩ | ⟨z, _⟩ | ⟨_, z⟩ | ⟨_, z⟩ | ⟨z, _⟩)
              · omega
              · omega
              · omega
              · exact Or.inl (Or.inr z)
              · exact Or.inr z
              · omega)
          have y5 : ∀ a, a ≠ 136 → D2 a = D a := fun a ha => by rw [y4 a ha]; exact y2 a ha
          have fin := fun bb => t160 bb (bSet (bSet X (k + 1)) (tgb L k)) D2 (fun z => z.2.2 c42)
          cases hX : bSet X (k + 1) (tgb L k) with
          | false =>
            rw [hX] at G
            refine x0_ne rfl rfl (fun _ => ?_) (fun q => absurd q (by decide))
            exact x_goto rfl rfl (x_to 160 rfl (fin true G y3 y5))
          | true =>
            rw [hX] at G
            refine x0_ne rfl rfl (fun q => absurd rfl q) (fun _ => ?_)
            rw [Bool.not_true, Bool.false_or] at G
            cases hX2 : X (k + 1) with
            | false =>
              rw [hX2] at G
              refine x0_eq rfl rfl (fun q => absurd q (by decide)) (fun _ => ?_)
              exact x_goto rfl rfl (x_to 160 rfl (fin true G y3 y5))
            | true =>
              rw [hX2] at G
              refine x0_eq rfl rfl (fun _ => ?_) (fun q => absurd rfl q)
              exact x_to 160 rfl (fin false G y3 y5)
        · refine xi_neN (L.getD k 0) 42 rfl rfl rfl rfl (by omega) (by omega) (fun _ => ?_) (fun z => absurd z c42)
          refine xi_neN (L.getD k 0) 42 rfl rfl rfl rfl (by omega) (by omega) (fun _ => ?_) (fun z => absurd z c42)
          refine xi_neN (L.getD k 0) 40 rfl rfl rfl rfl (by omega) (by omega) (fun _ => ?_) (fun z => absurd z c40)
          refine x_to 178 rfl ?_
          have hP : tgP L k = k + 1 := by rw [tgP, if_neg c40]
          refine t178 false (fun _ => False) X D k ⟨c41, c124, c42⟩ gInv_0 h (fun _ _ => rfl) hP.symm (by omega) (fun j => ?_)
          unfold tgEps tgPt0
          constructor
          · rintro (⟨z, _⟩ | ⟨z, _⟩ | ⟨z, _⟩ | ⟨z, _⟩ | ⟨z, _⟩ | ⟨_, z1, z2⟩)
            · omega
            · omega
            · omega
            · omega
            · omega
            · exact Or.inr ⟨z1, z2⟩
          · rintro (z | ⟨z1, z2⟩)
            · exact z.elim
            · exact Or.inr (Or.inr (Or.inr (Or.inr (Or.inr ⟨⟨c41, c124, c42⟩, z1, z2⟩))))
end NF
