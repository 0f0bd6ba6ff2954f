/-! ===== the reference's marks go on; call: of (reference) ===== -/
def xC1 (X : Nat → Bool) : Nat → Nat
  | 0 => 0
  | k + 1 => xC1 X k + if X k = true then 1 else 0
theorem xC1_le (X : Nat → Bool) : ∀ k, xC1 X k ≤ k
  | 0 => Nat.le_refl _
  | k + 1 => by
    have := xC1_le X k
    rw [xC1]
    split <;> omega
theorem xC1_mo {X Y : Nat → Bool} (h : ∀ j, X j = true → Y j = true) : ∀ k, xC1 X k ≤ xC1 Y k
  | 0 => Nat.le_refl _
  | k + 1 => by
    have := xC1_mo h k
    rw [xC1, xC1]
    by_cases c : X k = true
    · rw [if_pos c, if_pos (h k c)]; omega
    · rw [if_neg c]; omega
theorem xC1_gt {X Y : Nat → Bool} {j : Nat} (h : ∀ j, X j = true → Y j = true) (h1 : X j = false) (h2 : Y j = true) : ∀ k, j < k → xC1 X k + 1 ≤ xC1 Y k
  | 0, hk => absurd hk (Nat.not_lt_zero _)
  | k + 1, hk => by
    rw [xC1, xC1]
    by_cases e : j = k
    · subst e
      have := xC1_mo h j
      rw [if_neg (by rw [h1]; decide), if_pos h2]; omega
    · have := xC1_gt h h1 h2 k (by omega)
      by_cases c : X k = true
      · rw [if_pos c, if_pos (h k c)]; omega
      · rw [if_neg c]; omega
def epsC (L : List Nat) (P : Nat → Prop) : Prop := ∀ k k', k < L.length → P k → tgEps L k k' → P k'
def stepX (L : List Nat) (w : Nat) (X : Nat → Bool) : Nat → Bool := fun j => decide (0 < j ∧ j ≤ L.length ∧ X (j - 1) = true ∧ (L.getD (j - 1) 0 = 46 ∨ 97 + w = L.getD (j - 1) 0))
section NH
variable {Γ : xG} {n : Nat} {D : xM} {post : Option Int32 → xM → Prop} {L : List Nat}
theorem c_goOnAll {X0 : Nat → Bool} (E : mEv D L) (h : mNow D X0) (hp : ∀ Y D', mNow D' Y → (∀ j, X0 j = true → Y j = true) → epsC L (fun k => Y k = true) → (∀ P : Nat → Prop, (∀ j, X0 j = true → P j) → epsC L P → ∀ j, Y j = true → P j) → (∀ a, a ≠ 136 → D' a = D a) → post none D') : xRuns Γ (n + 2) hX9_goOnAll [xR 0 9 111] D post := by
  have V := E.1
  have v1 := V.1
  refine x_runs kX9_goOnAll (by decide +kernel) rfl ?_
  refine x_to 2 rfl ?_
  have outer : ∀ g (b : Bool) X (D2 : xM), (b = true → 204 - xC1 X 203 ≤ g) → (b = false → epsC L (fun k => X k = true)) → mNow D2 X → (∀ j, X0 j = true → X j = true) → (∀ P : Nat → Prop, (∀ j, X0 j = true → P j) → epsC L P → ∀ j, X j = true → P j) → (∀ a, a ≠ 136 → D2 a = D a) → xW Γ (n + 2) hX9_goOnAll rX9_goOnAll 2 [some (xR 0 9 111), some (xI (if b = true then 1 else 0)), none] [] D2 post := by
    intro g
    induction g with
    | zero =>
      intro b X D2 hb hc q1 q2 q3 q4
      cases b with
      | true =>
        have := hb rfl
        have := xC1_le X 203
        omega
      | false =>
        refine x0_eq rfl rfl (fun _ => ?_) (fun q => absurd rfl q)
        exact x_vret rfl rfl rfl (hp X D2 q1 q2 (hc rfl) q3 q4)
    | succ g ih =>
      intro b X D2 hb hc q1 q2 q3 q4
      cases b with
      | false =>
        refine x0_eq rfl rfl (fun _ => ?_) (fun q => absurd rfl q)
        exact x_vret rfl rfl rfl (hp X D2 q1 q2 (hc rfl) q3 q4)
      | true =>
        have hb := hb rfl
        refine x0_eq rfl rfl (fun q => absurd q (by decide)) (fun _ => ?_)
        refine x_to 10 rfl ?_
        have inner : ∀ r k (c : Bool) Y (D3 : xM), k + r = L.length → (c = false → (∀ j, Y j = X j) ∧ ∀ k1, k1 < k → X k1 = true → ∀ k2, tgEps L k1 k2 → X k2 = true) → (c = true → ∃ j, j < 203 ∧ Y j = true ∧ X j = false) → mNow D3 Y → (∀ j, X j = true → Y j = true) → (∀ P : Nat → Prop, (∀ j, X0 j = true → P j) → epsC L P → ∀ j, Y j = true → P j) → (∀ a, a ≠ 136 → D3 a = D a) → xW Γ (n + 2) hX9_goOnAll rX9_goOnAll 10 [some (xR 0 9 111), some (xI (if c = true then 1 else 0)), some (xI (nI k))] [] D3 post := by
          intro r
          induction r with
          | zero =>
            intro k c Y D3 hk w1 w2 w3 w4 w5 w6
            refine xi_geN k L.length rfl rfl rfl (by rw [w6 111 (by omega)]; exact E.2.1) (by omega) (by omega) (fun _ => ?_) (fun h => absurd h (by omega))
            have IH := ih c Y D3 (fun hc => by
              obtain ⟨j, y1, y2, y3⟩ := w2 hc
              have := xC1_gt w4 y3 y2 203 y1
              omega) (fun hc => by
              obtain ⟨y1, y2⟩ := w1 hc
              intro k1 k2 y3 y4 y5
              rw [y1] at y4 ⊢
              exact y2 k1 (by omega) y4 k2 y5) w3 (fun j hj => w4 j (q2 j hj)) w5 w6
            exact x_goto rfl rfl (x_drop 2 IH)
          | succ r ihr =>
            intro k c Y D3 hk w1 w2 w3 w4 w5 w6
            refine xi_geN k L.length rfl rfl rfl (by rw [w6 111 (by omega)]; exact E.2.1) (by omega) (by omega) (fun h => absurd h (by omega)) (fun _ => ?_)
            refine x_bldN k rfl rfl rfl (by omega) rfl ?_
            rw [w3 k (by omega)]
            have E3 : mEv D3 L := mEv_out E (fun a ha _ => w6 a ha)
            cases hY : Y k with
            | false =>
              refine x0_eq rfl rfl (fun _ => ?_) (fun q => absurd rfl q)
              have IH := ihr (k + 1) c Y D3 (by omega) (fun hc => ⟨(w1 hc).1, fun k1 y1 y2 k2 y3 => by
                by_cases z : k1 = k
                · subst z
                  rw [← (w1 hc).1 k1, hY] at y2
                  cases y2
                · exact (w1 hc).2 k1 (by omega) y2 k2 y3⟩) w2 w3 w4 w5 w6
              rw [← nI_1 k] at IH
              cases c with
              | true =>
                refine x0_eq rfl rfl (fun q => absurd q (by decide)) (fun _ => ?_)
                exact x_goto rfl rfl (x_goto rfl rfl IH)
              | false =>
                refine x0_eq rfl rfl (fun _ => ?_) (fun q => absurd rfl q)
                exact x_goto rfl rfl IH
            | true =>
              refine x0_eq rfl rfl (fun q => absurd q (by decide)) (fun _ => ?_)
              refine x_call [xI (nI k)] rfl rfl rfl rfl rfl rfl rfl (c_goesOn E3 w3 (by omega) (fun b2 Y2 D4 y1 y2 y3 => ?_))
              obtain ⟨g1, g2, g3⟩ := y1
              have s1 : ∀ j, Y j = true → Y2 j = true := fun j hj => (g1 j).mpr (Or.inl hj)
              have y4 : ∀ a, a ≠ 136 → D4 a = D a := fun a ha => by rw [y3 a ha]; exact w6 a ha
              have snd : ∀ P : Nat → Prop, (∀ j, X0 j = true → P j) → epsC L P → ∀ j, Y2 j = true → P j := fun P p1 p2 j hj => by
                rcases (g1 j).mp hj with z | z
                · exact w5 P p1 p2 j z
                · exact p2 k j (by omega) (w5 P p1 p2 k hY) z
              have IHt := ihr (k + 1) true Y2 D4 (by omega) (fun z => by cases z)
              have IHf := ihr (k + 1) false Y2 D4 (by omega)
              rw [← nI_1 k] at IHt IHf
              cases b2 with
              | true =>
                obtain ⟨j, z1, z2⟩ := g2.mp rfl
                have I := IHt (fun _ => ⟨j, g3 j z1, (g1 j).mpr (Or.inr z1), by
                  cases hx : X j with
                  | false => rfl
                  | true => rw [w4 j hx] at z2; cases z2⟩) y2 (fun j hj => s1 j (w4 j hj)) snd y4
                refine x0_ne rfl rfl (fun _ => ?_) (fun q => absurd q (by decide))
                exact x_goto rfl rfl (x_goto rfl rfl I)
              | false =>
                have sm : ∀ j, tgEps L k j → Y j = true := fun j hj => by
                  cases hy : Y j with
                  | true => rfl
                  | false =>
                    have := g2.mpr ⟨j, hj, hy⟩
                    cases this
                refine x0_ne rfl rfl (fun q => absurd rfl q) (fun _ => ?_)
                cases c with
                | true =>
                  obtain ⟨j, z1, z2, z3⟩ := w2 rfl
                  have I := IHt (fun _ => ⟨j, z1, s1 j z2, z3⟩) y2 (fun j hj => s1 j (w4 j hj)) snd y4
                  refine x0_eq rfl rfl (fun q => absurd q (by decide)) (fun _ => ?_)
                  exact x_goto rfl rfl (x_goto rfl rfl I)
                | false =>
                  obtain ⟨z1, z2⟩ := w1 rfl
                  have same : ∀ j, Y2 j = Y j := fun j => by
                    cases hy : Y j with
                    | true => exact s1 j hy
                    | false =>
                      cases hy2 : Y2 j with
                      | false => rfl
                      | true =>
                        rcases (g1 j).mp hy2 with z | z
                        · rw [hy] at z; cases z
                        · rw [sm j z] at hy; cases hy
                  have I := IHf (fun _ => ⟨fun j => (same j).trans (z1 j), fun k1 y5 y6 k2 y7 => by
                    by_cases z : k1 = k
                    · subst z; rw [← z1]; exact sm k2 y7
                    · exact z2 k1 (by omega) y6 k2 y7⟩) (fun z => by cases z) y2 (fun j hj => s1 j (w4 j hj)) snd y4
                  refine x0_eq rfl rfl (fun _ => ?_) (fun q => absurd rfl q)
                  exact x_goto rfl rfl I
        exact inner L.length 0 false X D2 (by omega) (fun _ => ⟨fun _ => rfl, fun k1 z => absurd z (Nat.not_lt_zero _)⟩) (fun z => by cases z) q1 (fun _ h => h) q3 q4
  exact outer 204 true X0 D (fun _ => by omega) (fun z => by cases z) h (fun _ h => h) (fun P p1 _ j hj => p1 j hj) (fun _ _ => rfl)
theorem c_hearWord {X : Nat → Bool} {w : Nat} (E : mEv D L) (h : mNow D X) (hw : w < 10) (hp : ∀ Y D', mNow D' Y → (∀ j, stepX L w X j = true → Y j = true) → epsC L (fun k => Y k = true) → (∀ P : Nat → Prop, (∀ j, stepX L w X j = true → P j) → epsC L P → ∀ j, Y j = true → P j) → (∀ a, a ≠ 136 → a ≠ 137 → D' a = D a) → post none D') : xRuns Γ (n + 3) hX9_hearWord [xR 0 9 111, xI (nI w)] D post := by
  have V := E.1
  have v1 := V.1
  have s0 : ∀ x, x < L.length → L.getD x 0 < 256 := fun x hx => by have := V.2.2.2.2.2.2.2 x hx; unfold tgSg at this; omega
  refine x_runs kX9_hearWord (by decide +kernel) rfl ?_
  refine x_to 2 rfl ?_
  have copy : ∀ g k (D2 : xM), k + g = 203 → (∀ j, j < 203 → D2 137 j = if stepX L w X j = true then 1 else 0) → (∀ j, j < k → D2 136 j = if stepX L w X j = true then 1 else 0) → (∀ a, a ≠ 136 → a ≠ 137 → D2 a = D a) → xW Γ (n + 3) hX9_hearWord rX9_hearWord 79 [some (xR 0 9 111), some (xI (nI w)), some (xI (nI k))] [] D2 post := by
    intro g
    induction g with
    | zero =>
      intro k D2 hk q1 q2 q3
      refine xi_geN k 203 rfl rfl rfl rfl (by omega) (by omega) (fun _ => ?_) (fun h => absurd h (by omega))
      refine x_call [] rfl rfl rfl rfl rfl rfl rfl (c_goOnAll (mEv_out E q3) (X0 := stepX L w X) (fun j hj => q2 j (by omega)) (fun Y D3 y1 y2 y3 y4 y5 => ?_))
      exact x_vret rfl rfl rfl (hp Y D3 y1 y2 y3 y4 (fun a w1 w2 => by rw [y5 a w1]; exact q3 a w1 w2))
    | succ g ih =>
      intro k D2 hk q1 q2 q3
      refine xi_geN k 203 rfl rfl rfl rfl (by omega) (by omega) (fun h => absurd h (by omega)) (fun _ => ?_)
      refine x_bldN k rfl rfl rfl (by omega) rfl ?_
      rw [q1 k (by omega)]
      refine x_bstN k rfl rfl rfl (by omega) rfl (by split <;> simp) ?_
      have IH := ih (k + 1) (xup D2 136 k (if stepX L w X k = true then 1 else 0)) (by omega) (fun j hj => by rw [xup_o (by omega)]; exact q1 j hj) (fun j hj => by
        by_cases z : j = k
        · rw [z, xup_at]
        · rw [xup_o (by omega)]; exact q2 j (by omega)) (fun a w1 w2 => by rw [xup_ne a w1]; exact q3 a w1 w2)
      rw [← nI_1 k] at IH
      exact x_goto rfl rfl IH
  have loop : ∀ g k (D2 : xM), k + g = 203 → (∀ j, j < k → D2 137 j = if stepX L w X j = true then 1 else 0) → (∀ a, a ≠ 137 → D2 a = D a) → xW Γ (n + 3) hX9_hearWord rX9_hearWord 2 [some (xR 0 9 111), some (xI (nI w)), some (xI (nI k))] [] D2 post := by
    intro g
    induction g with
    | zero =>
      intro k D2 hk q1 q2
      refine xi_geN k 203 rfl rfl rfl rfl (by omega) (by omega) (fun _ => ?_) (fun h => absurd h (by omega))
      refine x_to 79 rfl ?_
      exact copy 203 0 D2 (by omega) (fun j hj => q1 j (by omega)) (fun j hj => absurd hj (Nat.not_lt_zero _)) (fun a _ w2 => q2 a w2)
    | succ g ih =>
      intro k D2 hk q1 q2
      refine xi_geN k 203 rfl rfl rfl rfl (by omega) (by omega) (fun h => absurd h (by omega)) (fun _ => ?_)
      have put : ∀ v : Int32, v = (if stepX L w X k = true then 1 else 0) → xW Γ (n + 3) hX9_hearWord rX9_hearWord 70 [some (xR 0 9 111), some (xI (nI w)), some (xI (nI k))] [xI v, xI (nI k), xR 2 203 137] D2 post := by
        intro v hv
        refine x_bstN k rfl rfl rfl (by omega) rfl (by rw [hv]; split <;> simp) ?_
        have IH := ih (k + 1) (xup D2 137 k v) (by omega) (fun j hj => by
          by_cases z : j = k
          · rw [z, xup_at, hv]
          · rw [xup_o (by omega)]; exact q1 j (by omega)) (fun a ha => by rw [xup_ne a ha]; exact q2 a ha)
        rw [← nI_1 k] at IH
        exact x_goto rfl rfl IH
      have no : stepX L w X k = false → xW Γ (n + 3) hX9_hearWord rX9_hearWord 69 [some (xR 0 9 111), some (xI (nI w)), some (xI (nI k))] [xI (nI k), xR 2 203 137] D2 post := by
        intro z
        exact x_to 70 rfl (put _ (by rw [z]; rfl))
      have yes : stepX L w X k = true → xW Γ (n + 3) hX9_hearWord rX9_hearWord 65 [some (xR 0 9 111), some (xI (nI w)), some (xI (nI k))] [xI (nI k), xR 2 203 137] D2 post := by
        intro z
        exact x_goto rfl rfl (put _ (by rw [z]; rfl))
      have nf : ¬ (0 < k ∧ k ≤ L.length ∧ X (k - 1) = true ∧ (L.getD (k - 1) 0 = 46 ∨ 97 + w = L.getD (k - 1) 0)) → stepX L w X k = false := fun z => decide_eq_false z
      have nt : (0 < k ∧ k ≤ L.length ∧ X (k - 1) = true ∧ (L.getD (k - 1) 0 = 46 ∨ 97 + w = L.getD (k - 1) 0)) → stepX L w X k = true := fun z => decide_eq_true z
      refine x0_le rfl rfl (fun z => no (nf (fun y => by have := (nI_le0 (by omega)).mp z; omega))) (fun z => ?_)
      have k0 : 0 < k := by
        have : ¬ k = 0 := fun y => z ((nI_le0 (by omega)).mpr y)
        omega
      refine xi_gtN k L.length rfl rfl rfl (by rw [q2 111 (by omega)]; exact E.2.1) (by omega) (by omega) (fun z => no (nf (fun y => by omega))) (fun kl => ?_)
      have e1 : nI k - xnum 1 = nI (k - 1) := pk_sub (b := 1) (by omega)
      refine x_bldN (k - 1) rfl rfl e1 (by omega) rfl ?_
      rw [q2 136 (by omega), h (k - 1) (by omega)]
      cases hX : X (k - 1) with
      | false =>
        refine x0_eq rfl rfl (fun _ => no (nf (fun y => ?_))) (fun q => absurd rfl q)
        rw [hX] at y
        cases y.2.2.1
      | true =>
        refine x0_eq rfl rfl (fun q => absurd q (by decide)) (fun _ => ?_)
        have sl := s0 (k - 1) (by omega)
        have e118 : D2 118 (k - 1) = nI (L.getD (k - 1) 0) := by rw [q2 118 (by omega)]; exact E.2.2.1 (k - 1) (by omega)
        refine x_aldN (k - 1) rfl rfl e1 (by omega) rfl ?_
        rw [e118]
        refine xi_eqN (L.getD (k - 1) 0) 46 rfl rfl rfl rfl (by omega) (by omega) (fun z => yes (nt ⟨k0, kl, hX, Or.inl z⟩)) (fun z => ?_)
        refine x_aldN (k - 1) rfl rfl e1 (by omega) rfl ?_
        rw [e118]
        refine xi_neN (L.getD (k - 1) 0) (97 + w) rfl rfl rfl (nI_add 97 w) (by omega) (by omega) (fun y => no (nf (fun u => u.2.2.2.elim z (fun v => y v.symm)))) (fun y => yes (nt ⟨k0, kl, hX, Or.inr y.symm⟩))
  exact loop 203 0 D (by omega) (fun j hj => absurd hj (Nat.not_lt_zero _)) (fun _ _ => rfl)
theorem tgLo_c {T T' : Nat → Bool} : ∀ k, (∀ j, j ≤ k → T j = T' j) → tgLo T k = tgLo T' k
  | 0, h => by rw [tgLo, tgLo, h 0 (Nat.le_refl _)]
  | k + 1, h => by rw [tgLo, tgLo, h (k + 1) (Nat.le_refl _), tgLo_c k (fun j hj => h j (by omega))]
theorem tgLo_le (T : Nat → Bool) : ∀ k m, tgLo T k = some m → m ≤ k
  | 0, m, h => by
    rw [tgLo] at h
    split at h
    · cases h; omega
    · cases h
  | k + 1, m, h => by
    rw [tgLo] at h
    split at h
    · cases h; omega
    · have := tgLo_le T k m h; omega
theorem tgLo_eq (T : Nat → Bool) (k : Nat) : tgLo T k = some k ↔ T k = true := by
  cases k with
  | zero =>
    rw [tgLo]
    split
    · rename_i h; exact ⟨fun _ => h, fun _ => rfl⟩
    · rename_i h; exact ⟨fun z => (by cases z), fun z => absurd z h⟩
  | succ k =>
    rw [tgLo]
    split
    · rename_i h; exact ⟨fun _ => h, fun _ => rfl⟩
    · rename_i h; exact ⟨fun z => by have := tgLo_le T k _ z; omega, fun z => absurd z h⟩
end NH
