/-! ===== match: numbers ===== -/
abbrev kT : Type := Nat → Nat → Nat
def mU (B u d : Nat) : Nat := if d < B then u ||| 2 ^ d else u
def mVal (K : kT) (B m u : Nat) (X : Nat → Nat) (d : Nat) : Option Nat := if d < B then (if u.testBit d then none else some (K m d + X (u ||| 2 ^ d))) else some (X u)
def wB (v : Nat → Option Nat) : Nat → Option (Nat × Nat)
  | 0 => none
  | i + 1 => match v i with
    | none => wB v i
    | some x => match wB v i with
      | none => some (x, i)
      | some (y, j) => if y < x then some (x, i) else some (y, j)
theorem wB_some (v : Nat → Option Nat) : ∀ i x j, wB v i = some (x, j) → v j = some x ∧ j < i ∧ (∀ d y, d < i → v d = some y → y ≤ x) ∧ (∀ d y, d < j → v d = some y → y < x)
  | 0, _, _, h => by cases h
  | i + 1, x, j, h => by
    rw [wB] at h
    split at h
    · rename_i hv
      obtain ⟨a, b, c, e⟩ := wB_some v i x j h
      refine ⟨a, by omega, fun d y hd hy => ?_, e⟩
      by_cases q : d = i
      · subst q; rw [hv] at hy; cases hy
      · exact c d y (by omega) hy
    · rename_i x' hv
      split at h
      · rename_i hn
        cases h
        have none_all : ∀ d, d < i → v d = none := by
          clear hv
          induction i with
          | zero => intro d hd; exact absurd hd (by omega)
          | succ i ih =>
            rw [wB] at hn
            split at hn
            · rename_i hv2
              intro d hd
              by_cases q : d = i
              · subst q; exact hv2
              · exact ih hn d (by omega)
            · split at hn
              · cases hn
              · split at hn <;> cases hn
        refine ⟨hv, by omega, fun d y hd hy => ?_, fun d y hd hy => by rw [none_all d hd] at hy; cases hy⟩
        by_cases q : d = i
        · subst q; rw [hv] at hy; cases hy; exact Nat.le_refl _
        · rw [none_all d (by omega)] at hy; cases hy
      · rename_i y j' hj
        obtain ⟨a, b, c, e⟩ := wB_some v i y j' hj
        split at h
        · rename_i hlt
          cases h
          refine ⟨hv, by omega, fun d z hd hz => ?_, fun d z hd hz => by have := c d z hd hz; omega⟩
          by_cases q : d = i
          · subst q; rw [hv] at hz; cases hz; exact Nat.le_refl _
          · have := c d z (by omega) hz; omega
        · rename_i hlt
          cases h
          refine ⟨a, by omega, fun d z hd hz => ?_, e⟩
          by_cases q : d = i
          · subst q; rw [hv] at hz; cases hz; omega
          · exact c d z (by omega) hz
theorem wB_ne {v : Nat → Option Nat} {i x : Nat} (h : v i = some x) : ∃ y j, wB v (i + 1) = some (y, j) := by
  rw [wB, h]
  split
  · exact absurd ‹_› (by simp)
  · split
    · exact ⟨_, _, rfl⟩
    · split
      · exact ⟨_, _, rfl⟩
      · exact ⟨_, _, rfl⟩
def mX (K : kT) (B : Nat) : Nat → Nat → Nat → Nat
  | 0, _, _ => 0
  | f + 1, m, u => match wB (mVal K B m u (mX K B f (m + 1))) (B + 1) with
    | none => 0
    | some (x, _) => x
def gd (K : kT) (B f m u : Nat) : Nat := match wB (mVal K B m u (mX K B f (m + 1))) (B + 1) with
  | none => B
  | some (_, j) => j
theorem gd_spec (K : kT) (B f m u : Nat) : wB (mVal K B m u (mX K B f (m + 1))) (B + 1) = some (mX K B (f + 1) m u, gd K B f m u) := by
  obtain ⟨x, j, h⟩ := wB_ne (v := mVal K B m u (mX K B f (m + 1))) (i := B) (x := mX K B f (m + 1) u) (by rw [mVal, if_neg (by omega)])
  rw [mX, gd, h]
theorem gd_le (K : kT) (B f m u : Nat) : gd K B f m u ≤ B := by
  have := (wB_some _ _ _ _ (gd_spec K B f m u)).2.1
  omega
theorem mX_le {K : kT} {B c : Nat} (hK : ∀ m b, b < B → K m b ≤ c) : ∀ f m u, mX K B f m u ≤ c * f
  | 0, _, _ => Nat.zero_le _
  | f + 1, m, u => by
    have h := (wB_some _ _ _ _ (gd_spec K B f m u)).1
    rw [mVal] at h
    have hm : c * (f + 1) = c * f + c := by rw [Nat.mul_add, Nat.mul_one]
    split at h
    · rename_i hb
      split at h
      · cases h
      · have := mX_le hK f (m + 1) (u ||| 2 ^ gd K B f m u)
        have := hK m _ hb
        injection h
        omega
    · have := mX_le hK f (m + 1) u
      injection h
      omega
/-- the class's own order of it -/
def mC (v : Nat → Option Nat) (x0 : Nat) : Nat → Nat
  | 0 => x0
  | i + 1 => match v i with
    | none => mC v x0 i
    | some y => max (mC v x0 i) y
theorem mC_ge (v : Nat → Option Nat) (x0 : Nat) : ∀ i, x0 ≤ mC v x0 i ∧ ∀ d y, d < i → v d = some y → y ≤ mC v x0 i
  | 0 => ⟨Nat.le_refl _, fun d y hd => absurd hd (by omega)⟩
  | i + 1 => by
    obtain ⟨a, b⟩ := mC_ge v x0 i
    rw [mC]
    split
    · rename_i hv
      refine ⟨a, fun d y hd hy => ?_⟩
      by_cases q : d = i
      · subst q; rw [hv] at hy; cases hy
      · exact b d y (by omega) hy
    · rename_i y' hv
      refine ⟨by omega, fun d y hd hy => ?_⟩
      by_cases q : d = i
      · subst q; rw [hv] at hy; cases hy; omega
      · have := b d y (by omega) hy; omega
theorem mC_at (v : Nat → Option Nat) (x0 : Nat) : ∀ i, mC v x0 i = x0 ∨ ∃ d, d < i ∧ v d = some (mC v x0 i)
  | 0 => Or.inl rfl
  | i + 1 => by
    have ih := mC_at v x0 i
    rw [mC]
    split
    · rcases ih with q | ⟨d, h1, h2⟩
      · exact Or.inl q
      · exact Or.inr ⟨d, by omega, h2⟩
    · rename_i y hv
      rcases Nat.le_total (mC v x0 i) y with q | q
      · rw [Nat.max_eq_right q]; exact Or.inr ⟨i, by omega, hv⟩
      · rw [Nat.max_eq_left q]
        rcases ih with q | ⟨d, h1, h2⟩
        · exact Or.inl q
        · exact Or.inr ⟨d, by omega, h2⟩
theorem mC_is (K : kT) (B f m u : Nat) : mC (mVal K B m u (mX K B f (m + 1))) (mX K B f (m + 1) u) B = mX K B (f + 1) m u := by
  obtain ⟨a, b, c, e⟩ := wB_some _ _ _ _ (gd_spec K B f m u)
  have hB : mVal K B m u (mX K B f (m + 1)) B = some (mX K B f (m + 1) u) := by rw [mVal, if_neg (by omega)]
  have h1 := c B _ (by omega) hB
  obtain ⟨g1, g2⟩ := mC_ge (mVal K B m u (mX K B f (m + 1))) (mX K B f (m + 1) u) B
  apply Nat.le_antisymm
  · rcases mC_at (mVal K B m u (mX K B f (m + 1))) (mX K B f (m + 1) u) B with q | ⟨d, q1, q2⟩
    · rw [q]; exact h1
    · exact c d _ (by omega) q2
  · by_cases q : gd K B f m u < B
    · exact g2 _ _ q a
    · have eq : gd K B f m u = B := by have := gd_le K B f m u; omega
      rw [eq, hB] at a
      injection a
      omega
def mUs (K : kT) (B M : Nat) : Nat → Nat
  | 0 => 0
  | m + 1 => mU B (mUs K B M m) (gd K B (M - m - 1) m (mUs K B M m))
def mDg (K : kT) (B M m : Nat) : Nat := gd K B (M - m - 1) m (mUs K B M m)
def mNo (B d : Nat) : Int32 := if d < B then nI d else -1
theorem mU_lt {B u d : Nat} (hB : B ≤ 8) (hu : u < 256) : mU B u d < 256 := by
  rw [mU]
  split
  · exact Nat.or_lt_two_pow (n := 8) hu (Nat.pow_lt_pow_right (by decide) (by omega))
  · exact hu
def mKK (S : wS) (n : Nat) : kT := fun m b => wKept S m b n
theorem wCnt_le : ∀ c, wCnt c ≤ 10 := by
  intro c
  have : ∀ k, wSum (fun i => if c.testBit i then 1 else 0) k ≤ k := by
    intro k
    induction k with
    | zero => exact Nat.le_refl _
    | succ k ih =>
      rw [wSum]
      split <;> omega
  exact this 10
theorem mKK_le (S : wS) (n m b : Nat) : mKK S n m b ≤ 10 := wCnt_le _
def aMatch (G : gS) (x y : Int32) : Int32 := match gO y ((G.now.M : Int) - 1) with
  | none => -2
  | some o => match gI x 1 20 with
    | none => -3
    | some k => match o with
      | none => nI (mX (mKK G.now k) G.now.B G.now.M 0 0)
      | some m => mNo G.now.B (mDg (mKK G.now k) G.now.B G.now.M m)
section B3
variable {Γ : xG} {n : Nat} {D : xM} {post : Option Int32 → xM → Prop} {G : gS} {S : wS}
theorem ix8 (m b : Nat) : nI m * xnum 8 + nI b = nI (m * 8 + b) := by
  show nI m * nI 8 + nI b = _
  rw [pk_mul, nI_add]
theorem c_mostKept {K : kT} (hr : rW D 21 S) (ho : wok S) (hK : ∀ m b, m < S.M → b < S.B → D 110 (m * 8 + b) = nI (K m b)) (hKl : ∀ m b, K m b ≤ 10) : ∀ (f m u : Nat), m + f = S.M → u < 256 → ∀ (post : Option Int32 → xM → Prop), post (some (nI (mX K S.B f m u))) D → xRuns Γ (n + f + 1) hX8_mostKept [xR 0 8 0, xI (nI m), xI (nI u)] D post := by
  have h8 := ho.1
  have h4 := ho.2.1
  intro f
  induction f with
  | zero =>
    intro m u hm hu post hp
    refine x_runs kX8_mostKept (by decide +kernel) rfl ?_
    refine xi_ltN m S.M rfl rfl rfl hr.2.1 (by omega) (by omega) (fun h => absurd h (by omega)) (fun _ => ?_)
    exact x_ret rfl rfl rfl rfl hp
  | succ f ih =>
    intro m u hm hu post hp
    have hle : ∀ u', mX K S.B f (m + 1) u' ≤ 40 := fun u' => by have := mX_le (K := K) (B := S.B) (c := 10) (fun m b _ => hKl m b) f (m + 1) u'; omega
    refine x_runs kX8_mostKept (by decide +kernel) rfl ?_
    refine xi_ltN m S.M rfl rfl rfl hr.2.1 (by omega) (by omega) (fun _ => ?_) (fun h => absurd h (by omega))
    refine x_to 18 rfl ?_
    have e1 : nI m + xnum 1 = nI (m + 1) := nI_1 m
    rw [e1]
    refine x_call [xI (nI (m + 1)), xI (nI u)] rfl rfl rfl rfl rfl rfl rfl (ih (m + 1) u (by omega) hu _ ?_)
    refine x_to 25 rfl ?_
    have loop : ∀ g i, i + g = S.B → xW Γ (n + (f + 1) + 1) hX8_mostKept rX8_mostKept 25 [some (xR 0 8 0), some (xI (nI m)), some (xI (nI u)), some (xI (nI (mC (mVal K S.B m u (mX K S.B f (m + 1))) (mX K S.B f (m + 1) u) i))), some (xI (nI i))] [] D post := by
      intro g
      induction g with
      | zero =>
        intro i hi
        obtain rfl : i = S.B := by omega
        refine xi_geN S.B S.B rfl rfl rfl hr.1 (by omega) (by omega) (fun _ => ?_) (fun h => absurd h (by omega))
        refine x_ret rfl rfl rfl rfl ?_
        rw [mC_is]
        exact hp
      | succ g ih2 =>
        intro i hi
        have IH := ih2 (i + 1) (by omega)
        have hb : mVal K S.B m u (mX K S.B f (m + 1)) i = if u.testBit i then none else some (K m i + mX K S.B f (m + 1) (u ||| 2 ^ i)) := by rw [mVal, if_pos (by omega)]
        have hc40 : mC (mVal K S.B m u (mX K S.B f (m + 1))) (mX K S.B f (m + 1) u) i ≤ 50 := by
          rcases mC_at (mVal K S.B m u (mX K S.B f (m + 1))) (mX K S.B f (m + 1) u) i with q | ⟨d, q1, q2⟩
          · rw [q]; have := hle u; omega
          · rw [mVal, if_pos (by omega)] at q2
            split at q2
            · cases q2
            · injection q2 with q2
              have := hle (u ||| 2 ^ d)
              have := hKl m d
              omega
        refine xi_geN i S.B rfl rfl rfl hr.1 (by omega) (by omega) (fun h => absurd h (by omega)) (fun h => ?_)
        refine x_to 43 rfl ?_
        have e : (nI u >>> (nI i &&& 31)) &&& xnum 1 = nI (u / 2 ^ i % 2) := xb_bit (by omega) (by omega)
        rw [e]
        rw [mC, hb, ← nI_1] at IH
        cases hq : u.testBit i with
        | true =>
          rw [hq] at IH
          rw [(xb_tb _ _).mpr hq]
          refine x0_ne rfl rfl (fun _ => ?_) (fun h => absurd h (by decide))
          exact x_goto rfl rfl IH
        | false =>
          rw [hq] at IH
          have : u / 2 ^ i % 2 = 0 := by
            have q : ¬ u / 2 ^ i % 2 = 1 := fun z => by rw [(xb_tb _ _).mp z] at hq; cases hq
            omega
          rw [this]
          refine x0_ne rfl rfl (fun h => absurd rfl h) (fun _ => ?_)
          refine x_aldN (m * 8 + i) rfl rfl (ix8 m i) (by omega) rfl ?_
          rw [hK m i (by omega) (by omega)]
          refine x_to 69 rfl ?_
          have e2 : nI u ||| (xnum 1 <<< (nI i &&& 31)) = nI (u ||| 2 ^ i) := by
            rw [← xb_or, ← xb_sh1 (by omega)]
            rfl
          rw [e1, e2]
          have hu2 : u ||| 2 ^ i < 256 := Nat.or_lt_two_pow (n := 8) hu (Nat.pow_lt_pow_right (by decide) (by omega))
          refine x_call [xI (nI (m + 1)), xI (nI (u ||| 2 ^ i))] rfl rfl rfl rfl rfl rfl rfl (ih (m + 1) (u ||| 2 ^ i) (by omega) hu2 _ ?_)
          refine x_max (rest := []) rfl rfl rfl ?_
          have hk := hKl m i
          have hx := hle (u ||| 2 ^ i)
          have em : (if nI (mC (mVal K S.B m u (mX K S.B f (m + 1))) (mX K S.B f (m + 1) u) i) < nI (K m i) + nI (mX K S.B f (m + 1) (u ||| 2 ^ i)) then nI (K m i) + nI (mX K S.B f (m + 1) (u ||| 2 ^ i)) else nI (mC (mVal K S.B m u (mX K S.B f (m + 1))) (mX K S.B f (m + 1) u) i)) = nI (max (mC (mVal K S.B m u (mX K S.B f (m + 1))) (mX K S.B f (m + 1) u) i) (K m i + mX K S.B f (m + 1) (u ||| 2 ^ i))) := by
            rw [nI_add]
            by_cases hlt : mC (mVal K S.B m u (mX K S.B f (m + 1))) (mX K S.B f (m + 1) u) i < K m i + mX K S.B f (m + 1) (u ||| 2 ^ i)
            · rw [if_pos (nI_lt hlt (by omega)), Nat.max_eq_right (by omega)]
            · rw [if_neg (nI_nlt (by omega) (by omega)), Nat.max_eq_left (by omega)]
          rw [em]
          exact x_goto rfl rfl IH
    exact loop S.B 0 (by omega)
theorem c_mostK {K : kT} {N f m u : Nat} (hr : rW D 21 S) (ho : wok S) (hK : ∀ m b, m < S.M → b < S.B → D 110 (m * 8 + b) = nI (K m b)) (hKl : ∀ m b, K m b ≤ 10) (hN : f + 1 ≤ N) (hm : m + f = S.M) (hu : u < 256) (hp : post (some (nI (mX K S.B f m u))) D) : xRuns Γ N hX8_mostKept [xR 0 8 0, xI (nI m), xI (nI u)] D post := by
  have C := c_mostKept (Γ := Γ) (n := N - f - 1) hr ho hK hKl f m u hm hu post hp
  have e : N - f - 1 + f + 1 = N := by omega
  rw [e] at C
  exact C
theorem c_leastChoice {K : kT} {f m u : Nat} (hr : rW D 21 S) (ho : wok S) (hK : ∀ m b, m < S.M → b < S.B → D 110 (m * 8 + b) = nI (K m b)) (hKl : ∀ m b, K m b ≤ 10) (hm : m + (f + 1) = S.M) (hu : u < 256) (hp : post (some (mNo S.B (gd K S.B f m u))) D) : xRuns Γ (n + 6) hX8_leastChoice [xR 0 8 0, xI (nI m), xI (nI u)] D post := by
  have h8 := ho.1
  have h4 := ho.2.1
  obtain ⟨ga, gb, gc, ge⟩ := wB_some _ _ _ _ (gd_spec K S.B f m u)
  have hle : ∀ u', mX K S.B f (m + 1) u' ≤ 40 := fun u' => by have := mX_le (K := K) (B := S.B) (c := 10) (fun m b _ => hKl m b) f (m + 1) u'; omega
  have hle1 : mX K S.B (f + 1) m u ≤ 40 := by have := mX_le (K := K) (B := S.B) (c := 10) (fun m b _ => hKl m b) (f + 1) m u; omega
  refine x_runs kX8_leastChoice (by decide +kernel) rfl ?_
  refine x_call [xI (nI m), xI (nI u)] rfl rfl rfl rfl rfl rfl rfl (c_mostK hr ho hK hKl (by omega) hm hu ?_)
  refine x_to 10 rfl ?_
  have loop : ∀ g i, i + g = S.B → i ≤ gd K S.B f m u → xW Γ (n + 6) hX8_leastChoice rX8_leastChoice 10 [some (xR 0 8 0), some (xI (nI m)), some (xI (nI u)), some (xI (nI (mX K S.B (f + 1) m u))), some (xI (nI i))] [] D post := by
    intro g
    induction g with
    | zero =>
      intro i hi hgi
      obtain rfl : i = S.B := by omega
      refine xi_geN S.B S.B rfl rfl rfl hr.1 (by omega) (by omega) (fun _ => ?_) (fun h => absurd h (by omega))
      rw [mNo, if_neg (by omega)] at hp
      exact x_ret rfl rfl rfl rfl hp
    | succ g ih =>
      intro i hi hgi
      have hb : mVal K S.B m u (mX K S.B f (m + 1)) i = if u.testBit i then none else some (K m i + mX K S.B f (m + 1) (u ||| 2 ^ i)) := by rw [mVal, if_pos (by omega)]
      refine xi_geN i S.B rfl rfl rfl hr.1 (by omega) (by omega) (fun h => absurd h (by omega)) (fun h => ?_)
      refine x_to 28 rfl ?_
      have e : (nI u >>> (nI i &&& 31)) &&& xnum 1 = nI (u / 2 ^ i % 2) := xb_bit (by omega) (by omega)
      rw [e]
      cases hq : u.testBit i with
      | true =>
        rw [hq] at hb
        have hne : i ≠ gd K S.B f m u := fun z => by rw [← z, hb] at ga; cases ga
        have IH := ih (i + 1) (by omega) (by omega)
        rw [← nI_1] at IH
        rw [(xb_tb _ _).mpr hq]
        refine x0_ne rfl rfl (fun _ => ?_) (fun h => absurd h (by decide))
        exact x_goto rfl rfl IH
      | false =>
        rw [hq] at hb
        have : u / 2 ^ i % 2 = 0 := by
          have q : ¬ u / 2 ^ i % 2 = 1 := fun z => by rw [(xb_tb _ _).mp z] at hq; cases hq
          omega
        rw [this]
        refine x0_ne rfl rfl (fun h => absurd rfl h) (fun _ => ?_)
        refine x_aldN (m * 8 + i) rfl rfl (ix8 m i) (by omega) rfl ?_
        rw [hK m i (by omega) (by omega)]
        refine x_to 53 rfl ?_
        have e1 : nI m + xnum 1 = nI (m + 1) := nI_1 m
        have e2 : nI u ||| (xnum 1 <<< (nI i &&& 31)) = nI (u ||| 2 ^ i) := by
          rw [← xb_or, ← xb_sh1 (by omega)]
          rfl
        rw [e1, e2]
        have hu2 : u ||| 2 ^ i < 256 := Nat.or_lt_two_pow (n := 8) hu (Nat.pow_lt_pow_right (by decide) (by omega))
        refine x_call [xI (nI (m + 1)), xI (nI (u ||| 2 ^ i))] rfl rfl rfl rfl rfl rfl rfl (c_mostK (f := f) hr ho hK hKl (by omega) (by omega) hu2 ?_)
        have hk := hKl m i
        have hx := hle (u ||| 2 ^ i)
        refine xi_neN (K m i + mX K S.B f (m + 1) (u ||| 2 ^ i)) (mX K S.B (f + 1) m u) rfl rfl (nI_add _ _) rfl (by omega) (by omega) (fun h2 => ?_) (fun h2 => ?_)
        · have hne : i ≠ gd K S.B f m u := fun z => by
            rw [← z, hb] at ga
            injection ga with ga
            exact h2 ga
          have IH := ih (i + 1) (by omega) (by omega)
          rw [← nI_1] at IH
          exact x_goto rfl rfl IH
        · have hi2 : i = gd K S.B f m u := by
            by_cases q : i = gd K S.B f m u
            · exact q
            · have := ge i _ (by omega) hb
              omega
          rw [mNo, ← hi2, if_pos (by omega)] at hp
          exact x_ret rfl rfl rfl rfl hp
  exact loop S.B 0 (by omega) (by omega)
theorem mUs_lt (K : kT) {B : Nat} (M : Nat) (hB : B ≤ 8) : ∀ m, mUs K B M m < 256
  | 0 => by show 0 < 256; decide
  | m + 1 => mU_lt hB (mUs_lt K M hB m)
theorem c_matchOf {K : kT} {man : Nat} (hr : rW D 21 S) (ho : wok S) (hK : ∀ m b, m < S.M → b < S.B → D 110 (m * 8 + b) = nI (K m b)) (hKl : ∀ m b, K m b ≤ 10) (hman : man < S.M) (hp : post (some (mNo S.B (mDg K S.B S.M man))) D) : xRuns Γ (n + 7) hX8_matchOf [xR 0 8 0, xI (nI man)] D post := by
  have h8 := ho.1
  have h4 := ho.2.1
  refine x_runs kX8_matchOf (by decide +kernel) rfl ?_
  refine x_to 7 rfl ?_
  have loop : ∀ g i (c : Int32), i + g = man + 1 → (i = man + 1 → c = mNo S.B (mDg K S.B S.M man)) → xW Γ (n + 7) hX8_matchOf rX8_matchOf 7 [some (xR 0 8 0), some (xI (nI man)), some (xI (nI (mUs K S.B S.M i))), some (xI c), some (xI (nI i))] [] D post := by
    intro g
    induction g with
    | zero =>
      intro i c hi hc
      obtain rfl : i = man + 1 := by omega
      refine xi_gtN (man + 1) man rfl rfl rfl rfl (by omega) (by omega) (fun _ => ?_) (fun h => absurd h (by omega))
      rw [← hc rfl] at hp
      exact x_ret rfl rfl rfl rfl hp
    | succ g ih =>
      intro i c hi hc
      have hul := mUs_lt K S.M h8 i
      refine xi_gtN i man rfl rfl rfl rfl (by omega) (by omega) (fun h => absurd h (by omega)) (fun h => ?_)
      refine x_call [xI (nI i), xI (nI (mUs K S.B S.M i))] rfl rfl rfl rfl rfl rfl rfl (c_leastChoice (f := S.M - i - 1) hr ho hK hKl (by omega) hul ?_)
      have IH := ih (i + 1) (mNo S.B (gd K S.B (S.M - i - 1) i (mUs K S.B S.M i))) (by omega) (fun e => by
        have : i = man := by omega
        subst this
        rfl)
      rw [mUs, ← nI_1] at IH
      by_cases hd : gd K S.B (S.M - i - 1) i (mUs K S.B S.M i) < S.B
      · rw [mU, if_pos hd] at IH
        have en : mNo S.B (gd K S.B (S.M - i - 1) i (mUs K S.B S.M i)) = nI (gd K S.B (S.M - i - 1) i (mUs K S.B S.M i)) := by rw [mNo, if_pos hd]
        rw [en] at IH ⊢
        refine xi_eq rfl rfl (fun (h2 : _ = -1) => ?_) (fun h2 => ?_)
        · have := congrArg Int32.toInt h2
          rw [nI_toInt (by omega)] at this
          have e1 : (-1 : Int32).toInt = -1 := rfl
          omega
        · refine x_to 32 rfl ?_
          have e2 : nI (mUs K S.B S.M i) ||| (xnum 1 <<< (nI (gd K S.B (S.M - i - 1) i (mUs K S.B S.M i)) &&& 31)) = nI (mUs K S.B S.M i ||| 2 ^ gd K S.B (S.M - i - 1) i (mUs K S.B S.M i)) := by
            rw [← xb_or, ← xb_sh1 (by omega)]
            rfl
          rw [e2]
          exact x_goto rfl rfl IH
      · rw [mU, if_neg hd] at IH
        have en : mNo S.B (gd K S.B (S.M - i - 1) i (mUs K S.B S.M i)) = -1 := by rw [mNo, if_neg hd]
        rw [en] at IH ⊢
        refine xi_eq rfl rfl (fun _ => ?_) (fun h2 => absurd rfl h2)
        exact x_goto rfl rfl IH
  exact loop (man + 1) 0 (-1) (by omega) (fun e => absurd e (by omega))
theorem a_match {x y : Int32} (h : RelC D G) (hg : gok G) (hp : ∀ D', RelC D' G → (∀ a, 111 ≤ a → D' a = D a) → post (some (aMatch G x y)) D') : xRuns Γ (n + 8) hX8_match [xR 0 8 0, xI x, xI y] D post := by
  have ho := hg.2.2.1.1
  have hE := hg.2.2.1.2
  have h8 := ho.1
  have h4 := ho.2.1
  have hr := h.2.1
  refine x_runs kX8_match (by decide +kernel) rfl ?_
  rw [aMatch] at hp
  have go : ∀ o, gO y ((G.now.M : Int) - 1) = some o → xW Γ (n + 8) hX8_match rX8_match 16 [some (xR 0 8 0), some (xI x), some (xI y), none, none] [] D post := by
    intro o hq
    rw [hq] at hp
    dsimp only at hp
    obtain ⟨ey, hb⟩ := gO_b hq
    refine x_scall [xI x, xI (nI 1), xI (nI 20)] rfl rfl rfl rfl rfl rfl rfl (c_isNot (lo := 1) (hi := 20) (by decide) (by decide) ?_)
    rcases hx_k : gI x 1 20 with _ | k
    · rw [hx_k] at hp
      refine x0_eq rfl rfl (fun h => absurd h (by decide)) (fun _ => ?_)
      exact x_ret rfl rfl rfl rfl (hp D h (fun _ _ => rfl))
    rw [hx_k] at hp
    dsimp only at hp
    obtain ⟨e1_k, e2_k, e3_k, e4_k⟩ := gI_some (by decide) hx_k
    subst e1_k
    have h_k : k < 21 := by omega
    refine x0_eq rfl rfl (fun _ => ?_) (fun h => absurd rfl h)
    refine x_to 31 rfl ?_
    have last : ∀ D1 : xM, (∀ a, (a < 27 ∨ 35 < a) → a ≠ 110 → D1 a = D a) → (∀ m b, m < G.now.M → b < G.now.B → D1 110 (m * 8 + b) = nI (mKK G.now k m b)) → ∀ c, xW Γ (n + 8) hX8_match rX8_match 89 [some (xR 0 8 0), some (xI (nI k)), some (xI y), some (xI c), none] [] D1 post := by
      intro D1 hs1 hK c
      have hr1 : rW D1 21 G.now := rW_out hr (fun a ha hb => hs1 a (by omega) (by omega))
      have R := hp D1 (RelC_out h hs1) (fun a ha => hs1 a (by omega) (by omega))
      cases o with
      | none =>
        subst ey
        refine xi_ne rfl rfl (fun h2 => absurd rfl h2) (fun _ => ?_)
        refine x_call [xI (nI 0), xI (nI 0)] rfl rfl rfl rfl rfl rfl rfl (c_mostK hr1 ho hK (mKK_le G.now k) (by omega) (Nat.zero_add _) (by omega) ?_)
        exact x_goto rfl rfl (x_ret rfl rfl rfl rfl R)
      | some m =>
        subst ey
        have hm := hb m rfl
        refine xi_ne rfl rfl (fun h2 => ?_) (fun (h2 : nI m = -1) => ?_)
        · refine x_call [xI (nI m)] rfl rfl rfl rfl rfl rfl rfl (c_matchOf hr1 ho hK (mKK_le G.now k) (by omega) ?_)
          exact x_ret rfl rfl rfl rfl R
        · have := congrArg Int32.toInt h2
          rw [nI_toInt (by omega)] at this
          have e1 : (-1 : Int32).toInt = -1 := rfl
          omega
    have loop : ∀ f m (D1 : xM), m + f = G.now.M → (∀ a, (a < 27 ∨ 35 < a) → a ≠ 110 → D1 a = D a) → (∀ m' b, m' < m → b < G.now.B → D1 110 (m' * 8 + b) = nI (mKK G.now k m' b)) → xW Γ (n + 8) hX8_match rX8_match 31 [some (xR 0 8 0), some (xI (nI k)), some (xI y), some (xI (nI m)), none] [] D1 post := by
      intro f
      induction f with
      | zero =>
        intro m D1 hm hs1 hK
        obtain rfl : m = G.now.M := by omega
        have hr1 : rW D1 21 G.now := rW_out hr (fun a ha hb => hs1 a (by omega) (by omega))
        refine xi_geN G.now.M G.now.M rfl rfl rfl hr1.2.1 (by omega) (by omega) (fun _ => ?_) (fun h => absurd h (by omega))
        exact last D1 hs1 hK _
      | succ f ih =>
        intro m D1 hm hs1 hK
        have hr1 : rW D1 21 G.now := rW_out hr (fun a ha hb => hs1 a (by omega) (by omega))
        refine xi_geN m G.now.M rfl rfl rfl hr1.2.1 (by omega) (by omega) (fun h => absurd h (by omega)) (fun h => ?_)
        refine x_to 45 rfl ?_
        have inner : ∀ g b (D2 : xM), b + g = G.now.B → (∀ a, (a < 27 ∨ 35 < a) → a ≠ 110 → D2 a = D a) → (∀ m' b, m' < m → b < G.now.B → D2 110 (m' * 8 + b) = nI (mKK G.now k m' b)) → (∀ b', b' < b → D2 110 (m * 8 + b') = nI (mKK G.now k m b')) → xW Γ (n + 8) hX8_match rX8_match 45 [some (xR 0 8 0), some (xI (nI k)), some (xI y), some (xI (nI m)), some (xI (nI b))] [] D2 post := by
          intro g
          induction g with
          | zero =>
            intro b D2 hb2 hs2 hK2 hK3
            obtain rfl : b = G.now.B := by omega
            have hr2 : rW D2 21 G.now := rW_out hr (fun a ha hb => hs2 a (by omega) (by omega))
            refine xi_geN G.now.B G.now.B rfl rfl rfl hr2.1 (by omega) (by omega) (fun _ => ?_) (fun h => absurd h (by omega))
            have IH := ih (m + 1) D2 (by omega) hs2 (fun m' b' q1 q2 => by
              by_cases e : m' = m
              · subst e; exact hK3 b' q2
              · exact hK2 m' b' (by omega) q2)
            rw [← nI_1] at IH
            refine x_drop 4 ?_
            exact x_goto rfl rfl IH
          | succ g ih2 =>
            intro b D2 hb2 hs2 hK2 hK3
            have hr2 : rW D2 21 G.now := rW_out hr (fun a ha hb => hs2 a (by omega) (by omega))
            refine xi_geN b G.now.B rfl rfl rfl hr2.1 (by omega) (by omega) (fun h => absurd h (by omega)) (fun h2 => ?_)
            refine x_call [xI (nI m), xI (nI b), xI (nI k)] rfl rfl rfl rfl rfl rfl rfl (c_keptWords hr2 ho (by omega) h2 (by omega) hE (fun D3 hs3 => ?_))
            refine x_astN (m * 8 + b) rfl rfl (ix8 m b) (by omega) rfl ?_
            have e110 : D3 110 = D2 110 := hs3 110 (by omega)
            have IH := ih2 (b + 1) (xup D3 110 (m * 8 + b) (nI (wKept G.now m b k))) (by omega) (fun a q1 q2 => by rw [xup_ne a q2, hs3 a q1]; exact hs2 a q1 q2) (fun m' b' q1 q2 => by rw [xup_o (by omega), e110]; exact hK2 m' b' q1 q2) (fun b' q => by
              by_cases e : b' = b
              · subst e; rw [xup_at]; rfl
              · rw [xup_o (by omega), e110]; exact hK3 b' (by omega))
            rw [← nI_1] at IH
            exact x_goto rfl rfl IH
        exact inner G.now.B 0 D1 (by omega) hs1 hK (fun b' q => absurd q (by omega))
    exact loop G.now.M 0 D (by omega) (fun _ _ _ => rfl) (fun m' b q => absurd q (by omega))
  refine xi_eq rfl rfl (fun (h2 : y = -1) => go none (by rw [gO, if_pos h2])) (fun (h2 : ¬ y = -1) => ?_)
  refine x_call [xI y] rfl rfl rfl rfl rfl rfl rfl (c_noMan hr ho ?_)
  rcases hy : gI y 0 ((G.now.M : Int) - 1) with _ | b
  · have e : gO y ((G.now.M : Int) - 1) = none := by rw [gO, if_neg h2, hy]
    rw [e] at hp
    refine x0_eq rfl rfl (fun h => absurd h (by decide)) (fun _ => ?_)
    exact x_ret rfl rfl rfl rfl (hp D h (fun _ _ => rfl))
  · refine x0_eq rfl rfl (fun _ => ?_) (fun h => absurd rfl h)
    exact go (some b) (by rw [gO, if_neg h2, hy])
end B3
