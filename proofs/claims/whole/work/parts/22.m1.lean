/-! ===== the reference: small methods ===== -/
/-- outside a world of the row -/
def sameM (o : Nat) (D D' : xM) : Prop := ∀ a j, ¬ (a = 112 ∧ o ≤ j ∧ j < o + 108) → D' a j = D a j
theorem sameM.rf {o : Nat} {D : xM} : sameM o D D := fun _ _ _ => rfl
theorem sameM.tr {o : Nat} {D D1 D2 : xM} (h : sameM o D D1) (h2 : sameM o D1 D2) : sameM o D D2 := fun a j hj => (h2 a j hj).trans (h a j hj)
theorem xup_at {D : xM} {i j : Nat} {v : Int32} : xup D i j v i j = v := by simp [xup]
theorem xup_o {D : xM} {i j a b : Nat} {v : Int32} (h : ¬ (a = i ∧ b = j)) : xup D i j v a b = D a b := by rw [xup, if_neg h]
theorem sameM.up {o i : Nat} {v : Int32} {D D1 : xM} (h : sameM o D D1) (h1 : o ≤ i) (h2 : i < o + 108) : sameM o D (xup D1 112 i v) := fun a j hj => by
  rw [xup_o (by intro z; exact hj ⟨z.1, by omega, by omega⟩)]
  exact h a j hj
theorem rM_K {D : xM} {o : Nat} {S : wS} {b k v : Nat} (h : rM D o S) (hB : S.B ≤ 8) (hM : S.M ≤ 4) (hb : b < S.B) (hk : k < 10) : rM (xup D 112 (o + 20 + (b * 10 + k)) (nI v)) o (wK S (wup S.K b k v)) := by
  obtain ⟨h1, h2, h3, h4, h5, h6, h7, h8, h9⟩ := h
  refine ⟨by rw [xup_o (by omega)]; exact h1, by rw [xup_o (by omega)]; exact h2, by rw [xup_o (by omega)]; exact h3, by rw [xup_o (by omega)]; exact h4, fun c hc => by rw [xup_o (by have hc : c < S.B := hc; omega)]; exact h5 c hc, fun c hc => by rw [xup_o (by have hc : c < S.B := hc; omega)]; exact h6 c hc, fun c j hc hj => ?_, fun m hm => by rw [xup_o (by omega)]; exact h8 m hm, fun m hm => by rw [xup_o (by omega)]; exact h9 m hm⟩
  show xup D 112 (o + 20 + (b * 10 + k)) (nI v) 112 (o + 20 + (c * 10 + j)) = nI (wup S.K b k v c j)
  by_cases e : c = b ∧ j = k
  · obtain ⟨rfl, rfl⟩ := e
    rw [xup_at]
    simp [wup]
  · rw [xup_o (by omega)]
    simp only [wup, e, if_false]
    exact h7 c j hc hj
theorem rM_ha {D : xM} {o : Nat} {S : wS} {i v : Nat} (h : rM D o S) (hB : S.B ≤ 8) (hM : S.M ≤ 4) (hi : i < S.M) : rM (xup D 112 (o + 100 + i) (nI v)) o (wmk S.B S.M S.E S.C S.kd S.pe S.K (wuf S.ha i v) S.bi) := by
  obtain ⟨h1, h2, h3, h4, h5, h6, h7, h8, h9⟩ := h
  refine ⟨by rw [xup_o (by omega)]; exact h1, by rw [xup_o (by omega)]; exact h2, by rw [xup_o (by omega)]; exact h3, by rw [xup_o (by omega)]; exact h4, fun c hc => by rw [xup_o (by have hc : c < S.B := hc; omega)]; exact h5 c hc, fun c hc => by rw [xup_o (by have hc : c < S.B := hc; omega)]; exact h6 c hc, fun c j hc hj => by rw [xup_o (by have hc : c < S.B := hc; omega)]; exact h7 c j hc hj, fun m hm => ?_, fun m hm => by rw [xup_o (by omega)]; exact h9 m hm⟩
  show xup D 112 (o + 100 + i) (nI v) 112 (o + 100 + m) = nI (wuf S.ha i v m)
  by_cases e : m = i
  · subst e
    rw [xup_at]; simp [wuf]
  · rw [xup_o (by omega)]
    simp only [wuf, e, if_false]
    exact h8 m hm
theorem rM_bi {D : xM} {o : Nat} {S : wS} {i : Nat} {q : Option Nat} (h : rM D o S) (hB : S.B ≤ 8) (hM : S.M ≤ 4) (hi : i < S.M) : rM (xup D 112 (o + 104 + i) (xby q)) o (wmk S.B S.M S.E S.C S.kd S.pe S.K S.ha (wuf S.bi i q)) := by
  obtain ⟨h1, h2, h3, h4, h5, h6, h7, h8, h9⟩ := h
  refine ⟨by rw [xup_o (by omega)]; exact h1, by rw [xup_o (by omega)]; exact h2, by rw [xup_o (by omega)]; exact h3, by rw [xup_o (by omega)]; exact h4, fun c hc => by rw [xup_o (by have hc : c < S.B := hc; omega)]; exact h5 c hc, fun c hc => by rw [xup_o (by have hc : c < S.B := hc; omega)]; exact h6 c hc, fun c j hc hj => by rw [xup_o (by have hc : c < S.B := hc; omega)]; exact h7 c j hc hj, fun m hm => by rw [xup_o (by have hm : m < S.M := hm; omega)]; exact h8 m hm, fun m hm => ?_⟩
  show xup D 112 (o + 104 + i) (xby q) 112 (o + 104 + m) = xby (wuf S.bi i q m)
  by_cases e : m = i
  · subst e
    rw [xup_at]; simp [wuf]
  · rw [xup_o (by omega)]
    simp only [wuf, e, if_false]
    exact h9 m hm
theorem rM_E {D : xM} {o : Nat} {S : wS} {v : Nat} (h : rM D o S) (hB : S.B ≤ 8) (hM : S.M ≤ 4) : rM (xup D 112 (o + 2) (nI v)) o (wmk S.B S.M v S.C S.kd S.pe S.K S.ha S.bi) := by
  obtain ⟨h1, h2, h3, h4, h5, h6, h7, h8, h9⟩ := h
  exact ⟨by rw [xup_o (by omega)]; exact h1, by rw [xup_o (by omega)]; exact h2, by rw [xup_at], by rw [xup_o (by omega)]; exact h4, fun c hc => by rw [xup_o (by omega)]; exact h5 c hc, fun c hc => by rw [xup_o (by omega)]; exact h6 c hc, fun c j hc hj => by rw [xup_o (by omega)]; exact h7 c j hc hj, fun m hm => by rw [xup_o (by omega)]; exact h8 m hm, fun m hm => by rw [xup_o (by omega)]; exact h9 m hm⟩
theorem rM_Kc {D : xM} {o : Nat} {S : wS} {K K' : wKf} (h : rM D o (wK S K)) (hk : ∀ b k, b < S.B → k < 10 → K' b k = K b k) : rM D o (wK S K') := by
  obtain ⟨h1, h2, h3, h4, h5, h6, h7, h8, h9⟩ := h
  exact ⟨h1, h2, h3, h4, h5, h6, fun b k hb hk2 => by rw [h7 b k hb hk2]; exact congrArg nI (hk b k hb hk2).symm, h8, h9⟩
theorem rM_bic {D : xM} {o : Nat} {S : wS} {bi : Nat → Option Nat} (h : rM D o S) (hb : ∀ m, m < S.M → bi m = S.bi m) : rM D o (wmk S.B S.M S.E S.C S.kd S.pe S.K S.ha bi) := by
  obtain ⟨h1, h2, h3, h4, h5, h6, h7, h8, h9⟩ := h
  exact ⟨h1, h2, h3, h4, h5, h6, h7, h8, fun m hm => by rw [h9 m hm]; exact congrArg xby (hb m hm).symm⟩
theorem rM_out {D D' : xM} {o : Nat} {S : wS} (h : rM D o S) (hB : S.B ≤ 8) (hM : S.M ≤ 4) (hs : ∀ j, o ≤ j → j < o + 108 → D' 112 j = D 112 j) : rM D' o S := by
  obtain ⟨h1, h2, h3, h4, h5, h6, h7, h8, h9⟩ := h
  exact ⟨by rw [hs _ (by omega) (by omega)]; exact h1, by rw [hs _ (by omega) (by omega)]; exact h2, by rw [hs _ (by omega) (by omega)]; exact h3, by rw [hs _ (by omega) (by omega)]; exact h4, fun c hc => by rw [hs _ (by omega) (by omega)]; exact h5 c hc, fun c hc => by rw [hs _ (by omega) (by omega)]; exact h6 c hc, fun c j hc hj => by rw [hs _ (by omega) (by omega)]; exact h7 c j hc hj, fun m hm => by rw [hs _ (by omega) (by omega)]; exact h8 m hm, fun m hm => by rw [hs _ (by omega) (by omega)]; exact h9 m hm⟩
section M1
variable {Γ : xG} {n : Nat} {D : xM} {post : Option Int32 → xM → Prop} {o : Nat} {S : wS}
theorem lg_neg (x y : Int64) : lg_cmp x y < 0 ↔ x < y := by
  rw [lg_cmp]
  by_cases h1 : y < x
  · have : ¬ x < y := Int64.not_lt.mpr (Int64.le_of_lt h1)
    simp [h1, this]
  · by_cases h2 : x = y
    · subst h2; simp [h1]
    · have : x < y := by
        rcases Int64.lt_or_le x y with q | q
        · exact q
        · exact absurd (Int64.lt_of_le_of_ne q (Ne.symm h2)) h1
      simp [h1, h2, this]
theorem lg_pos (x y : Int64) : 0 < lg_cmp x y ↔ y < x := by
  rw [lg_cmp]
  by_cases h1 : y < x
  · simp [h1]
  · by_cases h2 : x = y
    · subst h2; simp [h1]
    · simp [h1, h2]
theorem c_in {a b c : Int64} (hp : post (some (if b ≤ a ∧ a ≤ c then 1 else 0)) D) : xRuns Γ n hX9_in [xL a, xL b, xL c] D post := by
  refine x_runs kX9_in (by decide +kernel) rfl ?_
  refine x0_lt rfl rfl (fun h => ?_) (fun h => ?_)
  · have h := (lg_neg _ _).mp h
    rw [if_neg (fun z => absurd h (Int64.not_lt.mpr z.1))] at hp
    exact x_ret rfl rfl rfl rfl hp
  · have h : ¬ a < b := fun z => h ((lg_neg _ _).mpr z)
    refine x0_gt rfl rfl (fun h2 => ?_) (fun h2 => ?_)
    · have h2 := (lg_pos _ _).mp h2
      rw [if_neg (fun z => absurd h2 (Int64.not_lt.mpr z.2))] at hp
      exact x_ret rfl rfl rfl rfl hp
    · have h2 : ¬ c < a := fun z => h2 ((lg_pos _ _).mpr z)
      rw [if_pos ⟨Int64.not_lt.mp h, Int64.not_lt.mp h2⟩] at hp
      exact x_goto rfl rfl (x_ret rfl rfl rfl rfl hp)
theorem c_has {c i : Nat} (hc : c < 2 ^ 31) (hi : i < 32) (hp : post (some (if c.testBit i then 1 else 0)) D) : xRuns Γ n hX9_has [xI (nI c), xI (nI i)] D post := by
  refine x_runs kX9_has (by decide +kernel) rfl ?_
  refine xi_neN (c / 2 ^ i % 2) 1 rfl rfl (xb_bit hc hi) rfl (by omega) (by omega) (fun h => ?_) (fun h => ?_)
  · have : c.testBit i = false := by
      cases hq : c.testBit i with
      | false => rfl
      | true => exact absurd ((xb_tb _ _).mpr hq) h
    rw [this] at hp
    exact x_ret rfl rfl rfl rfl hp
  · rw [(xb_tb _ _).mp h] at hp
    exact x_goto rfl rfl (x_ret rfl rfl rfl rfl hp)
theorem l_bits {c : Nat} (hc : c < 1024) (hp : post (some (nI (wCnt c))) D) : ∀ f i, i + f = 10 → xW Γ n hX9_bits rX9_bits 4 [some (xI (nI c)), some (xI (nI (wSum (fun i => if c.testBit i then 1 else 0) i))), some (xI (nI i))] [] D post := by
  intro f
  induction f with
  | zero =>
    intro i hi
    obtain rfl : i = 10 := by omega
    refine xi_geN 10 10 rfl rfl rfl rfl (by omega) (by omega) (fun _ => ?_) (fun h => absurd h (by omega))
    exact x_ret rfl rfl rfl rfl hp
  | succ f ih =>
    intro i hi
    have IH := ih (i + 1) (by omega)
    have e : (if c.testBit i then 1 else 0) = c / 2 ^ i % 2 := by
      cases hq : c.testBit i with
      | true => rw [(xb_tb _ _).mpr hq]; rfl
      | false =>
        have : ¬ c / 2 ^ i % 2 = 1 := fun z => by rw [(xb_tb _ _).mp z] at hq; cases hq
        simp; omega
    rw [wSum, ← nI_1, ← nI_add, e, ← xb_bit (by omega) (by omega)] at IH
    refine xi_geN i 10 rfl rfl rfl rfl (by omega) (by omega) (fun h => absurd h (by omega)) (fun h => ?_)
    exact x_goto rfl rfl IH
theorem c_bits {c : Nat} (hc : c < 1024) (hp : post (some (nI (wCnt c))) D) : xRuns Γ n hX9_bits [xI (nI c)] D post := by
  refine x_runs kX9_bits (by decide +kernel) rfl ?_
  refine x_to 4 rfl ?_
  exact l_bits hc hp 10 0 rfl
theorem c_hears {k : Nat} (hk : k < 5) (hp : post (some (nI (wHears k))) D) : xRuns Γ n hX9_hears [xI (nI k)] D post := by
  refine x_runs kX9_hears (by decide +kernel) rfl ?_
  match k, hk with
  | 0, _ => exact xi_neN 0 3 rfl rfl rfl rfl (by omega) (by omega) (fun _ => xi_neN 0 4 rfl rfl rfl rfl (by omega) (by omega) (fun _ => x_ret rfl rfl rfl rfl hp) (fun h => absurd h (by decide))) (fun h => absurd h (by decide))
  | 1, _ => exact xi_neN 1 3 rfl rfl rfl rfl (by omega) (by omega) (fun _ => xi_neN 1 4 rfl rfl rfl rfl (by omega) (by omega) (fun _ => x_ret rfl rfl rfl rfl hp) (fun h => absurd h (by decide))) (fun h => absurd h (by decide))
  | 2, _ => exact xi_neN 2 3 rfl rfl rfl rfl (by omega) (by omega) (fun _ => xi_neN 2 4 rfl rfl rfl rfl (by omega) (by omega) (fun _ => x_ret rfl rfl rfl rfl hp) (fun h => absurd h (by decide))) (fun h => absurd h (by decide))
  | 3, _ => exact xi_neN 3 3 rfl rfl rfl rfl (by omega) (by omega) (fun h => absurd rfl h) (fun _ => x_goto rfl rfl (x_ret rfl rfl rfl rfl hp))
  | 4, _ => exact xi_neN 4 3 rfl rfl rfl rfl (by omega) (by omega) (fun _ => xi_neN 4 4 rfl rfl rfl rfl (by omega) (by omega) (fun h => absurd rfl h) (fun _ => x_goto rfl rfl (x_ret rfl rfl rfl rfl hp))) (fun h => absurd h (by decide))
theorem c_gets {k : Nat} (hk : k < 5) (hp : post (some (nI (wGets k))) D) : xRuns Γ n hX9_gets [xI (nI k)] D post := by
  refine x_runs kX9_gets (by decide +kernel) rfl ?_
  match k, hk with
  | 0, _ => exact xi_eqN 0 3 rfl rfl rfl rfl (by omega) (by omega) (fun h => absurd h (by decide)) (fun _ => xi_neN 0 4 rfl rfl rfl rfl (by omega) (by omega) (fun _ => xi_neN 0 1 rfl rfl rfl rfl (by omega) (by omega) (fun _ => x_ret rfl rfl rfl rfl hp) (fun h => absurd h (by decide))) (fun h => absurd h (by decide)))
  | 1, _ => exact xi_eqN 1 3 rfl rfl rfl rfl (by omega) (by omega) (fun h => absurd h (by decide)) (fun _ => xi_neN 1 4 rfl rfl rfl rfl (by omega) (by omega) (fun _ => xi_neN 1 1 rfl rfl rfl rfl (by omega) (by omega) (fun h => absurd rfl h) (fun _ => x_goto rfl rfl (x_ret rfl rfl rfl rfl hp))) (fun h => absurd h (by decide)))
  | 2, _ => exact xi_eqN 2 3 rfl rfl rfl rfl (by omega) (by omega) (fun h => absurd h (by decide)) (fun _ => xi_neN 2 4 rfl rfl rfl rfl (by omega) (by omega) (fun _ => xi_neN 2 1 rfl rfl rfl rfl (by omega) (by omega) (fun _ => x_ret rfl rfl rfl rfl hp) (fun h => absurd h (by decide))) (fun h => absurd h (by decide)))
  | 3, _ => exact xi_eqN 3 3 rfl rfl rfl rfl (by omega) (by omega) (fun _ => x_goto rfl rfl (x_ret rfl rfl rfl rfl hp)) (fun h => absurd rfl h)
  | 4, _ => exact xi_eqN 4 3 rfl rfl rfl rfl (by omega) (by omega) (fun h => absurd h (by decide)) (fun _ => xi_neN 4 4 rfl rfl rfl rfl (by omega) (by omega) (fun h => absurd rfl h) (fun _ => x_goto rfl rfl (x_ret rfl rfl rfl rfl hp)))
theorem c_says {k : Nat} (hk : k < 5) (hp : post (some (nI (wSays k))) D) : xRuns Γ n hX9_says [xI (nI k)] D post := by
  refine x_runs kX9_says (by decide +kernel) rfl ?_
  match k, hk with
  | 0, _ => exact xi_eqN 0 3 rfl rfl rfl rfl (by omega) (by omega) (fun h => absurd h (by decide)) (fun _ => xi_neN 0 4 rfl rfl rfl rfl (by omega) (by omega) (fun _ => xi_neN 0 2 rfl rfl rfl rfl (by omega) (by omega) (fun _ => x_ret rfl rfl rfl rfl hp) (fun h => absurd h (by decide))) (fun h => absurd h (by decide)))
  | 1, _ => exact xi_eqN 1 3 rfl rfl rfl rfl (by omega) (by omega) (fun h => absurd h (by decide)) (fun _ => xi_neN 1 4 rfl rfl rfl rfl (by omega) (by omega) (fun _ => xi_neN 1 2 rfl rfl rfl rfl (by omega) (by omega) (fun _ => x_ret rfl rfl rfl rfl hp) (fun h => absurd h (by decide))) (fun h => absurd h (by decide)))
  | 2, _ => exact xi_eqN 2 3 rfl rfl rfl rfl (by omega) (by omega) (fun h => absurd h (by decide)) (fun _ => xi_neN 2 4 rfl rfl rfl rfl (by omega) (by omega) (fun _ => xi_neN 2 2 rfl rfl rfl rfl (by omega) (by omega) (fun h => absurd rfl h) (fun _ => x_goto rfl rfl (x_ret rfl rfl rfl rfl hp))) (fun h => absurd h (by decide)))
  | 3, _ => exact xi_eqN 3 3 rfl rfl rfl rfl (by omega) (by omega) (fun _ => x_goto rfl rfl (x_ret rfl rfl rfl rfl hp)) (fun h => absurd rfl h)
  | 4, _ => exact xi_eqN 4 3 rfl rfl rfl rfl (by omega) (by omega) (fun h => absurd h (by decide)) (fun _ => xi_neN 4 4 rfl rfl rfl rfl (by omega) (by omega) (fun h => absurd rfl h) (fun _ => x_goto rfl rfl (x_ret rfl rfl rfl rfl hp)))
theorem c_loses {k : Nat} (hk : k < 5) (hp : post (some (nI (wLoses k))) D) : xRuns Γ n hX9_loses [xI (nI k)] D post := by
  refine x_runs kX9_loses (by decide +kernel) rfl ?_
  match k, hk with
  | 0, _ => exact x0_eq rfl rfl (fun _ => x_goto rfl rfl (x_ret rfl rfl rfl rfl hp)) (fun h => absurd rfl h)
  | 1, _ => exact x0_eq rfl rfl (fun h => absurd h (by decide)) (fun _ => xi_neN 1 2 rfl rfl rfl rfl (by omega) (by omega) (fun _ => x_ret rfl rfl rfl rfl hp) (fun h => absurd h (by decide)))
  | 2, _ => exact x0_eq rfl rfl (fun h => absurd h (by decide)) (fun _ => xi_neN 2 2 rfl rfl rfl rfl (by omega) (by omega) (fun h => absurd rfl h) (fun _ => x_goto rfl rfl (x_ret rfl rfl rfl rfl hp)))
  | 3, _ => exact x0_eq rfl rfl (fun h => absurd h (by decide)) (fun _ => xi_neN 3 2 rfl rfl rfl rfl (by omega) (by omega) (fun _ => x_ret rfl rfl rfl rfl hp) (fun h => absurd h (by decide)))
  | 4, _ => exact x0_eq rfl rfl (fun h => absurd h (by decide)) (fun _ => xi_neN 4 2 rfl rfl rfl rfl (by omega) (by omega) (fun _ => x_ret rfl rfl rfl rfl hp) (fun h => absurd h (by decide)))
theorem c_isOpen {b : Nat} (hr : rM D o S) (ho : wok S) (hoo : o ≤ 1296) (hb : b < 32) (hp : post (some (if S.C.testBit b then 0 else 1)) D) : xRuns Γ (n + 1) hX9_isOpen [xR 0 9 111, xI (nI o), xI (nI b)] D post := by
  have hc := ho.2.2.2.1
  refine x_runs kX9_isOpen (by decide +kernel) rfl ?_
  refine x_aldN (o + 3) rfl rfl (nI_add _ _) (by omega) rfl ?_
  rw [hr.2.2.2.1]
  refine x_scall [xI (nI S.C), xI (nI b)] rfl rfl rfl rfl rfl rfl rfl (c_has (by omega) hb ?_)
  cases hz : S.C.testBit b with
  | true =>
    rw [hz] at hp
    exact x0_ne rfl rfl (fun _ => x_ret rfl rfl rfl rfl hp) (fun h => absurd h (by decide))
  | false =>
    rw [hz] at hp
    exact x0_ne rfl rfl (fun h => absurd rfl h) (fun _ => x_goto rfl rfl (x_ret rfl rfl rfl rfl hp))
theorem ixM {o b k : Nat} : nI o + xnum 20 + xnum 10 * nI b + nI k = nI (o + 20 + (b * 10 + k)) := by
  show nI o + nI 20 + nI 10 * nI b + nI k = _
  rw [pk_mul, nI_add, nI_add, nI_add]
  exact congrArg nI (by omega)
theorem c_learns {b k v : Nat} (hr : rM D o S) (ho : wok S) (hoo : o ≤ 1296) (hb : b < S.B) (hk : k < 10) (hv : v ≤ 9) (hp : post none (xup D 112 (o + 20 + (b * 10 + k)) (nI (min 9 (S.K b k + v))))) : xRuns Γ n hX9_learns [xR 0 9 111, xI (nI o), xI (nI b), xI (nI k), xI (nI v)] D post := by
  have h8 := ho.1
  have h9 := ho.2.2.2.2.2.2.1 b k hb hk
  have e7 := hr.2.2.2.2.2.2.1 b k hb hk
  refine x_runs kX9_learns (by decide +kernel) rfl ?_
  refine x_aldN (o + 20 + (b * 10 + k)) rfl rfl ixM (by omega) rfl ?_
  refine xi_leN (S.K b k + v) 9 rfl rfl (by rw [e7]; exact nI_add _ _) rfl (by omega) (by omega) (fun h => ?_) (fun h => ?_)
  · refine x_aldN (o + 20 + (b * 10 + k)) rfl rfl ixM (by omega) rfl ?_
    refine x_astN (o + 20 + (b * 10 + k)) rfl rfl ixM (by omega) rfl ?_
    refine x_vret rfl rfl rfl ?_
    rw [Nat.min_eq_right h, ← nI_add, ← e7] at hp
    exact hp
  · refine x_goto rfl rfl ?_
    refine x_astN (o + 20 + (b * 10 + k)) rfl rfl ixM (by omega) rfl ?_
    refine x_vret rfl rfl rfl ?_
    rw [Nat.min_eq_left (by omega)] at hp
    exact hp
theorem l_mwell {b : Nat} (hr : rM D o S) (ho : wok S) (hoo : o ≤ 1296) (hb : b < S.B) (hp : post (some (nI (wWell S b))) D) : ∀ f i, i + f = 10 → xW Γ n hX9_wellKnown rX9_wellKnown 5 [some (xR 0 9 111), some (xI (nI o)), some (xI (nI b)), some (xI (nI (wbits (fun k => decide (5 ≤ S.K b k)) i))), some (xI (nI i))] [] D post := by
  have h8 := ho.1
  intro f
  induction f with
  | zero =>
    intro i hi
    obtain rfl : i = 10 := by omega
    refine xi_geN 10 10 rfl rfl rfl rfl (by omega) (by omega) (fun _ => ?_) (fun h => absurd h (by omega))
    exact x_ret rfl rfl rfl rfl hp
  | succ f ih =>
    intro i hi
    have h9 := ho.2.2.2.2.2.2.1 b i hb (by omega)
    have IH := ih (i + 1) (by omega)
    rw [wbits, ← nI_1] at IH
    refine xi_geN i 10 rfl rfl rfl rfl (by omega) (by omega) (fun h => absurd h (by omega)) (fun h => ?_)
    refine x_aldN (o + 20 + (b * 10 + i)) rfl rfl ixM (by omega) rfl ?_
    rw [hr.2.2.2.2.2.2.1 b i hb (by omega)]
    refine xi_leN (S.K b i) 4 rfl rfl rfl rfl (by omega) (by omega) (fun h5 => ?_) (fun h5 => ?_)
    · rw [if_neg (by simp; omega), Nat.add_zero] at IH
      have e : nI (wbits (fun k => decide (5 ≤ S.K b k)) i) ||| nI 0 = nI (wbits (fun k => decide (5 ≤ S.K b k)) i) := by rw [xb_or, Nat.or_zero]
      rw [← e] at IH
      exact x_goto rfl rfl IH
    · rw [if_pos (by simp; omega), ← xb_orp (wbits_lt _ _), ← xb_sh1 (by omega)] at IH
      exact x_goto rfl rfl (x_goto rfl rfl IH)
theorem c_mwell {b : Nat} (hr : rM D o S) (ho : wok S) (hoo : o ≤ 1296) (hb : b < S.B) (hp : post (some (nI (wWell S b))) D) : xRuns Γ n hX9_wellKnown [xR 0 9 111, xI (nI o), xI (nI b)] D post := by
  refine x_runs kX9_wellKnown (by decide +kernel) rfl ?_
  refine x_to 5 rfl ?_
  exact l_mwell hr ho hoo hb hp 10 0 rfl
end M1
