/-! ===== World: manBeside, seat, halve, awakeOn, isSilenced, bestKnown, hearable ===== -/
theorem xby_eq {o : Option Nat} {b : Nat} (hb : b < 2 ^ 31) (ho : ∀ c, o = some c → c < 2 ^ 31) : xby o = nI b ↔ o = some b := by
  cases o with
  | none =>
    constructor
    · intro h
      have h : (-1 : Int32) = nI b := h
      have h1 := nI_toInt hb
      rw [← h] at h1
      have h2 : (-1 : Int32).toInt = -1 := by decide
      omega
    · intro h; cases h
  | some c =>
    show nI c = nI b ↔ _
    rw [nI_eq (ho c rfl) hb]
    constructor
    · intro h; rw [h]
    · intro h; exact Option.some.inj h
theorem xby_m1 {o : Option Nat} (ho : ∀ c, o = some c → c < 2 ^ 31) : xby o = -1 ↔ o = none := by
  cases o with
  | none => exact ⟨fun _ => rfl, fun _ => rfl⟩
  | some c =>
    constructor
    · intro h
      have h : nI c = (-1 : Int32) := h
      have h1 := nI_toInt (ho c rfl)
      rw [h] at h1
      have h2 : (-1 : Int32).toInt = -1 := by decide
      omega
    · intro h; cases h
def wBy (S : wS) (b : Nat) : Option Nat := (List.range S.M).find? (fun m => decide (S.bi m = some b))
theorem wBy_some {S : wS} {b m : Nat} (h : wBy S b = some m) : m < S.M ∧ S.bi m = some b := by
  have h1 := List.find?_some h
  have h2 := List.mem_of_find?_eq_some h
  exact ⟨List.mem_range.mp h2, by simpa using h1⟩
theorem wBy_none {S : wS} {b : Nat} (h : wBy S b = none) : ∀ m, m < S.M → S.bi m ≠ some b := by
  intro m hm
  have := List.find?_eq_none.mp h m (List.mem_range.mpr hm)
  simpa using this
theorem wBy_is {S : wS} {b m : Nat} (ho : wok S) (hm : m < S.M) (h : S.bi m = some b) : wBy S b = some m := by
  cases hz : wBy S b with
  | none => exact absurd h (wBy_none hz m hm)
  | some m' =>
    obtain ⟨h1, h2⟩ := wBy_some hz
    rw [ho.2.2.2.2.2.2.2.2.2 m' m b h1 hm h2 h]
section W2
variable {Γ : xG} {n : Nat} {D : xM} {post : Option Int32 → xM → Prop} {w : Nat} {S : wS}
theorem wok_bi (ho : wok S) {m : Nat} (hm : m < S.M) : ∀ c, S.bi m = some c → c < 2 ^ 31 := fun c h => by
  have h1 := ho.2.2.2.2.2.2.2.2.1 m c hm h
  have h2 := ho.1
  omega
theorem l_manBeside {b : Nat} (hr : rW D w S) (ho : wok S) (hb : b < 2 ^ 31) (hp : post (some (xby (wBy S b))) D) : ∀ f i, i + f = S.M → (∀ m, m < i → S.bi m ≠ some b) → xW Γ n hX7_manBeside rX7_manBeside 2 [some (xR 0 7 w), some (xI (nI b)), some (xI (nI i))] [] D post := by
  have hM := ho.2.1
  intro f
  induction f with
  | zero =>
    intro i hi hno
    refine xi_geN i S.M rfl rfl rfl hr.2.1 (by omega) (by omega) (fun _ => ?_) (fun h => absurd h (by omega))
    have e : wBy S b = none := by
      cases hz : wBy S b with
      | none => rfl
      | some m => exact absurd (wBy_some hz).2 (hno m (by have := (wBy_some hz).1; omega))
    rw [e] at hp
    exact x_ret rfl rfl rfl rfl hp
  | succ f ih =>
    intro i hi hno
    refine xi_geN i S.M rfl rfl rfl hr.2.1 (by omega) (by omega) (fun h => absurd h (by omega)) (fun h => ?_)
    refine x_aldN i rfl rfl rfl (by omega) rfl ?_
    rw [hr.2.2.2.2.2.2.2.2 i (by omega)]
    refine xi_ne rfl rfl (fun h2 => ?_) (fun h2 => ?_)
    · have IH := ih (i + 1) (by omega) (fun m hm => by
        by_cases e : m = i
        · subst e
          intro h3
          exact h2 ((xby_eq hb (wok_bi ho (by omega))).mpr h3)
        · exact hno m (by omega))
      rw [← nI_1] at IH
      exact x_goto rfl rfl IH
    · have h3 := (xby_eq hb (wok_bi ho (by omega))).mp h2
      have e := wBy_is ho (m := i) (by omega) h3
      rw [e] at hp
      exact x_ret rfl rfl rfl rfl hp
theorem c_manBeside {b : Nat} (hr : rW D w S) (ho : wok S) (hb : b < 2 ^ 31) (hp : post (some (xby (wBy S b))) D) : xRuns Γ n hX7_manBeside [xR 0 7 w, xI (nI b)] D post := by
  refine x_runs kX7_manBeside (by decide +kernel) rfl ?_
  refine x_to 2 rfl ?_
  exact l_manBeside hr ho hb hp S.M 0 (by omega) (fun m hm => absurd hm (by omega))
/-- a man gets a bird, or none -/
def wSeat (S : wS) (m : Nat) (o : Option Nat) : wS := wmk S.B S.M S.E S.C S.kd S.pe S.K S.ha (fun m' => if m' = m then o else if o ≠ none ∧ S.bi m' = o then none else S.bi m')
theorem rW_bic {D : xM} {w : Nat} {S : wS} {bi : Nat → Option Nat} (h : rW D w S) (hb : ∀ m, m < S.M → bi m = S.bi m) : rW D w (wmk S.B S.M S.E S.C S.kd S.pe S.K S.ha bi) := by
  obtain ⟨h1, h2, h3, h4, h5, h6, h7, h8, h9⟩ := h
  exact ⟨h1, h2, h3, h4, h5, h6, h7, h8, fun m hm => by rw [h9 m hm]; exact congrArg xby (hb m hm).symm⟩
theorem c_seat {m : Nat} {o : Option Nat} (hr : rW D w S) (ho : wok S) (hm : m < S.M) (hb : ∀ b, o = some b → b < S.B) (hp : ∀ D', rW D' w (wSeat S m o) → sameW w D D' → post none D') : xRuns Γ (n + 1) hX7_seat [xR 0 7 w, xI (nI m), xI (xby o)] D post := by
  have h4 := ho.2.1
  have h8 := ho.1
  have hlt : ∀ c, o = some c → c < 2 ^ 31 := fun c h => by have := hb c h; omega
  refine x_runs kX7_seat (by decide +kernel) rfl ?_
  have last : ∀ (D1 : xM) (bi1 : Nat → Option Nat), sameW w D D1 → rW D1 w (wmk S.B S.M S.E S.C S.kd S.pe S.K S.ha bi1) → (∀ m', m' < S.M → m' ≠ m → bi1 m' = if o ≠ none ∧ S.bi m' = o then none else S.bi m') → ∀ v, xW Γ (n + 1) hX7_seat rX7_seat 27 [some (xR 0 7 w), some (xI (nI m)), some (xI (xby o)), some (xI v)] [] D1 post := by
    intro D1 bi1 hs1 hr1 hbi v
    refine x_astN m rfl rfl rfl (by omega) rfl ?_
    refine x_vret rfl rfl rfl (hp _ ?_ (hs1.up (by omega)))
    have h1 := rW_bi (i := m) (o := o) hr1
    refine rW_bic (S := wmk S.B S.M S.E S.C S.kd S.pe S.K S.ha (wuf bi1 m o)) h1 (fun m' hm' => ?_)
    show (if m' = m then o else if o ≠ none ∧ S.bi m' = o then none else S.bi m') = wuf bi1 m o m'
    by_cases e : m' = m
    · simp [wuf, e]
    · rw [if_neg e, ← hbi m' hm' e]
      simp [wuf, e]
  cases o with
  | none =>
    refine xi_ne rfl rfl (fun h => absurd rfl h) (fun _ => ?_)
    refine x_goto rfl rfl ?_
    refine xi_eq rfl rfl (fun _ => ?_) (fun h => absurd rfl h)
    exact last D S.bi sameW.rf hr (fun m' _ _ => by simp) _
  | some b =>
    have hbB := hb b rfl
    refine xi_ne rfl rfl (fun _ => ?_) (fun h => absurd ((xby_m1 hlt).mp h) (by simp))
    refine x_call [xI (nI b)] rfl rfl rfl rfl rfl rfl rfl (c_manBeside hr ho (by omega) ?_)
    refine x_to 15 rfl ?_
    cases hz : wBy S b with
    | none =>
      refine xi_eq rfl rfl (fun _ => ?_) (fun h => absurd rfl h)
      refine last D S.bi sameW.rf hr (fun m' hm' _ => ?_) _
      have := wBy_none hz m' hm'
      simp [this]
    | some f =>
      obtain ⟨hf1, hf2⟩ := wBy_some hz
      refine xi_eq rfl rfl (fun h => ?_) (fun _ => ?_)
      · exact absurd ((xby_m1 (o := some f) (fun c hc => by cases hc; omega)).mp h) (by simp)
      · refine x_astN f rfl rfl rfl (by omega) rfl ?_
        refine last _ _ (sameW.rf.up (by omega)) (rW_bi (i := f) (o := none) hr) (fun m' hm' _ => ?_) _
        by_cases e : m' = f
        · simp [wuf, e, hf2]
        · have : S.bi m' ≠ some b := fun z => e (ho.2.2.2.2.2.2.2.2.2 m' f b hm' hf1 z hf2)
          simp [wuf, e, this]
/-- moulting -/
def wHalve (S : wS) (b : Nat) : Nat → wS
  | 0 => S
  | k + 1 => wmk S.B S.M S.E S.C S.kd S.pe (wup (wHalve S b k).K b k (S.K b k / 2)) S.ha S.bi
theorem wHalve_K (S : wS) (b : Nat) : ∀ k j, k ≤ j → (wHalve S b k).K b j = S.K b j
  | 0, _, _ => rfl
  | k + 1, j, h => by
    show wup (wHalve S b k).K b k (S.K b k / 2) b j = _
    have e : ¬ j = k := by omega
    simp only [wup, e, and_false, if_false]
    exact wHalve_K S b k j (by omega)
theorem wHalve_eq (S : wS) (b : Nat) : ∀ k, wHalve S b k = wmk S.B S.M S.E S.C S.kd S.pe (wHalve S b k).K S.ha S.bi
  | 0 => rfl
  | _ + 1 => rfl
theorem l_halve {b : Nat} (ho : wok S) (hb : b < S.B) (hp : ∀ D', rW D' w (wHalve S b 10) → sameW w D D' → post none D') : ∀ f i (D1 : xM), i + f = 10 → rW D1 w (wHalve S b i) → sameW w D D1 → xW Γ n hX7_halve rX7_halve 2 [some (xR 0 7 w), some (xI (nI b)), some (xI (nI i))] [] D1 post := by
  have h8 := ho.1
  intro f
  induction f with
  | zero =>
    intro i D1 hi hr1 hs1
    obtain rfl : i = 10 := by omega
    refine xi_geN 10 10 rfl rfl rfl rfl (by omega) (by omega) (fun _ => ?_) (fun h => absurd h (by omega))
    exact x_vret rfl rfl rfl (hp _ hr1 hs1)
  | succ f ih =>
    intro i D1 hi hr1 hs1
    have h9 := ho.2.2.2.2.2.2.1 b i hb (by omega)
    refine xi_geN i 10 rfl rfl rfl rfl (by omega) (by omega) (fun h => absurd h (by omega)) (fun h => ?_)
    refine x_aldN (b * 10 + i) rfl rfl ix10 (by omega) rfl ?_
    have e1 : D1 (w + 3) (b * 10 + i) = nI (S.K b i) := by
      rw [hr1.2.2.2.2.2.2.1 b i (by rw [wHalve_eq]; exact hb) (by omega), wHalve_K S b i i (Nat.le_refl i)]
    rw [e1]
    refine x_div rfl rfl (by decide) ?_
    refine x_astN (b * 10 + i) rfl rfl ix10 (by omega) rfl ?_
    have e2 : nI (S.K b i) / xnum 2 = nI (S.K b i / 2) := pk_div (d := 2) (by omega) (by decide) (by decide)
    rw [e2]
    have IH := ih (i + 1) (xup D1 (w + 3) (b * 10 + i) (nI (S.K b i / 2))) (by omega) (by
      have := rW_K (b := b) (k := i) (v := S.K b i / 2) hr1 (by omega)
      rw [wHalve_eq] at this
      exact this) (hs1.up (by omega))
    rw [← nI_1] at IH
    exact x_goto rfl rfl IH
theorem c_halve {b : Nat} (hr : rW D w S) (ho : wok S) (hb : b < S.B) (hp : ∀ D', rW D' w (wHalve S b 10) → sameW w D D' → post none D') : xRuns Γ n hX7_halve [xR 0 7 w, xI (nI b)] D post := by
  refine x_runs kX7_halve (by decide +kernel) rfl ?_
  refine x_to 2 rfl ?_
  exact l_halve ho hb hp 10 0 D rfl hr sameW.rf
end W2
