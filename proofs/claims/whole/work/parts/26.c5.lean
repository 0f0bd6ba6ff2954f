/-! ===== World: become, counts; the reference's sets, layTried, passTried ===== -/
section C5
variable {Γ : xG} {n : Nat} {D : xM} {post : Option Int32 → xM → Prop} {w : Nat} {S : wS}
theorem cpy_all {f g : Nat → Int32} {k : Nat} (j : Nat) (h : j < k) : va_cpy f g 0 0 k j = f j := by
  rw [va_cpy, if_pos ⟨Nat.zero_le _, by omega⟩]
  congr 1
  omega
theorem xcp_at {D : xM} {i : Nat} {f : Nat → Int32} : xcp D i f i = f := by simp [xcp]
theorem xcp_ne {D : xM} {i a : Nat} {f : Nat → Int32} (h : a ≠ i) : xcp D i f a = D a := by simp [xcp, h]
/-- a world becomes another -/
theorem c_become {o : Nat} (hd : w + 5 < o ∨ o + 5 < w) (hp : ∀ D', (∀ S, S.B ≤ 8 → S.M ≤ 4 → rW D o S → rW D' w S) → sameW w D D' → post none D') : xRuns Γ (n + 1) hX7_become [xR 0 7 w, xR 0 7 o] D post := by
  have n1 : ∀ i, i ≤ 5 → ∀ j, j ≤ 5 → ¬ (o + i = w + j) := fun i hi j hj => by omega
  have ow : o ≠ w := by omega
  refine x_runs kX7_become (by decide +kernel) rfl ?_
  refine x_to 32 rfl ?_
  generalize hD4 : xup (xup (xup (xup D w 0 (D o 0)) w 1 (xup D w 0 (D o 0) o 1)) w 2 (xup (xup D w 0 (D o 0)) w 1 (xup D w 0 (D o 0) o 1) o 2)) w 3 (xup (xup (xup D w 0 (D o 0)) w 1 (xup D w 0 (D o 0) o 1)) w 2 (xup (xup D w 0 (D o 0)) w 1 (xup D w 0 (D o 0) o 1) o 2) o 3) = D4
  have s4 : ∀ a, a ≠ w → D4 a = D a := fun a ha => by subst hD4; rw [xup_ne a ha, xup_ne a ha, xup_ne a ha, xup_ne a ha]
  have f4 : D4 w 0 = D o 0 ∧ D4 w 1 = D o 1 ∧ D4 w 2 = D o 2 ∧ D4 w 3 = D o 3 := by
    subst hD4
    simp [xup, ow]
  have c0 : (xnum 0).toNatClampNeg = 0 := nI_clamp (n := 0) (by omega)
  have c8 : (xnum 8).toNatClampNeg = 8 := nI_clamp (n := 8) (by omega)
  have c80 : (xnum 80).toNatClampNeg = 80 := nI_clamp (n := 80) (by omega)
  have c4 : (xnum 4).toNatClampNeg = 4 := nI_clamp (n := 4) (by omega)
  refine x_copy (st' := []) rfl rfl (by decide) (by decide) (by decide) (by decide) (by decide) rfl ?_
  rw [c0, c8]
  generalize hD5 : xcp D4 (w + 1) (va_cpy (D4 (o + 1)) (D4 (w + 1)) 0 0 8) = D5
  have sD5 : ∀ a, a ≠ w + 1 → D5 a = D4 a := fun a ha => by subst hD5; exact xcp_ne ha
  have fD5 : ∀ j, j < 8 → D5 (w + 1) j = D (o + 1) j := fun j hj => by
    have e : D4 (o + 1) = D (o + 1) := by
      rw [s4 _ (by omega)]
    subst hD5
    rw [xcp_at, cpy_all j hj, e]
  refine x_copy (st' := []) rfl rfl (by decide) (by decide) (by decide) (by decide) (by decide) rfl ?_
  rw [c0, c8]
  generalize hD6 : xcp D5 (w + 2) (va_cpy (D5 (o + 2)) (D5 (w + 2)) 0 0 8) = D6
  have sD6 : ∀ a, a ≠ w + 2 → D6 a = D5 a := fun a ha => by subst hD6; exact xcp_ne ha
  have fD6 : ∀ j, j < 8 → D6 (w + 2) j = D (o + 2) j := fun j hj => by
    have e : D5 (o + 2) = D (o + 2) := by
      rw [sD5 _ (by omega), s4 _ (by omega)]
    subst hD6
    rw [xcp_at, cpy_all j hj, e]
  refine x_copy (st' := []) rfl rfl (by decide) (by decide) (by decide) (by decide) (by decide) rfl ?_
  rw [c0, c80]
  generalize hD7 : xcp D6 (w + 3) (va_cpy (D6 (o + 3)) (D6 (w + 3)) 0 0 80) = D7
  have sD7 : ∀ a, a ≠ w + 3 → D7 a = D6 a := fun a ha => by subst hD7; exact xcp_ne ha
  have fD7 : ∀ j, j < 80 → D7 (w + 3) j = D (o + 3) j := fun j hj => by
    have e : D6 (o + 3) = D (o + 3) := by
      rw [sD6 _ (by omega), sD5 _ (by omega), s4 _ (by omega)]
    subst hD7
    rw [xcp_at, cpy_all j hj, e]
  refine x_copy (st' := []) rfl rfl (by decide) (by decide) (by decide) (by decide) (by decide) rfl ?_
  rw [c0, c4]
  generalize hD8 : xcp D7 (w + 4) (va_cpy (D7 (o + 4)) (D7 (w + 4)) 0 0 4) = D8
  have sD8 : ∀ a, a ≠ w + 4 → D8 a = D7 a := fun a ha => by subst hD8; exact xcp_ne ha
  have fD8 : ∀ j, j < 4 → D8 (w + 4) j = D (o + 4) j := fun j hj => by
    have e : D7 (o + 4) = D (o + 4) := by
      rw [sD7 _ (by omega), sD6 _ (by omega), sD5 _ (by omega), s4 _ (by omega)]
    subst hD8
    rw [xcp_at, cpy_all j hj, e]
  refine x_copy (st' := []) rfl rfl (by decide) (by decide) (by decide) (by decide) (by decide) rfl ?_
  rw [c0, c4]
  generalize hD9 : xcp D8 (w + 5) (va_cpy (D8 (o + 5)) (D8 (w + 5)) 0 0 4) = D9
  have sD9 : ∀ a, a ≠ w + 5 → D9 a = D8 a := fun a ha => by subst hD9; exact xcp_ne ha
  have fD9 : ∀ j, j < 4 → D9 (w + 5) j = D (o + 5) j := fun j hj => by
    have e : D8 (o + 5) = D (o + 5) := by
      rw [sD8 _ (by omega), sD7 _ (by omega), sD6 _ (by omega), sD5 _ (by omega), s4 _ (by omega)]
    subst hD9
    rw [xcp_at, cpy_all j hj, e]
  refine x_vret rfl rfl rfl (hp D9 (fun S hB hM h => ?_) (fun a ha => ?_))
  · obtain ⟨h1, h2, h3, h4, h5, h6, h7, h8, h9⟩ := h
    have ew : D9 w = D4 w := by rw [sD9 _ (by omega), sD8 _ (by omega), sD7 _ (by omega), sD6 _ (by omega), sD5 _ (by omega)]
    have e1 : D9 (w + 1) = D5 (w + 1) := by rw [sD9 _ (by omega), sD8 _ (by omega), sD7 _ (by omega), sD6 _ (by omega)]
    have e2 : D9 (w + 2) = D6 (w + 2) := by rw [sD9 _ (by omega), sD8 _ (by omega), sD7 _ (by omega)]
    have e3 : D9 (w + 3) = D7 (w + 3) := by rw [sD9 _ (by omega), sD8 _ (by omega)]
    have e4 : D9 (w + 4) = D8 (w + 4) := by rw [sD9 _ (by omega)]
    obtain ⟨g0, g1, g2, g3⟩ := f4
    refine ⟨by rw [ew, g0]; exact h1, by rw [ew, g1]; exact h2, by rw [ew, g2]; exact h3, by rw [ew, g3]; exact h4, fun b hb => by rw [e1, fD5 b (by omega)]; exact h5 b hb, fun b hb => by rw [e2, fD6 b (by omega)]; exact h6 b hb, fun b k hb hk => by rw [e3, fD7 _ (by omega)]; exact h7 b k hb hk, fun m hm => by rw [e4, fD8 m (by omega)]; exact h8 m hm, fun m hm => by rw [fD9 m (by omega)]; exact h9 m hm⟩
  · rw [sD9 _ (by omega), sD8 _ (by omega), sD7 _ (by omega), sD6 _ (by omega), sD5 _ (by omega), s4 _ (by omega)]
theorem l_someWell (hr : rW D w S) (ho : wok S) (hp : post (some (nI (wbits (fun k => (List.range S.B).any fun b => decide (5 ≤ S.K b k)) 10))) D) : ∀ f i, i + f = S.B → xW Γ (n + 2) hX7_wellKnownBySome rX7_wellKnownBySome 4 [some (xR 0 7 w), some (xI (nI (wbits (fun k => (List.range i).any fun b => decide (5 ≤ S.K b k)) 10))), some (xI (nI i))] [] D post := by
  have h8 := ho.1
  intro f
  induction f with
  | zero =>
    intro i hi
    obtain rfl : i = S.B := by omega
    refine xi_geN S.B S.B rfl rfl rfl hr.1 (by omega) (by omega) (fun _ => ?_) (fun h => absurd h (by omega))
    exact x_ret rfl rfl rfl rfl hp
  | succ f ih =>
    intro i hi
    have IH := ih (i + 1) (by omega)
    have e : wbits (fun k => (List.range (i + 1)).any fun b => decide (5 ≤ S.K b k)) 10 = wbits (fun k => (List.range i).any fun b => decide (5 ≤ S.K b k)) 10 ||| wWell S i := by
      apply Nat.eq_of_testBit_eq
      intro j
      rw [Nat.testBit_or, wWell, wbits_tb, wbits_tb, wbits_tb, List.range_succ, List.any_append]
      cases decide (j < 10) <;> simp
    rw [e, ← nI_1, ← xb_or] at IH
    refine xi_geN i S.B rfl rfl rfl hr.1 (by omega) (by omega) (fun h => absurd h (by omega)) (fun h => ?_)
    refine x_call [xI (nI i)] rfl rfl rfl rfl rfl rfl rfl (c_wellKnown hr ho (by omega) ?_)
    exact x_goto rfl rfl IH
theorem c_someWell (hr : rW D w S) (ho : wok S) (hp : post (some (nI (wbits (fun k => (List.range S.B).any fun b => decide (5 ≤ S.K b k)) 10))) D) : xRuns Γ (n + 2) hX7_wellKnownBySome [xR 0 7 w] D post := by
  refine x_runs kX7_wellKnownBySome (by decide +kernel) rfl ?_
  refine x_to 4 rfl ?_
  have := l_someWell (Γ := Γ) (n := n) hr ho hp S.B 0 (by omega)
  have e : wbits (fun k => (List.range 0).any fun b => decide (5 ≤ S.K b k)) 10 = 0 := by simp [wbits]
  rw [e] at this
  exact this
theorem l_menWords (hr : rW D w S) (ho : wok S) (hp : post (some (nI (wSum (fun m => wCnt (S.ha m)) S.M))) D) : ∀ f i, i + f = S.M → xW Γ (n + 1) hX7_allWordsOfMen rX7_allWordsOfMen 4 [some (xR 0 7 w), some (xI (nI (wSum (fun m => wCnt (S.ha m)) i))), some (xI (nI i))] [] D post := by
  have h4 := ho.2.1
  intro f
  induction f with
  | zero =>
    intro i hi
    obtain rfl : i = S.M := by omega
    refine xi_geN S.M S.M rfl rfl rfl hr.2.1 (by omega) (by omega) (fun _ => ?_) (fun h => absurd h (by omega))
    exact x_ret rfl rfl rfl rfl hp
  | succ f ih =>
    intro i hi
    have IH := ih (i + 1) (by omega)
    rw [wSum, ← nI_1, ← nI_add] at IH
    refine xi_geN i S.M rfl rfl rfl hr.2.1 (by omega) (by omega) (fun h => absurd h (by omega)) (fun h => ?_)
    refine x_aldN i rfl rfl rfl (by omega) rfl ?_
    rw [hr.2.2.2.2.2.2.2.1 i (by omega)]
    refine x_scall [xI (nI (S.ha i))] rfl rfl rfl rfl rfl rfl rfl (c_bitCount ?_)
    rw [jbc_cnt _ (ho.2.2.2.2.2.2.2.1 i (by omega))]
    exact x_goto rfl rfl IH
theorem c_menWords (hr : rW D w S) (ho : wok S) (hp : post (some (nI (wSum (fun m => wCnt (S.ha m)) S.M))) D) : xRuns Γ (n + 1) hX7_allWordsOfMen [xR 0 7 w] D post := by
  refine x_runs kX7_allWordsOfMen (by decide +kernel) rfl ?_
  refine x_to 4 rfl ?_
  exact l_menWords hr ho hp S.M 0 (by omega)
/-- n evenings -/
def wPassN (S : wS) : Nat → wS
  | 0 => S
  | k + 1 => wPass (wPassN S k)
theorem passN_B (S : wS) : ∀ k, (wPassN S k).B = S.B ∧ (wPassN S k).M = S.M ∧ (wPassN S k).E = S.E + k
  | 0 => ⟨rfl, rfl, rfl⟩
  | k + 1 => by
    obtain ⟨h1, h2, h3⟩ := passN_B S k
    exact ⟨h1, h2, by show (wPassN S k).E + 1 = _; rw [h3]; omega⟩
theorem wok_passN {S : wS} (ho : wok S) : ∀ k, S.E + k < 1000000 → wok (wPassN S k)
  | 0, _ => ho
  | k + 1, h => wok_pass (wok_passN ho k (by omega)) (by rw [(passN_B S k).2.2]; omega)
end C5
section M5
variable {Γ : xG} {n : Nat} {D : xM} {post : Option Int32 → xM → Prop} {S : wS}
theorem c_layTried (hr : rM D 0 S) (hB : S.B ≤ 8) (hM : S.M ≤ 4) (hp : ∀ D', rM D' 1296 S → sameM 1296 D D' → post none D') : xRuns Γ (n + 1) hX9_layTried [xR 0 9 111] D post := by
  refine x_runs kX9_layTried (by decide +kernel) rfl ?_
  refine x_call [xI (nI 0), xI (nI 1296)] rfl rfl rfl rfl rfl rfl rfl (c_copyHarbour (by omega) (by omega) (by omega) (fun D' h1 h2 => ?_))
  exact x_vret rfl rfl rfl (hp D' (rM_copy hB hM hr h1) h2)
theorem c_passTried {k : Nat} {sp0 : Nat → List Nat} (hk : k < 1000) (hr : rM D 1296 S) (hP : rP D 138 139 sp0) (hl0 : ∀ z, z < 4 → (sp0 z).length ≤ 16) (ho : wok S) (hE : S.E + k < 100000) (hp : ∀ D', rM D' 1296 (wPassN S k) → (∃ sp, rP D' 138 139 sp ∧ (∀ z, z < 4 → (sp z).length ≤ 16) ∧ (0 < k → sp = wSaid (wPassN S (k - 1)))) → sameMP 1296 D D' → post none D') : xRuns Γ (n + 5) hX9_passTried [xR 0 9 111, xI (nI k)] D post := by
  refine x_runs kX9_passTried (by decide +kernel) rfl ?_
  refine x_to 2 rfl ?_
  have loop : ∀ (f i : Nat) (D1 : xM) (sp : Nat → List Nat), i + f = k → rM D1 1296 (wPassN S i) → rP D1 138 139 sp → (∀ z, z < 4 → (sp z).length ≤ 16) → (0 < i → sp = wSaid (wPassN S (i - 1))) → sameMP 1296 D D1 → xW Γ (n + 5) hX9_passTried rX9_passTried 2 [some (xR 0 9 111), some (xI (nI k)), some (xI (nI i))] [] D1 post := by
    intro f
    induction f with
    | zero =>
      intro i D1 sp hi hr1 hP1 hl1 hs hs1
      obtain rfl : i = k := by omega
      refine xi_geN i i rfl rfl rfl rfl (by omega) (by omega) (fun _ => ?_) (fun h => absurd h (by omega))
      exact x_vret rfl rfl rfl (hp D1 hr1 ⟨sp, hP1, hl1, hs⟩ hs1)
    | succ f ih =>
      intro i D1 sp hi hr1 hP1 hl1 hs hs1
      have ho1 := wok_passN ho i (by omega)
      refine xi_geN i k rfl rfl rfl rfl (by omega) (by omega) (fun h => absurd h (by omega)) (fun h => ?_)
      refine x_call [xI (nI 1296)] rfl rfl rfl rfl rfl rfl rfl (c_passes hr1 hP1 hl1 ho1 (by omega) (by rw [(passN_B S i).2.2]; omega) (fun D2 hr2 hP2 hs2 => ?_))
      have IH := ih (i + 1) D2 _ (by omega) hr2 hP2 (len_said ho1) (fun _ => rfl) (hs1.tr hs2)
      rw [← nI_1] at IH
      exact x_goto rfl rfl IH
  exact loop k 0 D sp0 (by omega) hr hP hl0 (fun h => absurd h (by omega)) sameMP.rf
theorem c_sets {o m : Nat} {q : Option Nat} (hr : rM D o S) (ho : wok S) (hoo : o ≤ 1296) (hm : m < S.M) (hb : ∀ b, q = some b → b < S.B) (hp : ∀ D', rM D' o (wSeat S m q) → sameM o D D' → post none D') : xRuns Γ n hX9_sets [xR 0 9 111, xI (nI o), xI (nI m), xI (xby q)] D post := by
  have h8 := ho.1
  have h4 := ho.2.1
  have hlt : ∀ c, q = some c → c < 2 ^ 31 := fun c h => by have := hb c h; omega
  refine x_runs kX9_sets (by decide +kernel) rfl ?_
  refine x_to 3 rfl ?_
  have loop : ∀ (f i : Nat) (D1 : xM), i + f = S.M → rM D1 o (wmk S.B S.M S.E S.C S.kd S.pe S.K S.ha (fun m' => if m' < i ∧ q ≠ none ∧ S.bi m' = q then none else S.bi m')) → sameM o D D1 → xW Γ n hX9_sets rX9_sets 3 [some (xR 0 9 111), some (xI (nI o)), some (xI (nI m)), some (xI (xby q)), some (xI (nI i))] [] D1 post := by
    intro f
    induction f with
    | zero =>
      intro i D1 hi hr1 hs1
      refine x_aldN (o + 1) rfl rfl (nI_add _ _) (by omega) rfl ?_
      refine xi_geN i S.M rfl rfl rfl hr1.2.1 (by omega) (by omega) (fun _ => ?_) (fun h => absurd h (by omega))
      refine x_astN (o + 104 + m) rfl rfl (ixo (k := 104)) (by omega) rfl ?_
      refine x_vret rfl rfl rfl (hp _ ?_ (hs1.up (by omega) (by omega)))
      have h1 := rM_bi (i := m) (q := q) hr1 h8 h4 hm
      refine rM_bic (S := wmk S.B S.M S.E S.C S.kd S.pe S.K S.ha (wuf (fun m' => if m' < i ∧ q ≠ none ∧ S.bi m' = q then none else S.bi m') m q)) h1 (fun m' hm' => ?_)
      show (if m' = m then q else if q ≠ none ∧ S.bi m' = q then none else S.bi m') = wuf (fun m' => if m' < i ∧ q ≠ none ∧ S.bi m' = q then none else S.bi m') m q m'
      have hm' : m' < S.M := hm'
      by_cases e : m' = m
      · simp [wuf, e]
      · have : m' < i := by omega
        simp [wuf, e, this]
    | succ f ih =>
      intro i D1 hi hr1 hs1
      refine x_aldN (o + 1) rfl rfl (nI_add _ _) (by omega) rfl ?_
      refine xi_geN i S.M rfl rfl rfl hr1.2.1 (by omega) (by omega) (fun h => absurd h (by omega)) (fun h => ?_)
      have eR : D1 112 (o + 104 + i) = xby (S.bi i) := by
        have := hr1.2.2.2.2.2.2.2.2 i (by show i < S.M; omega)
        rw [this]
        show xby (if i < i ∧ q ≠ none ∧ S.bi i = q then none else S.bi i) = _
        rw [if_neg (by omega)]
      have next : ∀ (v : Option Nat), v = (if q ≠ none ∧ S.bi i = q then none else S.bi i) → xW Γ n hX9_sets rX9_sets 65 [some (xR 0 9 111), some (xI (nI o)), some (xI (nI m)), some (xI (xby q)), some (xI (nI i))] [] (xup D1 112 (o + 104 + i) (xby v)) post := by
        intro v hv
        have IH := ih (i + 1) (xup D1 112 (o + 104 + i) (xby v)) (by omega) (by
          have h1 := rM_bi (i := i) (q := v) hr1 h8 h4 (by show i < S.M; omega)
          refine rM_bic (S := wmk S.B S.M S.E S.C S.kd S.pe S.K S.ha (wuf (fun m' => if m' < i ∧ q ≠ none ∧ S.bi m' = q then none else S.bi m') i v)) h1 (fun m' hm' => ?_)
          show (if m' < i + 1 ∧ q ≠ none ∧ S.bi m' = q then none else S.bi m') = wuf (fun m' => if m' < i ∧ q ≠ none ∧ S.bi m' = q then none else S.bi m') i v m'
          by_cases e : m' = i
          · subst e
            simp only [wuf, if_true]
            rw [hv]
            simp
          · have : m' < i + 1 ↔ m' < i := by omega
            simp [wuf, e, this]) (hs1.up (by omega) (by omega))
        rw [← nI_1] at IH
        exact x_goto rfl rfl IH
      have keep : ¬ (q ≠ none ∧ S.bi i = q) → xW Γ n hX9_sets rX9_sets 52 [some (xR 0 9 111), some (xI (nI o)), some (xI (nI m)), some (xI (xby q)), some (xI (nI i))] [.inl (nI o + xnum 104 + nI i), xR 1 1404 112] D1 post := by
        intro hn
        refine x_aldN (o + 104 + i) rfl rfl (ixo (k := 104)) (by omega) rfl ?_
        rw [eR]
        refine x_astN (o + 104 + i) rfl rfl (ixo (k := 104)) (by omega) rfl ?_
        exact x_to 65 rfl (next (S.bi i) (by rw [if_neg hn]))
      cases q with
      | none => exact xi_eq rfl rfl (fun _ => keep (by simp)) (fun h => absurd rfl h)
      | some b =>
        refine xi_eq rfl rfl (fun h => absurd ((xby_m1 hlt).mp h) (by simp)) (fun _ => ?_)
        refine x_aldN (o + 104 + i) rfl rfl (ixo (k := 104)) (by omega) rfl ?_
        rw [eR]
        refine xi_ne rfl rfl (fun h2 => ?_) (fun h2 => ?_)
        · exact keep (fun z => h2 (by rw [z.2]))
        · have h3 : S.bi i = some b := (xby_eq (hlt b rfl) (wok_bi ho (by omega))).mp h2
          refine x_goto rfl rfl ?_
          refine x_astN (o + 104 + i) rfl rfl (ixo (k := 104)) (by omega) rfl ?_
          exact x_to 65 rfl (next none (by rw [if_pos ⟨by simp, h3⟩]))
  exact loop S.M 0 D (by omega) (rM_bic hr (fun m' _ => by simp)) sameM.rf
end M5
