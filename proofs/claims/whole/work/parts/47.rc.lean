/-! ===== the class's Text ===== -/
def TXc (D : xM) (tx : List Nat) (pl be : Nat) : Prop := D 1 1 = nI tx.length ∧ rL D 2 tx ∧ D 1 2 = nI pl ∧ D 1 3 = nI be
theorem nI_nm1 {k : Nat} (h : k < 2 ^ 31) : ¬ nI k = -1 := fun z => by
  have := congrArg Int32.toInt z
  rw [nI_toInt h] at this
  have e1 : (-1 : Int32).toInt = -1 := rfl
  omega
theorem TXc_out {D D' : xM} {tx : List Nat} {pl be : Nat} (h : TXc D tx pl be) (e1 : D' 1 = D 1) (e2 : D' 2 = D 2) : TXc D' tx pl be := ⟨by rw [e1]; exact h.1, rL_out h.2.1 e2, by rw [e1]; exact h.2.2.1, by rw [e1]; exact h.2.2.2⟩
theorem tx_lt {tx : List Nat} (h : ∀ c ∈ tx, c < 256) (i : Nat) : tc tx i < 256 := by
  rw [tc, List.getD_eq_getElem?_getD]
  cases q : tx[i]? with
  | none => show 0 < 256; omega
  | some c => exact h c (List.mem_of_getElem? q)
section RC
variable {Γ : xG} {n : Nat} {D : xM} {post : Option Int32 → xM → Prop} {tx : List Nat}
theorem c_sortOf {c : Nat} (hc : c < 256) (hp : post (some (nI (tSort c))) D) : xRuns Γ n hX5_sortOf [xI (nI c)] D post := by
  refine x_runs kX5_sortOf (by decide +kernel) rfl ?_
  have low : ¬ (97 ≤ c ∧ c ≤ 122) → xW Γ n hX5_sortOf rX5_sortOf 14 [some (xI (nI c))] [] D post := by
    intro h0
    rw [tSort, if_neg h0] at hp
    refine xi_ltN c 48 rfl rfl rfl rfl (by omega) (by omega) (fun h1 => ?_) (fun h1 => ?_)
    · rw [if_neg (by omega)] at hp
      exact x_ret rfl rfl rfl rfl hp
    · refine xi_gtN c 57 rfl rfl rfl rfl (by omega) (by omega) (fun h2 => ?_) (fun h2 => ?_)
      · rw [if_neg (by omega)] at hp
        exact x_ret rfl rfl rfl rfl hp
      · rw [if_pos (by omega)] at hp
        exact x_goto rfl rfl (x_ret rfl rfl rfl rfl hp)
  refine xi_ltN c 97 rfl rfl rfl rfl (by omega) (by omega) (fun h1 => low (by omega)) (fun h1 => ?_)
  refine xi_gtN c 122 rfl rfl rfl rfl (by omega) (by omega) (fun h2 => low (by omega)) (fun h2 => ?_)
  rw [tSort, if_pos (by omega)] at hp
  exact x_ret rfl rfl rfl rfl hp
theorem c_wordOf {c : Nat} (hc : c < 256) (hp : post (some (xby (tWo c))) D) : xRuns Γ n hX5_wordOf [xI (nI c)] D post := by
  refine x_runs kX5_wordOf (by decide +kernel) rfl ?_
  refine xi_ltN c 97 rfl rfl rfl rfl (by omega) (by omega) (fun h1 => ?_) (fun h1 => ?_)
  · rw [tWo, if_neg (by omega)] at hp
    exact x_ret rfl rfl rfl rfl hp
  · refine xi_geN c 107 rfl rfl rfl rfl (by omega) (by omega) (fun h2 => ?_) (fun h2 => ?_)
    · rw [tWo, if_neg (by omega)] at hp
      exact x_ret rfl rfl rfl rfl hp
    · rw [tWo, if_pos (by omega)] at hp
      refine x_goto rfl rfl (x_ret rfl rfl rfl rfl ?_)
      have e : nI c - xnum 97 = nI (c - 97) := pk_sub (b := 97) h1
      rw [e]
      exact hp
theorem c_readLetter {pl i : Nat} (h : TXc D tx pl i) (hi : i ≤ tx.length) (hT : tx.length ≤ 200 ∧ ∀ c ∈ tx, c < 256) (hp : ∀ D', TXc D' tx (tF tx i) (min (tF tx i + 1) tx.length) → (∀ a, a ≠ 1 → D' a = D a) → post none D') : xRuns Γ (n + 1) hX5_readLetter [xR 0 5 1] D post := by
  have hL := hT.1
  refine x_runs kX5_readLetter (by decide +kernel) rfl ?_
  refine x_to 8 rfl ?_
  have tail : ∀ (D1 : xM), TXc D1 tx (tF tx i) i → (∀ a, a ≠ 1 → D1 a = D a) → xW Γ (n + 1) hX5_readLetter rX5_readLetter 46 [some (xR 0 5 1)] [] D1 post := by
    intro D1 h1 hs1
    have hf := (tF_le hi).2
    refine x_min rfl rfl rfl ?_
    have e : (if D1 1 1 < D1 1 2 + xnum 1 then D1 1 1 else D1 1 2 + xnum 1) = nI (min (tF tx i + 1) tx.length) := by
      rw [h1.1, h1.2.2.1]
      have e1 : nI (tF tx i) + xnum 1 = nI (tF tx i + 1) := nI_1 _
      rw [e1]
      by_cases q : tx.length < tF tx i + 1
      · rw [if_pos (nI_lt q (by omega)), Nat.min_eq_right (by omega)]
      · rw [if_neg (nI_nlt (by omega) (by omega)), Nat.min_eq_left (by omega)]
    rw [e]
    refine x_vret rfl rfl rfl (hp _ ⟨by rw [xup_o (by omega)]; exact h1.1, rL_out h1.2.1 (xup_ne 2 (by omega)), by rw [xup_o (by omega)]; exact h1.2.2.1, by rw [xup_at]⟩ (fun a ha => by rw [xup_ne a ha]; exact hs1 a ha))
  have loop : ∀ g j (D1 : xM), j + g = tx.length → tSk tx g j = tF tx i → TXc D1 tx j i → (∀ a, a ≠ 1 → D1 a = D a) → xW Γ (n + 1) hX5_readLetter rX5_readLetter 8 [some (xR 0 5 1)] [] D1 post := by
    intro g
    induction g with
    | zero =>
      intro j D1 hj he h1 hs1
      have hj' : j = tx.length := by omega
      refine xi_geN j tx.length rfl rfl h1.2.2.1 h1.1 (by omega) (by omega) (fun _ => ?_) (fun h => absurd h (by omega))
      have he' : j = tF tx i := he
      rw [he'] at h1
      exact tail D1 h1 hs1
    | succ g ih =>
      intro j D1 hj he h1 hs1
      rw [tSk] at he
      have hcj : D1 2 j = nI (tc tx j) := h1.2.1 j (by omega)
      refine xi_geN j tx.length rfl rfl h1.2.2.1 h1.1 (by omega) (by omega) (fun h => absurd h (by omega)) (fun h2 => ?_)
      refine x_aldN j rfl rfl h1.2.2.1 (by omega) rfl ?_
      rw [hcj]
      have hc := tx_lt hT.2 j
      refine xi_neN (tc tx j) 32 rfl rfl rfl rfl (by omega) (by omega) (fun h3 => ?_) (fun h3 => ?_)
      · rw [if_neg h3] at he
        rw [he] at h1
        exact tail D1 h1 hs1
      · rw [if_pos h3] at he
        have e1 : D1 1 2 + xnum 1 = nI (j + 1) := by rw [h1.2.2.1]; exact nI_1 _
        have IH := ih (j + 1) (xup D1 1 2 (nI (j + 1))) (by omega) he ⟨by rw [xup_o (by omega)]; exact h1.1, rL_out h1.2.1 (xup_ne 2 (by omega)), by rw [xup_at], by rw [xup_o (by omega)]; exact h1.2.2.2⟩ (fun a ha => by rw [xup_ne a ha]; exact hs1 a ha)
        rw [← e1] at IH
        exact x_goto rfl rfl IH
  exact loop (tx.length - i) i _ (by omega) rfl ⟨by rw [xup_o (by omega)]; exact h.1, rL_out h.2.1 (xup_ne 2 (by omega)), by rw [xup_at]; exact h.2.2.2, by rw [xup_o (by omega)]; exact h.2.2.2⟩ (fun a ha => xup_ne a ha)
theorem c_isOver {pl be : Nat} (h : TXc D tx pl be) (hl : pl ≤ tx.length) (hL : tx.length ≤ 200) (hp : post (some (if tx.length ≤ pl then 1 else 0)) D) : xRuns Γ n hX5_isOver [xR 0 5 1] D post := by
  refine x_runs kX5_isOver (by decide +kernel) rfl ?_
  refine xi_ltN pl tx.length rfl rfl h.2.2.1 h.1 (by omega) (by omega) (fun h1 => ?_) (fun h1 => ?_)
  · rw [if_neg (by omega)] at hp
    exact x_ret rfl rfl rfl rfl hp
  · rw [if_pos h1] at hp
    exact x_goto rfl rfl (x_ret rfl rfl rfl rfl hp)
theorem tSort_lt (c : Nat) : tSort c ≤ 2 := by
  rw [tSort]
  split
  · omega
  · split <;> omega
theorem c_readToken {pl i : Nat} (h : TXc D tx pl i) (hi : i ≤ tx.length) (hT : tx.length ≤ 200 ∧ ∀ c ∈ tx, c < 256) (hp : ∀ D', TXc D' tx (tF tx i) (tE tx (tF tx i)) → (∀ a, a ≠ 1 → D' a = D a) → post none D') : xRuns Γ (n + 2) hX5_readToken [xR 0 5 1] D post := by
  have hL := hT.1
  have hf := (tF_le hi).2
  refine x_runs kX5_readToken (by decide +kernel) rfl ?_
  refine x_call [] rfl rfl rfl rfl rfl rfl rfl (c_readLetter h hi hT (fun D1 h1 hs1 => ?_))
  refine x_call [] rfl rfl rfl rfl rfl rfl rfl (c_isOver h1 hf hL ?_)
  by_cases q : tx.length ≤ tF tx i
  · rw [if_pos q]
    refine x0_ne rfl rfl (fun _ => ?_) (fun h => absurd h (by decide))
    have e : tE tx (tF tx i) = min (tF tx i + 1) tx.length := by rw [tE, if_neg (by omega), Nat.min_eq_right (by omega)]; omega
    rw [e] at hp
    exact x_vret rfl rfl rfl (hp D1 h1 hs1)
  · rw [if_neg q]
    refine x0_ne rfl rfl (fun h => absurd rfl h) (fun _ => ?_)
    rw [Nat.min_eq_left (by omega)] at h1
    have hcj : D1 2 (tF tx i) = nI (tc tx (tF tx i)) := h1.2.1 _ (by omega)
    have hc := tx_lt hT.2 (tF tx i)
    have hsl := tSort_lt (tc tx (tF tx i))
    refine x_aldN (tF tx i) rfl rfl h1.2.2.1 (by omega) rfl ?_
    rw [hcj]
    refine x_scall [xI (nI (tc tx (tF tx i)))] rfl rfl rfl rfl rfl rfl rfl (c_sortOf hc ?_)
    refine xi_neN (tSort (tc tx (tF tx i))) 2 rfl rfl rfl rfl (by omega) (by omega) (fun h2 => ?_) (fun h2 => ?_)
    · have loop : ∀ g j (D2 : xM), j + g = tx.length → tRu tx (tSort (tc tx (tF tx i))) g j = tE tx (tF tx i) → TXc D2 tx (tF tx i) j → (∀ a, a ≠ 1 → D2 a = D a) → xW Γ (n + 2) hX5_readToken rX5_readToken 28 [some (xR 0 5 1)] [] D2 post := by
        intro g
        induction g with
        | zero =>
          intro j D2 hj he k1 k2
          refine xi_geN j tx.length rfl rfl k1.2.2.2 k1.1 (by omega) (by omega) (fun _ => ?_) (fun h => absurd h (by omega))
          have he' : j = tE tx (tF tx i) := he
          rw [he'] at k1
          exact x_vret rfl rfl rfl (hp D2 k1 k2)
        | succ g ih =>
          intro j D2 hj he k1 k2
          rw [tRu] at he
          have hcj2 : D2 2 j = nI (tc tx j) := k1.2.1 j (by omega)
          have hcf2 : D2 2 (tF tx i) = nI (tc tx (tF tx i)) := k1.2.1 _ (by omega)
          have hc2 := tx_lt hT.2 j
          have hs2 := tSort_lt (tc tx j)
          refine xi_geN j tx.length rfl rfl k1.2.2.2 k1.1 (by omega) (by omega) (fun h => absurd h (by omega)) (fun h3 => ?_)
          refine x_aldN j rfl rfl k1.2.2.2 (by omega) rfl ?_
          rw [hcj2]
          refine x_scall [xI (nI (tc tx j))] rfl rfl rfl rfl rfl rfl rfl (c_sortOf hc2 ?_)
          refine x_aldN (tF tx i) rfl rfl k1.2.2.1 (by omega) rfl ?_
          rw [hcf2]
          refine x_scall [xI (nI (tc tx (tF tx i)))] rfl rfl rfl rfl rfl rfl rfl (c_sortOf hc ?_)
          refine xi_neN (tSort (tc tx j)) (tSort (tc tx (tF tx i))) rfl rfl rfl rfl (by omega) (by omega) (fun h4 => ?_) (fun h4 => ?_)
          · rw [if_neg h4] at he
            rw [he] at k1
            exact x_vret rfl rfl rfl (hp D2 k1 k2)
          · rw [if_pos h4] at he
            have e1 : D2 1 3 + xnum 1 = nI (j + 1) := by rw [k1.2.2.2]; exact nI_1 _
            have IH := ih (j + 1) (xup D2 1 3 (nI (j + 1))) (by omega) he ⟨by rw [xup_o (by omega)]; exact k1.1, rL_out k1.2.1 (xup_ne 2 (by omega)), by rw [xup_o (by omega)]; exact k1.2.2.1, by rw [xup_at]⟩ (fun a ha => by rw [xup_ne a ha]; exact k2 a ha)
            rw [← e1] at IH
            exact x_goto rfl rfl IH
      exact loop (tx.length - (tF tx i + 1)) (tF tx i + 1) D1 (by omega) (by rw [tE, if_pos (by omega), if_neg h2]) h1 hs1
    · have e : tE tx (tF tx i) = tF tx i + 1 := by rw [tE, if_pos (by omega), if_pos h2]
      rw [e] at hp
      exact x_vret rfl rfl rfl (hp D1 h1 hs1)
theorem bp_sub {be pl : Nat} (h : TXc D tx pl be) (hle : pl ≤ be) : D 1 3 - D 1 2 = nI (be - pl) := by rw [h.2.2.1, h.2.2.2]; exact pk_sub hle
theorem c_isSign {pl be sg : Nat} (h : TXc D tx pl be) (hle : pl ≤ be) (hbe : be ≤ tx.length) (hT : tx.length ≤ 200 ∧ ∀ c ∈ tx, c < 256) (hsg : sg < 256) (hp : post (some (if be = pl + 1 ∧ tc tx pl = sg then 1 else 0)) D) : xRuns Γ n hX5_isSign [xR 0 5 1, xI (nI sg)] D post := by
  have hL := hT.1
  refine x_runs kX5_isSign (by decide +kernel) rfl ?_
  refine xi_neN (be - pl) 1 rfl rfl (bp_sub h hle) rfl (by omega) (by omega) (fun h1 => ?_) (fun h1 => ?_)
  · rw [if_neg (by omega)] at hp
    exact x_ret rfl rfl rfl rfl hp
  · have hcj : D 2 pl = nI (tc tx pl) := h.2.1 pl (by omega)
    have hc := tx_lt hT.2 pl
    refine x_aldN pl rfl rfl h.2.2.1 (by omega) rfl ?_
    rw [hcj]
    refine xi_neN (tc tx pl) sg rfl rfl rfl rfl (by omega) (by omega) (fun h2 => ?_) (fun h2 => ?_)
    · rw [if_neg (by omega)] at hp
      exact x_ret rfl rfl rfl rfl hp
    · rw [if_pos (by omega)] at hp
      exact x_goto rfl rfl (x_ret rfl rfl rfl rfl hp)
theorem c_isRow {pl be q : Nat} (h : TXc D tx pl be) (hle : pl ≤ be) (hbe : be ≤ tx.length) (hT : tx.length ≤ 200 ∧ ∀ c ∈ tx, c < 256) (hq : q < 10) (hp : post (some (if tIs tx pl be (tWl.getD q []) then 1 else 0)) D) : xRuns Γ (n + 4) hX5_isRow [xR 0 5 1, xR 5 q 0] D post := by
  have hL := hT.1
  obtain ⟨s1, s2, s3⟩ := sl_all q hq
  have h8 : ∀ q, q < 10 → (tWl.getD q []).length ≤ 8 := by decide
  have h8 := h8 q hq
  refine x_runs kX5_isRow (by decide +kernel) rfl ?_
  refine x_kcall [] rfl rfl rfl rfl rfl rfl rfl (c_strlen hq ?_)
  refine xi_eqN (be - pl) (tWl.getD q []).length rfl rfl (bp_sub h hle) rfl (by omega) (by omega) (fun h1 => ?_) (fun h1 => ?_)
  · refine x_to 20 rfl ?_
    have loop : ∀ g k, k + g = (tWl.getD q []).length → (∀ j, j < k → tc tx (pl + j) = (tWl.getD q []).getD j 0) → xW Γ (n + 4) hX5_isRow rX5_isRow 20 [some (xR 0 5 1), some (xR 5 q 0), some (xI (nI k))] [] D post := by
      intro g
      induction g with
      | zero =>
        intro k hk ha
        refine x_kcall [] rfl rfl rfl rfl rfl rfl rfl (c_strlen hq ?_)
        refine xi_geN k (tWl.getD q []).length rfl rfl rfl rfl (by omega) (by omega) (fun _ => ?_) (fun h => absurd h (by omega))
        have e : tIs tx pl be (tWl.getD q []) = true := decide_eq_true ⟨h1, fun j hj => ha j (by omega)⟩
        rw [e] at hp
        exact x_ret rfl rfl rfl rfl hp
      | succ g ih =>
        intro k hk ha
        have hcj : D 2 (pl + k) = nI (tc tx (pl + k)) := h.2.1 _ (by omega)
        have hc := tx_lt hT.2 (pl + k)
        have hw := (sb_all q hq k (by omega)).2
        refine x_kcall [] rfl rfl rfl rfl rfl rfl rfl (c_strlen hq ?_)
        refine xi_geN k (tWl.getD q []).length rfl rfl rfl rfl (by omega) (by omega) (fun h => absurd h (by omega)) (fun h2 => ?_)
        refine x_aldN (pl + k) rfl rfl (by rw [h.2.2.1]; exact nI_add _ _) (by omega) rfl ?_
        rw [hcj]
        refine x_kcall [xI (nI k)] rfl rfl rfl rfl rfl rfl rfl (c_charAt hq h2 ?_)
        refine xi_eqN (tc tx (pl + k)) ((tWl.getD q []).getD k 0) rfl rfl rfl rfl (by omega) (by omega) (fun h3 => ?_) (fun h3 => ?_)
        · have IH := ih (k + 1) (by omega) (fun j hj => by
            by_cases e : j = k
            · subst e; exact h3
            · exact ha j (by omega))
          rw [← nI_1] at IH
          exact x_goto rfl rfl IH
        · have e : tIs tx pl be (tWl.getD q []) = false := decide_eq_false (fun z => h3 (z.2 k h2))
          rw [e] at hp
          exact x_ret rfl rfl rfl rfl hp
    exact loop (tWl.getD q []).length 0 (by omega) (fun j hj => absurd hj (by omega))
  · have e : tIs tx pl be (tWl.getD q []) = false := decide_eq_false (fun z => h1 z.1)
    rw [e] at hp
    exact x_ret rfl rfl rfl rfl hp
theorem c_numberBelow {pl be bound : Nat} (h : TXc D tx pl be) (hle : pl ≤ be) (hbe : be ≤ tx.length) (hT : tx.length ≤ 200 ∧ ∀ c ∈ tx, c < 256) (hb : bound < 1000) (hp : post (some (xby (tNum tx pl be bound))) D) : xRuns Γ (n + 1) hX5_numberBelow [xR 0 5 1, xI (nI bound)] D post := by
  have hL := hT.1
  refine x_runs kX5_numberBelow (by decide +kernel) rfl ?_
  refine xi_neN (be - pl) 1 rfl rfl (bp_sub h hle) rfl (by omega) (by omega) (fun h1 => ?_) (fun h1 => ?_)
  · rw [tNum, if_neg (by omega)] at hp
    exact x_ret rfl rfl rfl rfl hp
  · have hcj : D 2 pl = nI (tc tx pl) := h.2.1 pl (by omega)
    have hc := tx_lt hT.2 pl
    have hs2 := tSort_lt (tc tx pl)
    refine x_aldN pl rfl rfl h.2.2.1 (by omega) rfl ?_
    rw [hcj]
    refine x_scall [xI (nI (tc tx pl))] rfl rfl rfl rfl rfl rfl rfl (c_sortOf hc ?_)
    refine xi_eqN (tSort (tc tx pl)) 1 rfl rfl rfl rfl (by omega) (by omega) (fun h2 => ?_) (fun h2 => ?_)
    · have hd : 48 ≤ tc tx pl ∧ tc tx pl ≤ 57 := by
        rw [tSort] at h2
        split at h2
        · cases h2
        · split at h2
          · assumption
          · cases h2
      refine x_aldN pl rfl rfl h.2.2.1 (by omega) rfl ?_
      rw [hcj]
      refine x_to 44 rfl ?_
      have e : nI (tc tx pl) - xnum 48 = nI (tc tx pl - 48) := pk_sub (b := 48) hd.1
      rw [e]
      refine xi_geN (tc tx pl - 48) bound rfl rfl rfl rfl (by omega) (by omega) (fun h3 => ?_) (fun h3 => ?_)
      · rw [tNum, if_neg (by omega)] at hp
        exact x_ret rfl rfl rfl rfl hp
      · rw [tNum, if_pos (by omega)] at hp
        exact x_goto rfl rfl (x_ret rfl rfl rfl rfl hp)
    · rw [tNum, if_neg (by omega)] at hp
      exact x_ret rfl rfl rfl rfl hp
theorem c_oneWord {pl be : Nat} (h : TXc D tx pl be) (hle : pl ≤ be) (hbe : be ≤ tx.length) (hT : tx.length ≤ 200 ∧ ∀ c ∈ tx, c < 256) (hp : post (some (xby (tOne tx pl be))) D) : xRuns Γ (n + 1) hX5_oneWord [xR 0 5 1] D post := by
  have hL := hT.1
  refine x_runs kX5_oneWord (by decide +kernel) rfl ?_
  refine xi_neN (be - pl) 1 rfl rfl (bp_sub h hle) rfl (by omega) (by omega) (fun h1 => ?_) (fun h1 => ?_)
  · rw [tOne, if_neg (by omega)] at hp
    exact x_ret rfl rfl rfl rfl hp
  · rw [tOne, if_pos (by omega)] at hp
    have hcj : D 2 pl = nI (tc tx pl) := h.2.1 pl (by omega)
    refine x_aldN pl rfl rfl h.2.2.1 (by omega) rfl ?_
    rw [hcj]
    refine x_scall [xI (nI (tc tx pl))] rfl rfl rfl rfl rfl rfl rfl (c_wordOf (tx_lt hT.2 pl) ?_)
    exact x_goto rfl rfl (x_ret rfl rfl rfl rfl hp)
theorem lo_le {lo w : Nat} (hw : w < 100) (hl : lo ≤ 100) : nI lo - xnum 1 < nI w ↔ lo ≤ w := by
  rw [Int32.lt_iff_toInt_lt, nI_toInt (by omega)]
  have e : (nI lo - xnum 1).toInt = (lo : Int) - 1 := pk_sub_toInt (b := 1) (by omega) (by decide)
  rw [e]
  omega
theorem c_risingWords {pl be : Nat} (h : TXc D tx pl be) (hle : pl ≤ be) (hbe : be ≤ tx.length) (hT : tx.length ≤ 200 ∧ ∀ c ∈ tx, c < 256) (hp : post (some (nI (tWords tx pl be))) D) : xRuns Γ (n + 1) hX5_risingWords [xR 0 5 1] D post := by
  have hL := hT.1
  refine x_runs kX5_risingWords (by decide +kernel) rfl ?_
  refine x_to 9 rfl ?_
  rw [h.2.2.1]
  have loop : ∀ g i lo set, i + g = be → lo ≤ 10 → tWords tx pl be = tRi tx g i lo set → xW Γ (n + 1) hX5_risingWords rX5_risingWords 9 [some (xR 0 5 1), some (xI (nI set)), some (xI (nI lo - xnum 1)), some (xI (nI i)), none] [] D post := by
    intro g
    induction g with
    | zero =>
      intro i lo set hi hlo he
      refine xi_geN i be rfl rfl rfl h.2.2.2 (by omega) (by omega) (fun _ => ?_) (fun h => absurd h (by omega))
      rw [he] at hp
      exact x_ret rfl rfl rfl rfl hp
    | succ g ih =>
      intro i lo set hi hlo he
      rw [tRi] at he
      have hcj : D 2 i = nI (tc tx i) := h.2.1 i (by omega)
      refine xi_geN i be rfl rfl rfl h.2.2.2 (by omega) (by omega) (fun h => absurd h (by omega)) (fun h2 => ?_)
      refine x_aldN i rfl rfl rfl (by omega) rfl ?_
      rw [hcj]
      refine x_scall [xI (nI (tc tx i))] rfl rfl rfl rfl rfl rfl rfl (c_wordOf (tx_lt hT.2 i) ?_)
      rcases hw : tWo (tc tx i) with _ | w
      · rw [hw] at he
        rw [he] at hp
        refine xi_gt rfl rfl (fun h3 => ?_) (fun _ => ?_)
        · have h3 := Int32.lt_iff_toInt_lt.mp h3
          have e : (nI lo - xnum 1).toInt = (lo : Int) - 1 := pk_sub_toInt (b := 1) (by omega) (by decide)
          have e2 : (xby none).toInt = -1 := rfl
          omega
        · exact x_ret rfl rfl rfl rfl hp
      · rw [hw] at he
        dsimp only at he
        have hwl := (tWo_lt hw).1
        have key := lo_le (lo := lo) (w := w) (by omega) (by omega)
        refine xi_gt rfl rfl (fun h3 => ?_) (fun h3 => ?_)
        · rw [if_pos (key.mp h3)] at he
          refine x_to 46 rfl ?_
          have e2 : nI set ||| (xnum 1 <<< (xby (some w) &&& 31)) = nI (set ||| 2 ^ w) := by
            rw [← xb_or, ← xb_sh1 (by omega)]
            rfl
          rw [e2]
          have IH := ih (i + 1) (w + 1) (set ||| 2 ^ w) (by omega) (by omega) he
          have e3 : nI (w + 1) - xnum 1 = nI w := nI_pred w
          rw [e3, ← nI_1] at IH
          refine x_drop 4 ?_
          exact x_goto rfl rfl IH
        · rw [if_neg (fun z => h3 (key.mpr z))] at he
          rw [he] at hp
          exact x_ret rfl rfl rfl rfl hp
  exact loop (be - pl) pl 0 0 (by omega) (by omega) rfl
end RC
