/-! ===== the reference's reader: tokens ===== -/
def tM (D : xM) (tx : List Nat) (f e : Nat) : Prop := D 111 4 = nI tx.length ∧ rL D 114 tx ∧ D 111 16 = nI f ∧ D 111 17 = nI e
def fT (D D' : xM) : Prop := ∀ a j, ¬ (a = 111 ∧ (j = 16 ∨ j = 17)) → D' a j = D a j
theorem fT.rf {D : xM} : fT D D := fun _ _ _ => rfl
theorem fT.tr {D D1 D2 : xM} (h : fT D D1) (h2 : fT D1 D2) : fT D D2 := fun a j q => (h2 a j q).trans (h a j q)
theorem tM_at {D : xM} {tx : List Nat} {f e : Nat} (h : tM D tx f e) {j : Nat} (hj : j < tx.length) : D 114 j = nI (tc tx j) := h.2.1 j hj
section MR
variable {Γ : xG} {n : Nat} {D : xM} {post : Option Int32 → xM → Prop} {tx : List Nat}
theorem gI_sort {c : Nat} (hc : c < 256) : ((gI (nI c) 97 122).isSome = true ↔ tSort c = 0) ∧ ((gI (nI c) 48 57).isSome = true ↔ tSort c = 1) := by
  rw [gI, gI, nI_toInt (by omega), tSort]
  refine ⟨?_, ?_⟩
  · by_cases h : 97 ≤ c ∧ c ≤ 122
    · rw [if_pos h, if_pos (by omega)]; exact ⟨fun _ => rfl, fun _ => rfl⟩
    · rw [if_neg h, if_neg (by omega)]
      refine ⟨fun z => (by cases z), fun z => ?_⟩
      split at z <;> cases z
  · by_cases h : 97 ≤ c ∧ c ≤ 122
    · rw [if_pos h, if_neg (by omega)]; exact ⟨fun z => (by cases z), fun z => (by cases z)⟩
    · rw [if_neg h]
      by_cases h2 : 48 ≤ c ∧ c ≤ 57
      · rw [if_pos h2, if_pos (by omega)]; exact ⟨fun _ => rfl, fun _ => rfl⟩
      · rw [if_neg h2, if_neg (by omega)]; exact ⟨fun z => (by cases z), fun z => (by cases z)⟩
theorem c_isLetter {c : Nat} (hc : c < 256) (hp : post (some (if tSort c = 0 then 1 else 0)) D) : xRuns Γ (n + 1) hX9_isLetter [xI (nI c)] D post := by
  refine x_runs kX9_isLetter (by decide +kernel) rfl ?_
  refine x_scall [xL (nI c).toInt64, xL (Int64.ofNat 97), xL (Int64.ofNat 122)] rfl rfl rfl rfl rfl rfl rfl (c_inI (lo := 97) (hi := 122) (by decide) (by decide) ?_)
  have k := (gI_sort hc).1
  by_cases h : tSort c = 0
  · rw [if_pos h] at hp
    rw [k.mpr h]
    exact x_ret rfl rfl rfl rfl hp
  · rw [if_neg h] at hp
    rw [if_neg (fun z => h (k.mp z))]
    exact x_ret rfl rfl rfl rfl hp
theorem c_isDigit {c : Nat} (hc : c < 256) (hp : post (some (if tSort c = 1 then 1 else 0)) D) : xRuns Γ (n + 1) hX9_isDigit [xI (nI c)] D post := by
  refine x_runs kX9_isDigit (by decide +kernel) rfl ?_
  refine x_scall [xL (nI c).toInt64, xL (Int64.ofNat 48), xL (Int64.ofNat 57)] rfl rfl rfl rfl rfl rfl rfl (c_inI (lo := 48) (hi := 57) (by decide) (by decide) ?_)
  have k := (gI_sort hc).2
  by_cases h : tSort c = 1
  · rw [if_pos h] at hp
    rw [k.mpr h]
    exact x_ret rfl rfl rfl rfl hp
  · rw [if_neg h] at hp
    rw [if_neg (fun z => h (k.mp z))]
    exact x_ret rfl rfl rfl rfl hp
theorem tM_f {f e k : Nat} (h : tM D tx f e) : tM (xup D 111 16 (nI k)) tx k e := ⟨by rw [xup_o (by omega)]; exact h.1, rL_out h.2.1 (xup_ne 114 (by omega)), by rw [xup_at], by rw [xup_o (by omega)]; exact h.2.2.2⟩
theorem tM_e {f e k : Nat} (h : tM D tx f e) : tM (xup D 111 17 (nI k)) tx f k := ⟨by rw [xup_o (by omega)]; exact h.1, rL_out h.2.1 (xup_ne 114 (by omega)), by rw [xup_o (by omega)]; exact h.2.2.1, by rw [xup_at]⟩
theorem fT_u {D1 : xM} {j : Nat} {v : Int32} (h : fT D D1) (hj : j = 16 ∨ j = 17) : fT D (xup D1 111 j v) := fun a i q => by rw [xup_o (by omega)]; exact h a i q
theorem c_nextToken0 {i : Nat} (h : D 111 4 = nI tx.length ∧ rL D 114 tx ∧ D 111 17 = nI i) (hi : i ≤ tx.length) (hT : tx.length ≤ 200 ∧ ∀ c ∈ tx, c < 256) (hp : ∀ D', tM D' tx (tF tx i) (tE tx (tF tx i)) → fT D D' → post none D') : xRuns Γ (n + 2) hX9_nextToken [xR 0 9 111] D post := by
  have hL := hT.1
  have hf := (tF_le hi).2
  refine x_runs kX9_nextToken (by decide +kernel) rfl ?_
  refine x_to 8 rfl ?_
  rw [h.2.2]
  -- the letters or digits behind the first one
  have runs0 : ∀ g j (D2 : xM), j + g = tx.length → tRu tx 0 g j = tE tx (tF tx i) → tM D2 tx (tF tx i) j → fT D D2 → xW Γ (n + 2) hX9_nextToken rX9_nextToken 100 [some (xR 0 9 111)] [] D2 post := by
    intro g
    induction g with
    | zero =>
      intro j D2 hj he k1 k2
      refine xi_geN j tx.length rfl rfl k1.2.2.2 k1.1 (by omega) (by omega) (fun _ => ?_) (fun h => absurd h (by omega))
      have he' : j = tE tx (tF tx i) := he
      rw [he'] at k1
      exact x_vret rfl rfl rfl (hp D2 k1 k2)
    | succ g ih =>
      intro j D2 hj he k1 k2
      rw [tRu] at he
      refine xi_geN j tx.length rfl rfl k1.2.2.2 k1.1 (by omega) (by omega) (fun h => absurd h (by omega)) (fun h3 => ?_)
      refine x_aldN j rfl rfl k1.2.2.2 (by omega) rfl ?_
      rw [tM_at k1 h3]
      refine x_scall [xI (nI (tc tx j))] rfl rfl rfl rfl rfl rfl rfl (c_isLetter (tx_lt hT.2 j) ?_)
      by_cases h4 : tSort (tc tx j) = 0
      · rw [if_pos h4] at he ⊢
        refine x0_eq rfl rfl (fun q => absurd q (by decide)) (fun _ => ?_)
        have e1 : D2 111 17 + xnum 1 = nI (j + 1) := by rw [k1.2.2.2]; exact nI_1 _
        have IH := ih (j + 1) _ (by omega) he (tM_e (k := j + 1) k1) (fT_u k2 (Or.inr rfl))
        rw [← e1] at IH
        exact x_goto rfl rfl IH
      · rw [if_neg h4] at he ⊢
        rw [he] at k1
        refine x0_eq rfl rfl (fun _ => ?_) (fun q => absurd rfl q)
        exact x_vret rfl rfl rfl (hp D2 k1 k2)
  have runs1 : ∀ g j (D2 : xM), j + g = tx.length → tRu tx 1 g j = tE tx (tF tx i) → tM D2 tx (tF tx i) j → fT D D2 → xW Γ (n + 2) hX9_nextToken rX9_nextToken 165 [some (xR 0 9 111)] [] D2 post := by
    intro g
    induction g with
    | zero =>
      intro j D2 hj he k1 k2
      refine xi_geN j tx.length rfl rfl k1.2.2.2 k1.1 (by omega) (by omega) (fun _ => ?_) (fun h => absurd h (by omega))
      have he' : j = tE tx (tF tx i) := he
      rw [he'] at k1
      exact x_vret rfl rfl rfl (hp D2 k1 k2)
    | succ g ih =>
      intro j D2 hj he k1 k2
      rw [tRu] at he
      refine xi_geN j tx.length rfl rfl k1.2.2.2 k1.1 (by omega) (by omega) (fun h => absurd h (by omega)) (fun h3 => ?_)
      refine x_aldN j rfl rfl k1.2.2.2 (by omega) rfl ?_
      rw [tM_at k1 h3]
      refine x_scall [xI (nI (tc tx j))] rfl rfl rfl rfl rfl rfl rfl (c_isDigit (tx_lt hT.2 j) ?_)
      by_cases h4 : tSort (tc tx j) = 1
      · rw [if_pos h4] at he ⊢
        refine x0_eq rfl rfl (fun q => absurd q (by decide)) (fun _ => ?_)
        have e1 : D2 111 17 + xnum 1 = nI (j + 1) := by rw [k1.2.2.2]; exact nI_1 _
        have IH := ih (j + 1) _ (by omega) he (tM_e (k := j + 1) k1) (fT_u k2 (Or.inr rfl))
        rw [← e1] at IH
        exact x_goto rfl rfl IH
      · rw [if_neg h4] at he ⊢
        rw [he] at k1
        refine x0_eq rfl rfl (fun _ => ?_) (fun q => absurd rfl q)
        exact x_vret rfl rfl rfl (hp D2 k1 k2)
  have tail : ∀ (D1 : xM), tM D1 tx (tF tx i) i → fT D D1 → xW Γ (n + 2) hX9_nextToken rX9_nextToken 46 [some (xR 0 9 111)] [] D1 post := by
    intro D1 h1 hs1
    refine xi_geN (tF tx i) tx.length rfl rfl h1.2.2.1 h1.1 (by omega) (by omega) (fun q => ?_) (fun q => ?_)
    · refine x_to 74 rfl ?_
      rw [h1.2.2.1]
      have h2 := tM_e (k := tF tx i) h1
      have e : tE tx (tF tx i) = tF tx i := by rw [tE, if_neg (by omega)]
      rw [e] at hp
      refine xi_geN (tF tx i) tx.length rfl rfl h2.2.2.1 h2.1 (by omega) (by omega) (fun _ => ?_) (fun h => absurd h (by omega))
      refine xi_geN (tF tx i) tx.length rfl rfl h2.2.2.1 h2.1 (by omega) (by omega) (fun _ => ?_) (fun h => absurd h (by omega))
      exact x_vret rfl rfl rfl (hp _ h2 (fT_u hs1 (Or.inr rfl)))
    · refine x_goto rfl rfl ?_
      refine x_to 74 rfl ?_
      have e1 : D1 111 16 + xnum 1 = nI (tF tx i + 1) := by rw [h1.2.2.1]; exact nI_1 _
      rw [e1]
      have h2 := tM_e (k := tF tx i + 1) h1
      have hs2 := fT_u (v := nI (tF tx i + 1)) hs1 (Or.inr rfl : 17 = 16 ∨ 17 = 17)
      have hc := tx_lt hT.2 (tF tx i)
      refine xi_geN (tF tx i) tx.length rfl rfl h2.2.2.1 h2.1 (by omega) (by omega) (fun h => absurd h (by omega)) (fun _ => ?_)
      refine x_aldN (tF tx i) rfl rfl h2.2.2.1 (by omega) rfl ?_
      rw [tM_at h2 q]
      refine x_scall [xI (nI (tc tx (tF tx i)))] rfl rfl rfl rfl rfl rfl rfl (c_isLetter hc ?_)
      by_cases h4 : tSort (tc tx (tF tx i)) = 0
      · rw [if_pos h4]
        refine x0_eq rfl rfl (fun q => absurd q (by decide)) (fun _ => ?_)
        exact runs0 (tx.length - (tF tx i + 1)) (tF tx i + 1) _ (by omega) (by rw [tE, if_pos q, if_neg (by omega), h4]) h2 hs2
      · rw [if_neg h4]
        refine x0_eq rfl rfl (fun _ => ?_) (fun q => absurd rfl q)
        refine xi_geN (tF tx i) tx.length rfl rfl h2.2.2.1 h2.1 (by omega) (by omega) (fun h => absurd h (by omega)) (fun _ => ?_)
        refine x_aldN (tF tx i) rfl rfl h2.2.2.1 (by omega) rfl ?_
        rw [tM_at h2 q]
        refine x_scall [xI (nI (tc tx (tF tx i)))] rfl rfl rfl rfl rfl rfl rfl (c_isDigit hc ?_)
        by_cases h5 : tSort (tc tx (tF tx i)) = 1
        · rw [if_pos h5]
          refine x0_eq rfl rfl (fun q => absurd q (by decide)) (fun _ => ?_)
          exact runs1 (tx.length - (tF tx i + 1)) (tF tx i + 1) _ (by omega) (by rw [tE, if_pos q, if_neg (by omega), h5]) h2 hs2
        · rw [if_neg h5]
          have h6 : tSort (tc tx (tF tx i)) = 2 := by have := tSort_lt (tc tx (tF tx i)); omega
          have e : tE tx (tF tx i) = tF tx i + 1 := by rw [tE, if_pos q, if_pos h6]
          rw [e] at hp
          refine x0_eq rfl rfl (fun _ => ?_) (fun q => absurd rfl q)
          exact x_vret rfl rfl rfl (hp _ h2 hs2)
  have loop : ∀ g j (D1 : xM), j + g = tx.length → tSk tx g j = tF tx i → tM D1 tx j i → fT D D1 → xW Γ (n + 2) hX9_nextToken rX9_nextToken 8 [some (xR 0 9 111)] [] D1 post := by
    intro g
    induction g with
    | zero =>
      intro j D1 hj he h1 hs1
      refine xi_geN j tx.length rfl rfl h1.2.2.1 h1.1 (by omega) (by omega) (fun _ => ?_) (fun h => absurd h (by omega))
      have he' : j = tF tx i := he
      rw [he'] at h1
      exact tail D1 h1 hs1
    | succ g ih =>
      intro j D1 hj he h1 hs1
      rw [tSk] at he
      refine xi_geN j tx.length rfl rfl h1.2.2.1 h1.1 (by omega) (by omega) (fun h => absurd h (by omega)) (fun h2 => ?_)
      refine x_aldN j rfl rfl h1.2.2.1 (by omega) rfl ?_
      rw [tM_at h1 h2]
      have hc := tx_lt hT.2 j
      refine xi_neN (tc tx j) 32 rfl rfl rfl rfl (by omega) (by omega) (fun h3 => ?_) (fun h3 => ?_)
      · rw [if_neg h3] at he
        rw [he] at h1
        exact tail D1 h1 hs1
      · rw [if_pos h3] at he
        have e1 : D1 111 16 + xnum 1 = nI (j + 1) := by rw [h1.2.2.1]; exact nI_1 _
        have IH := ih (j + 1) _ (by omega) he (tM_f (k := j + 1) h1) (fT_u hs1 (Or.inl rfl))
        rw [← e1] at IH
        exact x_goto rfl rfl IH
  exact loop (tx.length - i) i _ (by omega) rfl ⟨by rw [xup_o (by omega)]; exact h.1, rL_out h.2.1 (xup_ne 114 (by omega)), by rw [xup_at], by rw [xup_o (by omega)]; exact h.2.2⟩ (fT_u fT.rf (Or.inl rfl))
theorem c_nextToken {f0 i : Nat} (h : tM D tx f0 i) (hi : i ≤ tx.length) (hT : tx.length ≤ 200 ∧ ∀ c ∈ tx, c < 256) (hp : ∀ D', tM D' tx (tF tx i) (tE tx (tF tx i)) → fT D D' → post none D') : xRuns Γ (n + 2) hX9_nextToken [xR 0 9 111] D post := c_nextToken0 ⟨h.1, h.2.1, h.2.2.2⟩ hi hT hp
theorem be_sub {f e : Nat} (h : tM D tx f e) (hle : f ≤ e) : D 111 17 - D 111 16 = nI (e - f) := by rw [h.2.2.1, h.2.2.2]; exact pk_sub hle
theorem c_isWord {f e q : Nat} (h : tM D tx f e) (hw : ∀ q, q < 10 → rL D (tWc.getD q 0) (tWl.getD q [])) (hle : f ≤ e) (hbe : e ≤ tx.length) (hT : tx.length ≤ 200 ∧ ∀ c ∈ tx, c < 256) (hq : q < 10) (hp : post (some (if tIs tx f e (tWl.getD q []) then 1 else 0)) D) : xRuns Γ n hX9_isWord [xR 0 9 111, xR 1 (tWl.getD q []).length (tWc.getD q 0)] D post := by
  have hL := hT.1
  have h8 : ∀ q, q < 10 → (tWl.getD q []).length ≤ 8 := by decide
  have h8 := h8 q hq
  refine x_runs kX9_isWord (by decide +kernel) rfl ?_
  have loop : ∀ g k (is : Bool), k + g = (tWl.getD q []).length → (is = true → e - f = (tWl.getD q []).length ∧ ∀ j, j < k → tc tx (f + j) = (tWl.getD q []).getD j 0) → (is = false → tIs tx f e (tWl.getD q []) = false) → xW Γ n hX9_isWord rX9_isWord 22 [some (xR 0 9 111), some (xR 1 (tWl.getD q []).length (tWc.getD q 0)), some (xI (if is then 1 else 0)), some (xI (nI k))] [] D post := by
    intro g
    induction g with
    | zero =>
      intro k is hk h1 h2
      refine xi_geN k (tWl.getD q []).length rfl rfl rfl rfl (by omega) (by omega) (fun _ => ?_) (fun h => absurd h (by omega))
      cases is with
      | true =>
        have e1 : tIs tx f e (tWl.getD q []) = true := decide_eq_true ⟨(h1 rfl).1, fun j hj => (h1 rfl).2 j (by omega)⟩
        rw [e1] at hp
        exact x_ret rfl rfl rfl rfl hp
      | false =>
        rw [h2 rfl] at hp
        exact x_ret rfl rfl rfl rfl hp
    | succ g ih =>
      intro k is hk h1 h2
      refine xi_geN k (tWl.getD q []).length rfl rfl rfl rfl (by omega) (by omega) (fun h => absurd h (by omega)) (fun h3 => ?_)
      cases is with
      | false =>
        rw [h2 rfl] at hp
        refine x0_eq rfl rfl (fun _ => ?_) (fun q => absurd rfl q)
        exact x_ret rfl rfl rfl rfl hp
      | true =>
        obtain ⟨h4, h5⟩ := h1 rfl
        have hc := tx_lt hT.2 (f + k)
        have hwl := (sb_all q hq k (by omega)).2
        refine x0_eq rfl rfl (fun q => absurd q (by decide)) (fun _ => ?_)
        refine x_aldN (f + k) rfl rfl (by rw [h.2.2.1]; exact nI_add _ _) (by omega) rfl ?_
        rw [tM_at h (by omega)]
        refine x_aldN k rfl rfl rfl h3 (by
          have : ∀ q, q < 10 → Nat.ble (tWl.getD q []).length 2000000 = true := by decide
          exact this q hq) ?_
        rw [hw q hq k h3]
        refine xi_neN (tc tx (f + k)) ((tWl.getD q []).getD k 0) rfl rfl rfl rfl (by omega) (by omega) (fun h6 => ?_) (fun h6 => ?_)
        · have IH := ih (k + 1) false (by omega) (fun z => by cases z) (fun _ => decide_eq_false (fun z => h6 (z.2 k h3)))
          rw [← nI_1] at IH
          exact x_goto rfl rfl IH
        · have IH := ih (k + 1) true (by omega) (fun _ => ⟨h4, fun j hj => by
            by_cases e : j = k
            · subst e; exact h6
            · exact h5 j (by omega)⟩) (fun z => by cases z)
          rw [← nI_1] at IH
          exact x_goto rfl rfl (x_goto rfl rfl IH)
  refine xi_neN (e - f) (tWl.getD q []).length rfl rfl (be_sub h hle) rfl (by omega) (by omega) (fun h1 => ?_) (fun h1 => ?_)
  · refine x_to 22 rfl ?_
    exact loop (tWl.getD q []).length 0 false (by omega) (fun z => by cases z) (fun _ => decide_eq_false (fun z => h1 z.1))
  · refine x_goto rfl rfl ?_
    refine x_to 22 rfl ?_
    exact loop (tWl.getD q []).length 0 true (by omega) (fun _ => ⟨h1, fun j hj => absurd hj (by omega)⟩) (fun z => by cases z)
theorem dig {c : Nat} (h : tSort c = 1) : 48 ≤ c ∧ c ≤ 57 := by
  rw [tSort] at h
  split at h
  · cases h
  · split at h
    · assumption
    · cases h
theorem c_numberHere {f e bound : Nat} (h : tM D tx f e) (hle : f ≤ e) (hbe : e ≤ tx.length) (hef : f < tx.length → f < e) (hT : tx.length ≤ 200 ∧ ∀ c ∈ tx, c < 256) (hb : bound < 1000) (hp : post (some (xby (tNum tx f e bound))) D) : xRuns Γ (n + 2) hX9_numberHere [xR 0 9 111, xI (nI bound)] D post := by
  have hL := hT.1
  refine x_runs kX9_numberHere (by decide +kernel) rfl ?_
  have no : tNum tx f e bound = none → xW Γ (n + 2) hX9_numberHere rX9_numberHere 59 [some (xR 0 9 111), some (xI (nI bound)), none] [] D post := by
    intro hn
    rw [hn] at hp
    refine x0_eq rfl rfl (fun _ => ?_) (fun q => absurd rfl q)
    exact x_ret rfl rfl rfl rfl hp
  refine xi_geN f tx.length rfl rfl h.2.2.1 h.1 (by omega) (by omega) (fun h1 => no (by rw [tNum, if_neg (by omega)])) (fun h1 => ?_)
  have hc := tx_lt hT.2 f
  refine x_aldN f rfl rfl h.2.2.1 (by omega) rfl ?_
  rw [tM_at h h1]
  refine x_scall [xI (nI (tc tx f))] rfl rfl rfl rfl rfl rfl rfl (c_isDigit hc ?_)
  by_cases h2 : tSort (tc tx f) = 1
  · rw [if_pos h2]
    have hd := dig h2
    refine x0_eq rfl rfl (fun q => absurd q (by decide)) (fun _ => ?_)
    refine xi_neN (e - f) 1 rfl rfl (be_sub h hle) rfl (by omega) (by omega) (fun h3 => no (by rw [tNum, if_neg (by omega)])) (fun h3 => ?_)
    refine x_aldN f rfl rfl h.2.2.1 (by omega) rfl ?_
    rw [tM_at h h1]
    have e1 : nI (tc tx f) - xnum 48 = nI (tc tx f - 48) := pk_sub (b := 48) hd.1
    refine xi_geN (tc tx f - 48) bound rfl rfl e1 rfl (by omega) (by omega) (fun h4 => no (by rw [tNum, if_neg (by omega)])) (fun h4 => ?_)
    refine x_goto rfl rfl ?_
    refine x0_eq rfl rfl (fun q => absurd q (by decide)) (fun _ => ?_)
    refine x_aldN f rfl rfl h.2.2.1 (by omega) rfl ?_
    rw [tM_at h h1]
    refine x_goto rfl rfl (x_ret rfl rfl rfl rfl ?_)
    rw [e1]
    rw [tNum, if_pos (by omega)] at hp
    exact hp
  · rw [if_neg h2]
    refine x0_eq rfl rfl (fun _ => no (by rw [tNum, if_neg (by omega)])) (fun q => absurd rfl q)
theorem c_number {f e bound : Nat} (h : tM D tx f e) (hle : f ≤ e) (hbe : e ≤ tx.length) (hef : f < tx.length → f < e) (hT : tx.length ≤ 200 ∧ ∀ c ∈ tx, c < 256) (hb : bound < 1000) (hp : match tNum tx f e bound with
    | none => post (some (-1)) D
    | some v => ∀ D', tM D' tx (tF tx e) (tE tx (tF tx e)) → fT D D' → post (some (nI v)) D') : xRuns Γ (n + 3) hX9_number [xR 0 9 111, xI (nI bound)] D post := by
  refine x_runs kX9_number (by decide +kernel) rfl ?_
  refine x_call [xI (nI bound)] rfl rfl rfl rfl rfl rfl rfl (c_numberHere h hle hbe hef hT hb ?_)
  rcases hv : tNum tx f e bound with _ | v
  · rw [hv] at hp
    refine xi_eq rfl rfl (fun _ => ?_) (fun q => absurd rfl q)
    exact x_ret rfl rfl rfl rfl hp
  · rw [hv] at hp
    have := (tNum_lt hv).1
    refine xi_eq rfl rfl (fun q => absurd q (nI_nm1 (by omega))) (fun _ => ?_)
    refine x_call [] rfl rfl rfl rfl rfl rfl rfl (c_nextToken h hbe hT (fun D1 k1 k2 => ?_))
    exact x_ret rfl rfl rfl rfl (hp D1 k1 k2)
/-- what words answers -/
def tWm (tx : List Nat) (f e most : Nat) : Nat := if f < tx.length ∧ tSort (tc tx f) = 0 ∧ e - f ≤ most then tWords tx f e else 0
theorem tRi_ne (tx : List Nat) : ∀ g i lo set, set ≠ 0 → tRi tx g i lo set ≠ 0 ∨ tRi tx g i lo set = 0 := fun g i lo set _ => by omega
theorem c_words {f e most : Nat} (h : tM D tx f e) (hle : f ≤ e) (hbe : e ≤ tx.length) (hef : f < tx.length → f < e) (hT : tx.length ≤ 200 ∧ ∀ c ∈ tx, c < 256) (hm : most < 1000) (hp0 : tWm tx f e most = 0 → post (some 0) D) (hp : tWm tx f e most ≠ 0 → ∀ D', tM D' tx (tF tx e) (tE tx (tF tx e)) → fT D D' → post (some (nI (tWm tx f e most))) D') : xRuns Γ (n + 3) hX9_words [xR 0 9 111, xI (nI most)] D post := by
  have hL := hT.1
  refine x_runs kX9_words (by decide +kernel) rfl ?_
  have no : tWm tx f e most = 0 → ∀ (s l k : Option xV), xW Γ (n + 3) hX9_words rX9_words 138 [some (xR 0 9 111), some (xI (nI most)), s, some (xI 0), l, k] [] D post := by
    intro hn s l k
    refine x0_eq rfl rfl (fun _ => ?_) (fun q => absurd rfl q)
    refine x0_eq rfl rfl (fun _ => ?_) (fun q => absurd rfl q)
    exact x_ret rfl rfl rfl rfl (hp0 hn)
  have off : tWm tx f e most = 0 → ∀ (s l : Option xV) (k : Int32), xW Γ (n + 3) hX9_words rX9_words 57 [some (xR 0 9 111), some (xI (nI most)), s, some (xI 0), l, some (xI k)] [] D post := by
    intro hn s l k
    refine xi_ge rfl rfl (fun _ => no hn _ _ _) (fun _ => ?_)
    exact x0_eq rfl rfl (fun _ => no hn _ _ _) (fun q => absurd rfl q)
  have fail : tWm tx f e most = 0 → xW Γ (n + 3) hX9_words rX9_words 45 [some (xR 0 9 111), some (xI (nI most)), some (xI (xnum 0)), none, none, none] [] D post := by
    intro hn
    refine x_to 57 rfl ?_
    exact off hn _ _ _
  refine xi_geN f tx.length rfl rfl h.2.2.1 h.1 (by omega) (by omega) (fun h1 => fail (by rw [tWm, if_neg (by omega)])) (fun h1 => ?_)
  have hfe := hef h1
  have hc := tx_lt hT.2 f
  refine x_aldN f rfl rfl h.2.2.1 (by omega) rfl ?_
  rw [tM_at h h1]
  refine x_scall [xI (nI (tc tx f))] rfl rfl rfl rfl rfl rfl rfl (c_isLetter hc ?_)
  by_cases h2 : tSort (tc tx f) = 0
  · rw [if_pos h2]
    refine x0_eq rfl rfl (fun q => absurd q (by decide)) (fun _ => ?_)
    refine xi_gtN (e - f) most rfl rfl (be_sub h hle) rfl (by omega) (by omega) (fun h3 => fail (by rw [tWm, if_neg (by omega)])) (fun h3 => ?_)
    refine x_goto rfl rfl ?_
    refine x_to 57 rfl ?_
    rw [h.2.2.1]
    have eW : tWm tx f e most = tWords tx f e := by rw [tWm, if_pos ⟨h1, h2, h3⟩]
    have loop : ∀ g i lo set, i + g = e → f ≤ i → lo ≤ 10 → tWm tx f e most = tRi tx g i lo set → (f < i → set ≠ 0) → xW Γ (n + 3) hX9_words rX9_words 57 [some (xR 0 9 111), some (xI (nI most)), some (xI (nI set)), some (xI (xnum 1)), some (xI (nI (96 + lo))), some (xI (nI i))] [] D post := by
      intro g
      induction g with
      | zero =>
        intro i lo set hi hfi hlo he hset
        have he : tWm tx f e most = set := he
        refine xi_geN i e rfl rfl rfl h.2.2.2 (by omega) (by omega) (fun _ => ?_) (fun h => absurd h (by omega))
        refine x0_eq rfl rfl (fun q => absurd q (by decide)) (fun _ => ?_)
        refine x_call [] rfl rfl rfl rfl rfl rfl rfl (c_nextToken h hbe hT (fun D1 k1 k2 => ?_))
        refine x0_eq rfl rfl (fun q => absurd q (by decide)) (fun _ => ?_)
        refine x_goto rfl rfl (x_ret rfl rfl rfl rfl ?_)
        have R := hp (by rw [he]; exact hset (by omega)) D1 k1 k2
        rw [he] at R
        exact R
      | succ g ih =>
        intro i lo set hi hfi hlo he hset
        rw [tRi] at he
        have hc2 := tx_lt hT.2 i
        refine xi_geN i e rfl rfl rfl h.2.2.2 (by omega) (by omega) (fun h => absurd h (by omega)) (fun h4 => ?_)
        refine x0_eq rfl rfl (fun q => absurd q (by decide)) (fun _ => ?_)
        refine x_aldN i rfl rfl rfl (by omega) rfl ?_
        rw [tM_at h (by omega)]
        have bad : tWm tx f e most = 0 → xW Γ (n + 3) hX9_words rX9_words 98 [some (xR 0 9 111), some (xI (nI most)), some (xI (nI set)), some (xI (xnum 1)), some (xI (nI (96 + lo))), some (xI (nI i))] [] D post := by
          intro hn
          refine x_aldN i rfl rfl rfl (by omega) rfl ?_
          refine x0_eq rfl rfl (fun _ => ?_) (fun q => absurd rfl q)
          refine x_goto rfl rfl ?_
          exact off hn _ _ _
        refine xi_leN (tc tx i) (96 + lo) rfl rfl rfl rfl (by omega) (by omega) (fun h5 => bad ?_) (fun h5 => ?_)
        · rw [he, tWo]
          split
          · rfl
          · rename_i w hw
            split at hw
            · cases hw; rw [if_neg (by omega)]
            · cases hw
        · refine x_aldN i rfl rfl rfl (by omega) rfl ?_
          rw [tM_at h (by omega)]
          refine xi_geN (tc tx i) 107 rfl rfl rfl rfl (by omega) (by omega) (fun h6 => bad ?_) (fun h6 => ?_)
          · rw [he, tWo, if_neg (by omega)]
          · have hw : tWo (tc tx i) = some (tc tx i - 97) := by rw [tWo, if_pos (by omega)]
            rw [hw] at he
            dsimp only at he
            rw [if_pos (by omega)] at he
            refine x_goto rfl rfl ?_
            refine x_aldN i rfl rfl rfl (by omega) rfl ?_
            rw [tM_at h (by omega)]
            refine x0_eq rfl rfl (fun q => absurd q (by decide)) (fun _ => ?_)
            refine x_aldN i rfl rfl rfl (by omega) rfl ?_
            rw [tM_at h (by omega)]
            refine x_goto rfl rfl ?_
            refine x_to 132 rfl ?_
            have es : nI (tc tx i) - xnum 97 = nI (tc tx i - 97) := pk_sub (b := 97) (by omega)
            have e2 : nI set ||| (xnum 1 <<< ((nI (tc tx i) - xnum 97) &&& 31)) = nI (set ||| 2 ^ (tc tx i - 97)) := by
              rw [es, ← xb_or, ← xb_sh1 (by omega)]
              rfl
            rw [e2]
            have IH := ih (i + 1) (tc tx i - 97 + 1) (set ||| 2 ^ (tc tx i - 97)) (by omega) (by omega) (by omega) he (fun _ z => by
              have := congrArg (fun x => Nat.testBit x (tc tx i - 97)) z
              simp [Nat.testBit_or, Nat.testBit_two_pow_self] at this)
            have e3 : 96 + (tc tx i - 97 + 1) = tc tx i := by omega
            rw [e3, ← nI_1] at IH
            exact x_goto rfl rfl IH
    exact loop (e - f) f 0 0 (by omega) (Nat.le_refl _) (by omega) eW (fun z => absurd z (by omega))
  · rw [if_neg h2]
    exact x0_eq rfl rfl (fun _ => fail (by rw [tWm, if_neg (by omega)])) (fun q => absurd rfl q)
theorem tWm10 {f e : Nat} (hle : f ≤ e) (hbe : e ≤ tx.length) (hef : f < tx.length → f < e) : tWm tx f e 10 = tWords tx f e := by
  rw [tWm]
  split
  · rfl
  · rename_i hn
    by_cases h1 : f < tx.length
    · have := hef h1
      by_cases h2 : tSort (tc tx f) = 0
      · have h3 : 10 < e - f := by
          by_cases q : e - f ≤ 10
          · exact absurd ⟨h1, h2, q⟩ hn
          · omega
        by_cases q : tWords tx f e = 0
        · exact q.symm
        · have := tRi_len tx (e - f) f 0 0 q (by omega)
          omega
      · rw [tWords]
        have e1 : e - f = e - f - 1 + 1 := by omega
        rw [e1, tRi]
        have hw : tWo (tc tx f) = none := by
          rw [tWo, if_neg]
          intro z
          exact h2 (by rw [tSort, if_pos (by omega)])
        rw [hw]
    · have e1 : e - f = 0 := by omega
      rw [tWords, e1, tRi]
theorem tWm1 {f e : Nat} (hle : f ≤ e) (hbe : e ≤ tx.length) (hef : f < tx.length → f < e) : tWm tx f e 1 = match tOne tx f e with
    | none => 0
    | some w => 2 ^ w := by
  rw [tWm, tOne]
  by_cases h1 : e = f + 1
  · rw [if_pos h1]
    have e1 : e - f = 1 := by omega
    rcases hw : tWo (tc tx f) with _ | w
    · by_cases q : f < tx.length ∧ tSort (tc tx f) = 0 ∧ e - f ≤ 1
      · rw [if_pos q, tWords, e1, tRi, hw]
      · rw [if_neg q]
    · have := tWo_lt hw
      have q : f < tx.length ∧ tSort (tc tx f) = 0 ∧ e - f ≤ 1 := ⟨by omega, by rw [tSort, if_pos (by omega)], by omega⟩
      rw [if_pos q, tWords, e1, tRi, hw]
      dsimp only
      rw [if_pos (Nat.zero_le _), tRi, Nat.zero_or]
  · rw [if_neg h1]
    by_cases q : f < tx.length ∧ tSort (tc tx f) = 0 ∧ e - f ≤ 1
    · have := hef q.1; omega
    · rw [if_neg q]
end MR
