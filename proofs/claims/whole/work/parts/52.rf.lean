/-! ===== the reference's text; fault of a harbour, harbour ===== -/
def gF (d : Bool) (D D' : xM) : Prop := ∀ a j, ¬ (a = 111 ∧ 16 ≤ j) → a ≠ 124 → ¬ (d = true ∧ a = 112 ∧ 108 ≤ j ∧ j < 216) → D' a j = D a j
theorem gF.tr {d : Bool} {D D1 D2 : xM} (h : gF d D D1) (h2 : gF d D1 D2) : gF d D D2 := fun a j q1 q2 q3 => (h2 a j q1 q2 q3).trans (h a j q1 q2 q3)
theorem gF.ofR {d : Bool} {D D1 : xM} (h : fR d D D1) : gF d D D1 := fun a j q1 q2 q3 => h a j (by omega) q2 q3
theorem gF.ofT {d : Bool} {D D1 : xM} (h : fT D D1) : gF d D D1 := gF.ofR (fR.ofT h)
section RF
variable {Γ : xG} {n : Nat} {D : xM} {post : Option Int32 → xM → Prop} {tx : List Nat} {S0 : wS} {G : gS}
theorem c_reads {d : Bool} (h : mTx D tx) (h1 : rM D 108 S0) (hz : mZ D S0) (ho : wok S0) (hE : S0.E = 0) (hT : tx.length ≤ 200 ∧ ∀ c ∈ tx, c < 256) (hp : ∀ D', gF d D D' → (match rdA tx 20 1 S0 0 with
    | .inl p => D' 111 16 = nI p → post (some 0) D'
    | .inr (c, S) => D' 111 21 = nI c → (d = true → rM D' 108 S ∧ zS D' S) → post (some 1) D')) : xRuns Γ (n + 6) hX9_reads [xR 0 9 111, xI (if d then 1 else 0)] D post := by
  have hL := hT.1
  have h8 := ho.1
  have h4 := ho.2.1
  generalize hR0 : rdA tx 20 1 S0 0 = R0 at hp
  refine x_runs kX9_reads (by decide +kernel) rfl ?_
  refine x_pfz (a := 0) rfl rfl (by decide) rfl (by cases d <;> simp) ?_
  refine x_aldN 108 rfl rfl rfl (by omega) rfl ?_
  refine x_aldN (108 + 1) rfl rfl rfl (by omega) rfl ?_
  refine x_to 39 rfl ?_
  have fin0 : ∀ (D2 : xM) (v : Int32), gF d D D2 → v = 0 → (∃ p, R0 = .inl p ∧ D2 111 16 = nI p) → xW Γ (n + 6) hX9_reads rX9_reads 75 [some (xR 0 9 111), some (xI (if d then 1 else 0)), some (xI v)] [] D2 post := by
    intro D2 v f2 hv hq
    obtain ⟨p, e1, e2⟩ := hq
    subst hv
    refine x0_eq rfl rfl (fun _ => ?_) (fun q => absurd rfl q)
    have R := hp D2 f2
    rw [e1] at R
    exact x_ret rfl rfl rfl rfl (R e2)
  have after : ∀ g c S e1 (D2 : xM), c + g = 20 → R0 = (if tx.length ≤ tF tx e1 then .inr (c, S) else if tc tx (tF tx e1) ≠ 59 then .inl (tF tx e1) else if g = 0 then .inl (tF tx e1) else rdA tx g (c + 1) S (tE tx (tF tx e1))) → wok S → S.E = 0 → e1 ≤ tx.length → tM D2 tx (tF tx e1) (tE tx (tF tx e1)) → sM D2 S → wM D2 d S → D2 111 21 = nI c → gF d D D2 → xW Γ (n + 6) hX9_reads rX9_reads 75 [some (xR 0 9 111), some (xI (if d then 1 else 0)), some (xI 1)] [] D2 post := by
    intro g
    induction g with
    | zero =>
      intro c S e1 D2 hc he hoS hES hbe k1 k2 k3 k4 k5
      obtain rfl : c = 20 := by omega
      have g1 := tF_le hbe
      refine x0_eq rfl rfl (fun q => absurd q (by decide)) (fun _ => ?_)
      refine xi_geN (tF tx e1) tx.length rfl rfl k1.2.2.1 k1.1 (by omega) (by omega) (fun q => ?_) (fun q => ?_)
      · rw [if_pos q] at he
        have R := hp D2 k5
        rw [he] at R
        exact x_ret rfl rfl rfl rfl (R k4 k3.2.2)
      · rw [if_neg (by omega)] at he
        have e2 : R0 = .inl (tF tx e1) := by
          rw [he]
          by_cases w : tc tx (tF tx e1) ≠ 59
          · rw [if_pos w]
          · rw [if_neg w, if_pos rfl]
        refine xi_geN 20 20 rfl rfl k4 rfl (by omega) (by omega) (fun _ => ?_) (fun h => absurd h (by omega))
        refine x0_eq rfl rfl (fun _ => ?_) (fun q => absurd rfl q)
        exact fin0 D2 _ k5 rfl ⟨_, e2, k1.2.2.1⟩
    | succ g ih =>
      intro c S e1 D2 hc he hoS hES hbe k1 k2 k3 k4 k5
      have g1 := tF_le hbe
      have g2 := tE_le g1.2
      refine x0_eq rfl rfl (fun q => absurd q (by decide)) (fun _ => ?_)
      refine xi_geN (tF tx e1) tx.length rfl rfl k1.2.2.1 k1.1 (by omega) (by omega) (fun q => ?_) (fun q => ?_)
      · rw [if_pos q] at he
        have R := hp D2 k5
        rw [he] at R
        exact x_ret rfl rfl rfl rfl (R k4 k3.2.2)
      · rw [if_neg (by omega)] at he
        have hc2 := tx_lt hT.2 (tF tx e1)
        refine xi_geN c 20 rfl rfl k4 rfl (by omega) (by omega) (fun h => absurd h (by omega)) (fun _ => ?_)
        refine x_aldN (tF tx e1) rfl rfl k1.2.2.1 (by omega) rfl ?_
        rw [tM_at k1 q]
        refine xi_neN (tc tx (tF tx e1)) 59 rfl rfl rfl rfl (by omega) (by omega) (fun w => ?_) (fun w => ?_)
        · rw [if_pos w] at he
          refine x0_eq rfl rfl (fun _ => ?_) (fun q => absurd rfl q)
          exact fin0 D2 _ k5 rfl ⟨_, he, k1.2.2.1⟩
        · rw [if_neg (fun z => z w), if_neg (by omega), rdA] at he
          refine x_goto rfl rfl ?_
          refine x0_eq rfl rfl (fun q => absurd q (by decide)) (fun _ => ?_)
          generalize tE tx (tF tx e1) = i at k1 he g2
          have g3 := tF_le g2.2.1
          have g4 := tE_le g3.2
          have okr := rd1_ok (tx := tx) hoS hES g3.2 g4.2.1
          refine x_call [] rfl rfl rfl rfl rfl rfl rfl (c_nextToken k1 g2.2.1 hT (fun D3 m1 m2 => ?_))
          have hs3 := sM_T k2 m2
          have hw3 := wM_T k3 ⟨hoS.1, hoS.2.1⟩ m2
          refine x_call [] rfl rfl rfl rfl rfl rfl rfl (c_readsClause m1 hs3 hw3 hoS g4.1 g4.2.1 hT (fun v D4 q4 => ?_))
          obtain ⟨f4, q4⟩ := q4
          have e21 : D4 111 21 + xnum 1 = nI (c + 1) := by
            rw [f4 111 21 (by omega) (by omega) (by omega), m2 111 21 (by omega), k4]; exact nI_1 _
          have f5 : gF d D (xup D4 111 21 (nI (c + 1))) := (k5.tr ((gF.ofT m2).tr (gF.ofR f4))).tr (fun a j q1 q2 q3 => xup_o (by omega))
          rcases hrd : rd1 tx S (tF tx i) (tE tx (tF tx i)) with p | ⟨e2, S1⟩
          · rw [hrd] at he q4
            obtain ⟨z1, z2⟩ := q4
            subst z1
            refine x_goto rfl rfl ?_
            rw [e21]
            exact fin0 _ _ f5 rfl ⟨p, he, by rw [xup_o (by omega)]; exact z2⟩
          · rw [hrd] at he q4 okr
            obtain ⟨z1, z2, z3, z4⟩ := q4
            obtain ⟨y1, y2, y3⟩ := okr
            subst z1
            refine x_goto rfl rfl ?_
            rw [e21]
            refine ih (c + 1) S1 e2 _ (by omega) he y2 y3 y1 ⟨by rw [xup_o (by omega)]; exact z2.1, rL_out z2.2.1 (xup_ne 114 (by omega)), by rw [xup_o (by omega)]; exact z2.2.2.1, by rw [xup_o (by omega)]; exact z2.2.2.2⟩ ⟨by rw [xup_o (by omega)]; exact z3.1, by rw [xup_o (by omega)]; exact z3.2.1, fun m hm => by rw [xup_o (by omega)]; exact z3.2.2 m hm⟩ ⟨by rw [xup_o (by omega)]; exact z4.1, fun q hq => rL_out (z4.2.1 q hq) (xup_ne _ (by have := tWc_in q hq; omega)), fun hd => ⟨rM_out (z4.2.2 hd).1 y2.1 y2.2.1 (fun j _ _ => xup_o (by omega)), fun b k q1 q2 q3 => by rw [xup_o (by omega)]; exact (z4.2.2 hd).2 b k q1 q2 q3⟩⟩ (by rw [xup_at]) f5
  have loop : ∀ g i (D2 : xM), i + g = 4 → gF d D D2 → D2 111 4 = nI tx.length → D2 111 17 = nI 0 → D2 111 18 = nI S0.B → D2 111 19 = nI S0.M → D2 111 21 = nI 1 → D2 111 22 = (if d then 1 else 0) → (∀ a j, a ≠ 111 → a ≠ 124 → D2 a j = D a j) → (∀ m, m < i → D2 124 m = D 112 (212 + m)) → xW Γ (n + 6) hX9_reads rX9_reads 39 [some (xR 0 9 111), some (xI (if d then 1 else 0)), some (xI (nI i))] [] D2 post := by
    intro g
    induction g with
    | zero =>
      intro i D2 hi f2 q4 q17 q18 q19 q21 q22 qa qb
      obtain rfl : i = 4 := by omega
      refine xi_geN 4 4 rfl rfl rfl rfl (by omega) (by omega) (fun _ => ?_) (fun h => absurd h (by omega))
      have t0 : tM D2 tx ((D2 111 16).toNatClampNeg) 0 ∨ True := Or.inr trivial
      have rd0 := hR0
      rw [rdA] at rd0
      have g3 := tF_le (tx := tx) (Nat.zero_le tx.length)
      have g4 := tE_le g3.2
      have okr := rd1_ok (tx := tx) ho hE g3.2 g4.2.1
      have rL2 : rL D2 114 tx := rL_out h.2 (funext fun j => qa 114 j (by omega) (by omega))
      have hs2 : sM D2 S0 := ⟨q18, q19, fun m hm => by
        rw [qb m (by omega)]
        have := h1.2.2.2.2.2.2.2.2 m hm
        have e1 : 108 + 104 + m = 212 + m := by omega
        rw [e1] at this
        exact this⟩
      have hw2 : wM D2 d S0 := ⟨q22, fun q hq => rL_out (hz.2 q hq) (funext fun j => qa _ j (by have := tWc_in q hq; omega) (by have := tWc_in q hq; omega)), fun _ => ⟨rM_out h1 h8 h4 (fun j _ _ => qa 112 j (by omega) (by omega)), fun b k w1 w2 w3 => by rw [qa 112 _ (by omega) (by omega)]; exact hz.1 b k w1 w2 w3⟩⟩
      refine x_call [] rfl rfl rfl rfl rfl rfl rfl (c_nextToken0 ⟨q4, rL2, q17⟩ (Nat.zero_le _) hT (fun D3 m1 m2 => ?_))
      have hs3 := sM_T hs2 m2
      have hw3 := wM_T hw2 ⟨h8, h4⟩ m2
      refine x_call [] rfl rfl rfl rfl rfl rfl rfl (c_readsClause m1 hs3 hw3 ho g4.1 g4.2.1 hT (fun v D4 w4 => ?_))
      obtain ⟨f4, w4⟩ := w4
      have f5 : gF d D D4 := f2.tr ((gF.ofT m2).tr (gF.ofR f4))
      have e21 : D4 111 21 = nI 1 := by rw [f4 111 21 (by omega) (by omega) (by omega), m2 111 21 (by omega)]; exact q21
      rcases hrd : rd1 tx S0 (tF tx 0) (tE tx (tF tx 0)) with p | ⟨e2, S1⟩
      · rw [hrd] at rd0 w4
        obtain ⟨z1, z2⟩ := w4
        subst z1
        refine x_to 75 rfl ?_
        exact fin0 D4 _ f5 rfl ⟨p, rd0.symm, z2⟩
      · rw [hrd] at rd0 w4 okr
        obtain ⟨z1, z2, z3, z4⟩ := w4
        obtain ⟨y1, y2, y3⟩ := okr
        subst z1
        refine x_to 75 rfl ?_
        exact after 19 1 S1 e2 D4 (by omega) rd0.symm y2 y3 y1 z2 z3 z4 e21 f5
    | succ g ih =>
      intro i D2 hi f2 q4 q17 q18 q19 q21 q22 qa qb
      refine xi_geN i 4 rfl rfl rfl rfl (by omega) (by omega) (fun h => absurd h (by omega)) (fun hi4 => ?_)
      refine x_aldN (212 + i) rfl rfl (nI_add 212 i) (by omega) rfl ?_
      refine x_astN i rfl rfl rfl (by omega) rfl ?_
      rw [qa 112 _ (by omega) (by omega)]
      have IH := ih (i + 1) (xup D2 124 i (D 112 (212 + i))) (by omega) (f2.tr (fun a j w1 w2 w3 => xup_o (by omega))) (by rw [xup_o (by omega)]; exact q4) (by rw [xup_o (by omega)]; exact q17) (by rw [xup_o (by omega)]; exact q18) (by rw [xup_o (by omega)]; exact q19) (by rw [xup_o (by omega)]; exact q21) (by rw [xup_o (by omega)]; exact q22) (fun a j w1 w2 => by rw [xup_o (by omega)]; exact qa a j w1 w2) (fun m hm => by
        by_cases q : m = i
        · subst q; rw [xup_at]
        · rw [xup_o (by omega)]; exact qb m (by omega))
      rw [← nI_1] at IH
      exact x_goto rfl rfl IH
  refine loop 4 0 _ (by omega) (fun a j w1 w2 w3 => by rw [xup_o (by omega), xup_o (by omega), xup_o (by omega), xup_o (by omega), xup_o (by omega)]) ?_ ?_ ?_ ?_ ?_ ?_ (fun a j w1 w2 => by rw [xup_o (by omega), xup_o (by omega), xup_o (by omega), xup_o (by omega), xup_o (by omega)]) (fun m hm => absurd hm (by omega))
  · rw [xup_o (by omega), xup_o (by omega), xup_o (by omega), xup_o (by omega), xup_o (by omega)]; exact h.1
  · rw [xup_o (by omega), xup_o (by omega), xup_o (by omega), xup_at]; rfl
  · rw [xup_o (by omega), xup_at, xup_o (by omega), xup_o (by omega), xup_o (by omega)]; exact h1.1
  · rw [xup_at, xup_o (by omega), xup_o (by omega), xup_o (by omega), xup_o (by omega)]; exact h1.2.1
  · rw [xup_o (by omega), xup_o (by omega), xup_at]; rfl
  · rw [xup_o (by omega), xup_o (by omega), xup_o (by omega), xup_o (by omega), xup_at]
end RF
