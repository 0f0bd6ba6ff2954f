/-! ===== the reference: handOver, passes, copyHarbour, layTried, passTried, sets ===== -/
theorem spk_cong {kd : Nat → Nat} {b p hs B : Nat} : ∀ (t said : Nat) (q q' : wKf × (Nat → List Nat)), q.1 = q'.1 → q.2 p = q'.2 p → (kSpk kd b p hs B t said q).1 = (kSpk kd b p hs B t said q').1 ∧ (kSpk kd b p hs B t said q).2 p = (kSpk kd b p hs B t said q').2 p ∧ ∀ z, z ≠ p → (kSpk kd b p hs B t said q).2 z = q.2 z
  | 0, _, q, q', h1, h2 => ⟨h1, h2, fun _ _ => rfl⟩
  | t + 1, said, q, q', h1, h2 => by
    rw [kSpk, kSpk, h1]
    cases hz : (wBst (q'.1 b) said 10).1 with
    | none => exact ⟨h1, h2, fun _ _ => rfl⟩
    | some k =>
      obtain ⟨g1, g2, g3⟩ := spk_cong (kd := kd) (b := b) (p := p) (hs := hs) (B := B) t (said + (if said.testBit k then 0 else 2 ^ k)) (kSpr kd q'.1 k hs B, wuf q.2 p (q.2 p ++ [k])) (kSpr kd q'.1 k hs B, wuf q'.2 p (q'.2 p ++ [k])) rfl (by simp [wuf, h2])
      refine ⟨g1, g2, fun z hz2 => ?_⟩
      have := g3 z hz2
      simp only [wuf, hz2, if_false] at this
      exact this
theorem spo_cong {kd : Nat → Nat} {p aw B : Nat} (q q' : wKf × (Nat → List Nat)) (h1 : q.1 = q'.1) (h2 : q.2 p = q'.2 p) : ∀ b, (kSpo kd p aw B b q).1 = (kSpo kd p aw B b q').1 ∧ (kSpo kd p aw B b q).2 p = (kSpo kd p aw B b q').2 p ∧ ∀ z, z ≠ p → (kSpo kd p aw B b q).2 z = q.2 z
  | 0 => ⟨h1, h2, fun _ _ => rfl⟩
  | b + 1 => by
    obtain ⟨g1, g2, g3⟩ := spo_cong (kd := kd) (p := p) (aw := aw) (B := B) q q' h1 h2 b
    rw [kSpo, kSpo]
    split
    · obtain ⟨e1, e2, e3⟩ := spk_cong (kd := kd) (b := b) (p := p) (hs := wWo aw b) (B := B) (wSays (kd b)) 0 _ _ g1 g2
      exact ⟨e1, e2, fun z hz => (e3 z hz).trans (g3 z hz)⟩
    · exact ⟨g1, g2, g3⟩
theorem per_z {S : wS} (q : wKf × (Nat → List Nat)) : ∀ i z, i ≤ z → (kPer S i q).2 z = q.2 z
  | 0, _, _ => rfl
  | i + 1, z, h => by
    rw [kPer]
    split
    · exact per_z q i z (by omega)
    · rw [(spo_cong (kd := S.kd) (p := i) (aw := wAw S i) (B := S.B) (kPer S i q) (kPer S i q) rfl rfl S.B).2.2 z (by omega)]
      exact per_z q i z (by omega)
section M4
variable {Γ : xG} {n : Nat} {D : xM} {post : Option Int32 → xM → Prop} {o : Nat} {S : wS}
theorem c_mhand (hr : rM D o S) (ho : wok S) (hoo : o ≤ 1296) (hp : ∀ D', rM D' o (wHands S S.M) → sameM o D D' → post none D') : xRuns Γ (n + 2) hX9_handOver [xR 0 9 111, xI (nI o)] D post := by
  have h8 := ho.1
  have h4 := ho.2.1
  refine x_runs kX9_handOver (by decide +kernel) rfl ?_
  refine x_to 2 rfl ?_
  have loop : ∀ (f i : Nat) (D1 : xM), i + f = S.M → rM D1 o (wHands S i) → sameM o D D1 → xW Γ (n + 2) hX9_handOver rX9_handOver 2 [some (xR 0 9 111), some (xI (nI o)), some (xI (nI i)), none, none, none] [] D1 post := by
    intro f
    induction f with
    | zero =>
      intro i D1 hi hr1 hs1
      obtain rfl : i = S.M := by omega
      obtain ⟨b1, b2, b3, b4, b5, b6, b7⟩ := hands_B S S.M
      refine x_aldN (o + 1) rfl rfl (nI_add _ _) (by omega) rfl ?_
      refine xi_geN S.M S.M rfl rfl rfl (by rw [hr1.2.1, b2]) (by omega) (by omega) (fun _ => ?_) (fun h => absurd h (by omega))
      exact x_vret rfl rfl rfl (hp D1 hr1 hs1)
    | succ f ih =>
      intro i D1 hi hr1 hs1
      obtain ⟨b1, b2, b3, b4, b5, b6, b7⟩ := hands_B S i
      have ho1 := wok_hands ho i
      have hm : i < (wHands S i).M := by rw [b2]; omega
      have hh := ho1.2.2.2.2.2.2.2.1 i hm
      refine x_aldN (o + 1) rfl rfl (nI_add _ _) (by omega) rfl ?_
      refine xi_geN i S.M rfl rfl rfl (by rw [hr1.2.1, b2]) (by omega) (by omega) (fun h => absurd h (by omega)) (fun h => ?_)
      have next : ∀ (D2 : xM), rM D2 o (wHand (wHands S i) i) → sameM o D D2 → xW Γ (n + 2) hX9_handOver rX9_handOver 136 [some (xR 0 9 111), some (xI (nI o)), some (xI (nI i)), none, none, none] [] D2 post := by
        intro D2 hr2 hs2
        have IH := ih (i + 1) D2 (by omega) hr2 hs2
        rw [← nI_1] at IH
        exact x_goto rfl rfl IH
      refine x_aldN (o + 104 + i) rfl rfl (ixo (k := 104)) (by omega) rfl ?_
      rw [hr1.2.2.2.2.2.2.2.2 i hm]
      rw [wHand] at next
      cases hbi : (wHands S i).bi i with
      | none =>
        rw [hbi] at next
        dsimp only at next
        refine xi_eq rfl rfl (fun _ => ?_) (fun h => absurd rfl h)
        refine x_goto rfl rfl ?_
        refine x0_le rfl rfl (fun _ => ?_) (fun h => absurd (by decide) h)
        exact x_drop 3 (x_drop 4 (next D1 hr1 hs1))
      | some b =>
        rw [hbi] at next
        dsimp only at next
        have hb := ho1.2.2.2.2.2.2.2.2.1 i b hm hbi
        have hbB : b < S.B := by rw [← b1]; exact hb
        have h5 := ho1.2.2.2.2.1 b hb
        have hge := wGets_le _ h5
        refine xi_eq rfl rfl (fun h => absurd ((xby_m1 (o := some b) (fun c hc => by cases hc; omega)).mp h) (by simp)) (fun _ => ?_)
        refine x_call [xI (nI o), xI (nI b)] rfl rfl rfl rfl rfl rfl rfl (c_isOpen hr1 ho1 hoo (by omega) ?_)
        cases hc : (wHands S i).C.testBit b with
        | true =>
          rw [hc, if_pos (Or.inr (Or.inl rfl))] at next
          refine x0_ne rfl rfl (fun h => absurd rfl h) (fun _ => ?_)
          refine x_goto rfl rfl ?_
          refine x0_le rfl rfl (fun _ => ?_) (fun h => absurd (by decide) h)
          exact x_drop 3 (x_drop 4 (next D1 hr1 hs1))
        | false =>
          rw [hc] at next
          refine x0_ne rfl rfl (fun _ => ?_) (fun h => absurd h (by decide))
          refine x_aldN (o + 4 + b) rfl rfl (ixo (k := 4)) (by omega) rfl ?_
          rw [hr1.2.2.2.2.1 b hb]
          refine x_scall [xI (nI ((wHands S i).kd b))] rfl rfl rfl rfl rfl rfl rfl (c_gets h5 ?_)
          refine x0_le rfl rfl (fun h2 => ?_) (fun h2 => ?_)
          · have e2 : wGets ((wHands S i).kd b) = 0 := by
              have := (nI_leI (b := 0) (by omega) (by omega)).mp h2
              omega
            rw [if_pos (Or.inr (Or.inr e2))] at next
            exact x_drop 3 (x_drop 4 (next D1 hr1 hs1))
          · have e2 : ¬ wGets ((wHands S i).kd b) = 0 := fun z => h2 (by rw [z]; decide)
            refine x_aldN (o + 100 + i) rfl rfl (ixo (k := 100)) (by omega) rfl ?_
            rw [hr1.2.2.2.2.2.2.2.1 i hm]
            refine x0_eq rfl rfl (fun h => ?_) (fun h => ?_)
            · have e : (wHands S i).ha i = 0 := (nI_eq (b := 0) (by omega) (by omega)).mp h
              rw [if_pos (Or.inl e)] at next
              exact x_drop 3 (x_drop 4 (next D1 hr1 hs1))
            · have e : ¬ (wHands S i).ha i = 0 := fun z => h (by rw [z]; rfl)
              rw [if_neg (by simp [e, e2])] at next
              obtain ⟨l1, l2⟩ := wLow_spec _ hh (by omega)
              have hlt := wLow_lt _ hh
              -- the least word
              have fnd : ∀ (g j : Nat), j + g = wLow ((wHands S i).ha i) → xW Γ (n + 2) hX9_handOver rX9_handOver 81 [some (xR 0 9 111), some (xI (nI o)), some (xI (nI i)), some (xI (nI b)), some (xI (nI (wGets ((wHands S i).kd b)))), some (xI (nI j))] [] D1 post := by
                intro g
                induction g with
                | zero =>
                  intro j hj
                  obtain rfl : j = wLow ((wHands S i).ha i) := by omega
                  refine x_aldN (o + 100 + i) rfl rfl (ixo (k := 100)) (by omega) rfl ?_
                  rw [hr1.2.2.2.2.2.2.2.1 i hm]
                  refine x_scall [xI (nI ((wHands S i).ha i)), xI (nI (wLow ((wHands S i).ha i)))] rfl rfl rfl rfl rfl rfl rfl (c_has (by omega) (by omega) ?_)
                  rw [l1]
                  refine x0_ne rfl rfl (fun _ => ?_) (fun h => absurd h (by decide))
                  refine x_aldN (o + 100 + i) rfl rfl (ixo (k := 100)) (by omega) rfl ?_
                  rw [hr1.2.2.2.2.2.2.2.1 i hm]
                  refine x_astN (o + 100 + i) rfl rfl (ixo (k := 100)) (by omega) rfl ?_
                  have e6 : nI ((wHands S i).ha i) &&& ((xnum 1 <<< (nI (wLow ((wHands S i).ha i)) &&& 31)) ^^^ xnum (-1)) = nI ((wHands S i).ha i &&& ((wHands S i).ha i - 1)) := ha_drop2 _ hh (by omega)
                  rw [e6]
                  have hr2 := rM_ha (i := i) (v := (wHands S i).ha i &&& ((wHands S i).ha i - 1)) hr1 (by rw [b1]; exact h8) (by rw [b2]; exact h4) hm
                  have ho2 : wok (wmk (wHands S i).B (wHands S i).M (wHands S i).E (wHands S i).C (wHands S i).kd (wHands S i).pe (wHands S i).K (wuf (wHands S i).ha i ((wHands S i).ha i &&& ((wHands S i).ha i - 1))) (wHands S i).bi) := by
                    obtain ⟨g1, g2, g3, g4, g5, g6, g7, g8, g9⟩ := ho1
                    refine ⟨g1, g2, g3, g4, g5, g6, g7, fun z hz => ?_, g9⟩
                    show wuf (wHands S i).ha i ((wHands S i).ha i &&& ((wHands S i).ha i - 1)) z < 1024
                    rw [wuf]
                    split
                    · exact Nat.lt_of_le_of_lt Nat.and_le_left hh
                    · exact g8 z hz
                  refine x_call [xI (nI o), xI (nI b), xI (nI (wLow ((wHands S i).ha i))), xI (nI (wGets ((wHands S i).kd b)))] rfl rfl rfl rfl rfl rfl rfl (c_learns hr2 ho2 hoo hb hlt (by omega) ?_)
                  refine x_drop 3 (x_drop 4 (x_drop 5 (next _ ?_ ((hs1.up (by omega) (by omega)).up (by omega) (by omega)))))
                  exact rM_K hr2 (by show (wHands S i).B ≤ 8; rw [b1]; exact h8) (by show (wHands S i).M ≤ 4; rw [b2]; exact h4) hb hlt
                | succ g ihg =>
                  intro j hj
                  have ht := l2 j (by omega) (by omega)
                  refine x_aldN (o + 100 + i) rfl rfl (ixo (k := 100)) (by omega) rfl ?_
                  rw [hr1.2.2.2.2.2.2.2.1 i hm]
                  refine x_scall [xI (nI ((wHands S i).ha i)), xI (nI j)] rfl rfl rfl rfl rfl rfl rfl (c_has (by omega) (by omega) ?_)
                  rw [ht]
                  refine x0_ne rfl rfl (fun h => absurd rfl h) (fun _ => ?_)
                  have IHg := ihg (j + 1) (by omega)
                  rw [← nI_1] at IHg
                  exact x_goto rfl rfl IHg
              exact x_to 81 rfl (fnd (wLow ((wHands S i).ha i)) 0 (by omega))
  exact loop S.M 0 D (by omega) hr sameM.rf
theorem c_passes {sp0 : Nat → List Nat} (hr : rM D o S) (hP : rP D 138 139 sp0) (hl0 : ∀ z, z < 4 → (sp0 z).length ≤ 16) (ho : wok S) (hoo : o ≤ 1296) (hE : S.E + 1 < 1000000) (hp : ∀ D', rM D' o (wPass S) → rP D' 138 139 (wSaid S) → sameMP o D D' → post none D') : xRuns Γ (n + 4) hX9_passes [xR 0 9 111, xI (nI o)] D post := by
  have h8 := ho.1
  have h4 := ho.2.1
  have ho1 := wok_hands ho S.M
  obtain ⟨a1, a2, a3, a4, a5, a6, a7⟩ := hands_B S S.M
  have hkQ : kok S.B (wPassQ S).1 := by
    have := kok_per (S := wHands S S.M) 4 ((wHands S S.M).K, fun _ => []) (wok_kok ho1)
    rw [a1] at this
    exact this
  refine x_runs kX9_passes (by decide +kernel) rfl ?_
  refine x_call [xI (nI o)] rfl rfl rfl rfl rfl rfl rfl (c_mhand hr ho hoo (fun D1 hr1 hs1 => ?_))
  refine x_to 7 rfl ?_
  have fin : ∀ (D1 : xM), rM D1 o (wmk S.B S.M S.E S.C S.kd S.pe (if S.E % 3 = 2 then kLose S (wPassQ S).1 S.B else (wPassQ S).1) (wHands S S.M).ha S.bi) → rP D1 138 139 (wSaid S) → sameMP o D D1 → xW Γ (n + 4) hX9_passes rX9_passes 59 [some (xR 0 9 111), some (xI (nI o)), some (xI (nI 4))] [] D1 post := by
    intro D1 hr1 hP1 hs1
    refine x_aldN (o + 2) rfl rfl (nI_add _ _) (by omega) rfl ?_
    have e : D1 112 (o + 2) + xnum 1 = nI (S.E + 1) := by rw [hr1.2.2.1]; exact nI_1 _
    refine x_astN (o + 2) rfl rfl (nI_add _ _) (by omega) rfl ?_
    rw [e]
    refine x_vret rfl rfl rfl (hp _ (rM_E hr1 h8 h4) (rP_outM (o := o) hP1 (sameM.rf.up (by omega) (by omega))) (hs1.tr (sameMP.ofM (sameM.rf.up (by omega) (by omega)))))
  have spk : ∀ (f i : Nat) (D1 : xM), i + f = 4 → rM D1 o (wK (wHands S S.M) (kPer (wHands S S.M) i ((wHands S S.M).K, fun _ => [])).1) → rP D1 138 139 (fun z => if z < i then (kPer (wHands S S.M) i ((wHands S S.M).K, fun _ => [])).2 z else sp0 z) → sameMP o D D1 → xW Γ (n + 4) hX9_passes rX9_passes 7 [some (xR 0 9 111), some (xI (nI o)), some (xI (nI i))] [] D1 post := by
    intro f
    induction f with
    | zero =>
      intro i D1 hi hr1 hP1 hs1
      obtain rfl : i = 4 := by omega
      have hP1' : rP D1 138 139 (wSaid S) := by
        intro p hp4
        have := hP1 p hp4
        simp only [hp4, if_true] at this
        exact this
      have hr1' : rM D1 o (wmk S.B S.M S.E S.C S.kd S.pe (wPassQ S).1 (wHands S S.M).ha S.bi) := by
        have e : wK (wHands S S.M) (wPassQ S).1 = wmk S.B S.M S.E S.C S.kd S.pe (wPassQ S).1 (wHands S S.M).ha S.bi := by
          show wmk (wHands S S.M).B (wHands S S.M).M (wHands S S.M).E (wHands S S.M).C (wHands S S.M).kd (wHands S S.M).pe (wPassQ S).1 (wHands S S.M).ha (wHands S S.M).bi = _
          rw [a1, a2, a3, a4, a5, a6, a7]
        rw [← e]
        exact hr1
      refine xi_geN 4 4 rfl rfl rfl rfl (by omega) (by omega) (fun _ => ?_) (fun h => absurd h (by omega))
      refine x_aldN (o + 2) rfl rfl (nI_add _ _) (by omega) rfl ?_
      refine x_rem rfl rfl (by decide) ?_
      have e3 : D1 112 (o + 2) - D1 112 (o + 2) / xnum 3 * xnum 3 = nI (S.E % 3) := by
        rw [hr1'.2.2.1]
        exact pk_rem (a := S.E) (d := 3) (by have := ho.2.2.1; omega) (by decide) (by decide)
      refine xi_neN (S.E % 3) 2 rfl rfl e3 rfl (by omega) (by omega) (fun h => ?_) (fun h => ?_)
      · exact fin D1 (by rw [if_neg h]; exact hr1') hP1' hs1
      · have hok1 : wok (wmk S.B S.M S.E S.C S.kd S.pe (wPassQ S).1 (wHands S S.M).ha S.bi) := by
          have := wok_K ho1 (K := (wPassQ S).1) (by rw [a1]; exact hkQ)
          rw [wHands_eq] at this
          exact this
        refine x_call [xI (nI o)] rfl rfl rfl rfl rfl rfl rfl (c_mlose hr1' hok1 hoo (fun D2 hr2 hs2 => ?_))
        exact fin D2 (by rw [if_pos h]; exact hr2) (rP_outM hP1' hs2) (hs1.tr (sameMP.ofM hs2))
    | succ f ih =>
      intro i D1 hi hr1 hP1 hs1
      have hk1 := kok_per (S := wHands S S.M) i ((wHands S S.M).K, fun _ => []) (wok_kok ho1)
      have ho2 := wok_K ho1 hk1
      have hlen : ∀ z, z < 4 → ((fun z => if z < i then (kPer (wHands S S.M) i ((wHands S S.M).K, fun _ => [])).2 z else sp0 z) z).length ≤ 16 := by
        intro z hz
        show (if z < i then (kPer (wHands S S.M) i ((wHands S S.M).K, fun _ => [])).2 z else sp0 z).length ≤ 16
        split
        · have := len_per ho1 i ((wHands S S.M).K, fun _ => []) z rfl
          split at this <;> omega
        · exact hl0 z hz
      refine xi_geN i 4 rfl rfl rfl rfl (by omega) (by omega) (fun h => absurd h (by omega)) (fun h => ?_)
      refine x_astN i rfl rfl rfl (by omega) rfl ?_
      -- the perch is empty
      have hP2 : rP (xup D1 139 i (xnum 0)) 138 139 (wuf (fun z => if z < i then (kPer (wHands S S.M) i ((wHands S S.M).K, fun _ => [])).2 z else sp0 z) i []) := by
        intro p hp4
        obtain ⟨g1, g2⟩ := hP1 p hp4
        by_cases e : p = i
        · subst e
          refine ⟨by rw [xup_at]; simp [wuf]; rfl, fun j hj => absurd hj (by simp [wuf])⟩
        · have e2 : wuf (fun z => if z < i then (kPer (wHands S S.M) i ((wHands S S.M).K, fun _ => [])).2 z else sp0 z) i [] p = (fun z => if z < i then (kPer (wHands S S.M) i ((wHands S S.M).K, fun _ => [])).2 z else sp0 z) p := by simp [wuf, e]
          rw [e2]
          exact ⟨by rw [xup_o (by omega)]; exact g1, fun j hj => by rw [xup_o (by omega)]; exact g2 j hj⟩
      have hr2 : rM (xup D1 139 i (xnum 0)) o (wK (wHands S S.M) (kPer (wHands S S.M) i ((wHands S S.M).K, fun _ => [])).1) := rM_out hr1 (by show (wHands S S.M).B ≤ 8; rw [a1]; exact h8) (by show (wHands S S.M).M ≤ 4; rw [a2]; exact h4) (fun j _ _ => xup_o (by omega))
      have hs2 : sameMP o D (xup D1 139 i (xnum 0)) := hs1.tr (fun a j _ _ h3 => xup_o (by omega))
      have hlen2 : ∀ z, z < 4 → (wuf (fun z => if z < i then (kPer (wHands S S.M) i ((wHands S S.M).K, fun _ => [])).2 z else sp0 z) i [] z).length ≤ 16 := by
        intro z hz
        by_cases e : z = i
        · simp [wuf, e]
        · have e2 : wuf (fun z => if z < i then (kPer (wHands S S.M) i ((wHands S S.M).K, fun _ => [])).2 z else sp0 z) i [] z = (fun z => if z < i then (kPer (wHands S S.M) i ((wHands S S.M).K, fun _ => [])).2 z else sp0 z) z := by simp [wuf, e]
          rw [e2]
          exact hlen z hz
      have ez : (kPer (wHands S S.M) i ((wHands S S.M).K, fun _ => [])).2 i = [] := per_z _ i i (Nat.le_refl i)
      refine x_call [xI (nI o), xI (nI i)] rfl rfl rfl rfl rfl rfl rfl (c_isSilent hr2 ho2 hoo (by omega) ?_)
      cases hz : wSil (wHands S S.M) (wAw (wHands S S.M) i) with
      | true =>
        have e : wSil (wK (wHands S S.M) (kPer (wHands S S.M) i ((wHands S S.M).K, fun _ => [])).1) (wAw (wK (wHands S S.M) (kPer (wHands S S.M) i ((wHands S S.M).K, fun _ => [])).1) i) = true := hz
        rw [e]
        refine x0_ne rfl rfl (fun _ => ?_) (fun h2 => absurd h2 (by decide))
        have IH := ih (i + 1) _ (by omega) (by rw [kPer, hz]; exact hr2) (by
          rw [kPer, hz]
          have e3 : (fun z => if z < i + 1 then (kPer (wHands S S.M) i ((wHands S S.M).K, fun _ => [])).2 z else sp0 z) = wuf (fun z => if z < i then (kPer (wHands S S.M) i ((wHands S S.M).K, fun _ => [])).2 z else sp0 z) i [] := by
            funext z
            by_cases ei : z = i
            · subst ei; simp [wuf, ez]
            · have : z < i + 1 ↔ z < i := by omega
              simp [wuf, ei, this]
          show rP _ 138 139 (fun z => if z < i + 1 then (kPer (wHands S S.M) i ((wHands S S.M).K, fun _ => [])).2 z else sp0 z)
          rw [e3]
          exact hP2) hs2
        rw [← nI_1] at IH
        exact x_goto rfl rfl IH
      | false =>
        have e : wSil (wK (wHands S S.M) (kPer (wHands S S.M) i ((wHands S S.M).K, fun _ => [])).1) (wAw (wK (wHands S S.M) (kPer (wHands S S.M) i ((wHands S S.M).K, fun _ => [])).1) i) = false := hz
        rw [e]
        refine x0_ne rfl rfl (fun h2 => absurd rfl h2) (fun _ => ?_)
        refine x_call [xI (nI o), xI (nI i)] rfl rfl rfl rfl rfl rfl rfl (c_mspeak hr2 hP2 ho2 hoo (by omega) hlen2 (by simp [wuf]) (fun D2 hr3 hP3 hs3 => ?_))
        obtain ⟨g1, g2, g3⟩ := spo_cong (kd := (wHands S S.M).kd) (p := i) (aw := wAw (wHands S S.M) i) (B := (wHands S S.M).B) ((kPer (wHands S S.M) i ((wHands S S.M).K, fun _ => [])).1, wuf (fun z => if z < i then (kPer (wHands S S.M) i ((wHands S S.M).K, fun _ => [])).2 z else sp0 z) i []) (kPer (wHands S S.M) i ((wHands S S.M).K, fun _ => [])) rfl (by simp [wuf, ez]) (wHands S S.M).B
        have g4 := (spo_cong (kd := (wHands S S.M).kd) (p := i) (aw := wAw (wHands S S.M) i) (B := (wHands S S.M).B) (kPer (wHands S S.M) i ((wHands S S.M).K, fun _ => [])) (kPer (wHands S S.M) i ((wHands S S.M).K, fun _ => [])) rfl rfl (wHands S S.M).B).2.2
        have IH := ih (i + 1) D2 (by omega) (by
          rw [kPer, hz]
          have hr3 : rM D2 o (wK (wHands S S.M) (kSpo (wHands S S.M).kd i (wAw (wHands S S.M) i) (wHands S S.M).B (wHands S S.M).B ((kPer (wHands S S.M) i ((wHands S S.M).K, fun _ => [])).1, wuf (fun z => if z < i then (kPer (wHands S S.M) i ((wHands S S.M).K, fun _ => [])).2 z else sp0 z) i [])).1) := hr3
          rw [g1] at hr3
          exact hr3) (by
          rw [kPer, hz]
          have e3 : (fun z => if z < i + 1 then (kSpo (wHands S S.M).kd i (wAw (wHands S S.M) i) (wHands S S.M).B (wHands S S.M).B (kPer (wHands S S.M) i ((wHands S S.M).K, fun _ => []))).2 z else sp0 z) = (kSpo (wHands S S.M).kd i (wAw (wHands S S.M) i) (wHands S S.M).B (wHands S S.M).B ((kPer (wHands S S.M) i ((wHands S S.M).K, fun _ => [])).1, wuf (fun z => if z < i then (kPer (wHands S S.M) i ((wHands S S.M).K, fun _ => [])).2 z else sp0 z) i [])).2 := by
            funext z
            by_cases ei : z = i
            · subst ei
              rw [if_pos (by omega), g2]
            · rw [g3 z ei, g4 z ei]
              have : z < i + 1 ↔ z < i := by omega
              simp [wuf, ei, this]
          show rP _ 138 139 (fun z => if z < i + 1 then (kSpo (wHands S S.M).kd i (wAw (wHands S S.M) i) (wHands S S.M).B (wHands S S.M).B (kPer (wHands S S.M) i ((wHands S S.M).K, fun _ => []))).2 z else sp0 z)
          rw [e3]
          exact hP3) (hs2.tr hs3)
        rw [← nI_1] at IH
        exact x_goto rfl rfl IH
  exact spk 4 0 D1 rfl hr1 (by
    have : (fun z => if z < 0 then (kPer (wHands S S.M) 0 ((wHands S S.M).K, fun _ => [])).2 z else sp0 z) = sp0 := by funext z; simp
    rw [this]
    exact rP_outM hP hs1) (sameMP.ofM hs1)
/-- a world is copied -/
theorem c_copyHarbour {a z : Nat} (ha : a ≤ 1296) (hz : z ≤ 1296) (hd : a + 108 ≤ z ∨ z + 108 ≤ a) (hp : ∀ D', (∀ i, i < 108 → D' 112 (z + i) = D 112 (a + i)) → sameM z D D' → post none D') : xRuns Γ n hX9_copyHarbour [xR 0 9 111, xI (nI a), xI (nI z)] D post := by
  refine x_runs kX9_copyHarbour (by decide +kernel) rfl ?_
  refine x_to 2 rfl ?_
  have loop : ∀ (f i : Nat) (D1 : xM), i + f = 108 → (∀ j, j < i → D1 112 (z + j) = D 112 (a + j)) → sameM z D D1 → xW Γ n hX9_copyHarbour rX9_copyHarbour 2 [some (xR 0 9 111), some (xI (nI a)), some (xI (nI z)), some (xI (nI i))] [] D1 post := by
    intro f
    induction f with
    | zero =>
      intro i D1 hi h1 hs1
      obtain rfl : i = 108 := by omega
      refine xi_geN 108 108 rfl rfl rfl rfl (by omega) (by omega) (fun _ => ?_) (fun h => absurd h (by omega))
      exact x_vret rfl rfl rfl (hp D1 h1 hs1)
    | succ f ih =>
      intro i D1 hi h1 hs1
      refine xi_geN i 108 rfl rfl rfl rfl (by omega) (by omega) (fun h => absurd h (by omega)) (fun h => ?_)
      refine x_aldN (a + i) rfl rfl (nI_add _ _) (by omega) rfl ?_
      refine x_astN (z + i) rfl rfl (nI_add _ _) (by omega) rfl ?_
      have e : D1 112 (a + i) = D 112 (a + i) := hs1 112 (a + i) (by omega)
      have IH := ih (i + 1) _ (by omega) (fun j hj => by
        by_cases ej : j = i
        · subst ej
          rw [xup_at]
          exact e
        · rw [xup_o (by omega)]
          exact h1 j (by omega)) (hs1.up (i := z + i) (v := D1 112 (a + i)) (by omega) (by omega))
      rw [← nI_1] at IH
      exact x_goto rfl rfl IH
  exact loop 108 0 D rfl (fun j hj => absurd hj (by omega)) sameM.rf
theorem rM_copy {D D' : xM} {a z : Nat} {S : wS} (hB : S.B ≤ 8) (hM : S.M ≤ 4) (h : rM D a S) (hc : ∀ i, i < 108 → D' 112 (z + i) = D 112 (a + i)) : rM D' z S := by
  obtain ⟨h1, h2, h3, h4, h5, h6, h7, h8, h9⟩ := h
  refine ⟨by have := hc 0 (by omega); simp only [Nat.add_zero] at this; rw [this]; exact h1, by rw [hc 1 (by omega)]; exact h2, by rw [hc 2 (by omega)]; exact h3, by rw [hc 3 (by omega)]; exact h4, fun b hb => ?_, fun b hb => ?_, fun b k hb hk => ?_, fun m hm => ?_, fun m hm => ?_⟩
  · rw [Nat.add_assoc, hc (4 + b) (by omega), ← Nat.add_assoc]; exact h5 b hb
  · rw [Nat.add_assoc, hc (12 + b) (by omega), ← Nat.add_assoc]; exact h6 b hb
  · rw [Nat.add_assoc, hc (20 + (b * 10 + k)) (by omega), ← Nat.add_assoc]; exact h7 b k hb hk
  · rw [Nat.add_assoc, hc (100 + m) (by omega), ← Nat.add_assoc]; exact h8 m hm
  · rw [Nat.add_assoc, hc (104 + m) (by omega), ← Nat.add_assoc]; exact h9 m hm
end M4
