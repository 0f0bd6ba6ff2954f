/-! ===== the reference's reader: the rest of the clauses, the text ===== -/
theorem by_all {S : wS} {m b : Nat} (ho : wok S) : (∀ k, k < S.M → k = m ∨ S.bi k ≠ some b) ↔ (wBy S b = none ∨ wBy S b = some m) := by
  constructor
  · intro h
    rcases q : wBy S b with _ | k
    · exact Or.inl rfl
    · obtain ⟨h1, h2⟩ := wBy_some q
      rcases h k h1 with e | e
      · rw [e]; exact Or.inr rfl
      · exact absurd h2 e
  · intro h k hk
    rcases h with h | h
    · exact Or.inr (wBy_none h k hk)
    · obtain ⟨h1, h2⟩ := wBy_some h
      by_cases q : S.bi k = some b
      · exact Or.inl (ho.2.2.2.2.2.2.2.2.2 k m b hk h1 q h2)
      · exact Or.inr q
section MT
variable {Γ : xG} {n : Nat} {D : xM} {post : Option Int32 → xM → Prop} {tx : List Nat} {S : wS} {d : Bool}
theorem c_readsSits {f e : Nat} (h : tM D tx f e) (hs : sM D S) (hw : wM D d S) (ho : wok S) (hbe : e ≤ tx.length) (hT : tx.length ≤ 200 ∧ ∀ c ∈ tx, c < 256) (hp : ∀ v D', rmP D d tx (rdSi tx S e) v D' → post v D') : xRuns Γ (n + 4) hX9_readsSits [xR 0 9 111] D post := by
  have h8 := ho.1
  have h4 := ho.2.1
  have g1 := tF_le hbe
  have g2 := tE_le g1.2
  refine x_runs kX9_readsSits (by decide +kernel) rfl ?_
  rw [rdSi, rdN] at hp
  refine x_call [] rfl rfl rfl rfl rfl rfl rfl (c_nextToken h hbe hT (fun D1 k1 k2 => ?_))
  have hs1 := sM_T hs k2
  have hw1 := wM_T hw ⟨h8, h4⟩ k2
  refine x_to 9 rfl ?_
  rw [hs1.2.1]
  have no : ∀ (D2 : xM) (x y : Int32) (i : Nat) (p : Nat), D2 111 19 = nI S.M → rmP D d tx (.inl p) (some 0) D2 → (∀ v D', rmP D d tx (.inl p) v D' → post v D') → i ≤ S.M → xW Γ (n + 4) hX9_readsSits rX9_readsSits 45 [some (xR 0 9 111), some (xI x), some (xI y), some (xI 0), some (xI (nI i))] [] D2 post := by
    intro D2 x y i p e19 hR hq hi
    have fin : xW Γ (n + 4) hX9_readsSits rX9_readsSits 87 [some (xR 0 9 111), some (xI x), some (xI y), some (xI 0), some (xI (nI i))] [] D2 post := by
      refine x0_ne rfl rfl (fun q => absurd rfl q) (fun _ => ?_)
      exact x_ret rfl rfl rfl rfl (hq _ _ hR)
    refine xi_geN i S.M rfl rfl rfl e19 (by omega) (by omega) (fun _ => fin) (fun _ => ?_)
    exact x0_eq rfl rfl (fun _ => fin) (fun q => absurd rfl q)
  refine x_call [xI (nI S.M)] rfl rfl rfl rfl rfl rfl rfl (c_number k1 g2.1 g2.2.1 g2.2.2 hT (by omega) ?_)
  rcases hv : tNum tx (tF tx e) (tE tx (tF tx e)) S.M with _ | m
  · rw [hv] at hp
    refine xi_ne rfl rfl (fun q => absurd rfl q) (fun _ => ?_)
    refine x_goto rfl rfl ?_
    refine xi_eq rfl rfl (fun _ => ?_) (fun q => absurd rfl q)
    refine x_to 45 rfl ?_
    exact no D1 _ _ 0 (tF tx e) hs1.2.1 ⟨fR.ofT k2, rfl, k1.2.2.1⟩ hp (by omega)
  · rw [hv] at hp
    dsimp only at hp ⊢
    intro D2 k3 k4
    have hs2 := sM_T hs1 k4
    have hw2 := wM_T hw1 ⟨h8, h4⟩ k4
    have t2 : fT D D2 := k2.tr k4
    have hm := (tNum_lt hv).1
    rw [rdSi2, rdN] at hp
    refine xi_ne rfl rfl (fun _ => ?_) (fun q => absurd q (nI_nm1 (by omega)))
    generalize tE tx (tF tx e) = e1 at k3 hp g2
    have g3 := tF_le g2.2.1
    have g4 := tE_le g3.2
    refine x_to 27 rfl ?_
    rw [hs2.1]
    refine x_call [xI (nI S.B)] rfl rfl rfl rfl rfl rfl rfl (c_numberHere k3 g4.1 g4.2.1 g4.2.2 hT (by omega) ?_)
    rcases hu : tNum tx (tF tx e1) (tE tx (tF tx e1)) S.B with _ | b
    · rw [hu] at hp
      refine xi_eq rfl rfl (fun _ => ?_) (fun q => absurd rfl q)
      refine x_to 45 rfl ?_
      exact no D2 _ _ 0 (tF tx e1) hs2.2.1 ⟨fR.ofT t2, rfl, k3.2.2.1⟩ hp (by omega)
    · rw [hu] at hp
      dsimp only at hp
      have hb := (tNum_lt hu).1
      refine xi_eq rfl rfl (fun q => absurd q (nI_nm1 (by omega))) (fun _ => ?_)
      refine x_goto rfl rfl ?_
      refine x_to 45 rfl ?_
      have key := by_all (S := S) (m := m) (b := b) ho
      have loop : ∀ g i, i + g = S.M → (∀ k, k < i → k = m ∨ S.bi k ≠ some b) → xW Γ (n + 4) hX9_readsSits rX9_readsSits 45 [some (xR 0 9 111), some (xI (nI m)), some (xI (nI b)), some (xI 1), some (xI (nI i))] [] D2 post := by
        intro g
        induction g with
        | zero =>
          intro i hi ha
          have hq := key.mp (fun k hk => ha k (by omega))
          rw [if_pos hq] at hp
          refine xi_geN i S.M rfl rfl rfl hs2.2.1 (by omega) (by omega) (fun _ => ?_) (fun h => absurd h (by omega))
          refine x0_ne rfl rfl (fun _ => ?_) (fun q => absurd q (by decide))
          refine x_call [] rfl rfl rfl rfl rfl rfl rfl (c_nextToken k3 g4.2.1 hT (fun D3 k5 k6 => ?_))
          have hs3 := sM_T hs2 k6
          have hw3 := wM_T hw2 ⟨h8, h4⟩ k6
          have f3 : fR d D D3 := fR.ofT (t2.tr k6)
          refine x_astN m rfl rfl rfl (by omega) rfl ?_
          have hbi : ∀ k, k < S.M → (wSeat S m (some b)).bi k = if k = m then some b else S.bi k := fun k hk => by
            show (if k = m then some b else if some b ≠ none ∧ S.bi k = some b then none else S.bi k) = _
            by_cases q : k = m
            · rw [if_pos q, if_pos q]
            · rw [if_neg q, if_neg q]
              rcases ha k (by omega) with z | z
              · exact absurd z q
              · rw [if_neg (fun y => z y.2)]
          have last : ∀ x : Int32, x = (if d then nI b else D3 112 (212 + m)) → xW Γ (n + 4) hX9_readsSits rX9_readsSits 135 [some (xR 0 9 111), some (xI (nI m)), some (xI (nI b)), some (xI 1), some (xI (nI i))] [] (xup (xup D3 124 m (nI b)) 112 (212 + m) x) post := by
            intro x hx
            refine x_ret rfl rfl rfl rfl ?_
            have e112 : ∀ j, (d = true → j ≠ 212 + m) → xup (xup D3 124 m (nI b)) 112 (212 + m) x 112 j = D3 112 j := fun j hj => by
              by_cases q : j = 212 + m
              · subst q
                rw [xup_at, hx]
                cases d with
                | true => exact absurd rfl (hj rfl)
                | false => rfl
              · rw [xup_o (by omega), xup_o (by omega)]
            have f4 : fR d D (xup (xup D3 124 m (nI b)) 112 (212 + m) x) := f3.tr (fun a j q1 q2 q3 => by
              by_cases q : a = 112
              · subst q
                exact e112 j (fun hd z => q3 ⟨hd, rfl, by omega, by omega⟩)
              · rw [xup_ne a q, xup_ne a q2])
            refine hp _ _ ⟨f4, rfl, ⟨by rw [xup_o (by omega), xup_o (by omega)]; exact k5.1, rL_out k5.2.1 (by rw [xup_ne 114 (by omega), xup_ne 114 (by omega)]), by rw [xup_o (by omega), xup_o (by omega)]; exact k5.2.2.1, by rw [xup_o (by omega), xup_o (by omega)]; exact k5.2.2.2⟩, ⟨by rw [xup_o (by omega), xup_o (by omega)]; exact hs3.1, by rw [xup_o (by omega), xup_o (by omega)]; exact hs3.2.1, fun k hk => ?_⟩, by rw [xup_o (by omega), xup_o (by omega)]; exact hw3.1, wd_R hw.2.1 f4, fun hd => ?_⟩
            · have hk : k < S.M := hk
              rw [hbi k hk, xup_o (by omega)]
              by_cases q : k = m
              · subst q; rw [xup_at, if_pos rfl]; rfl
              · rw [xup_o (by omega), if_neg q]; exact hs3.2.2 k hk
            · obtain ⟨⟨r1, r2, r3, r4, r5, r6, r7, r8, r9⟩, hz⟩ := hw3.2.2 hd
              refine ⟨⟨by rw [e112 _ (by omega)]; exact r1, by rw [e112 _ (by omega)]; exact r2, by rw [e112 _ (by omega)]; exact r3, by rw [e112 _ (by omega)]; exact r4, fun c hc => ?_, fun c hc => ?_, fun c k hc hk => ?_, fun k hk => ?_, fun k hk => ?_⟩, fun c k q1 q2 q3 => ?_⟩
              · have hc : c < S.B := hc
                rw [e112 _ (by omega)]; exact r5 c hc
              · have hc : c < S.B := hc
                rw [e112 _ (by omega)]; exact r6 c hc
              · have hc : c < S.B := hc
                rw [e112 _ (by omega)]; exact r7 c k hc hk
              · have hk : k < S.M := hk
                rw [e112 _ (by omega)]; exact r8 k hk
              · have hk : k < S.M := hk
                rw [hbi k hk]
                by_cases q : k = m
                · subst q
                  have : 108 + 104 + k = 212 + k := by omega
                  rw [this, xup_at, hx, if_pos hd, if_pos rfl]; rfl
                · rw [e112 _ (by omega), if_neg q]; exact r9 k hk
              · have q1 : S.B ≤ c := q1
                rw [e112 _ (by omega)]; exact hz c k q1 q2 q3
          have ix : xnum 212 + nI m = nI (212 + m) := nI_add 212 m
          refine x0_eqd (d := d) (x := xup D3 124 m (nI b) 111 22) (by rw [xup_o (by omega)]; exact hw3.1) rfl rfl (fun hd => ?_) (fun hd => ?_)
          · refine x_aldN (212 + m) rfl rfl ix (by omega) rfl ?_
            refine x_astN (212 + m) rfl rfl ix (by omega) rfl ?_
            refine last _ ?_
            rw [xup_o (by omega), hd]
            rfl
          · refine x_goto rfl rfl ?_
            refine x_astN (212 + m) rfl rfl ix (by omega) rfl ?_
            exact last _ (by rw [if_pos hd])
        | succ g ih =>
          intro i hi ha
          refine xi_geN i S.M rfl rfl rfl hs2.2.1 (by omega) (by omega) (fun h => absurd h (by omega)) (fun h5 => ?_)
          refine x0_eq rfl rfl (fun q => absurd q (by decide)) (fun _ => ?_)
          have go1 : (i = m ∨ S.bi i ≠ some b) → xW Γ (n + 4) hX9_readsSits rX9_readsSits 75 [some (xR 0 9 111), some (xI (nI m)), some (xI (nI b)), some (xI 1), some (xI (nI i))] [] D2 post := by
            intro hq
            have IH := ih (i + 1) (by omega) (fun k hk => by
              by_cases z : k = i
              · subst z; exact hq
              · exact ha k (by omega))
            rw [← nI_1] at IH
            exact x_goto rfl rfl (x_goto rfl rfl IH)
          refine xi_eqN i m rfl rfl rfl rfl (by omega) (by omega) (fun h6 => go1 (Or.inl h6)) (fun h6 => ?_)
          refine x_aldN i rfl rfl rfl (by omega) rfl ?_
          rw [hs2.2.2 i h5]
          have kx : xby (S.bi i) = nI b ↔ S.bi i = some b := xby_eq (by omega) (wok_bi ho h5)
          refine xi_eq rfl rfl (fun h7 => ?_) (fun h7 => go1 (Or.inr (fun z => h7 (kx.mpr z))))
          have hno : ¬ (wBy S b = none ∨ wBy S b = some m) := fun z => by
            rcases key.mpr z i h5 with y | y
            · exact h6 y
            · exact y (kx.mp h7)
          rw [if_neg hno] at hp
          have N := no D2 (nI m) (nI b) (i + 1) (tF tx e1) hs2.2.1 ⟨fR.ofT t2, rfl, k3.2.2.1⟩ hp (by omega)
          rw [← nI_1] at N
          refine x_goto rfl rfl ?_
          exact N
      exact loop S.M 0 (by omega) (fun k hk => absurd hk (by omega))
theorem c_readsCover {f e : Nat} (h : tM D tx f e) (hs : sM D S) (hw : wM D d S) (ho : wok S) (hbe : e ≤ tx.length) (hT : tx.length ≤ 200 ∧ ∀ c ∈ tx, c < 256) (hp : ∀ v D', rmP D d tx (rdCo tx S e) v D' → post v D') : xRuns Γ (n + 4) hX9_readsCover [xR 0 9 111] D post := by
  have h8 := ho.1
  have h4 := ho.2.1
  have g1 := tF_le hbe
  have g2 := tE_le g1.2
  refine x_runs kX9_readsCover (by decide +kernel) rfl ?_
  rw [rdCo, rdN] at hp
  refine x_call [] rfl rfl rfl rfl rfl rfl rfl (c_nextToken h hbe hT (fun D1 k1 k2 => ?_))
  have hs1 := sM_T hs k2
  have hw1 := wM_T hw ⟨h8, h4⟩ k2
  refine x_to 9 rfl ?_
  rw [hs1.1]
  have or0 : ∀ x : Int32, x ||| xnum 0 = x := fun x => Int32.or_zero
  have upS : ∀ (D2 : xM) (a j : Nat), xup D2 112 111 (D2 112 111) a j = D2 a j := fun D2 a j => by
    by_cases q : a = 112 ∧ j = 111
    · rw [q.1, q.2, xup_at]
    · rw [xup_o q]
  refine x_call [xI (nI S.B)] rfl rfl rfl rfl rfl rfl rfl (c_number k1 g2.1 g2.2.1 g2.2.2 hT (by omega) ?_)
  rcases hv : tNum tx (tF tx e) (tE tx (tF tx e)) S.B with _ | b
  · rw [hv] at hp
    dsimp only at hp
    refine x_aldN 111 rfl rfl rfl (by omega) rfl ?_
    have last : xW Γ (n + 4) hX9_readsCover rX9_readsCover 39 [some (xR 0 9 111), some (xI (-1))] [xI (D1 112 111), xI (xnum 111), xR 1 1404 112] D1 post := by
      refine x_astN 111 rfl rfl rfl (by omega) rfl ?_
      rw [or0]
      refine xi_eq rfl rfl (fun _ => ?_) (fun q => absurd rfl q)
      refine x_ret rfl rfl rfl rfl (hp _ _ ⟨fun a j q1 q2 q3 => ?_, rfl, ?_⟩)
      · rw [upS]; exact k2 a j (by omega)
      · rw [upS]; exact k1.2.2.1
    refine x0_eqd (d := d) hw1.1 rfl rfl (fun _ => last) (fun _ => ?_)
    exact xi_eq rfl rfl (fun _ => last) (fun q => absurd rfl q)
  · rw [hv] at hp
    dsimp only at hp ⊢
    intro D2 k3 k4
    have hs2 := sM_T hs1 k4
    have hw2 := wM_T hw1 ⟨h8, h4⟩ k4
    have f2 : fR d D D2 := fR.ofT (k2.tr k4)
    have hb := (tNum_lt hv).1
    refine x_aldN 111 rfl rfl rfl (by omega) rfl ?_
    have last : ∀ x : Int32, (d = false → x = D2 112 111) → (d = true → x = nI (S.C ||| 2 ^ b)) → xW Γ (n + 4) hX9_readsCover rX9_readsCover 42 [some (xR 0 9 111), some (xI (nI b))] [] (xup D2 112 111 x) post := by
      intro x hx0 hx1
      refine xi_eq rfl rfl (fun q => absurd q (nI_nm1 (by omega))) (fun _ => ?_)
      refine x_goto rfl rfl (x_ret rfl rfl rfl rfl ?_)
      have f4 : fR d D (xup D2 112 111 x) := f2.tr (fun a j q1 q2 q3 => by
        by_cases q : a = 112 ∧ j = 111
        · rw [q.1, q.2, xup_at]
          exact hx0 (by
            cases d with
            | true => exact absurd ⟨rfl, q.1, by omega, by omega⟩ q3
            | false => rfl)
        · rw [xup_o q])
      refine hp _ _ ⟨f4, rfl, ⟨by rw [xup_o (by omega)]; exact k3.1, rL_out k3.2.1 (xup_ne 114 (by omega)), by rw [xup_o (by omega)]; exact k3.2.2.1, by rw [xup_o (by omega)]; exact k3.2.2.2⟩, ⟨by rw [xup_o (by omega)]; exact hs2.1, by rw [xup_o (by omega)]; exact hs2.2.1, fun m hm => by rw [xup_o (by omega)]; exact hs2.2.2 m hm⟩, by rw [xup_o (by omega)]; exact hw2.1, wd_R hw.2.1 f4, fun hd => ?_⟩
      have hx := hx1 hd
      subst hx
      exact ⟨rM_C (o := 108) (hw2.2.2 hd).1 h8 h4, fun c k q1 q2 q3 => by rw [xup_o (by omega)]; exact (hw2.2.2 hd).2 c k q1 q2 q3⟩
    refine x0_eqd (d := d) hw2.1 rfl rfl (fun hd => ?_) (fun hd => ?_)
    · refine x_astN 111 rfl rfl rfl (by omega) rfl ?_
      exact last _ (fun _ => or0 _) (fun z => by rw [hd] at z; cases z)
    · refine xi_eq rfl rfl (fun q => absurd q (nI_nm1 (by omega))) (fun _ => ?_)
      refine x_goto rfl rfl ?_
      refine x_astN 111 rfl rfl rfl (by omega) rfl ?_
      refine last _ (fun z => by rw [hd] at z; cases z) (fun _ => ?_)
      have r4 := (hw2.2.2 hd).1.2.2.2.1
      have : D2 112 111 = nI S.C := r4
      rw [this, ← xb_or, ← xb_sh1 (by omega)]
      rfl
theorem c_readsHarbour {f e : Nat} (h : tM D tx f e) (hs : sM D S) (hw : wM D d S) (ho : wok S) (hbe : e ≤ tx.length) (hT : tx.length ≤ 200 ∧ ∀ c ∈ tx, c < 256) (hp : ∀ v D', rmP D d tx (.inr (e, wClr S)) v D' → post v D') : xRuns Γ (n + 4) hX9_readsHarbour [xR 0 9 111] D post := by
  have h8 := ho.1
  have h4 := ho.2.1
  refine x_runs kX9_readsHarbour (by decide +kernel) rfl ?_
  refine x_call [] rfl rfl rfl rfl rfl rfl rfl (c_nextToken h hbe hT (fun D1 k1 k2 => ?_))
  have hw1 := wM_T hw ⟨h8, h4⟩ k2
  refine x_to 16 rfl ?_
  have loop : ∀ g i (D2 : xM), i + g = 108 → (∀ a j, ¬ (a = 111 ∧ (j = 18 ∨ j = 19)) → ¬ (d = true ∧ a = 112 ∧ 108 ≤ j ∧ j < 216) → D2 a j = D1 a j) → D2 111 18 = 0 → D2 111 19 = 0 → (d = true → ∀ j, j < i → D2 112 (108 + j) = 0) → xW Γ (n + 4) hX9_readsHarbour rX9_readsHarbour 16 [some (xR 0 9 111), some (xI (nI i))] [] D2 post := by
    have fin : ∀ (i : Nat) (D2 : xM), (∀ a j, ¬ (a = 111 ∧ (j = 18 ∨ j = 19)) → ¬ (d = true ∧ a = 112 ∧ 108 ≤ j ∧ j < 216) → D2 a j = D1 a j) → D2 111 18 = 0 → D2 111 19 = 0 → (d = true → ∀ j, j < 108 → D2 112 (108 + j) = 0) → xW Γ (n + 4) hX9_readsHarbour rX9_readsHarbour 45 [some (xR 0 9 111), some (xI (nI i))] [] D2 post := by
      intro i D2 z1 z2 z3 z4
      refine x_ret rfl rfl rfl rfl ?_
      have f2 : fR d D D2 := (fR.ofT k2).tr (fun a j q1 q2 q3 => z1 a j (by omega) q3)
      refine hp _ D2 ⟨f2, rfl, ⟨by rw [z1 111 4 (by omega) (by omega)]; exact k1.1, rL_out k1.2.1 (funext fun j => z1 114 j (by omega) (by omega)), by rw [z1 111 16 (by omega) (by omega)]; exact k1.2.2.1, by rw [z1 111 17 (by omega) (by omega)]; exact k1.2.2.2⟩, ⟨z2, z3, fun m hm => absurd hm (Nat.not_lt_zero _)⟩, by rw [z1 111 22 (by omega) (by omega)]; exact hw1.1, wd_R hw.2.1 f2, fun hd => ?_⟩
      have z4 := z4 hd
      exact ⟨⟨z4 0 (by omega), z4 1 (by omega), z4 2 (by omega), z4 3 (by omega), fun _ q => absurd q (Nat.not_lt_zero _), fun _ q => absurd q (Nat.not_lt_zero _), fun _ _ q => absurd q (Nat.not_lt_zero _), fun _ q => absurd q (Nat.not_lt_zero _), fun _ q => absurd q (Nat.not_lt_zero _)⟩, fun b k _ q2 q3 => by
        have := z4 (20 + (b * 10 + k)) (by omega)
        have e1 : 108 + 20 + (b * 10 + k) = 108 + (20 + (b * 10 + k)) := by omega
        rw [e1]
        exact this⟩
    intro g
    induction g with
    | zero =>
      intro i D2 hi z1 z2 z3 z4
      obtain rfl : i = 108 := by omega
      exact xi_geN 108 108 rfl rfl rfl rfl (by omega) (by omega) (fun _ => fin 108 D2 z1 z2 z3 z4) (fun h => absurd h (by omega))
    | succ g ih =>
      intro i D2 hi z1 z2 z3 z4
      refine xi_geN i 108 rfl rfl rfl rfl (by omega) (by omega) (fun h => absurd h (by omega)) (fun hi8 => ?_)
      refine x0_eqd (d := d) (x := D2 111 22) (by rw [z1 111 22 (by omega) (by omega)]; exact hw1.1) rfl rfl (fun hd => fin i D2 z1 z2 z3 (fun z => by rw [hd] at z; cases z)) (fun hd => ?_)
      refine x_astN (108 + i) rfl rfl (nI_add 108 i) (by omega) rfl ?_
      have IH := ih (i + 1) (xup D2 112 (108 + i) (xnum 0)) (by omega) (fun a j q1 q2 => by rw [xup_o (fun z => q2 ⟨hd, z.1, by omega, by omega⟩)]; exact z1 a j q1 q2) (by rw [xup_o (by omega)]; exact z2) (by rw [xup_o (by omega)]; exact z3) (fun _ j hj => by
        by_cases q : j = i
        · subst q; rw [xup_at]; rfl
        · rw [xup_o (by omega)]; exact z4 hd j (by omega))
      rw [← nI_1] at IH
      exact x_goto rfl rfl IH
  refine loop 108 0 _ (by omega) (fun a j q1 q2 => by rw [xup_o (by omega), xup_o (by omega)]) ?_ ?_ (fun _ j hj => absurd hj (by omega))
  · rw [xup_o (by omega), xup_at]; rfl
  · rw [xup_at]; rfl
theorem c_kindHere {f e : Nat} (h : tM D tx f e) (hw : ∀ q, q < 10 → rL D (tWc.getD q 0) (tWl.getD q [])) (hfe : f ≤ e) (he : e ≤ tx.length) (hT : tx.length ≤ 200 ∧ ∀ c ∈ tx, c < 256) (hp : post (some (xby (tKd tx f e))) D) : xRuns Γ (n + 1) hX9_kindHere [xR 0 9 111] D post := by
  refine x_runs kX9_kindHere (by decide +kernel) rfl ?_
  rw [tKd] at hp
  refine x_call [xR 1 6 126] rfl rfl rfl rfl rfl rfl rfl (c_isWord (q := 0) h hw hfe he hT (by omega) ?_)
  cases h0 : tIs tx f e (tWl.getD 0 []) with
  | true =>
    rw [h0] at hp
    refine x0_eq rfl rfl (fun q => absurd q (by decide)) (fun _ => ?_)
    exact x_goto rfl rfl (x_ret rfl rfl rfl rfl hp)
  | false =>
    rw [h0, if_neg (by decide)] at hp
    refine x0_eq rfl rfl (fun _ => ?_) (fun q => absurd rfl q)
    refine x_call [xR 1 4 127] rfl rfl rfl rfl rfl rfl rfl (c_isWord (q := 1) h hw hfe he hT (by omega) ?_)
    cases h1 : tIs tx f e (tWl.getD 1 []) with
    | true =>
      rw [h1] at hp
      refine x0_eq rfl rfl (fun q => absurd q (by decide)) (fun _ => ?_)
      exact x_goto rfl rfl (x_ret rfl rfl rfl rfl hp)
    | false =>
      rw [h1, if_neg (by decide)] at hp
      refine x0_eq rfl rfl (fun _ => ?_) (fun q => absurd rfl q)
      refine x_call [xR 1 8 128] rfl rfl rfl rfl rfl rfl rfl (c_isWord (q := 2) h hw hfe he hT (by omega) ?_)
      cases h2 : tIs tx f e (tWl.getD 2 []) with
      | true =>
        rw [h2] at hp
        refine x0_eq rfl rfl (fun q => absurd q (by decide)) (fun _ => ?_)
        exact x_goto rfl rfl (x_ret rfl rfl rfl rfl hp)
      | false =>
        rw [h2, if_neg (by decide)] at hp
        refine x0_eq rfl rfl (fun _ => ?_) (fun q => absurd rfl q)
        refine x_call [xR 1 4 129] rfl rfl rfl rfl rfl rfl rfl (c_isWord (q := 3) h hw hfe he hT (by omega) ?_)
        cases h3 : tIs tx f e (tWl.getD 3 []) with
        | true =>
          rw [h3] at hp
          refine x0_eq rfl rfl (fun q => absurd q (by decide)) (fun _ => ?_)
          exact x_goto rfl rfl (x_ret rfl rfl rfl rfl hp)
        | false =>
          rw [h3, if_neg (by decide)] at hp
          refine x0_eq rfl rfl (fun _ => ?_) (fun q => absurd rfl q)
          refine x_call [xR 1 5 130] rfl rfl rfl rfl rfl rfl rfl (c_isWord (q := 4) h hw hfe he hT (by omega) ?_)
          cases h4 : tIs tx f e (tWl.getD 4 []) with
          | true =>
            rw [h4] at hp
            refine x0_eq rfl rfl (fun q => absurd q (by decide)) (fun _ => ?_)
            exact x_goto rfl rfl (x_ret rfl rfl rfl rfl hp)
          | false =>
            rw [h4] at hp
            refine x0_eq rfl rfl (fun _ => ?_) (fun q => absurd rfl q)
            exact x_ret rfl rfl rfl rfl hp
theorem is56 {f e : Nat} (h : tIs tx f e (tWl.getD 6 []) = true) : tIs tx f e (tWl.getD 5 []) = false := by
  have h := (of_decide_eq_true h).1
  refine decide_eq_false (fun z => ?_)
  have z := z.1
  have e1 : (tWl.getD 6 []).length = 3 := rfl
  have e2 : (tWl.getD 5 []).length = 7 := rfl
  omega
theorem c_readsClause {f e : Nat} (h : tM D tx f e) (hs : sM D S) (hw : wM D d S) (ho : wok S) (hfe : f ≤ e) (hbe : e ≤ tx.length) (hT : tx.length ≤ 200 ∧ ∀ c ∈ tx, c < 256) (hp : ∀ v D', rmP D d tx (rd1 tx S f e) v D' → post v D') : xRuns Γ (n + 5) hX9_readsClause [xR 0 9 111] D post := by
  have hW := hw.2.1
  refine x_runs kX9_readsClause (by decide +kernel) rfl ?_
  rw [rd1] at hp
  refine x_call [] rfl rfl rfl rfl rfl rfl rfl (c_kindHere h hW hfe hbe hT ?_)
  rcases hk : tKd tx f e with _ | kd
  · rw [hk] at hp
    dsimp only at hp
    refine xi_eq rfl rfl (fun _ => ?_) (fun q => absurd rfl q)
    refine x_call [xR 1 3 131] rfl rfl rfl rfl rfl rfl rfl (c_isWord (q := 6) h hW hfe hbe hT (by omega) ?_)
    cases h6 : tIs tx f e (tWl.getD 6 []) with
    | true =>
      rw [is56 h6, if_neg (by decide), h6, if_pos rfl] at hp
      refine x0_eq rfl rfl (fun q => absurd q (by decide)) (fun _ => ?_)
      refine x_call [] rfl rfl rfl rfl rfl rfl rfl (c_readsMan h hs hw ho hbe hT (fun v D1 q => ?_))
      rcases rmP_bool q with e1 | e1
      · subst e1; exact x_ret rfl rfl rfl rfl (hp _ D1 q)
      · subst e1; exact x_ret rfl rfl rfl rfl (hp _ D1 q)
    | false =>
      refine x0_eq rfl rfl (fun _ => ?_) (fun q => absurd rfl q)
      refine x_call [xR 1 7 125] rfl rfl rfl rfl rfl rfl rfl (c_isWord (q := 5) h hW hfe hbe hT (by omega) ?_)
      cases h5 : tIs tx f e (tWl.getD 5 []) with
      | true =>
        rw [h5, if_pos rfl] at hp
        refine x0_eq rfl rfl (fun q => absurd q (by decide)) (fun _ => ?_)
        refine x_call [] rfl rfl rfl rfl rfl rfl rfl (c_readsHarbour h hs hw ho hbe hT (fun v D1 q => ?_))
        rcases rmP_bool q with e1 | e1
        · subst e1; exact x_goto rfl rfl (x_ret rfl rfl rfl rfl (hp _ D1 q))
        · subst e1; exact x_goto rfl rfl (x_ret rfl rfl rfl rfl (hp _ D1 q))
      | false =>
        rw [h5, if_neg (by decide), h6, if_neg (by decide)] at hp
        refine x0_eq rfl rfl (fun _ => ?_) (fun q => absurd rfl q)
        refine x_call [xR 1 5 132] rfl rfl rfl rfl rfl rfl rfl (c_isWord (q := 7) h hW hfe hbe hT (by omega) ?_)
        cases h7 : tIs tx f e (tWl.getD 7 []) with
        | true =>
          rw [h7, if_pos rfl] at hp
          refine x0_eq rfl rfl (fun q => absurd q (by decide)) (fun _ => ?_)
          refine x_call [] rfl rfl rfl rfl rfl rfl rfl (c_readsKnows h hs hw ho hbe hT (fun v D1 q => ?_))
          rcases rmP_bool q with e1 | e1
          · subst e1; exact x_goto rfl rfl (x_ret rfl rfl rfl rfl (hp _ D1 q))
          · subst e1; exact x_goto rfl rfl (x_ret rfl rfl rfl rfl (hp _ D1 q))
        | false =>
          rw [h7, if_neg (by decide)] at hp
          refine x0_eq rfl rfl (fun _ => ?_) (fun q => absurd rfl q)
          refine x_call [xR 1 4 133] rfl rfl rfl rfl rfl rfl rfl (c_isWord (q := 8) h hW hfe hbe hT (by omega) ?_)
          cases h8 : tIs tx f e (tWl.getD 8 []) with
          | true =>
            rw [h8, if_pos rfl] at hp
            refine x0_eq rfl rfl (fun q => absurd q (by decide)) (fun _ => ?_)
            refine x_call [] rfl rfl rfl rfl rfl rfl rfl (c_readsSits h hs hw ho hbe hT (fun v D1 q => ?_))
            rcases rmP_bool q with e1 | e1
            · subst e1; exact x_goto rfl rfl (x_ret rfl rfl rfl rfl (hp _ D1 q))
            · subst e1; exact x_goto rfl rfl (x_ret rfl rfl rfl rfl (hp _ D1 q))
          | false =>
            rw [h8, if_neg (by decide)] at hp
            refine x0_eq rfl rfl (fun _ => ?_) (fun q => absurd rfl q)
            refine x_call [xR 1 5 134] rfl rfl rfl rfl rfl rfl rfl (c_isWord (q := 9) h hW hfe hbe hT (by omega) ?_)
            cases h9 : tIs tx f e (tWl.getD 9 []) with
            | true =>
              rw [h9, if_pos rfl] at hp
              refine x0_eq rfl rfl (fun q => absurd q (by decide)) (fun _ => ?_)
              refine x_call [] rfl rfl rfl rfl rfl rfl rfl (c_readsCover h hs hw ho hbe hT (fun v D1 q => ?_))
              rcases rmP_bool q with e1 | e1
              · subst e1
                refine x0_eq rfl rfl (fun _ => ?_) (fun q => absurd rfl q)
                exact x_ret rfl rfl rfl rfl (hp _ D1 q)
              · subst e1
                refine x0_eq rfl rfl (fun q => absurd q (by decide)) (fun _ => ?_)
                exact x_goto rfl rfl (x_ret rfl rfl rfl rfl (hp _ D1 q))
            | false =>
              rw [h9, if_neg (by decide)] at hp
              refine x0_eq rfl rfl (fun _ => ?_) (fun q => absurd rfl q)
              exact x_ret rfl rfl rfl rfl (hp _ D ⟨fR.rf, rfl, h.2.2.1⟩)
  · have := tKd_lt hk
    refine xi_eq rfl rfl (fun q => absurd q (nI_nm1 (by omega))) (fun _ => ?_)
    refine x_call [] rfl rfl rfl rfl rfl rfl rfl (c_kindHere h hW hfe hbe hT ?_)
    rw [hk] at hp ⊢
    dsimp only at hp
    refine x_call [xI (nI kd)] rfl rfl rfl rfl rfl rfl rfl (c_readsBird h hs hw ho hbe hT (fun v D1 q => ?_))
    rcases rmP_bool q with e1 | e1
    · subst e1; exact x_ret rfl rfl rfl rfl (hp _ D1 q)
    · subst e1; exact x_ret rfl rfl rfl rfl (hp _ D1 q)
end MT
