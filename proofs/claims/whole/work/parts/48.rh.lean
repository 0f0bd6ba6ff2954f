/-! ===== World: clear, addBird, addMan; the class's reader ===== -/
section RH1
variable {Γ : xG} {n : Nat} {D : xM} {post : Option Int32 → xM → Prop} {w : Nat} {S : wS}
theorem c_wclear (hp : ∀ D', rW D' w (wClr S) → sameW w D D' → post none D') : xRuns Γ n hX7_clear [xR 0 7 w] D post := by
  refine x_runs kX7_clear (by decide +kernel) rfl ?_
  refine x_vret rfl rfl rfl (hp _ ⟨?_, ?_, ?_, ?_, fun _ h => absurd h (Nat.not_lt_zero _), fun _ h => absurd h (Nat.not_lt_zero _), fun _ _ h => absurd h (Nat.not_lt_zero _), fun _ h => absurd h (Nat.not_lt_zero _), fun _ h => absurd h (Nat.not_lt_zero _)⟩ (fun a ha => by rw [xup_ne a (by omega), xup_ne a (by omega), xup_ne a (by omega), xup_ne a (by omega)]))
  · rw [xup_o (by omega), xup_o (by omega), xup_o (by omega), xup_at]; rfl
  · rw [xup_o (by omega), xup_o (by omega), xup_at]; rfl
  · rw [xup_o (by omega), xup_at]; rfl
  · rw [xup_at]; rfl
theorem c_addBird {kd p : Nat} (hr : rW D w S) (ho : wok S) (hB : S.B < 8) (hp : ∀ D', rW D' w (wAB S kd p) → sameW w D D' → post none D') : xRuns Γ n hX7_addBird [xR 0 7 w, xI (nI kd), xI (nI p)] D post := by
  have h4 := ho.2.1
  refine x_runs kX7_addBird (by decide +kernel) rfl ?_
  refine x_astN S.B rfl rfl hr.1 (by omega) rfl ?_
  refine x_astN S.B rfl rfl (by rw [xup_o (by omega)]; exact hr.1) (by omega) rfl ?_
  refine x_to 22 rfl ?_
  have loop : ∀ g i (D1 : xM), i + g = 10 → (∀ k, k < i → D1 (w + 3) (S.B * 10 + k) = 0) → (∀ j, j < S.B * 10 → D1 (w + 3) j = D (w + 3) j) → (∀ a, a ≠ w + 3 → D1 a = xup (xup D (w + 1) S.B (nI kd)) (w + 2) S.B (nI p) a) → xW Γ n hX7_addBird rX7_addBird 22 [some (xR 0 7 w), some (xI (nI kd)), some (xI (nI p)), some (xI (nI i))] [] D1 post := by
    intro g
    induction g with
    | zero =>
      intro i D1 hi k1 k2 k3
      obtain rfl : i = 10 := by omega
      refine xi_geN 10 10 rfl rfl rfl rfl (by omega) (by omega) (fun _ => ?_) (fun h => absurd h (by omega))
      have e0 : ∀ j, D1 w j = D w j := fun j => by rw [k3 w (by omega), xup_o (by omega), xup_o (by omega)]
      have eB : D1 w 0 + xnum 1 = nI (S.B + 1) := by rw [e0, hr.1]; exact nI_1 _
      refine x_vret rfl rfl rfl ?_
      rw [eB]
      obtain ⟨r1, r2, r3, r4, r5, r6, r7, r8, r9⟩ := hr
      refine hp _ ⟨by rw [xup_at], by rw [xup_o (by omega), e0]; exact r2, by rw [xup_o (by omega), e0]; exact r3, by rw [xup_o (by omega), e0]; exact r4, fun b hb => ?_, fun b hb => ?_, fun b k hb hk => ?_, fun m hm => ?_, fun m hm => ?_⟩ (fun a ha => ?_)
      · have hb : b < S.B + 1 := hb
        show _ = nI (wuf S.kd S.B kd b)
        rw [xup_o (by omega), k3 _ (by omega), xup_o (by omega)]
        by_cases e : b = S.B
        · subst e; rw [xup_at, wuf_at]
        · rw [xup_o (by omega), wuf_ne _ _ e]; exact r5 b (by omega)
      · have hb : b < S.B + 1 := hb
        show _ = nI (wuf S.pe S.B p b)
        rw [xup_o (by omega), k3 _ (by omega)]
        by_cases e : b = S.B
        · subst e; rw [xup_at, wuf_at]
        · rw [xup_o (by omega), xup_o (by omega), wuf_ne _ _ e]; exact r6 b (by omega)
      · have hb : b < S.B + 1 := hb
        show _ = nI (if b = S.B then 0 else S.K b k)
        rw [xup_o (by omega)]
        by_cases e : b = S.B
        · subst e; rw [if_pos rfl, k1 k hk]; rfl
        · rw [if_neg e, k2 _ (by omega)]; exact r7 b k (by omega) hk
      · rw [xup_o (by omega), k3 _ (by omega), xup_o (by omega), xup_o (by omega)]; exact r8 m hm
      · rw [xup_o (by omega), k3 _ (by omega), xup_o (by omega), xup_o (by omega)]; exact r9 m hm
      · rw [xup_ne a (by omega), k3 a (by omega), xup_ne a (by omega), xup_ne a (by omega)]
    | succ g ih =>
      intro i D1 hi k1 k2 k3
      have e0 : ∀ j, D1 w j = D w j := fun j => by rw [k3 w (by omega), xup_o (by omega), xup_o (by omega)]
      refine xi_geN i 10 rfl rfl rfl rfl (by omega) (by omega) (fun h => absurd h (by omega)) (fun h => ?_)
      refine x_astN (S.B * 10 + i) rfl rfl (by rw [e0, hr.1]; exact ix10) (by omega) rfl ?_
      have IH := ih (i + 1) (xup D1 (w + 3) (S.B * 10 + i) (xnum 0)) (by omega) (fun k hk => by
        by_cases e : k = i
        · subst e; rw [xup_at]; rfl
        · rw [xup_o (by omega)]; exact k1 k (by omega)) (fun j hj => by rw [xup_o (by omega)]; exact k2 j hj) (fun a ha => by rw [xup_ne a ha]; exact k3 a ha)
      rw [← nI_1] at IH
      exact x_goto rfl rfl IH
  exact loop 10 0 _ (by omega) (fun k hk => absurd hk (by omega)) (fun j _ => by rw [xup_o (by omega), xup_o (by omega)]) (fun _ _ => rfl)
theorem c_addMan {ws : Nat} (hr : rW D w S) (ho : wok S) (hM : S.M < 4) (hp : ∀ D', rW D' w (wAM S ws) → sameW w D D' → post none D') : xRuns Γ n hX7_addMan [xR 0 7 w, xI (nI ws)] D post := by
  have h8 := ho.1
  refine x_runs kX7_addMan (by decide +kernel) rfl ?_
  refine x_astN S.M rfl rfl hr.2.1 (by omega) rfl ?_
  refine x_astN S.M rfl rfl (by rw [xup_o (by omega)]; exact hr.2.1) (by omega) rfl ?_
  refine x_vret rfl rfl rfl ?_
  have eM : xup (xup D (w + 4) S.M (nI ws)) (w + 5) S.M (xnum (-1)) w 1 + xnum 1 = nI (S.M + 1) := by rw [xup_o (by omega), xup_o (by omega), hr.2.1]; exact nI_1 _
  rw [eM]
  obtain ⟨r1, r2, r3, r4, r5, r6, r7, r8, r9⟩ := hr
  refine hp _ ⟨by rw [xup_o (by omega), xup_o (by omega), xup_o (by omega)]; exact r1, by rw [xup_at], by rw [xup_o (by omega), xup_o (by omega), xup_o (by omega)]; exact r3, by rw [xup_o (by omega), xup_o (by omega), xup_o (by omega)]; exact r4, fun b hb => by rw [xup_o (by omega), xup_o (by omega), xup_o (by omega)]; exact r5 b hb, fun b hb => by rw [xup_o (by omega), xup_o (by omega), xup_o (by omega)]; exact r6 b hb, fun b k hb hk => by rw [xup_o (by omega), xup_o (by omega), xup_o (by omega)]; exact r7 b k hb hk, fun m hm => ?_, fun m hm => ?_⟩ (fun a ha => by rw [xup_ne a (by omega), xup_ne a (by omega), xup_ne a (by omega)])
  · have hm : m < S.M + 1 := hm
    show _ = nI (wuf S.ha S.M ws m)
    rw [xup_o (by omega), xup_o (by omega)]
    by_cases e : m = S.M
    · subst e; rw [xup_at, wuf_at]
    · rw [xup_o (by omega), wuf_ne _ _ e]; exact r8 m (by omega)
  · have hm : m < S.M + 1 := hm
    show _ = xby (wuf S.bi S.M none m)
    rw [xup_o (by omega)]
    by_cases e : m = S.M
    · subst e; rw [xup_at, wuf_at]; rfl
    · rw [xup_o (by omega), xup_o (by omega), wuf_ne _ _ e]; exact r9 m (by omega)
end RH1
def rdP (D : xM) (tx : List Nat) (r : rdT) (v : Option Int32) (D' : xM) : Prop := (∀ a, a ≠ 1 → (a < 4 ∨ 9 < a) → D' a = D a) ∧ match r with
  | .inl p => v = some 0 ∧ D' 1 1 = nI tx.length ∧ rL D' 2 tx ∧ D' 1 2 = nI p
  | .inr (e, S) => v = some 1 ∧ (∃ pl, TXc D' tx pl e) ∧ rW D' 4 S
section RH2
variable {Γ : xG} {n : Nat} {D : xM} {post : Option Int32 → xM → Prop} {tx : List Nat} {S : wS}
theorem c_readNumber {pl i bound : Nat} (h : TXc D tx pl i) (hi : i ≤ tx.length) (hT : tx.length ≤ 200 ∧ ∀ c ∈ tx, c < 256) (hb : bound < 1000) (hp : ∀ D', TXc D' tx (tF tx i) (tE tx (tF tx i)) → (∀ a, a ≠ 1 → D' a = D a) → post (some (xby (tNum tx (tF tx i) (tE tx (tF tx i)) bound))) D') : xRuns Γ (n + 3) hX0_readNumber [xR 0 0 3, xI (nI bound)] D post := by
  have h1 := tF_le hi
  have h2 := tE_le h1.2
  refine x_runs kX0_readNumber (by decide +kernel) rfl ?_
  refine x_call [] rfl rfl rfl rfl rfl rfl rfl (c_readToken h hi hT (fun D1 k1 k2 => ?_))
  refine x_call [xI (nI bound)] rfl rfl rfl rfl rfl rfl rfl (c_numberBelow k1 h2.1 h2.2.1 hT hb ?_)
  exact x_ret rfl rfl rfl rfl (hp D1 k1 k2)
theorem c_readBird {f e kd : Nat} (h : TXc D tx f e) (hr : rW D 4 S) (ho : wok S) (he : e ≤ tx.length) (hT : tx.length ≤ 200 ∧ ∀ c ∈ tx, c < 256) (hp : ∀ v D', rdP D tx (rdBird tx S f e kd) v D' → post v D') : xRuns Γ (n + 4) hX0_readBird [xR 0 0 3, xI (nI kd)] D post := by
  have h8 := ho.1
  refine x_runs kX0_readBird (by decide +kernel) rfl ?_
  rw [rdBird] at hp
  refine xi_ltN S.B 8 rfl rfl hr.1 rfl (by omega) (by omega) (fun h1 => ?_) (fun h1 => ?_)
  · rw [if_neg (by omega), rdN] at hp
    refine x_call [xI (nI 4)] rfl rfl rfl rfl rfl rfl rfl (c_readNumber h he hT (by omega) (fun D1 k1 k2 => ?_))
    have hr1 : rW D1 4 S := rW_out hr (fun a q1 q2 => k2 a (by omega))
    rcases hv : tNum tx (tF tx e) (tE tx (tF tx e)) 4 with _ | p
    · rw [hv] at hp
      refine xi_ne rfl rfl (fun q => absurd rfl q) (fun _ => ?_)
      exact x_ret rfl rfl rfl rfl (hp _ D1 ⟨fun a q1 _ => k2 a q1, rfl, k1.1, k1.2.1, k1.2.2.1⟩)
    · rw [hv] at hp
      have hpl := (tNum_lt hv).1
      refine xi_ne rfl rfl (fun _ => ?_) (fun q => absurd q (nI_nm1 (by omega)))
      refine x_call [xI (nI kd), xI (nI p)] rfl rfl rfl rfl rfl rfl rfl (c_addBird hr1 ho h1 (fun D2 k3 k4 => ?_))
      exact x_ret rfl rfl rfl rfl (hp _ D2 ⟨fun a q1 q2 => by rw [k4 a (by omega)]; exact k2 a q1, rfl, ⟨_, TXc_out k1 (k4 1 (by omega)) (k4 2 (by omega))⟩, k3⟩)
  · rw [if_pos h1] at hp
    exact x_ret rfl rfl rfl rfl (hp _ D ⟨fun _ _ _ => rfl, rfl, h.1, h.2.1, h.2.2.1⟩)
theorem c_readMan {f e : Nat} (h : TXc D tx f e) (hr : rW D 4 S) (ho : wok S) (he : e ≤ tx.length) (hT : tx.length ≤ 200 ∧ ∀ c ∈ tx, c < 256) (hp : ∀ v D', rdP D tx (rdMan tx S f e) v D' → post v D') : xRuns Γ (n + 4) hX0_readMan [xR 0 0 3] D post := by
  have h4 := ho.2.1
  have g1 := tF_le he
  have g2 := tE_le g1.2
  refine x_runs kX0_readMan (by decide +kernel) rfl ?_
  rw [rdMan] at hp
  refine xi_ltN S.M 4 rfl rfl hr.2.1 rfl (by omega) (by omega) (fun h1 => ?_) (fun h1 => ?_)
  · rw [if_neg (by omega)] at hp
    refine x_call [] rfl rfl rfl rfl rfl rfl rfl (c_readToken h he hT (fun D1 k1 k2 => ?_))
    have hr1 : rW D1 4 S := rW_out hr (fun a q1 q2 => k2 a (by omega))
    refine x_call [] rfl rfl rfl rfl rfl rfl rfl (c_risingWords k1 g2.1 g2.2.1 hT ?_)
    have hlt : tWords tx (tF tx e) (tE tx (tF tx e)) < 1024 := tRi_lt tx _ _ _ _ (by omega)
    refine x0_ne rfl rfl (fun h2 => ?_) (fun h2 => ?_)
    · rw [if_neg (fun z => h2 (by rw [z]; rfl))] at hp
      refine x_call [xI (nI (tWords tx (tF tx e) (tE tx (tF tx e))))] rfl rfl rfl rfl rfl rfl rfl (c_addMan hr1 ho h1 (fun D2 k3 k4 => ?_))
      exact x_ret rfl rfl rfl rfl (hp _ D2 ⟨fun a q1 q2 => by rw [k4 a (by omega)]; exact k2 a q1, rfl, ⟨_, TXc_out k1 (k4 1 (by omega)) (k4 2 (by omega))⟩, k3⟩)
    · rw [if_pos ((nI_eq (b := 0) (by omega) (by omega)).mp h2)] at hp
      exact x_ret rfl rfl rfl rfl (hp _ D1 ⟨fun a q1 _ => k2 a q1, rfl, k1.1, k1.2.1, k1.2.2.1⟩)
  · rw [if_pos h1] at hp
    exact x_ret rfl rfl rfl rfl (hp _ D ⟨fun _ _ _ => rfl, rfl, h.1, h.2.1, h.2.2.1⟩)
theorem c_readKnows {f e : Nat} (h : TXc D tx f e) (hr : rW D 4 S) (ho : wok S) (he : e ≤ tx.length) (hT : tx.length ≤ 200 ∧ ∀ c ∈ tx, c < 256) (hp : ∀ v D', rdP D tx (rdKn tx S e) v D' → post v D') : xRuns Γ (n + 4) hX0_readKnows [xR 0 0 3] D post := by
  have h8 := ho.1
  have g1 := tF_le he
  have g2 := tE_le g1.2
  refine x_runs kX0_readKnows (by decide +kernel) rfl ?_
  rw [rdKn, rdN] at hp
  refine x_to 8 rfl ?_
  rw [hr.1]
  refine x_call [xI (nI S.B)] rfl rfl rfl rfl rfl rfl rfl (c_readNumber h he hT (by omega) (fun D1 k1 k2 => ?_))
  have hr1 : rW D1 4 S := rW_out hr (fun a q1 q2 => k2 a (by omega))
  rcases hv : tNum tx (tF tx e) (tE tx (tF tx e)) S.B with _ | b
  · rw [hv] at hp
    refine xi_ne rfl rfl (fun q => absurd rfl q) (fun _ => ?_)
    exact x_ret rfl rfl rfl rfl (hp _ D1 ⟨fun a q1 _ => k2 a q1, rfl, k1.1, k1.2.1, k1.2.2.1⟩)
  · rw [hv] at hp
    dsimp only at hp
    have hb := (tNum_lt hv).1
    rw [rdKn2] at hp
    refine xi_ne rfl rfl (fun _ => ?_) (fun q => absurd q (nI_nm1 (by omega)))
    generalize tE tx (tF tx e) = e1 at k1 hp g2
    have g3 := tF_le g2.2.1
    have g4 := tE_le g3.2
    refine x_call [] rfl rfl rfl rfl rfl rfl rfl (c_readToken k1 g2.2.1 hT (fun D2 k3 k4 => ?_))
    refine x_call [] rfl rfl rfl rfl rfl rfl rfl (c_oneWord k3 g4.1 g4.2.1 hT ?_)
    have hr2 : rW D2 4 S := rW_out hr1 (fun a q1 q2 => k4 a (by omega))
    rcases hw : tOne tx (tF tx e1) (tE tx (tF tx e1)) with _ | w
    · rw [hw] at hp
      refine xi_ne rfl rfl (fun q => absurd rfl q) (fun _ => ?_)
      exact x_ret rfl rfl rfl rfl (hp _ D2 ⟨fun a q1 _ => by rw [k4 a q1]; exact k2 a q1, rfl, k3.1, k3.2.1, k3.2.2.1⟩)
    · rw [hw] at hp
      dsimp only at hp
      have hwl : w < 10 := by
        rw [tOne] at hw
        split at hw
        · exact (tWo_lt hw).1
        · cases hw
      rw [rdKn3, rdN] at hp
      refine xi_ne rfl rfl (fun _ => ?_) (fun q => absurd q (nI_nm1 (by omega)))
      generalize tE tx (tF tx e1) = e2 at k3 hp g4
      refine x_call [xI (nI 10)] rfl rfl rfl rfl rfl rfl rfl (c_readNumber k3 g4.2.1 hT (by omega) (fun D3 k5 k6 => ?_))
      have hr3 : rW D3 4 S := rW_out hr2 (fun a q1 q2 => k6 a (by omega))
      rcases hu : tNum tx (tF tx e2) (tE tx (tF tx e2)) 10 with _ | v
      · rw [hu] at hp
        refine xi_ne rfl rfl (fun q => absurd rfl q) (fun _ => ?_)
        exact x_ret rfl rfl rfl rfl (hp _ D3 ⟨fun a q1 _ => by rw [k6 a q1, k4 a q1]; exact k2 a q1, rfl, k5.1, k5.2.1, k5.2.2.1⟩)
      · rw [hu] at hp
        dsimp only at hp
        have hvl := (tNum_lt hu).1
        refine xi_ne rfl rfl (fun _ => ?_) (fun q => absurd q (nI_nm1 (by omega)))
        refine x_astN (b * 10 + w) rfl rfl ix10 (by omega) rfl ?_
        exact x_ret rfl rfl rfl rfl (hp _ _ ⟨fun a q1 q2 => by rw [xup_ne a (by omega), k6 a q1, k4 a q1]; exact k2 a q1, rfl, ⟨_, TXc_out k5 (xup_ne 1 (by omega)) (xup_ne 2 (by omega))⟩, rW_K hr3 hwl⟩)
theorem c_readSits {f e : Nat} (h : TXc D tx f e) (hr : rW D 4 S) (ho : wok S) (he : e ≤ tx.length) (hT : tx.length ≤ 200 ∧ ∀ c ∈ tx, c < 256) (hp : ∀ v D', rdP D tx (rdSi tx S e) v D' → post v D') : xRuns Γ (n + 4) hX0_readSits [xR 0 0 3] D post := by
  have h8 := ho.1
  have h4 := ho.2.1
  have g1 := tF_le he
  have g2 := tE_le g1.2
  refine x_runs kX0_readSits (by decide +kernel) rfl ?_
  rw [rdSi, rdN] at hp
  refine x_to 8 rfl ?_
  rw [hr.2.1]
  refine x_call [xI (nI S.M)] rfl rfl rfl rfl rfl rfl rfl (c_readNumber h he hT (by omega) (fun D1 k1 k2 => ?_))
  have hr1 : rW D1 4 S := rW_out hr (fun a q1 q2 => k2 a (by omega))
  rcases hv : tNum tx (tF tx e) (tE tx (tF tx e)) S.M with _ | m
  · rw [hv] at hp
    refine xi_ne rfl rfl (fun q => absurd rfl q) (fun _ => ?_)
    exact x_ret rfl rfl rfl rfl (hp _ D1 ⟨fun a q1 _ => k2 a q1, rfl, k1.1, k1.2.1, k1.2.2.1⟩)
  · rw [hv] at hp
    dsimp only at hp
    have hm := (tNum_lt hv).1
    rw [rdSi2, rdN] at hp
    refine xi_ne rfl rfl (fun _ => ?_) (fun q => absurd q (nI_nm1 (by omega)))
    generalize tE tx (tF tx e) = e1 at k1 hp g2
    have g3 := tF_le g2.2.1
    have g4 := tE_le g3.2
    refine x_to 27 rfl ?_
    rw [hr1.1]
    refine x_call [xI (nI S.B)] rfl rfl rfl rfl rfl rfl rfl (c_readNumber k1 g2.2.1 hT (by omega) (fun D2 k3 k4 => ?_))
    have hr2 : rW D2 4 S := rW_out hr1 (fun a q1 q2 => k4 a (by omega))
    rcases hu : tNum tx (tF tx e1) (tE tx (tF tx e1)) S.B with _ | b
    · rw [hu] at hp
      refine xi_ne rfl rfl (fun q => absurd rfl q) (fun _ => ?_)
      exact x_ret rfl rfl rfl rfl (hp _ D2 ⟨fun a q1 _ => by rw [k4 a q1]; exact k2 a q1, rfl, k3.1, k3.2.1, k3.2.2.1⟩)
    · rw [hu] at hp
      dsimp only at hp
      have hb := (tNum_lt hu).1
      refine xi_ne rfl rfl (fun _ => ?_) (fun q => absurd q (nI_nm1 (by omega)))
      refine x_call [xI (nI b)] rfl rfl rfl rfl rfl rfl rfl (c_manBeside hr2 ho (by omega) ?_)
      have go : wBy S b = none ∨ wBy S b = some m → xW Γ (n + 4) hX0_readSits rX0_readSits 59 [some (xR 0 0 3), some (xI (nI m)), some (xI (nI b)), some (xI (xby (wBy S b)))] [] D2 post := by
        intro hq
        rw [if_pos hq] at hp
        refine x_call [xI (nI m), xI (xby (some b))] rfl rfl rfl rfl rfl rfl rfl (c_seat hr2 ho hm (fun c hc => by cases hc; exact hb) (fun D3 k5 k6 => ?_))
        exact x_ret rfl rfl rfl rfl (hp _ D3 ⟨fun a q1 q2 => by rw [k6 a (by omega), k4 a q1]; exact k2 a q1, rfl, ⟨_, TXc_out k3 (k6 1 (by omega)) (k6 2 (by omega))⟩, k5⟩)
      rcases hy : wBy S b with _ | m'
      · rw [hy] at go
        exact xi_eq rfl rfl (fun _ => go (Or.inl rfl)) (fun q => absurd rfl q)
      · have hm' := (wBy_some hy).1
        rw [hy] at go hp
        refine xi_eq rfl rfl (fun q => absurd q (nI_nm1 (by omega))) (fun _ => ?_)
        refine xi_eqN m' m rfl rfl rfl rfl (by omega) (by omega) (fun q => go (Or.inr (by rw [q]))) (fun q => ?_)
        rw [if_neg (fun z => by rcases z with z | z; cases z; injection z; omega)] at hp
        exact x_ret rfl rfl rfl rfl (hp _ D2 ⟨fun a q1 _ => by rw [k4 a q1]; exact k2 a q1, rfl, k3.1, k3.2.1, k3.2.2.1⟩)
theorem c_readCover {f e : Nat} (h : TXc D tx f e) (hr : rW D 4 S) (ho : wok S) (he : e ≤ tx.length) (hT : tx.length ≤ 200 ∧ ∀ c ∈ tx, c < 256) (hp : ∀ v D', rdP D tx (rdCo tx S e) v D' → post v D') : xRuns Γ (n + 4) hX0_readCover [xR 0 0 3] D post := by
  have h8 := ho.1
  refine x_runs kX0_readCover (by decide +kernel) rfl ?_
  rw [rdCo, rdN] at hp
  refine x_to 8 rfl ?_
  rw [hr.1]
  refine x_call [xI (nI S.B)] rfl rfl rfl rfl rfl rfl rfl (c_readNumber h he hT (by omega) (fun D1 k1 k2 => ?_))
  have hr1 : rW D1 4 S := rW_out hr (fun a q1 q2 => k2 a (by omega))
  rcases hv : tNum tx (tF tx e) (tE tx (tF tx e)) S.B with _ | b
  · rw [hv] at hp
    refine xi_ne rfl rfl (fun q => absurd rfl q) (fun _ => ?_)
    exact x_ret rfl rfl rfl rfl (hp _ D1 ⟨fun a q1 _ => k2 a q1, rfl, k1.1, k1.2.1, k1.2.2.1⟩)
  · rw [hv] at hp
    dsimp only at hp
    have hb := (tNum_lt hv).1
    refine xi_ne rfl rfl (fun _ => ?_) (fun q => absurd q (nI_nm1 (by omega)))
    refine x_ret rfl rfl rfl rfl ?_
    have e2 : D1 4 3 ||| (xnum 1 <<< (xby (some b) &&& 31)) = nI (S.C ||| 2 ^ b) := by
      rw [hr1.2.2.2.1, ← xb_or, ← xb_sh1 (by omega)]
      rfl
    rw [e2]
    exact hp _ _ ⟨fun a q1 q2 => by rw [xup_ne a (by omega)]; exact k2 a q1, rfl, ⟨_, TXc_out k1 (xup_ne 1 (by omega)) (xup_ne 2 (by omega))⟩, rW_C hr1⟩
theorem c_kindNamed {f e : Nat} (h : TXc D tx f e) (hfe : f ≤ e) (he : e ≤ tx.length) (hT : tx.length ≤ 200 ∧ ∀ c ∈ tx, c < 256) (hp : post (some (xby (tKd tx f e))) D) : xRuns Γ (n + 5) hX0_kindNamed [xR 0 0 3] D post := by
  refine x_runs kX0_kindNamed (by decide +kernel) rfl ?_
  rw [tKd] at hp
  refine x_call [xR 5 0 0] rfl rfl rfl rfl rfl rfl rfl (c_isRow h hfe he hT (by omega) ?_)
  cases h0 : tIs tx f e (tWl.getD 0 []) with
  | true =>
    rw [h0] at hp
    refine x0_eq rfl rfl (fun q => absurd q (by decide)) (fun _ => ?_)
    exact x_ret rfl rfl rfl rfl hp
  | false =>
    rw [h0, if_neg (by decide)] at hp
    refine x0_eq rfl rfl (fun _ => ?_) (fun q => absurd rfl q)
    refine x_call [xR 5 1 0] rfl rfl rfl rfl rfl rfl rfl (c_isRow h hfe he hT (by omega) ?_)
    cases h1 : tIs tx f e (tWl.getD 1 []) with
    | true =>
      rw [h1] at hp
      refine x0_eq rfl rfl (fun q => absurd q (by decide)) (fun _ => ?_)
      exact x_ret rfl rfl rfl rfl hp
    | false =>
      rw [h1, if_neg (by decide)] at hp
      refine x0_eq rfl rfl (fun _ => ?_) (fun q => absurd rfl q)
      refine x_call [xR 5 2 0] rfl rfl rfl rfl rfl rfl rfl (c_isRow h hfe he hT (by omega) ?_)
      cases h2 : tIs tx f e (tWl.getD 2 []) with
      | true =>
        rw [h2] at hp
        refine x0_eq rfl rfl (fun q => absurd q (by decide)) (fun _ => ?_)
        exact x_ret rfl rfl rfl rfl hp
      | false =>
        rw [h2, if_neg (by decide)] at hp
        refine x0_eq rfl rfl (fun _ => ?_) (fun q => absurd rfl q)
        refine x_call [xR 5 3 0] rfl rfl rfl rfl rfl rfl rfl (c_isRow h hfe he hT (by omega) ?_)
        cases h3 : tIs tx f e (tWl.getD 3 []) with
        | true =>
          rw [h3] at hp
          refine x0_eq rfl rfl (fun q => absurd q (by decide)) (fun _ => ?_)
          exact x_ret rfl rfl rfl rfl hp
        | false =>
          rw [h3, if_neg (by decide)] at hp
          refine x0_eq rfl rfl (fun _ => ?_) (fun q => absurd rfl q)
          refine x_call [xR 5 4 0] rfl rfl rfl rfl rfl rfl rfl (c_isRow h hfe he hT (by omega) ?_)
          cases h4 : tIs tx f e (tWl.getD 4 []) with
          | true =>
            rw [h4] at hp
            refine x0_eq rfl rfl (fun q => absurd q (by decide)) (fun _ => ?_)
            exact x_goto rfl rfl (x_ret rfl rfl rfl rfl hp)
          | false =>
            rw [h4] at hp
            refine x0_eq rfl rfl (fun _ => ?_) (fun q => absurd rfl q)
            exact x_ret rfl rfl rfl rfl hp
theorem tKd_lt {f e kd : Nat} (h : tKd tx f e = some kd) : kd < 5 := by
  rw [tKd] at h
  split at h
  · cases h; omega
  · split at h
    · cases h; omega
    · split at h
      · cases h; omega
      · split at h
        · cases h; omega
        · split at h
          · cases h; omega
          · cases h
theorem rdP_bool {r : rdT} {v : Option Int32} {D' : xM} (h : rdP D tx r v D') : v = some 0 ∨ v = some 1 := by
  obtain ⟨h1, h2⟩ := h
  rcases r with p | ⟨e, S⟩
  · exact Or.inl h2.1
  · exact Or.inr h2.1
theorem c_readClause {f e : Nat} (h : TXc D tx f e) (hr : rW D 4 S) (ho : wok S) (hfe : f ≤ e) (he : e ≤ tx.length) (hT : tx.length ≤ 200 ∧ ∀ c ∈ tx, c < 256) (hp : ∀ v D', rdP D tx (rd1 tx S f e) v D' → post v D') : xRuns Γ (n + 6) hX0_readClause [xR 0 0 3] D post := by
  refine x_runs kX0_readClause (by decide +kernel) rfl ?_
  rw [rd1] at hp
  refine x_call [] rfl rfl rfl rfl rfl rfl rfl (c_kindNamed h hfe he hT ?_)
  have fin : ∀ v D', rdP D tx (rd1 tx S f e) v D' → v = some 0 ∨ v = some 1 := fun v D' q => rdP_bool q
  rcases hk : tKd tx f e with _ | kd
  · rw [hk] at hp
    dsimp only at hp
    refine xi_eq rfl rfl (fun _ => ?_) (fun q => absurd rfl q)
    refine x_call [xR 5 5 0] rfl rfl rfl rfl rfl rfl rfl (c_isRow h hfe he hT (by omega) ?_)
    cases h5 : tIs tx f e (tWl.getD 5 []) with
    | true =>
      rw [h5] at hp
      refine x0_eq rfl rfl (fun q => absurd q (by decide)) (fun _ => ?_)
      refine x_call [] rfl rfl rfl rfl rfl rfl rfl (c_wclear (S := S) (fun D1 k1 k2 => ?_))
      exact x_ret rfl rfl rfl rfl (hp _ D1 ⟨fun a q1 q2 => k2 a (by omega), rfl, ⟨_, TXc_out h (k2 1 (by omega)) (k2 2 (by omega))⟩, k1⟩)
    | false =>
      rw [h5, if_neg (by decide)] at hp
      refine x0_eq rfl rfl (fun _ => ?_) (fun q => absurd rfl q)
      refine x_call [xR 5 6 0] rfl rfl rfl rfl rfl rfl rfl (c_isRow h hfe he hT (by omega) ?_)
      cases h6 : tIs tx f e (tWl.getD 6 []) with
      | true =>
        rw [h6, if_pos rfl] at hp
        refine x0_eq rfl rfl (fun q => absurd q (by decide)) (fun _ => ?_)
        refine x_call [] rfl rfl rfl rfl rfl rfl rfl (c_readMan h hr ho he hT (fun v D1 q => ?_))
        rcases rdP_bool q with e1 | e1
        · subst e1; exact x_ret rfl rfl rfl rfl (hp _ D1 q)
        · subst e1; exact x_ret rfl rfl rfl rfl (hp _ D1 q)
      | false =>
        rw [h6, if_neg (by decide)] at hp
        refine x0_eq rfl rfl (fun _ => ?_) (fun q => absurd rfl q)
        refine x_call [xR 5 7 0] rfl rfl rfl rfl rfl rfl rfl (c_isRow h hfe he hT (by omega) ?_)
        cases h7 : tIs tx f e (tWl.getD 7 []) with
        | true =>
          rw [h7, if_pos rfl] at hp
          refine x0_eq rfl rfl (fun q => absurd q (by decide)) (fun _ => ?_)
          refine x_call [] rfl rfl rfl rfl rfl rfl rfl (c_readKnows h hr ho he hT (fun v D1 q => ?_))
          rcases rdP_bool q with e1 | e1
          · subst e1; exact x_ret rfl rfl rfl rfl (hp _ D1 q)
          · subst e1; exact x_ret rfl rfl rfl rfl (hp _ D1 q)
        | false =>
          rw [h7, if_neg (by decide)] at hp
          refine x0_eq rfl rfl (fun _ => ?_) (fun q => absurd rfl q)
          refine x_call [xR 5 8 0] rfl rfl rfl rfl rfl rfl rfl (c_isRow h hfe he hT (by omega) ?_)
          cases h8 : tIs tx f e (tWl.getD 8 []) with
          | true =>
            rw [h8, if_pos rfl] at hp
            refine x0_eq rfl rfl (fun q => absurd q (by decide)) (fun _ => ?_)
            refine x_call [] rfl rfl rfl rfl rfl rfl rfl (c_readSits h hr ho he hT (fun v D1 q => ?_))
            rcases rdP_bool q with e1 | e1
            · subst e1; exact x_ret rfl rfl rfl rfl (hp _ D1 q)
            · subst e1; exact x_ret rfl rfl rfl rfl (hp _ D1 q)
          | false =>
            rw [h8, if_neg (by decide)] at hp
            refine x0_eq rfl rfl (fun _ => ?_) (fun q => absurd rfl q)
            refine x_call [xR 5 9 0] rfl rfl rfl rfl rfl rfl rfl (c_isRow h hfe he hT (by omega) ?_)
            cases h9 : tIs tx f e (tWl.getD 9 []) with
            | true =>
              rw [h9, if_pos rfl] at hp
              refine x0_eq rfl rfl (fun q => absurd q (by decide)) (fun _ => ?_)
              refine x_call [] rfl rfl rfl rfl rfl rfl rfl (c_readCover h hr ho he hT (fun v D1 q => ?_))
              rcases rdP_bool q with e1 | e1
              · subst e1
                refine x0_eq rfl rfl (fun _ => ?_) (fun q => absurd rfl q)
                exact x_ret rfl rfl rfl rfl (hp _ D1 q)
              · subst e1
                refine x0_eq rfl rfl (fun q => absurd q (by decide)) (fun _ => ?_)
                exact x_goto rfl rfl (x_ret rfl rfl rfl rfl (hp _ D1 q))
            | false =>
              rw [h9, if_neg (by decide)] at hp
              refine x0_eq rfl rfl (fun _ => ?_) (fun q => absurd rfl q)
              exact x_ret rfl rfl rfl rfl (hp _ D ⟨fun _ _ _ => rfl, rfl, h.1, h.2.1, h.2.2.1⟩)
  · rw [hk] at hp
    dsimp only at hp
    have := tKd_lt hk
    refine xi_eq rfl rfl (fun q => absurd q (nI_nm1 (by omega))) (fun _ => ?_)
    refine x_call [xI (nI kd)] rfl rfl rfl rfl rfl rfl rfl (c_readBird h hr ho he hT (fun v D1 q => ?_))
    rcases rdP_bool q with e1 | e1
    · subst e1; exact x_ret rfl rfl rfl rfl (hp _ D1 q)
    · subst e1; exact x_ret rfl rfl rfl rfl (hp _ D1 q)
/-- the whole text, over what is told -/
theorem c_readOver {S0 : wS} {pl be : Nat} (h : cTx D tx) (hr : rW D 15 S0) (ho : wok S0) (hE : S0.E = 0) (hT : tx.length ≤ 200 ∧ ∀ c ∈ tx, c < 256) (hp : ∀ D', D' 1 1 = nI tx.length → rL D' 2 tx → (∀ a, a ≠ 1 → (a < 3 ∨ 9 < a) → D' a = D a) → (match rdA tx 20 1 S0 0 with
    | .inl p => post (some (nI p)) D'
    | .inr (c, S) => rW D' 4 S → D' 3 2 = nI c → post (some (-1)) D')) : xRuns Γ (n + 7) hX0_readOver [xR 0 0 3, xR 0 7 15] D post := by
  have hL := hT.1
  generalize hR0 : rdA tx 20 1 S0 0 = R0 at hp
  refine x_runs kX0_readOver (by decide +kernel) rfl ?_
  refine x_call [xR 0 7 15] rfl rfl rfl rfl rfl rfl rfl (c_become (by omega) (fun D1 hc hs => ?_))
  refine x_call [] rfl rfl rfl rfl rfl rfl rfl ?_
  refine x_runs kX5_begin (by decide +kernel) rfl ?_
  refine x_vret rfl rfl rfl ?_
  refine x_to 20 rfl ?_
  have loop : ∀ g c S i (D2 : xM), c + (g + 1) = 21 → R0 = rdA tx (g + 1) c S i → wok S → S.E = 0 → i ≤ tx.length → (∃ pl, TXc D2 tx pl i) → rW D2 4 S → D2 3 2 = nI c → (∀ a, a ≠ 1 → (a < 3 ∨ 9 < a) → D2 a = D a) → xW Γ (n + 7) hX0_readOver rX0_readOver 20 [some (xR 0 0 3), some (xR 0 7 15)] [] D2 post := by
    intro g
    induction g with
    | zero =>
      intro c S i D2 hc he hoS hES hi hx hr2 h32 hs2
      obtain ⟨pl, hx⟩ := hx
      obtain rfl : c = 20 := by omega
      have g1 := tF_le hi
      have g2 := tE_le g1.2
      have okr := rd1_ok (tx := tx) hoS hES g1.2 g2.2.1
      refine xi_gtN 20 20 rfl rfl h32 rfl (by omega) (by omega) (fun h => absurd h (by omega)) (fun _ => ?_)
      refine x_call [] rfl rfl rfl rfl rfl rfl rfl (c_readToken hx hi hT (fun D3 k1 k2 => ?_))
      have hr3 : rW D3 4 S := rW_out hr2 (fun a q1 q2 => k2 a (by omega))
      refine x_call [] rfl rfl rfl rfl rfl rfl rfl (c_readClause k1 hr3 hoS g2.1 g2.2.1 hT (fun v D4 q => ?_))
      obtain ⟨q0, q⟩ := q
      have hs4 : ∀ a, a ≠ 1 → (a < 3 ∨ 9 < a) → D4 a = D a := fun a w1 w2 => by rw [q0 a w1 (by omega), k2 a w1]; exact hs2 a w1 w2
      rw [rdA] at he
      rcases hrd : rd1 tx S (tF tx i) (tE tx (tF tx i)) with p | ⟨e1, S1⟩
      · rw [hrd] at he q
        obtain ⟨z1, z2, z3, z4⟩ := q
        subst z1
        refine x0_ne rfl rfl (fun h => absurd rfl h) (fun _ => ?_)
        refine x_ret rfl rfl rfl rfl ?_
        rw [z4]
        have R := hp D4 z2 z3 hs4
        rw [he] at R
        exact R
      · rw [hrd] at he q okr
        obtain ⟨z1, ⟨pl2, z2⟩, z3⟩ := q
        obtain ⟨y1, y2, y3⟩ := okr
        dsimp only at he
        subst z1
        have g3 := tF_le y1
        have g4 := tE_le g3.2
        refine x0_ne rfl rfl (fun _ => ?_) (fun h => absurd h (by decide))
        refine x_call [] rfl rfl rfl rfl rfl rfl rfl (c_readToken z2 y1 hT (fun D5 k5 k6 => ?_))
        have hs5 : ∀ a, a ≠ 1 → (a < 3 ∨ 9 < a) → D5 a = D a := fun a w1 w2 => by rw [k6 a w1]; exact hs4 a w1 w2
        have R := hp D5 k5.1 k5.2.1 hs5
        rw [he] at R
        refine x_call [] rfl rfl rfl rfl rfl rfl rfl (c_isOver k5 g3.2 hL ?_)
        by_cases w1 : tx.length ≤ tF tx e1
        · rw [if_pos w1] at R ⊢
          refine x0_eq rfl rfl (fun h => absurd h (by decide)) (fun _ => ?_)
          refine x_ret rfl rfl rfl rfl ?_
          exact R (rW_out z3 (fun a q1 q2 => k6 a (by omega))) (by rw [k6 3 (by omega), q0 3 (by omega) (by omega), k2 3 (by omega)]; exact h32)
        · rw [if_neg w1] at R ⊢
          refine x0_eq rfl rfl (fun _ => ?_) (fun h => absurd rfl h)
          refine x_call [xI (nI 59)] rfl rfl rfl rfl rfl rfl rfl (c_isSign k5 g4.1 g4.2.1 hT (by omega) ?_)
          by_cases w2 : tc tx (tF tx e1) = 59
          · rw [if_neg (fun z => z w2), if_pos rfl] at R
            rw [if_pos ⟨tE_59 (by omega) w2, w2⟩]
            refine x0_ne rfl rfl (fun _ => ?_) (fun h => absurd h (by decide))
            refine x_goto rfl rfl ?_
            have e3 : D5 3 2 = nI 20 := by rw [k6 3 (by omega), q0 3 (by omega) (by omega), k2 3 (by omega)]; exact h32
            have R2 := hp (xup D5 3 2 (D5 3 2 + xnum 1)) (by rw [xup_o (by omega)]; exact k5.1) (rL_out k5.2.1 (xup_ne 2 (by omega))) (fun a w1 w2 => by rw [xup_ne a (by omega)]; exact hs5 a w1 w2)
            rw [he, if_neg w1, if_neg (fun z => z w2), if_pos rfl] at R2
            refine xi_gtN 21 20 rfl rfl (by rw [xup_at, e3]; rfl) rfl (by omega) (by omega) (fun _ => ?_) (fun h => absurd h (by omega))
            refine x_ret rfl rfl rfl rfl ?_
            rw [xup_o (by omega), k5.2.2.1]
            exact R2
          · rw [if_pos w2] at R
            rw [if_neg (fun z => w2 z.2)]
            refine x0_ne rfl rfl (fun h => absurd rfl h) (fun _ => ?_)
            refine x_ret rfl rfl rfl rfl ?_
            rw [k5.2.2.1]
            exact R
    | succ g ih =>
      intro c S i D2 hc he hoS hES hi hx hr2 h32 hs2
      obtain ⟨pl, hx⟩ := hx
      have g1 := tF_le hi
      have g2 := tE_le g1.2
      have okr := rd1_ok (tx := tx) hoS hES g1.2 g2.2.1
      refine xi_gtN c 20 rfl rfl h32 rfl (by omega) (by omega) (fun h => absurd h (by omega)) (fun _ => ?_)
      refine x_call [] rfl rfl rfl rfl rfl rfl rfl (c_readToken hx hi hT (fun D3 k1 k2 => ?_))
      have hr3 : rW D3 4 S := rW_out hr2 (fun a q1 q2 => k2 a (by omega))
      refine x_call [] rfl rfl rfl rfl rfl rfl rfl (c_readClause k1 hr3 hoS g2.1 g2.2.1 hT (fun v D4 q => ?_))
      obtain ⟨q0, q⟩ := q
      have hs4 : ∀ a, a ≠ 1 → (a < 3 ∨ 9 < a) → D4 a = D a := fun a w1 w2 => by rw [q0 a w1 (by omega), k2 a w1]; exact hs2 a w1 w2
      rw [rdA] at he
      rcases hrd : rd1 tx S (tF tx i) (tE tx (tF tx i)) with p | ⟨e1, S1⟩
      · rw [hrd] at he q
        obtain ⟨z1, z2, z3, z4⟩ := q
        subst z1
        refine x0_ne rfl rfl (fun h => absurd rfl h) (fun _ => ?_)
        refine x_ret rfl rfl rfl rfl ?_
        rw [z4]
        have R := hp D4 z2 z3 hs4
        rw [he] at R
        exact R
      · rw [hrd] at he q okr
        obtain ⟨z1, ⟨pl2, z2⟩, z3⟩ := q
        obtain ⟨y1, y2, y3⟩ := okr
        dsimp only at he
        subst z1
        have g3 := tF_le y1
        have g4 := tE_le g3.2
        refine x0_ne rfl rfl (fun _ => ?_) (fun h => absurd h (by decide))
        refine x_call [] rfl rfl rfl rfl rfl rfl rfl (c_readToken z2 y1 hT (fun D5 k5 k6 => ?_))
        have hs5 : ∀ a, a ≠ 1 → (a < 3 ∨ 9 < a) → D5 a = D a := fun a w1 w2 => by rw [k6 a w1]; exact hs4 a w1 w2
        have R := hp D5 k5.1 k5.2.1 hs5
        refine x_call [] rfl rfl rfl rfl rfl rfl rfl (c_isOver k5 g3.2 hL ?_)
        by_cases w1 : tx.length ≤ tF tx e1
        · rw [he, if_pos w1] at R
          rw [if_pos w1]
          refine x0_eq rfl rfl (fun h => absurd h (by decide)) (fun _ => ?_)
          refine x_ret rfl rfl rfl rfl ?_
          exact R (rW_out z3 (fun a q1 q2 => k6 a (by omega))) (by rw [k6 3 (by omega), q0 3 (by omega) (by omega), k2 3 (by omega)]; exact h32)
        · rw [if_neg w1] at he
          rw [if_neg w1]
          refine x0_eq rfl rfl (fun _ => ?_) (fun h => absurd rfl h)
          refine x_call [xI (nI 59)] rfl rfl rfl rfl rfl rfl rfl (c_isSign k5 g4.1 g4.2.1 hT (by omega) ?_)
          by_cases w2 : tc tx (tF tx e1) = 59
          · rw [if_neg (fun z => z w2), if_neg (by omega)] at he
            rw [if_pos ⟨tE_59 (by omega) w2, w2⟩]
            refine x0_ne rfl rfl (fun _ => ?_) (fun h => absurd h (by decide))
            refine x_goto rfl rfl ?_
            have e3 : D5 3 2 = nI c := by rw [k6 3 (by omega), q0 3 (by omega) (by omega), k2 3 (by omega)]; exact h32
            refine ih (c + 1) S1 (tE tx (tF tx e1)) _ (by omega) he y2 y3 g4.2.1 ⟨_, TXc_out k5 (xup_ne 1 (by omega)) (xup_ne 2 (by omega))⟩ (rW_out z3 (fun a q1 q2 => by rw [xup_ne a (by omega)]; exact k6 a (by omega))) (by rw [xup_at, e3]; exact nI_1 _) (fun a w1 w2 => by rw [xup_ne a (by omega)]; exact hs5 a w1 w2)
          · rw [if_pos w2] at he
            rw [he] at R
            rw [if_neg (fun z => w2 z.2)]
            refine x0_ne rfl rfl (fun h => absurd rfl h) (fun _ => ?_)
            refine x_ret rfl rfl rfl rfl ?_
            rw [k5.2.2.1]
            exact R
  have eD : ∀ a, a ≠ 1 → a ≠ 3 → xup (xup (xup D1 1 2 (xnum 0)) 1 3 (xnum 0)) 3 2 (xnum 1) a = D1 a := fun a q1 q2 => by rw [xup_ne a q2, xup_ne a q1, xup_ne a q1]
  have h11 : D1 1 = D 1 := hs 1 (by omega)
  refine loop 19 1 S0 0 _ (by omega) hR0.symm ho hE (Nat.zero_le _) ⟨0, ?_, rL_out h.2 (by rw [eD 2 (by omega) (by omega)]; exact hs 2 (by omega)), ?_, ?_⟩ (rW_out (hc S0 ho.1 ho.2.1 hr) (fun a q1 q2 => eD a (by omega) (by omega))) (by rw [xup_at]; rfl) (fun a w1 w2 => by rw [eD a w1 (by omega)]; exact hs a (by omega))
  · rw [xup_o (by omega), xup_o (by omega), xup_o (by omega), h11]; exact h.1
  · rw [xup_o (by omega), xup_o (by omega), xup_at]; rfl
  · rw [xup_o (by omega), xup_at]; rfl
end RH2
