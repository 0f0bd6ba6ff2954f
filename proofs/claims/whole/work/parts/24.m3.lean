/-! ===== the reference: speak, lose, handOver, passes, copyHarbour, sets ===== -/
section M3
variable {Γ : xG} {n : Nat} {D : xM} {post : Option Int32 → xM → Prop} {o : Nat} {S : wS}
theorem l_mturn {p b : Nat} (ho : wok S) (hoo : o ≤ 1296) (hp4 : p < 4) (hb : b < S.B) : ∀ (f i said : Nat) (q : wKf × (Nat → List Nat)) (D1 : xM), i + f = wSays (S.kd b) → kok S.B q.1 → rM D1 o (wK S q.1) → rP D1 138 139 q.2 → (∀ z, z < 4 → (q.2 z).length ≤ 16) → (q.2 p).length + f ≤ 16 → said < 1024 →
    (∀ D', rM D' o (wK S (kSpk S.kd b p (wWo (wAw S p) b) S.B f said q).1) → rP D' 138 139 (kSpk S.kd b p (wWo (wAw S p) b) S.B f said q).2 → sameMP o D1 D' → xW Γ (n + 3) hX9_speak rX9_speak 111 [some (xR 0 9 111), some (xI (nI o)), some (xI (nI p)), some (xI (nI b)), none, none, none] [] D' post) →
    xW Γ (n + 3) hX9_speak rX9_speak 53 [some (xR 0 9 111), some (xI (nI o)), some (xI (nI p)), some (xI (nI b)), some (xI (nI said)), some (xI (xby (wBst (q.1 b) said 10).1)), some (xI (nI i))] [] D1 post := by
  have h8 := ho.1
  have h5 := ho.2.2.2.2.1 b hb
  have hsy := wSays_le _ h5
  intro f
  induction f with
  | zero =>
    intro i said q D1 hi hq hr1 hP1 hlen hl hsd hp
    refine x_aldN (o + 4 + b) rfl rfl (ixo (k := 4)) (by omega) rfl ?_
    rw [hr1.2.2.2.2.1 b hb]
    refine x_scall [xI (nI (S.kd b))] rfl rfl rfl rfl rfl rfl rfl (c_says h5 ?_)
    refine xi_geN i (wSays (S.kd b)) rfl rfl rfl rfl (by omega) (by omega) (fun _ => ?_) (fun h => absurd h (by omega))
    exact x_drop 4 (x_drop 5 (x_drop 6 (hp D1 hr1 hP1 sameMP.rf)))
  | succ f ih =>
    intro i said q D1 hi hq hr1 hP1 hlen hl hsd hp
    refine x_aldN (o + 4 + b) rfl rfl (ixo (k := 4)) (by omega) rfl ?_
    rw [hr1.2.2.2.2.1 b hb]
    refine x_scall [xI (nI (S.kd b))] rfl rfl rfl rfl rfl rfl rfl (c_says h5 ?_)
    refine xi_geN i (wSays (S.kd b)) rfl rfl rfl rfl (by omega) (by omega) (fun h => absurd h (by omega)) (fun h => ?_)
    rw [kSpk] at hp
    cases hz : (wBst (q.1 b) said 10).1 with
    | none =>
      rw [hz] at hp
      dsimp only at hp
      refine xi_eq rfl rfl (fun _ => ?_) (fun h2 => absurd rfl h2)
      exact x_drop 4 (x_drop 5 (x_drop 6 (hp D1 hr1 hP1 sameMP.rf)))
    | some k =>
      have hk : k < 10 := wBst_lt 10 k hz
      rw [hz] at hp
      dsimp only at hp
      refine xi_eq rfl rfl (fun h2 => ?_) (fun _ => ?_)
      · exact absurd ((xby_m1 (o := some k) (fun c hc => by cases hc; omega)).mp h2) (by simp)
      · refine x_call [xI (nI o), xI (nI p), xI (nI b), xI (nI k)] rfl rfl rfl rfl rfl rfl rfl (c_say hr1 hP1 (wok_K ho hq) hoo hp4 hb hk hlen (by omega) (fun D2 hr2 hP2 hs2 => ?_))
        have hr2 : rM D2 o (wK S (kSpr S.kd q.1 k (wWo (wAw S p) b) S.B)) := hr2
        have hq2 := kok_spr hq k (wWo (wAw S p) b) S.B (kd := S.kd)
        have e9 := sd_lt said k hsd hk
        rw [e9] at hp
        have e8 : nI said ||| (xnum 1 <<< (xby (some k) &&& 31)) = nI (said ||| 2 ^ k) := by
          rw [← xb_or, ← xb_sh1 (by omega)]
          rfl
        refine x_call [xI (nI o), xI (nI b), xI (nI said ||| (xnum 1 <<< (xby (some k) &&& 31)))] rfl rfl rfl rfl rfl rfl rfl ?_
        rw [e8]
        refine c_bestWord hr2 (wok_K ho hq2) hoo hb (or_lt hsd hk) ?_
        have IH := ih (i + 1) (said ||| 2 ^ k) (kSpr S.kd q.1 k (wWo (wAw S p) b) S.B, wuf q.2 p (q.2 p ++ [k])) D2 (by omega) hq2 hr2 hP2 (fun z hz4 => by
            by_cases ez : z = p
            · subst ez; simp [wuf]; omega
            · simp only [wuf, ez, if_false]; exact hlen z hz4) (by simp [wuf]; omega) (or_lt hsd hk) (fun D' g1 g2 g3 => hp D' g1 g2 (hs2.tr g3))
        rw [← nI_1] at IH
        exact x_goto rfl rfl IH
theorem l_mspeak {p : Nat} {q : wKf × (Nat → List Nat)} (ho : wok S) (hoo : o ≤ 1296) (hp4 : p < 4) (hq : kok S.B q.1) (hlen : ∀ z, z < 4 → (q.2 z).length ≤ 16) (hl0 : (q.2 p).length = 0) (hp : ∀ D', rM D' o (wK S (kSpo S.kd p (wAw S p) S.B S.B q).1) → rP D' 138 139 (kSpo S.kd p (wAw S p) S.B S.B q).2 → sameMP o D D' → post none D') : ∀ (f i : Nat) (D1 : xM), i + f = S.B → rM D1 o (wK S (kSpo S.kd p (wAw S p) S.B i q).1) → rP D1 138 139 (kSpo S.kd p (wAw S p) S.B i q).2 → sameMP o D D1 → xW Γ (n + 3) hX9_speak rX9_speak 2 [some (xR 0 9 111), some (xI (nI o)), some (xI (nI p)), some (xI (nI i)), none, none, none] [] D1 post := by
  have h8 := ho.1
  intro f
  induction f with
  | zero =>
    intro i D1 hi hr1 hP1 hs1
    obtain rfl : i = S.B := by omega
    refine x_aldN o rfl rfl (by show nI o + nI 0 = nI o; rw [nI_add, Nat.add_zero]) (by omega) rfl ?_
    refine xi_geN S.B S.B rfl rfl rfl hr1.1 (by omega) (by omega) (fun _ => ?_) (fun h => absurd h (by omega))
    exact x_vret rfl rfl rfl (hp D1 hr1 hP1 hs1)
  | succ f ih =>
    intro i D1 hi hr1 hP1 hs1
    have h4 := ho.2.2.2.2.2.1 i (by omega)
    have tt := wAw_tb (S := S) (p := p) (i := i) (by omega)
    have hkq := kok_spo (kd := S.kd) (p := p) (aw := wAw S p) i q hq
    have ho1 := wok_K ho hkq
    have skip : (wAw S p).testBit i = false → xW Γ (n + 3) hX9_speak rX9_speak 111 [some (xR 0 9 111), some (xI (nI o)), some (xI (nI p)), some (xI (nI i)), none, none, none] [] D1 post := by
      intro ht
      have IH := ih (i + 1) D1 (by omega) (by rw [kSpo, ht]; exact hr1) (by rw [kSpo, ht]; exact hP1) hs1
      rw [← nI_1] at IH
      exact x_goto rfl rfl IH
    refine x_aldN o rfl rfl (by show nI o + nI 0 = nI o; rw [nI_add, Nat.add_zero]) (by omega) rfl ?_
    refine xi_geN i S.B rfl rfl rfl hr1.1 (by omega) (by omega) (fun h => absurd h (by omega)) (fun h => ?_)
    refine x_aldN (o + 12 + i) rfl rfl (ixo (k := 12)) (by omega) rfl ?_
    rw [hr1.2.2.2.2.2.1 i (by show i < S.B; omega)]
    refine xi_neN (S.pe i) p rfl rfl rfl rfl (by omega) (by omega) (fun h2 => skip (by rw [tt]; simp [h2])) (fun h2 => ?_)
    refine x_call [xI (nI o), xI (nI i)] rfl rfl rfl rfl rfl rfl rfl (c_isOpen hr1 ho1 hoo (by omega) ?_)
    cases hc : S.C.testBit i with
    | true => exact x0_eq rfl rfl (fun _ => skip (by rw [tt]; simp [hc])) (fun h => absurd rfl h)
    | false =>
      have ht : (wAw S p).testBit i = true := by rw [tt]; simp [hc, h2]
      refine x0_eq rfl rfl (fun h => absurd h (by decide)) (fun _ => ?_)
      have hkd : ∀ c, c < i → S.kd c < 5 := fun c hc => ho.2.2.2.2.1 c (by omega)
      have hlz : ∀ z, z < 4 → ((kSpo S.kd p (wAw S p) S.B i q).2 z).length ≤ 16 := fun z hz => by
        have h1 := len_spo (B := S.B) (kd := S.kd) (p := p) (aw := wAw S p) i q z hkd
        have h2 := hlen z hz
        by_cases ez : z = p
        · subst ez; simp only [if_true] at h1; omega
        · simp only [ez, if_false] at h1; omega
      have hsy := wSays_le _ (ho.2.2.2.2.1 i (by omega))
      have hlp : ((kSpo S.kd p (wAw S p) S.B i q).2 p).length + wSays (S.kd i) ≤ 16 := by
        have h1 := len_spo (B := S.B) (kd := S.kd) (p := p) (aw := wAw S p) i q p hkd
        simp only [if_true] at h1
        omega
      refine x_call [xI (nI o), xI (nI i), xI (nI 0)] rfl rfl rfl rfl rfl rfl rfl (c_bestWord hr1 ho1 hoo (by show i < S.B; omega) (by omega) ?_)
      refine x_to 53 rfl ?_
      refine l_mturn ho hoo hp4 (by omega) (wSays (S.kd i)) 0 0 (kSpo S.kd p (wAw S p) S.B i q) D1 (by omega) hkq hr1 hP1 hlz hlp (by omega) (fun D2 hr2 hP2 hs2 => ?_)
      have IH := ih (i + 1) D2 (by omega) (by rw [kSpo, ht]; exact hr2) (by rw [kSpo, ht]; exact hP2) (hs1.tr hs2)
      rw [← nI_1] at IH
      exact x_goto rfl rfl IH
theorem c_mspeak {p : Nat} {sp : Nat → List Nat} (hr : rM D o S) (hP : rP D 138 139 sp) (ho : wok S) (hoo : o ≤ 1296) (hp4 : p < 4) (hlen : ∀ z, z < 4 → (sp z).length ≤ 16) (hl0 : (sp p).length = 0) (hp : ∀ D', rM D' o (wK S (kSpo S.kd p (wAw S p) S.B S.B (S.K, sp)).1) → rP D' 138 139 (kSpo S.kd p (wAw S p) S.B S.B (S.K, sp)).2 → sameMP o D D' → post none D') : xRuns Γ (n + 3) hX9_speak [xR 0 9 111, xI (nI o), xI (nI p)] D post := by
  refine x_runs kX9_speak (by decide +kernel) rfl ?_
  refine x_to 2 rfl ?_
  exact l_mspeak ho hoo hp4 (wok_kok ho) hlen hl0 hp S.B 0 D (by omega) hr hP sameMP.rf
/-- losing, place by place -/
def kLoseL (S : wS) (K : wKf) (i : Nat) : wKf := fun c k => if c * 10 + k < i ∧ k < 10 ∧ S.C.testBit c = false ∧ 1 ≤ K c k ∧ K c k < 5 then K c k - wLoses (S.kd c) else K c k
theorem kok_loseL {S : wS} {K : wKf} (h : kok S.B K) (i : Nat) : kok S.B (kLoseL S K i) := by
  intro c k hc hk
  have := h c k hc hk
  rw [kLoseL]
  split <;> omega
theorem c_mlose (hr : rM D o S) (ho : wok S) (hoo : o ≤ 1296) (hp : ∀ D', rM D' o (wK S (kLose S S.K S.B)) → sameM o D D' → post none D') : xRuns Γ (n + 2) hX9_lose [xR 0 9 111, xI (nI o)] D post := by
  have h8 := ho.1
  have hK := wok_kok ho
  refine x_runs kX9_lose (by decide +kernel) rfl ?_
  refine x_to 2 rfl ?_
  have loop : ∀ (f i : Nat) (D1 : xM), i + f = 10 * S.B → rM D1 o (wK S (kLoseL S S.K i)) → sameM o D D1 → xW Γ (n + 2) hX9_lose rX9_lose 2 [some (xR 0 9 111), some (xI (nI o)), some (xI (nI i)), none, none] [] D1 post := by
    intro f
    induction f with
    | zero =>
      intro i D1 hi hr1 hs1
      refine x_aldN o rfl rfl (by show nI o + nI 0 = nI o; rw [nI_add, Nat.add_zero]) (by omega) rfl ?_
      refine xi_geN i (10 * S.B) rfl rfl rfl (by rw [hr1.1]; exact pk_mul 10 S.B) (by omega) (by omega) (fun _ => ?_) (fun h => absurd h (by omega))
      refine x_vret rfl rfl rfl (hp D1 (rM_Kc hr1 (fun c k hc hk => ?_)) hs1)
      rw [kLose, kLoseL]
      have : (c < S.B ∧ k < 10 ∧ S.C.testBit c = false ∧ 1 ≤ S.K c k ∧ S.K c k < 5) ↔ (c * 10 + k < i ∧ k < 10 ∧ S.C.testBit c = false ∧ 1 ≤ S.K c k ∧ S.K c k < 5) := by
        constructor
        · intro ⟨q1, q2, q3⟩; exact ⟨by omega, q2, q3⟩
        · intro ⟨q1, q2, q3⟩; exact ⟨hc, q2, q3⟩
      simp only [this]
    | succ f ih =>
      intro i D1 hi hr1 hs1
      have hb : i / 10 < S.B := by omega
      have hk : i % 10 < 10 := by omega
      have e10 : i / 10 * 10 + i % 10 = i := by omega
      have h5 := ho.2.2.2.2.1 (i / 10) hb
      have h9 := hK (i / 10) (i % 10) hb hk
      have hle := wLoses_le _ h5
      have ho1 := wok_K ho (kok_loseL hK i)
      have eK : kLoseL S S.K i (i / 10) (i % 10) = S.K (i / 10) (i % 10) := by
        rw [kLoseL, if_neg (by omega)]
      have eR : D1 112 (o + 20 + i) = nI (S.K (i / 10) (i % 10)) := by
        have := hr1.2.2.2.2.2.2.1 (i / 10) (i % 10) hb hk
        rw [e10] at this
        rw [this]
        exact congrArg nI eK
      have next : ∀ (D2 : xM) (x y : Int32), rM D2 o (wK S (kLoseL S S.K (i + 1))) → sameM o D D2 → xW Γ (n + 2) hX9_lose rX9_lose 80 [some (xR 0 9 111), some (xI (nI o)), some (xI (nI i)), some (xI x), some (xI y)] [] D2 post := by
        intro D2 x y hr2 hs2
        have IH := ih (i + 1) D2 (by omega) hr2 hs2
        rw [← nI_1] at IH
        exact x_goto rfl rfl (x_drop 3 (x_drop 4 IH))
      have sm : ∀ c k, c < S.B → k < 10 → ¬ (c = i / 10 ∧ k = i % 10) → kLoseL S S.K (i + 1) c k = kLoseL S S.K i c k := by
        intro c k hc hk2 hne
        rw [kLoseL, kLoseL]
        have : (c * 10 + k < i + 1 ∧ k < 10 ∧ S.C.testBit c = false ∧ 1 ≤ S.K c k ∧ S.K c k < 5) ↔ (c * 10 + k < i ∧ k < 10 ∧ S.C.testBit c = false ∧ 1 ≤ S.K c k ∧ S.K c k < 5) := by
          constructor
          · intro ⟨q1, q2, q3⟩; exact ⟨by omega, q2, q3⟩
          · intro ⟨q1, q2, q3⟩; exact ⟨by omega, q2, q3⟩
        simp only [this]
      have keep : ¬ (S.C.testBit (i / 10) = false ∧ 1 ≤ S.K (i / 10) (i % 10) ∧ S.K (i / 10) (i % 10) < 5) → rM D1 o (wK S (kLoseL S S.K (i + 1))) := by
        intro hn
        refine rM_Kc hr1 (fun c k hc hk2 => ?_)
        by_cases e : c = i / 10 ∧ k = i % 10
        · obtain ⟨rfl, rfl⟩ := e
          rw [eK, kLoseL, if_neg (fun z => hn z.2.2)]
        · exact sm c k hc hk2 e
      refine x_aldN o rfl rfl (by show nI o + nI 0 = nI o; rw [nI_add, Nat.add_zero]) (by omega) rfl ?_
      refine xi_geN i (10 * S.B) rfl rfl rfl (by rw [hr1.1]; exact pk_mul 10 S.B) (by omega) (by omega) (fun h => absurd h (by omega)) (fun h => ?_)
      refine x_div rfl rfl (by decide) ?_
      have e2 : nI i / xnum 10 = nI (i / 10) := pk_div (d := 10) (by omega) (by decide) (by decide)
      rw [e2]
      refine x_call [xI (nI o), xI (nI (i / 10))] rfl rfl rfl rfl rfl rfl rfl (c_isOpen hr1 ho1 hoo (by omega) ?_)
      cases hc : S.C.testBit (i / 10) with
      | true => exact x0_eq rfl rfl (fun _ => next D1 _ _ (keep (by rw [hc]; simp)) hs1) (fun h => absurd rfl h)
      | false =>
        refine x0_eq rfl rfl (fun h => absurd h (by decide)) (fun _ => ?_)
        refine x_aldN (o + 20 + i) rfl rfl (ixo (k := 20)) (by omega) rfl ?_
        rw [eR]
        refine x_scall [xL (nI (S.K (i / 10) (i % 10))).toInt64, xL (Int64.ofNat 1), xL (Int64.ofNat 4)] rfl rfl rfl rfl rfl rfl rfl (c_in ?_)
        have ec : (Int64.ofNat 1 ≤ (nI (S.K (i / 10) (i % 10))).toInt64 ∧ (nI (S.K (i / 10) (i % 10))).toInt64 ≤ Int64.ofNat 4) ↔ (1 ≤ S.K (i / 10) (i % 10) ∧ S.K (i / 10) (i % 10) < 5) := by
          rw [nI_l (by omega)]
          show (lN 1 ≤ lN _ ∧ lN _ ≤ lN 4) ↔ _
          rw [lN_le (by omega) (by omega), lN_le (by omega) (by omega)]
          omega
        by_cases hq : 1 ≤ S.K (i / 10) (i % 10) ∧ S.K (i / 10) (i % 10) < 5
        · rw [if_pos (ec.mpr hq)]
          refine x0_eq rfl rfl (fun h => absurd h (by decide)) (fun _ => ?_)
          refine x_aldN (o + 20 + i) rfl rfl (ixo (k := 20)) (by omega) rfl ?_
          rw [eR]
          refine x_aldN (o + 4 + i / 10) rfl rfl (ixo (k := 4)) (by omega) rfl ?_
          rw [hr1.2.2.2.2.1 (i / 10) hb]
          refine x_scall [xI (nI (S.kd (i / 10)))] rfl rfl rfl rfl rfl rfl rfl (c_loses h5 ?_)
          refine x_astN (o + 20 + i) rfl rfl (ixo (k := 20)) (by omega) rfl ?_
          have e1 : nI (S.K (i / 10) (i % 10)) - nI (wLoses (S.kd (i / 10))) = nI (S.K (i / 10) (i % 10) - wLoses (S.kd (i / 10))) := pk_sub (by omega)
          rw [e1]
          refine x_to 80 rfl (next _ _ _ ?_ (hs1.up (by omega) (by omega)))
          have hr3 := rM_K (S := wK S (kLoseL S S.K i)) (b := i / 10) (k := i % 10) (v := S.K (i / 10) (i % 10) - wLoses (S.kd (i / 10))) hr1 h8 ho.2.1 hb hk
          rw [e10] at hr3
          refine rM_Kc (K := wup (kLoseL S S.K i) (i / 10) (i % 10) (S.K (i / 10) (i % 10) - wLoses (S.kd (i / 10)))) hr3 (fun c k hc2 hk2 => ?_)
          rw [wup]
          by_cases e : c = i / 10 ∧ k = i % 10
          · obtain ⟨rfl, rfl⟩ := e
            rw [if_pos ⟨rfl, rfl⟩, kLoseL, if_pos ⟨by omega, hk, hc, hq⟩]
          · rw [if_neg e]
            exact sm c k hc2 hk2 e
        · rw [if_neg (fun z => hq (ec.mp z))]
          exact x0_eq rfl rfl (fun _ => next D1 _ _ (keep (fun z => hq z.2)) hs1) (fun h => absurd rfl h)
  exact loop (10 * S.B) 0 D (by omega) (rM_Kc hr (fun c k _ _ => by rw [kLoseL, if_neg (by omega)])) sameM.rf
end M3
