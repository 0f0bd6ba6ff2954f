/-! ===== lose, handOver, passEvening ===== -/
def kLoseB (S : wS) (K : wKf) (b i : Nat) : wKf := fun c k => if c = b ∧ k < i ∧ S.C.testBit b = false ∧ 1 ≤ K c k ∧ K c k < 5 then K c k - wLoses (S.kd b) else K c k
def kLose (S : wS) (K : wKf) (i : Nat) : wKf := fun c k => if c < i ∧ k < 10 ∧ S.C.testBit c = false ∧ 1 ≤ K c k ∧ K c k < 5 then K c k - wLoses (S.kd c) else K c k
theorem kok_loseB {S : wS} {K : wKf} (h : kok S.B K) (b i : Nat) : kok S.B (kLoseB S K b i) := by
  intro c k hc hk
  have := h c k hc hk
  rw [kLoseB]
  split <;> omega
theorem kok_lose {S : wS} {K : wKf} (h : kok S.B K) (i : Nat) : kok S.B (kLose S K i) := by
  intro c k hc hk
  have := h c k hc hk
  rw [kLose]
  split <;> omega
theorem rW_Kc {D : xM} {w : Nat} {S : wS} {K K' : wKf} (h : rW D w (wK S K)) (hk : ∀ b k, b < S.B → k < 10 → K' b k = K b k) : rW D w (wK S K') := by
  obtain ⟨h1, h2, h3, h4, h5, h6, h7, h8, h9⟩ := h
  exact ⟨h1, h2, h3, h4, h5, h6, fun b k hb hk2 => by rw [h7 b k hb hk2]; exact congrArg nI (hk b k hb hk2).symm, h8, h9⟩
section LO
variable {Γ : xG} {n : Nat} {D : xM} {post : Option Int32 → xM → Prop} {w : Nat} {S : wS}
theorem l_lose {b : Nat} {K : wKf} (ho : wok S) (hK : kok S.B K) (hb : b < S.B) (hc : S.C.testBit b = false) (hp : ∀ D', rW D' w (wK S (kLoseB S K b 10)) → sameW w D D' → post none D') : ∀ f i (D1 : xM), i + f = 10 → rW D1 w (wK S (kLoseB S K b i)) → sameW w D D1 → xW Γ (n + 1) hX7_lose rX7_lose 11 [some (xR 0 7 w), some (xI (nI b)), some (xI (nI i)), none] [] D1 post := by
  have h8 := ho.1
  have h5 := ho.2.2.2.2.1 b hb
  have hle := wLoses_le _ h5
  intro f
  induction f with
  | zero =>
    intro i D1 hi hr1 hs1
    obtain rfl : i = 10 := by omega
    refine xi_geN 10 10 rfl rfl rfl rfl (by omega) (by omega) (fun _ => ?_) (fun h => absurd h (by omega))
    exact x_vret rfl rfl rfl (hp D1 hr1 hs1)
  | succ f ih =>
    intro i D1 hi hr1 hs1
    have h9 := hK b i hb (by omega)
    have eK : kLoseB S K b i b i = K b i := by simp [kLoseB]
    have next : ∀ (D2 : xM) (x : Int32), rW D2 w (wK S (kLoseB S K b (i + 1))) → sameW w D D2 → xW Γ (n + 1) hX7_lose rX7_lose 61 [some (xR 0 7 w), some (xI (nI b)), some (xI (nI i)), some (xI x)] [] D2 post := by
      intro D2 x hr2 hs2
      have IH := ih (i + 1) D2 (by omega) hr2 hs2
      rw [← nI_1] at IH
      exact x_goto rfl rfl (x_drop 3 IH)
    have keep : ¬ (1 ≤ K b i ∧ K b i < 5) → rW D1 w (wK S (kLoseB S K b (i + 1))) := by
      intro hn
      refine rW_Kc hr1 (fun c k _ _ => ?_)
      show kLoseB S K b (i + 1) c k = kLoseB S K b i c k
      rw [kLoseB, kLoseB]
      by_cases e : c = b ∧ k = i
      · obtain ⟨rfl, rfl⟩ := e
        rw [if_neg (by omega), if_neg (by omega)]
      · have : (c = b ∧ k < i + 1 ∧ S.C.testBit b = false ∧ 1 ≤ K c k ∧ K c k < 5) ↔ (c = b ∧ k < i ∧ S.C.testBit b = false ∧ 1 ≤ K c k ∧ K c k < 5) := by
          constructor
          · intro ⟨q1, q2, q3, q4, q5⟩; exact ⟨q1, by omega, q3, q4, q5⟩
          · intro ⟨q1, q2, q3, q4, q5⟩; exact ⟨q1, by omega, q3, q4, q5⟩
        simp only [this]
    refine xi_geN i 10 rfl rfl rfl rfl (by omega) (by omega) (fun h => absurd h (by omega)) (fun h => ?_)
    refine x_call [xI (nI b), xI (nI i)] rfl rfl rfl rfl rfl rfl rfl (c_knowledge hr1 (wok_K ho (kok_loseB hK b i)) hb (by omega) ?_)
    have e0 : (wK S (kLoseB S K b i)).K b i = K b i := eK
    rw [e0]
    refine xi_ltN (K b i) 1 rfl rfl rfl rfl (by omega) (by omega) (fun h1 => ?_) (fun h1 => ?_)
    · exact next D1 _ (keep (by omega)) hs1
    · refine xi_geN (K b i) 5 rfl rfl rfl rfl (by omega) (by omega) (fun h2 => ?_) (fun h2 => ?_)
      · exact next D1 _ (keep (by omega)) hs1
      · refine x_aldN b rfl rfl rfl (by omega) rfl ?_
        rw [hr1.2.2.2.2.1 b hb]
        refine x_tldN (S.kd b) rfl rfl rfl h5 ?_
        rw [wtab4 _ h5]
        refine x_max rfl rfl rfl ?_
        have e1 : nI (K b i) - nI (wLoses (S.kd b)) = nI (K b i - wLoses (S.kd b)) := pk_sub (by omega)
        have e2 : (if xnum 0 < nI (K b i) - nI (wLoses (S.kd b)) then nI (K b i) - nI (wLoses (S.kd b)) else xnum 0) = nI (K b i - wLoses (S.kd b)) := by
          rw [e1]
          by_cases hz : K b i - wLoses (S.kd b) = 0
          · rw [hz]; rfl
          · have hlt : xnum 0 < nI (K b i - wLoses (S.kd b)) := (nI_ltI (a := 0) (b := K b i - wLoses (S.kd b)) (by omega) (by omega)).mpr (by omega)
            rw [if_pos hlt]
        rw [e2]
        refine x_astN (b * 10 + i) rfl rfl ix10 (by omega) rfl ?_
        refine x_to 61 rfl (next _ _ ?_ (hs1.up (by omega)))
        have hr3 := rW_K (S := wK S (kLoseB S K b i)) (b := b) (k := i) (v := K b i - wLoses (S.kd b)) hr1 (by omega)
        refine rW_Kc (K := wup (kLoseB S K b i) b i (K b i - wLoses (S.kd b))) hr3 (fun c k _ _ => ?_)
        show kLoseB S K b (i + 1) c k = wup (kLoseB S K b i) b i (K b i - wLoses (S.kd b)) c k
        rw [wup]
        by_cases e : c = b ∧ k = i
        · obtain ⟨rfl, rfl⟩ := e
          rw [if_pos ⟨rfl, rfl⟩, kLoseB, if_pos ⟨rfl, by omega, hc, by omega, by omega⟩]
        · rw [if_neg e, kLoseB, kLoseB]
          have : (c = b ∧ k < i + 1 ∧ S.C.testBit b = false ∧ 1 ≤ K c k ∧ K c k < 5) ↔ (c = b ∧ k < i ∧ S.C.testBit b = false ∧ 1 ≤ K c k ∧ K c k < 5) := by
            constructor
            · intro ⟨q1, q2, q3, q4, q5⟩; exact ⟨q1, by omega, q3, q4, q5⟩
            · intro ⟨q1, q2, q3, q4, q5⟩; exact ⟨q1, by omega, q3, q4, q5⟩
          simp only [this]
theorem c_lose {b : Nat} (hr : rW D w S) (ho : wok S) (hb : b < S.B) (hp : ∀ D', rW D' w (wK S (kLoseB S S.K b 10)) → sameW w D D' → post none D') : xRuns Γ (n + 1) hX7_lose [xR 0 7 w, xI (nI b)] D post := by
  have h8 := ho.1
  refine x_runs kX7_lose (by decide +kernel) rfl ?_
  refine x_call [xI (nI b)] rfl rfl rfl rfl rfl rfl rfl (c_isCovered hr ho (by omega) ?_)
  cases hc : S.C.testBit b with
  | true =>
    refine x0_eq rfl rfl (fun h => absurd h (by decide)) (fun _ => ?_)
    exact x_vret rfl rfl rfl (hp D (rW_Kc hr (fun c k _ _ => by simp [kLoseB, hc])) sameW.rf)
  | false =>
    refine x0_eq rfl rfl (fun _ => ?_) (fun h => absurd rfl h)
    refine x_to 11 rfl ?_
    exact l_lose (K := S.K) ho (wok_kok ho) hb hc hp 10 0 D rfl (rW_Kc hr (fun c k _ _ => by simp [kLoseB])) sameW.rf
end LO
/-- a man's least word goes over -/
def wHand (S : wS) (m : Nat) : wS := match S.bi m with
  | none => S
  | some b => if S.ha m = 0 ∨ S.C.testBit b = true ∨ wGets (S.kd b) = 0 then S else wmk S.B S.M S.E S.C S.kd S.pe (kLearn S.K b (wLow (S.ha m)) (wGets (S.kd b))) (wuf S.ha m (S.ha m &&& (S.ha m - 1))) S.bi
def wHands (S : wS) : Nat → wS
  | 0 => S
  | m + 1 => wHand (wHands S m) m
theorem wLow_lt : ∀ c, c < 1024 → wLow c < 10 := by decide +kernel
theorem wok_hand {S : wS} (ho : wok S) (m : Nat) : wok (wHand S m) := by
  rw [wHand]
  split
  · exact ho
  · split
    · exact ho
    · obtain ⟨h1, h2, h3, h4, h5, h6, h7, h8, h9⟩ := ho
      refine ⟨h1, h2, h3, h4, h5, h6, kok_learn h7 _ _ _, fun j hj => ?_, h9⟩
      show wuf S.ha m (S.ha m &&& (S.ha m - 1)) j < 1024
      rw [wuf]
      split
      · rename_i e
        subst e
        exact Nat.lt_of_le_of_lt Nat.and_le_left (h8 j hj)
      · exact h8 j hj
theorem hand_B (S : wS) (m : Nat) : (wHand S m).B = S.B ∧ (wHand S m).M = S.M ∧ (wHand S m).E = S.E ∧ (wHand S m).C = S.C ∧ (wHand S m).kd = S.kd ∧ (wHand S m).pe = S.pe ∧ (wHand S m).bi = S.bi := by
  rw [wHand]
  split
  · exact ⟨rfl, rfl, rfl, rfl, rfl, rfl, rfl⟩
  · split <;> exact ⟨rfl, rfl, rfl, rfl, rfl, rfl, rfl⟩
theorem hands_B (S : wS) : ∀ m, (wHands S m).B = S.B ∧ (wHands S m).M = S.M ∧ (wHands S m).E = S.E ∧ (wHands S m).C = S.C ∧ (wHands S m).kd = S.kd ∧ (wHands S m).pe = S.pe ∧ (wHands S m).bi = S.bi
  | 0 => ⟨rfl, rfl, rfl, rfl, rfl, rfl, rfl⟩
  | m + 1 => by
    obtain ⟨a1, a2, a3, a4, a5, a6, a7⟩ := hand_B (wHands S m) m
    obtain ⟨b1, b2, b3, b4, b5, b6, b7⟩ := hands_B S m
    exact ⟨a1.trans b1, a2.trans b2, a3.trans b3, a4.trans b4, a5.trans b5, a6.trans b6, a7.trans b7⟩
theorem wok_hands {S : wS} (ho : wok S) : ∀ m, wok (wHands S m)
  | 0 => ho
  | m + 1 => wok_hand (wok_hands ho m) m
theorem ha_drop : ∀ c, c < 1024 → 0 < c → nI c &&& (nI c - xnum 1) = nI (c &&& (c - 1)) := by decide +kernel
section HO
variable {Γ : xG} {n : Nat} {D : xM} {post : Option Int32 → xM → Prop} {w : Nat} {S : wS}
theorem c_handOver {m : Nat} (hr : rW D w S) (ho : wok S) (hm : m < S.M) (hp : ∀ D', rW D' w (wHand S m) → sameW w D D' → post none D') : xRuns Γ (n + 1) hX7_handOver [xR 0 7 w, xI (nI m)] D post := by
  have h4 := ho.2.1
  have h8 := ho.1
  refine x_runs kX7_handOver (by decide +kernel) rfl ?_
  refine x_aldN m rfl rfl rfl (by omega) rfl ?_
  rw [hr.2.2.2.2.2.2.2.2 m hm]
  rw [wHand] at hp
  cases hbi : S.bi m with
  | none =>
    rw [hbi] at hp
    refine xi_eq rfl rfl (fun _ => ?_) (fun h => absurd rfl h)
    exact x_vret rfl rfl rfl (hp D hr sameW.rf)
  | some b =>
    rw [hbi] at hp
    dsimp only at hp
    have hb := ho.2.2.2.2.2.2.2.2.1 m b hm hbi
    have h5 := ho.2.2.2.2.1 b hb
    have hh := ho.2.2.2.2.2.2.2.1 m hm
    have hge := wGets_le _ h5
    refine xi_eq rfl rfl (fun h => absurd ((xby_m1 (o := some b) (fun c hc => by cases hc; omega)).mp h) (by simp)) (fun _ => ?_)
    refine x_aldN m rfl rfl rfl (by omega) rfl ?_
    rw [hr.2.2.2.2.2.2.2.1 m hm]
    refine x0_eq rfl rfl (fun h => ?_) (fun h => ?_)
    · have e : S.ha m = 0 := (nI_eq (b := 0) (by omega) (by omega)).mp h
      rw [if_pos (Or.inl e)] at hp
      exact x_vret rfl rfl rfl (hp D hr sameW.rf)
    · have e : ¬ S.ha m = 0 := fun z => h (by rw [z]; rfl)
      refine x_call [xI (nI b)] rfl rfl rfl rfl rfl rfl rfl (c_isCovered hr ho (by omega) ?_)
      cases hc : S.C.testBit b with
      | true =>
        rw [hc, if_pos (Or.inr (Or.inl rfl))] at hp
        refine x0_eq rfl rfl (fun h => absurd h (by decide)) (fun _ => ?_)
        exact x_vret rfl rfl rfl (hp D hr sameW.rf)
      | false =>
        rw [hc] at hp
        refine x0_eq rfl rfl (fun _ => ?_) (fun h => absurd rfl h)
        refine x_aldN b rfl rfl rfl (by omega) rfl ?_
        rw [hr.2.2.2.2.1 b hb]
        refine x_tldN (S.kd b) rfl rfl rfl h5 ?_
        rw [wtab2 _ h5]
        refine x0_le rfl rfl (fun h2 => ?_) (fun h2 => ?_)
        · have e2 : wGets (S.kd b) = 0 := by
            have := (nI_leI (b := 0) (by omega) (by omega)).mp h2
            omega
          rw [if_pos (Or.inr (Or.inr e2))] at hp
          exact x_vret rfl rfl rfl (hp D hr sameW.rf)
        · have e2 : ¬ wGets (S.kd b) = 0 := fun z => h2 (by rw [z]; decide)
          rw [if_neg (by simp [e, e2])] at hp
          refine x_aldN m rfl rfl rfl (by omega) rfl ?_
          rw [hr.2.2.2.2.2.2.2.1 m hm]
          refine x_scall [xI (nI (S.ha m))] rfl rfl rfl rfl rfl rfl rfl (c_ntz ?_)
          rw [jntz_low _ hh (by omega)]
          refine x_call [xI (nI b), xI (nI (wLow (S.ha m))), xI (nI (wGets (S.kd b)))] rfl rfl rfl rfl rfl rfl rfl (c_learn hr ho hb (wLow_lt _ hh) (by omega) ?_)
          have hr2 := rW_K (b := b) (k := wLow (S.ha m)) (v := min 9 (S.K b (wLow (S.ha m)) + wGets (S.kd b))) hr (wLow_lt _ hh)
          have e5 := hr2.2.2.2.2.2.2.2.1 m hm
          refine x_aldN m rfl rfl rfl (by omega) rfl ?_
          rw [e5]
          refine x_aldN m rfl rfl rfl (by omega) rfl ?_
          rw [e5]
          have e6 : nI (S.ha m) &&& (nI (S.ha m) - xnum 1) = nI (S.ha m &&& (S.ha m - 1)) := ha_drop _ hh (by omega)
          refine x_astN m rfl rfl rfl (by omega) rfl ?_
          refine x_vret rfl rfl rfl (hp _ ?_ ((sameW.rf.up (by omega)).up (by omega)))
          rw [show (nI (S.ha m) &&& (nI (S.ha m) - xnum 1)) = nI (S.ha m &&& (S.ha m - 1)) from e6]
          exact rW_ha hr2
end HO
/-- the perches, one after the other -/
def kPer (S : wS) : Nat → wKf × (Nat → List Nat) → wKf × (Nat → List Nat)
  | 0, q => q
  | p + 1, q => if wSil S (wAw S p) then kPer S p q else kSpo S.kd p (wAw S p) S.B S.B (kPer S p q)
theorem kok_per {S : wS} : ∀ (p : Nat) (q : wKf × (Nat → List Nat)), kok S.B q.1 → kok S.B (kPer S p q).1
  | 0, _, h => h
  | p + 1, q, h => by
    rw [kPer]
    split
    · exact kok_per p q h
    · exact kok_spo _ _ (kok_per p q h)
theorem len_per {S : wS} (ho : wok S) : ∀ (p : Nat) (q : wKf × (Nat → List Nat)) (z : Nat), (q.2 z).length = 0 → ((kPer S p q).2 z).length ≤ (if z < p then 16 else 0)
  | 0, q, z, h => by rw [kPer]; omega
  | p + 1, q, z, h => by
    have ih := len_per ho p q z h
    have h8 := ho.1
    rw [kPer]
    split
    · by_cases e : z < p
      · rw [if_pos e] at ih; rw [if_pos (by omega)]; exact ih
      · rw [if_neg e] at ih; omega
    · have h1 := len_spo (B := S.B) (kd := S.kd) (p := p) (aw := wAw S p) S.B (kPer S p q) z (fun c hc => ho.2.2.2.2.1 c hc)
      by_cases e : z = p
      · subst e
        rw [if_neg (Nat.lt_irrefl _)] at ih
        simp only [if_true] at h1
        rw [if_pos (by omega)]
        omega
      · simp only [e, if_false] at h1
        by_cases e2 : z < p
        · rw [if_pos e2] at ih; rw [if_pos (by omega)]; omega
        · rw [if_neg e2] at ih; rw [if_neg (by omega)]; omega
/-- AN EVENING -/
def wPassQ (S : wS) : wKf × (Nat → List Nat) := kPer (wHands S S.M) 4 ((wHands S S.M).K, fun _ => [])
def wPass (S : wS) : wS := wmk S.B S.M (S.E + 1) S.C S.kd S.pe (if S.E % 3 = 2 then kLose S (wPassQ S).1 S.B else (wPassQ S).1) (wHands S S.M).ha S.bi
def wSaid (S : wS) : Nat → List Nat := (wPassQ S).2
theorem wok_pass {S : wS} (ho : wok S) (hE : S.E + 1 < 1000000) : wok (wPass S) := by
  have hk : kok S.B (wPassQ S).1 := by
    have := kok_per (S := wHands S S.M) 4 ((wHands S S.M).K, fun _ => []) (wok_kok (wok_hands ho S.M))
    rw [(hands_B S S.M).1] at this
    exact this
  have hh := (wok_hands ho S.M).2.2.2.2.2.2.2.1
  rw [(hands_B S S.M).2.1] at hh
  obtain ⟨h1, h2, h3, h4, h5, h6, h7, h8, h9⟩ := ho
  refine ⟨h1, h2, hE, h4, h5, h6, ?_, hh, h9⟩
  show kok S.B (if S.E % 3 = 2 then kLose S (wPassQ S).1 S.B else (wPassQ S).1)
  split
  · exact kok_lose hk _
  · exact hk
theorem len_said {S : wS} (ho : wok S) : ∀ z, z < 4 → (wSaid S z).length ≤ 16 := by
  intro z hz
  have := len_per (wok_hands ho S.M) 4 ((wHands S S.M).K, fun _ => []) z rfl
  rw [if_pos hz] at this
  exact this
section PE
variable {Γ : xG} {n : Nat} {D : xM} {post : Option Int32 → xM → Prop} {w : Nat} {S : wS}
theorem wHands_eq (S : wS) (m : Nat) : wHands S m = wmk S.B S.M S.E S.C S.kd S.pe (wHands S m).K (wHands S m).ha S.bi := by
  obtain ⟨a1, a2, a3, a4, a5, a6, a7⟩ := hands_B S m
  have e : wHands S m = wmk (wHands S m).B (wHands S m).M (wHands S m).E (wHands S m).C (wHands S m).kd (wHands S m).pe (wHands S m).K (wHands S m).ha (wHands S m).bi := rfl
  rw [a1, a2, a3, a4, a5, a6, a7] at e
  exact e
theorem c_passEvening (hw : w + 5 < 34) (hr : rW D w S) (ho : wok S) (hE : S.E + 1 < 1000000) (hp : ∀ D', rW D' w (wPass S) → rP D' 34 35 (wSaid S) → sameP w D D' → post none D') : xRuns Γ (n + 4) hX7_passEvening [xR 0 7 w, xR 0 4 33] D post := by
  have h8 := ho.1
  have h4 := ho.2.1
  have ho1 := wok_hands ho S.M
  obtain ⟨a1, a2, a3, a4, a5, a6, a7⟩ := hands_B S S.M
  refine x_runs kX7_passEvening (by decide +kernel) rfl ?_
  refine x_to 2 rfl ?_
  -- the last stretch
  have fin : ∀ (D1 : xM) (v2 v3 : Option xV), rW D1 w (wmk S.B S.M S.E S.C S.kd S.pe (if S.E % 3 = 2 then kLose S (wPassQ S).1 S.B else (wPassQ S).1) (wHands S S.M).ha S.bi) → rP D1 34 35 (wSaid S) → sameP w D D1 → xW Γ (n + 4) hX7_passEvening rX7_passEvening 90 [some (xR 0 7 w), some (xR 0 4 33), v2, v3] [] D1 post := by
    intro D1 v2 v3 hr1 hP1 hs1
    refine x_vret rfl rfl rfl (hp _ ?_ (rP_out hP1 (xup_ne 34 (by omega)) (xup_ne 35 (by omega))) (hs1.tr (fun a ha _ _ => xup_ne a (by omega))))
    have e : D1 w 2 + xnum 1 = nI (S.E + 1) := by rw [hr1.2.2.1]; exact nI_1 _
    rw [e]
    exact rW_E hr1
  -- losing
  have los : ∀ (f i : Nat) (D1 : xM), i + f = S.B → S.E % 3 = 2 → rW D1 w (wmk S.B S.M S.E S.C S.kd S.pe (kLose S (wPassQ S).1 i) (wHands S S.M).ha S.bi) → rP D1 34 35 (wSaid S) → sameP w D D1 → xW Γ (n + 4) hX7_passEvening rX7_passEvening 71 [some (xR 0 7 w), some (xR 0 4 33), some (xI (nI i)), none] [] D1 post := by
    have hk : kok S.B (wPassQ S).1 := by
      have := kok_per (S := wHands S S.M) 4 ((wHands S S.M).K, fun _ => []) (wok_kok ho1)
      rw [a1] at this
      exact this
    intro f
    induction f with
    | zero =>
      intro i D1 hi hm hr1 hP1 hs1
      obtain rfl : i = S.B := by omega
      refine xi_geN S.B S.B rfl rfl rfl hr1.1 (by omega) (by omega) (fun _ => ?_) (fun h => absurd h (by omega))
      exact fin D1 _ _ (by rw [if_pos hm]; exact hr1) hP1 hs1
    | succ f ih =>
      intro i D1 hi hm hr1 hP1 hs1
      refine xi_geN i S.B rfl rfl rfl hr1.1 (by omega) (by omega) (fun h => absurd h (by omega)) (fun h => ?_)
      have hok1 : wok (wmk S.B S.M S.E S.C S.kd S.pe (kLose S (wPassQ S).1 i) (wHands S S.M).ha S.bi) := by
        have := wok_K ho1 (K := kLose S (wPassQ S).1 i) (by rw [a1]; exact kok_lose hk i)
        rw [wHands_eq] at this
        exact this
      refine x_call [xI (nI i)] rfl rfl rfl rfl rfl rfl rfl (c_lose hr1 hok1 (by show i < S.B; omega) (fun D2 hr2 hs2 => ?_))
      have IH := ih (i + 1) D2 (by omega) hm (rW_Kc (S := wmk S.B S.M S.E S.C S.kd S.pe (kLose S (wPassQ S).1 i) (wHands S S.M).ha S.bi) hr2 (fun c k hc hk2 => ?_)) (rP_out hP1 (hs2 34 (by omega)) (hs2 35 (by omega))) (hs1.tr (sameP.ofW hs2))
      · rw [← nI_1] at IH
        exact x_goto rfl rfl IH
      · show kLose S (wPassQ S).1 (i + 1) c k = kLoseB (wmk S.B S.M S.E S.C S.kd S.pe (kLose S (wPassQ S).1 i) (wHands S S.M).ha S.bi) (kLose S (wPassQ S).1 i) i 10 c k
        by_cases e : c = i
        · subst e
          have e0 : kLose S (wPassQ S).1 c c k = (wPassQ S).1 c k := by simp [kLose]
          rw [kLoseB, e0, kLose]
          by_cases q : S.C.testBit c = false ∧ 1 ≤ (wPassQ S).1 c k ∧ (wPassQ S).1 c k < 5
          · rw [if_pos ⟨by omega, hk2, q⟩, if_pos ⟨rfl, hk2, q⟩]
          · rw [if_neg (fun z => q z.2.2), if_neg (fun z => q z.2.2)]
        · rw [kLoseB, if_neg (fun z => e z.1), kLose, kLose]
          have : (c < i + 1 ∧ k < 10 ∧ S.C.testBit c = false ∧ 1 ≤ (wPassQ S).1 c k ∧ (wPassQ S).1 c k < 5) ↔ (c < i ∧ k < 10 ∧ S.C.testBit c = false ∧ 1 ≤ (wPassQ S).1 c k ∧ (wPassQ S).1 c k < 5) := by
            constructor
            · intro ⟨q1, q2⟩; exact ⟨by omega, q2⟩
            · intro ⟨q1, q2⟩; exact ⟨by omega, q2⟩
          simp only [this]
  -- speaking
  have spk : ∀ (f i : Nat) (D1 : xM), i + f = 4 → rW D1 w (wK (wHands S S.M) (kPer (wHands S S.M) i ((wHands S S.M).K, fun _ => [])).1) → rP D1 34 35 (kPer (wHands S S.M) i ((wHands S S.M).K, fun _ => [])).2 → sameP w D D1 → xW Γ (n + 4) hX7_passEvening rX7_passEvening 27 [some (xR 0 7 w), some (xR 0 4 33), some (xI (nI i)), none] [] D1 post := by
    intro f
    induction f with
    | zero =>
      intro i D1 hi hr1 hP1 hs1
      obtain rfl : i = 4 := by omega
      have hr1' : rW D1 w (wmk S.B S.M S.E S.C S.kd S.pe (wPassQ S).1 (wHands S S.M).ha S.bi) := by
        have e : wK (wHands S S.M) (wPassQ S).1 = wmk S.B S.M S.E S.C S.kd S.pe (wPassQ S).1 (wHands S S.M).ha S.bi := by
          show wmk (wHands S S.M).B (wHands S S.M).M (wHands S S.M).E (wHands S S.M).C (wHands S S.M).kd (wHands S S.M).pe (wPassQ S).1 (wHands S S.M).ha (wHands S S.M).bi = _
          rw [a1, a2, a3, a4, a5, a6, a7]
        rw [← e]
        exact hr1
      refine xi_geN 4 4 rfl rfl rfl rfl (by omega) (by omega) (fun _ => ?_) (fun h => absurd h (by omega))
      refine x_rem rfl rfl (by decide) ?_
      have e3 : D1 w 2 - D1 w 2 / xnum 3 * xnum 3 = nI (S.E % 3) := by
        rw [hr1'.2.2.1]
        exact pk_rem (a := S.E) (d := 3) (by have := ho.2.2.1; omega) (by decide) (by decide)
      refine xi_neN (S.E % 3) 2 rfl rfl e3 rfl (by omega) (by omega) (fun h => ?_) (fun h => ?_)
      · exact fin D1 _ _ (by rw [if_neg h]; exact hr1') hP1 hs1
      · refine x_to 71 rfl ?_
        refine los S.B 0 D1 (by omega) h ?_ hP1 hs1
        exact rW_Kc (S := wmk S.B S.M S.E S.C S.kd S.pe (wPassQ S).1 (wHands S S.M).ha S.bi) hr1' (fun c k _ _ => by simp [kLose])
    | succ f ih =>
      intro i D1 hi hr1 hP1 hs1
      have hk1 := kok_per (S := wHands S S.M) i ((wHands S S.M).K, fun _ => []) (wok_kok ho1)
      have ho2 := wok_K ho1 hk1
      refine xi_geN i 4 rfl rfl rfl rfl (by omega) (by omega) (fun h => absurd h (by omega)) (fun h => ?_)
      refine x_call [xI (nI i)] rfl rfl rfl rfl rfl rfl rfl (c_awakeOn hr1 ho2 (by omega) ?_)
      have haw := wAw_lt ho1 i
      refine x_call [xI (nI (wAw (wHands S S.M) i))] rfl rfl rfl rfl rfl rfl rfl (c_isSilenced hr1 ho2 haw ?_)
      cases hz : wSil (wHands S S.M) (wAw (wHands S S.M) i) with
      | true =>
        have e : wSil (wK (wHands S S.M) (kPer (wHands S S.M) i ((wHands S S.M).K, fun _ => [])).1) (wAw (wHands S S.M) i) = true := hz
        rw [e]
        refine x0_ne rfl rfl (fun _ => ?_) (fun h2 => absurd h2 (by decide))
        have IH := ih (i + 1) D1 (by omega) (by rw [kPer, hz]; exact hr1) (by rw [kPer, hz]; exact hP1) hs1
        rw [← nI_1] at IH
        exact x_goto rfl rfl (x_drop 3 IH)
      | false =>
        have e : wSil (wK (wHands S S.M) (kPer (wHands S S.M) i ((wHands S S.M).K, fun _ => [])).1) (wAw (wHands S S.M) i) = false := hz
        rw [e]
        refine x0_ne rfl rfl (fun h2 => absurd rfl h2) (fun _ => ?_)
        have hl0 : ((kPer (wHands S S.M) i ((wHands S S.M).K, fun _ => [])).2 i).length = 0 := by
          have := len_per ho1 i ((wHands S S.M).K, fun _ => []) i rfl
          rw [if_neg (Nat.lt_irrefl _)] at this
          omega
        refine x_call [xI (nI i), xI (nI (wAw (wHands S S.M) i)), xR 0 4 33] rfl rfl rfl rfl rfl rfl rfl (c_speakOn hw hr1 hP1 ho2 (by omega) haw (fun z hz4 => ?_) hl0 (fun D2 hr2 hP2 hs2 => ?_))
        · have := len_per ho1 i ((wHands S S.M).K, fun _ => []) z rfl
          split at this <;> omega
        · have IH := ih (i + 1) D2 (by omega) (by rw [kPer, hz]; exact hr2) (by rw [kPer, hz]; exact hP2) (hs1.tr hs2)
          rw [← nI_1] at IH
          exact x_goto rfl rfl (x_drop 3 IH)
  -- the men
  have men : ∀ (f i : Nat) (D1 : xM), i + f = S.M → rW D1 w (wHands S i) → sameW w D D1 → xW Γ (n + 4) hX7_passEvening rX7_passEvening 2 [some (xR 0 7 w), some (xR 0 4 33), some (xI (nI i)), none] [] D1 post := by
    intro f
    induction f with
    | zero =>
      intro i D1 hi hr1 hs1
      obtain rfl : i = S.M := by omega
      refine xi_geN S.M S.M rfl rfl rfl (by rw [hr1.2.1, a2]) (by omega) (by omega) (fun _ => ?_) (fun h => absurd h (by omega))
      refine x_call [] rfl rfl rfl rfl rfl rfl rfl (c_spClear (fun D2 hP2 hs2 => ?_))
      refine x_to 27 rfl ?_
      exact spk 4 0 D2 rfl (rW_out hr1 (fun a ha hb => hs2 a (by omega))) hP2 ((sameP.ofW hs1).tr (fun a _ _ h35 => hs2 a h35))
    | succ f ih =>
      intro i D1 hi hr1 hs1
      obtain ⟨b1, b2, b3, b4, b5, b6, b7⟩ := hands_B S i
      refine xi_geN i S.M rfl rfl rfl (by rw [hr1.2.1, b2]) (by omega) (by omega) (fun h => absurd h (by omega)) (fun h => ?_)
      refine x_call [xI (nI i)] rfl rfl rfl rfl rfl rfl rfl (c_handOver hr1 (wok_hands ho i) (by rw [b2]; omega) (fun D2 hr2 hs2 => ?_))
      have IH := ih (i + 1) D2 (by omega) hr2 (hs1.tr hs2)
      rw [← nI_1] at IH
      exact x_goto rfl rfl IH
  exact men S.M 0 D (by omega) hr sameW.rf
end PE
