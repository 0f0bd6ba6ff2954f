/-! ===== clean: other perches don't matter ===== -/
def Ag (p : Nat) (S S' : wS) : Prop := S.B = S'.B ∧ S.M = S'.M ∧ S.E = S'.E ∧ S.kd = S'.kd ∧ S.pe = S'.pe ∧ S.bi = S'.bi ∧ (∀ c, c < S.B → S.pe c = p → S.C.testBit c = S'.C.testBit c ∧ S.K c = S'.K c) ∧ (∀ m c, m < S.M → S.bi m = some c → S.pe c = p → S.ha m = S'.ha m)
theorem kLearn_ne {K : wKf} {b k v c : Nat} (h : c ≠ b) : kLearn K b k v c = K c := by
  funext j
  simp [kLearn, wup, h]
theorem kLearn_cong {K K' : wKf} {b k v c : Nat} (h : K c = K' c) : kLearn K b k v c = kLearn K' b k v c := by
  funext j
  simp only [kLearn, wup]
  by_cases e : c = b
  · subst e; rw [h]
  · simp [e, h]
theorem spr_out {kd : Nat → Nat} {K : wKf} {k hs c : Nat} (h : hs.testBit c = false) : ∀ b, kSpr kd K k hs b c = K c
  | 0 => rfl
  | b + 1 => by
    rw [kSpr]
    split
    · rename_i q
      rw [kLearn_ne (fun e => by rw [e, q] at h; cases h)]
      exact spr_out h b
    · exact spr_out h b
theorem spk_out {kd : Nat → Nat} {b p hs B c : Nat} (h : hs.testBit c = false) : ∀ (t said : Nat) (q : wKf × (Nat → List Nat)), (kSpk kd b p hs B t said q).1 c = q.1 c
  | 0, _, _ => rfl
  | t + 1, said, q => by
    rw [kSpk]
    split
    · rfl
    · rw [spk_out h t]
      exact spr_out h B
theorem spo_out {kd : Nat → Nat} {p aw B c : Nat} (ha : aw < 256) (h : aw.testBit c = false) : ∀ (b : Nat) (q : wKf × (Nat → List Nat)), (kSpo kd p aw B b q).1 c = q.1 c
  | 0, _ => rfl
  | b + 1, q => by
    rw [kSpo]
    split
    · rw [spk_out (by rw [wWo_tb ha, h]; rfl)]
      exact spo_out ha h b q
    · exact spo_out ha h b q
theorem spr_ag {kd : Nat → Nat} {K K' : wKf} {T : Nat → Prop} {k hs : Nat} (h : ∀ c, T c → K c = K' c) : ∀ b c, T c → kSpr kd K k hs b c = kSpr kd K' k hs b c
  | 0, c, hc => h c hc
  | b + 1, c, hc => by
    rw [kSpr, kSpr]
    split
    · exact kLearn_cong (spr_ag h b c hc)
    · exact spr_ag h b c hc
theorem spk_ag {kd : Nat → Nat} {T : Nat → Prop} {b p hs B : Nat} (hb : T b) : ∀ (t said : Nat) (q q' : wKf × (Nat → List Nat)), (∀ c, T c → q.1 c = q'.1 c) → ∀ c, T c → (kSpk kd b p hs B t said q).1 c = (kSpk kd b p hs B t said q').1 c
  | 0, _, _, _, h, c, hc => h c hc
  | t + 1, said, q, q', h, c, hc => by
    rw [kSpk, kSpk, h b hb]
    split
    · exact h c hc
    · exact spk_ag hb t _ _ _ (fun c hc => spr_ag h B c hc) c hc
theorem spo_ag {kd : Nat → Nat} {T : Nat → Prop} {p aw B : Nat} (hT : ∀ b, aw.testBit b = true → T b) : ∀ (b : Nat) (q q' : wKf × (Nat → List Nat)), (∀ c, T c → q.1 c = q'.1 c) → ∀ c, T c → (kSpo kd p aw B b q).1 c = (kSpo kd p aw B b q').1 c
  | 0, _, _, h, c, hc => h c hc
  | b + 1, q, q', h, c, hc => by
    rw [kSpo, kSpo]
    split
    · rename_i hq
      exact spk_ag (hT b hq) _ _ _ _ (fun c hc => spo_ag hT b q q' h c hc) c hc
    · exact spo_ag hT b q q' h c hc
theorem wAw_all {S : wS} {p i : Nat} : (wAw S p).testBit i = (decide (i < S.B) && (decide (S.pe i = p) && !S.C.testBit i)) := by rw [wAw, wbits_tb]
theorem Ag_aw {p : Nat} {S S' : wS} (h : Ag p S S') : wAw S p = wAw S' p := by
  obtain ⟨h1, h2, h3, h4, h5, h6, h7, h8⟩ := h
  rw [wAw, wAw, ← h1, ← h5]
  apply wbits_cong
  intro i hi
  by_cases e : S.pe i = p
  · rw [(h7 i hi e).1]
  · rw [decide_eq_false e]; rfl
theorem per_ag {p : Nat} {S S' : wS} (ho : wok S) (ho' : wok S') (h : Ag p S S') : ∀ (i : Nat) (q q' : wKf × (Nat → List Nat)), (∀ c, c < S.B ∧ S.pe c = p → q.1 c = q'.1 c) → ∀ c, c < S.B ∧ S.pe c = p → (kPer S i q).1 c = (kPer S' i q').1 c
  | 0, _, _, hq, c, hc => hq c hc
  | i + 1, q, q', hq, c, hc => by
    have ih := per_ag ho ho' h i q q' hq
    obtain ⟨h1, h2, h3, h4, h5, h6, h7, h8⟩ := id h
    rw [kPer, kPer]
    by_cases e : i = p
    · subst e
      have ea := Ag_aw h
      have es : wSil S (wAw S i) = wSil S' (wAw S' i) := by rw [wSil, wSil, ea, h1, h4]
      rw [es]
      split
      · exact ih c hc
      · rw [ea, h4, h1]
        refine spo_ag (T := fun c => c < S.B ∧ S.pe c = i) (fun b hb => ?_) _ _ _ ih c hc
        rw [← ea, wAw_all] at hb
        have := of_decide_eq_true (Bool.and_eq_true_iff.mp hb).1
        exact ⟨this, of_decide_eq_true (Bool.and_eq_true_iff.mp (Bool.and_eq_true_iff.mp hb).2).1⟩
    · have o1 : (wAw S i).testBit c = false := by rw [wAw_all, decide_eq_false (show ¬ S.pe c = i by rw [hc.2]; omega)]; simp
      have o2 : (wAw S' i).testBit c = false := by rw [wAw_all, ← h5, decide_eq_false (show ¬ S.pe c = i by rw [hc.2]; omega)]; simp
      have l1 : (if wSil S (wAw S i) = true then kPer S i q else kSpo S.kd i (wAw S i) S.B S.B (kPer S i q)).1 c = (kPer S i q).1 c := by
        split
        · rfl
        · exact spo_out (wAw_lt ho i) o1 _ _
      have l2 : (if wSil S' (wAw S' i) = true then kPer S' i q' else kSpo S'.kd i (wAw S' i) S'.B S'.B (kPer S' i q')).1 c = (kPer S' i q').1 c := by
        split
        · rfl
        · exact spo_out (wAw_lt ho' i) o2 _ _
      rw [l1, l2]
      exact ih c hc
theorem hand_K {S : wS} {m b c : Nat} (hb : S.bi m = some b) (h : c ≠ b) : (wHand S m).K c = S.K c := by
  rw [wHand, hb]
  dsimp only
  split
  · rfl
  · exact kLearn_ne h
theorem hand_ha {S : wS} {m m' : Nat} (h : m' ≠ m) : (wHand S m).ha m' = S.ha m' := by
  rw [wHand]
  split
  · rfl
  · split
    · rfl
    · exact wuf_ne _ _ h
theorem Ag_hand {p : Nat} {S S' : wS} (ho : wok S) (h : Ag p S S') {m : Nat} (hm : m < S.M) : Ag p (wHand S m) (wHand S' m) := by
  obtain ⟨h1, h2, h3, h4, h5, h6, h7, h8⟩ := id h
  obtain ⟨a1, a2, a3, a4, a5, a6, a7⟩ := hand_B S m
  obtain ⟨b1, b2, b3, b4, b5, b6, b7⟩ := hand_B S' m
  refine ⟨by rw [a1, b1]; exact h1, by rw [a2, b2]; exact h2, by rw [a3, b3]; exact h3, by rw [a5, b5]; exact h4, by rw [a6, b6]; exact h5, by rw [a7, b7]; exact h6, fun c hc hp => ?_, fun m' c hm' hbi hp => ?_⟩
  · rw [a1] at hc
    rw [a6] at hp
    rw [a4, b4]
    refine ⟨(h7 c hc hp).1, ?_⟩
    rcases hb : S.bi m with _ | b
    · have hb' : S'.bi m = none := by rw [← h6]; exact hb
      have e1 : wHand S m = S := by rw [wHand, hb]
      have e2 : wHand S' m = S' := by rw [wHand, hb']
      rw [e1, e2]
      exact (h7 c hc hp).2
    · have hb' : S'.bi m = some b := by rw [← h6]; exact hb
      by_cases e : c = b
      · subst e
        have hh := h8 m c hm hb hp
        have hC := (h7 c hc hp).1
        rw [wHand, wHand, hb, hb']
        dsimp only
        rw [← hh, ← hC, ← h4]
        split
        · exact (h7 c hc hp).2
        · exact kLearn_cong (h7 c hc hp).2
      · rw [hand_K hb e, hand_K hb' e]
        exact (h7 c hc hp).2
  · rw [a2] at hm'
    rw [a7] at hbi
    rw [a6] at hp
    by_cases e : m' = m
    · subst e
      have hb' : S'.bi m' = some c := by rw [← h6]; exact hbi
      have hh := h8 m' c hm' hbi hp
      have hC := (h7 c (ho.2.2.2.2.2.2.2.2.1 m' c hm' hbi) hp).1
      rw [wHand, wHand, hbi, hb']
      dsimp only
      rw [← hh, ← hC, ← h4]
      split
      · exact hh
      · show wuf S.ha m' _ m' = wuf S'.ha m' _ m'
        rw [wuf_at, wuf_at]
    · rw [hand_ha e, hand_ha e]
      exact h8 m' c hm' hbi hp
theorem Ag_hands {p : Nat} {S S' : wS} (ho : wok S) (h : Ag p S S') : ∀ m, m ≤ S.M → Ag p (wHands S m) (wHands S' m)
  | 0, _ => h
  | m + 1, hm => by
    have ih := Ag_hands ho h m (by omega)
    exact Ag_hand (wok_hands ho m) ih (by rw [(hands_B S m).2.1]; omega)
theorem Ag_pass {p : Nat} {S S' : wS} (ho : wok S) (ho' : wok S') (h : Ag p S S') : Ag p (wPass S) (wPass S') := by
  obtain ⟨h1, h2, h3, h4, h5, h6, h7, h8⟩ := id h
  have hh := Ag_hands ho h S.M (Nat.le_refl _)
  have hh' : Ag p (wHands S S.M) (wHands S' S'.M) := by rw [← h2]; exact hh
  obtain ⟨i1, i2, i3, i4, i5, i6, i7, i8⟩ := id hh'
  obtain ⟨a1, a2, a3, a4, a5, a6, a7⟩ := hands_B S S.M
  have hq : ∀ c, c < S.B → S.pe c = p → (wPassQ S).1 c = (wPassQ S').1 c := fun c hc hp => by
    rw [wPassQ, wPassQ]
    exact per_ag (wok_hands ho S.M) (wok_hands ho' S'.M) hh' 4 _ _ (fun c hc => (i7 c hc.1 hc.2).2) c ⟨by rw [a1]; exact hc, by rw [a6]; exact hp⟩
  refine ⟨h1, h2, by show S.E + 1 = S'.E + 1; rw [h3], h4, h5, h6, fun c hc hp => ⟨(h7 c hc hp).1, ?_⟩, fun m c hm hb hp => ?_⟩
  · have hc : c < S.B := hc
    have hp : S.pe c = p := hp
    show (if S.E % 3 = 2 then kLose S (wPassQ S).1 S.B else (wPassQ S).1) c = (if S'.E % 3 = 2 then kLose S' (wPassQ S').1 S'.B else (wPassQ S').1) c
    rw [← h3]
    split
    · funext k
      simp only [kLose]
      rw [hq c hc hp, (h7 c hc hp).1, h1, h4]
    · exact hq c hc hp
  · exact i8 m c (by rw [a2]; exact hm) (by rw [a7]; exact hb) (by rw [a6]; exact hp)
theorem Ag_passN {p : Nat} {S S' : wS} (ho : wok S) (ho' : wok S') (hE : S.E < 10000) (h : Ag p S S') : ∀ k, k ≤ 100 → Ag p (wPassN S k) (wPassN S' k)
  | 0, _ => h
  | k + 1, hk => by
    have e := h.2.2.1
    exact Ag_pass (wok_passN ho k (by omega)) (wok_passN ho' k (by omega)) (Ag_passN ho ho' hE h k (by omega))
/-- whether bird b stays clean of word w over n evenings, if t are covered too -/
def clP (S : wS) (b w n t : Nat) : Bool := decide ((wPassN (wCo S (S.C ||| t)) n).K b w < 5)
def clA (S : wS) (b t : Nat) : Bool := decide (t &&& (S.C ||| 2 ^ b) = 0)
def clB (o : Option Nat) (i : Nat) : Bool := match o with
  | none => true
  | some t => decide (wCnt i < wCnt t)
def cR (S : wS) (b w n : Nat) : Nat → Option Nat
  | 0 => none
  | i + 1 => if clA S b i = true ∧ clB (cR S b w n i) i = true ∧ clP S b w n i = true then some i else cR S b w n i
theorem cR_some {S : wS} {b w n : Nat} : ∀ i t, cR S b w n i = some t → t < i ∧ clA S b t = true ∧ clP S b w n t = true ∧ ∀ t', t' < i → clA S b t' = true → clP S b w n t' = true → wCnt t ≤ wCnt t' ∧ (t' < t → wCnt t < wCnt t')
  | 0, _, h => by cases h
  | i + 1, t, h => by
    have nonef : cR S b w n i = none → ∀ t', t' < i → clA S b t' = true → clP S b w n t' = true → False := by
      clear h
      induction i with
      | zero => intro _ t' ht; exact absurd ht (by omega)
      | succ i ih =>
        intro hn t' ht h1 h2
        rw [cR] at hn
        split at hn
        · cases hn
        · rename_i hq
          by_cases e : t' = i
          · subst e
            exact hq ⟨h1, by rw [hn]; rfl, h2⟩
          · exact ih hn t' (by omega) h1 h2
    rw [cR] at h
    split at h
    · rename_i hq
      injection h with h
      subst h
      refine ⟨by omega, hq.1, hq.2.2, fun t' ht h1 h2 => ?_⟩
      by_cases e : t' = i
      · subst e; exact ⟨Nat.le_refl _, fun z => absurd z (by omega)⟩
      · have h3 := hq.2.1
        rcases hr : cR S b w n i with _ | s
        · exact (nonef hr t' (by omega) h1 h2).elim
        · rw [hr] at h3
          have h3 := of_decide_eq_true h3
          have := (cR_some i s hr).2.2.2 t' (by omega) h1 h2
          exact ⟨by omega, fun _ => by omega⟩
    · rename_i hq
      obtain ⟨c1, c2, c3, c4⟩ := cR_some i t h
      refine ⟨by omega, c2, c3, fun t' ht h1 h2 => ?_⟩
      by_cases e : t' = i
      · subst e
        have : ¬ wCnt t' < wCnt t := fun z => hq ⟨h1, by rw [h]; exact decide_eq_true z, h2⟩
        exact ⟨by omega, fun z => absurd z (by omega)⟩
      · exact c4 t' (by omega) h1 h2
theorem cR_none {S : wS} {b w n : Nat} : ∀ i, cR S b w n i = none → ∀ t', t' < i → clA S b t' = true → clP S b w n t' = true → False
  | 0, _, t', ht, _, _ => absurd ht (by omega)
  | i + 1, hn, t', ht, h1, h2 => by
    rw [cR] at hn
    split at hn
    · cases hn
    · rename_i hq
      by_cases e : t' = i
      · subst e
        exact hq ⟨h1, by rw [hn]; rfl, h2⟩
      · exact cR_none i hn t' (by omega) h1 h2
theorem clA_tb {S : wS} {b t : Nat} (h : clA S b t = true) (i : Nat) (hi : t.testBit i = true) : S.C.testBit i = false ∧ i ≠ b := by
  have h := of_decide_eq_true h
  have := congrArg (fun x => Nat.testBit x i) h
  simp only [Nat.testBit_and, Nat.testBit_or, hi, Nat.zero_testBit, Bool.true_and, Bool.or_eq_false_iff, Nat.testBit_two_pow] at this
  refine ⟨this.1, fun e => ?_⟩
  rw [e] at this
  simp at this
abbrev clAb (S : wS) (b : Nat) : Nat := wWo (wAw S (S.pe b)) b
theorem clAb_tb {S : wS} (ho : wok S) {b i : Nat} : (clAb S b).testBit i = (decide (i < S.B) && (decide (S.pe i = S.pe b) && !S.C.testBit i) && !decide (i = b)) := by
  rw [clAb, wWo_tb (wAw_lt ho _), wAw_all]
theorem tb_sub {t a : Nat} (h : ∀ i, t.testBit i = true → a.testBit i = true) : t &&& a = t := by
  apply Nat.eq_of_testBit_eq
  intro i
  rw [Nat.testBit_and]
  cases q : t.testBit i with
  | false => rfl
  | true => rw [h i q]; rfl
/-- what is of the same perch alone matters -/
theorem clP_ab {S : wS} {b w n t : Nat} (ho : wok S) (hE : S.E ≤ 999) (hb : b < S.B) (hn : n ≤ 20) (ht : t < 256) (h : clA S b t = true) : clP S b w n (t &&& clAb S b) = clP S b w n t := by
  have o1 : wok (wCo S (S.C ||| t)) := wok_co ho (Nat.or_lt_two_pow (n := 8) ho.2.2.2.1 ht)
  have o2 : wok (wCo S (S.C ||| (t &&& clAb S b))) := wok_co ho (Nat.or_lt_two_pow (n := 8) ho.2.2.2.1 (Nat.lt_of_le_of_lt Nat.and_le_left ht))
  have ag : Ag (S.pe b) (wCo S (S.C ||| (t &&& clAb S b))) (wCo S (S.C ||| t)) := by
    refine ⟨rfl, rfl, rfl, rfl, rfl, rfl, fun c hc hp => ⟨?_, rfl⟩, fun _ _ _ _ _ => rfl⟩
    have hc : c < S.B := hc
    have hp : S.pe c = S.pe b := hp
    show (S.C ||| (t &&& clAb S b)).testBit c = (S.C ||| t).testBit c
    rw [Nat.testBit_or, Nat.testBit_or, Nat.testBit_and, clAb_tb ho, decide_eq_true hc, decide_eq_true hp]
    cases hC : S.C.testBit c with
    | true => rfl
    | false =>
      cases htc : t.testBit c with
      | false => rfl
      | true =>
        have := (clA_tb h c htc).2
        rw [decide_eq_false this]
        rfl
  have g := Ag_passN o2 o1 (by show S.E < _; omega) ag n (by omega)
  have hK := (g.2.2.2.2.2.2.1 b (by rw [(passN_B _ n).1]; exact hb) (by
    have : ∀ k, (wPassN (wCo S (S.C ||| (t &&& clAb S b))) k).pe = S.pe := by
      intro k
      induction k with
      | zero => rfl
      | succ k ih => exact ih
    rw [this n])).2
  rw [clP, clP, hK]
theorem wSum_mono {f g : Nat → Nat} (h : ∀ i, f i ≤ g i) : ∀ k, wSum f k ≤ wSum g k
  | 0 => Nat.le_refl _
  | k + 1 => by
    have := wSum_mono h k
    have := h k
    rw [wSum, wSum]
    omega
theorem wCnt_and (t a : Nat) : wCnt (t &&& a) ≤ wCnt t := by
  apply wSum_mono
  intro i
  rw [Nat.testBit_and]
  cases t.testBit i <;> cases a.testBit i <;> simp
theorem cnt7 : ∀ t, t < 256 → ∀ b, b < 8 → t.testBit b = false → wCnt t ≤ 7 := by decide +kernel
theorem clA_ab {S : wS} {b t : Nat} (ho : wok S) (h : t &&& clAb S b = t) : clA S b t = true ∧ t < 2 ^ S.B ∧ t.testBit b = false := by
  have key : ∀ i, t.testBit i = true → i < S.B ∧ S.C.testBit i = false ∧ i ≠ b := fun i hi => by
    have := congrArg (fun x => Nat.testBit x i) h
    simp only [Nat.testBit_and, hi, Bool.true_and] at this
    rw [clAb_tb ho] at this
    simp only [Bool.and_eq_true, decide_eq_true_eq, Bool.not_eq_true', decide_eq_false_iff_not] at this
    exact ⟨this.1.1, this.1.2.2, this.2⟩
  refine ⟨decide_eq_true ?_, ?_, ?_⟩
  · apply Nat.eq_of_testBit_eq
    intro i
    rw [Nat.testBit_and, Nat.testBit_or, Nat.zero_testBit, Nat.testBit_two_pow]
    cases q : t.testBit i with
    | false => rfl
    | true =>
      obtain ⟨k1, k2, k3⟩ := key i q
      rw [k2, decide_eq_false (Ne.symm k3)]
      rfl
  · apply Nat.lt_pow_two_of_testBit
    intro i hi
    cases q : t.testBit i with
    | false => rfl
    | true => exact absurd (key i q).1 (by omega)
  · cases q : t.testBit b with
    | false => rfl
    | true => exact absurd rfl (key b q).2.2
/-- the class's find is the reference's -/
theorem cl_found {S : wS} {b w n t0 : Nat} (ho : wok S) (hE : S.E ≤ 999) (hb : b < S.B) (hn : n ≤ 20) (h0 : t0 &&& clAb S b = t0) (hP : clP S b w n t0 = true) (hno : ∀ t, t < 256 → t &&& clAb S b = t → clP S b w n t = true → wCnt t0 ≤ wCnt t ∧ (t < t0 → wCnt t0 < wCnt t)) : cR S b w n (2 ^ S.B) = some t0 := by
  have h8 := ho.1
  have p8 : 2 ^ S.B ≤ 256 := p2_lt h8
  obtain ⟨a1, a2, a3⟩ := clA_ab ho h0
  have hall : ∀ t', t' < 2 ^ S.B → clA S b t' = true → clP S b w n t' = true → wCnt t0 ≤ wCnt t' ∧ (t' < t0 → wCnt t0 < wCnt t') := by
    intro t' ht h1 h2
    have e := clP_ab (w := w) (n := n) ho hE hb hn (show t' < 256 by omega) h1
    have le := Nat.and_le_left (n := t') (m := clAb S b)
    have := hno (t' &&& clAb S b) (by omega) (by rw [Nat.and_assoc, Nat.and_self]) (e.trans h2)
    have := wCnt_and t' (clAb S b)
    exact ⟨by omega, fun z => by omega⟩
  rcases hr : cR S b w n (2 ^ S.B) with _ | t
  · exact (cR_none _ hr t0 a2 a1 hP).elim
  · obtain ⟨c1, c2, c3, c4⟩ := cR_some _ _ hr
    have d1 := c4 t0 a2 a1 hP
    have d2 := hall t c1 c2 c3
    have : t = t0 := by omega
    rw [this]
theorem cl_none {S : wS} {b w n : Nat} (ho : wok S) (hE : S.E ≤ 999) (hb : b < S.B) (hn : n ≤ 20) (hno : ∀ t, t < 256 → t &&& clAb S b = t → clP S b w n t = true → False) : cR S b w n (2 ^ S.B) = none := by
  have h8 := ho.1
  have p8 : 2 ^ S.B ≤ 256 := p2_lt h8
  rcases hr : cR S b w n (2 ^ S.B) with _ | t
  · rfl
  · obtain ⟨c1, c2, c3, c4⟩ := cR_some _ _ hr
    have e := clP_ab (w := w) (n := n) ho hE hb hn (show t < 256 by omega) c2
    have le := Nat.and_le_left (n := t) (m := clAb S b)
    exact (hno (t &&& clAb S b) (by omega) (by rw [Nat.and_assoc, Nat.and_self]) (e.trans c3)).elim
def aClean (G : gS) (x y z : Int32) : Int32 := match gI x 0 ((G.now.B : Int) - 1) with
  | none => -2
  | some b => match gI y 0 9 with
    | none => -2
    | some w => match gI z 1 20 with
      | none => -3
      | some k => xby (cR G.now b w k (2 ^ G.now.B))
