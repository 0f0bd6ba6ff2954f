/-! ===== an evening: spread, speak, speakOn, lose, handOver, passEvening ===== -/
abbrev wKf : Type := Nat → Nat → Nat
abbrev wK (S : wS) (K : wKf) : wS := wmk S.B S.M S.E S.C S.kd S.pe K S.ha S.bi
def kok (B : Nat) (K : wKf) : Prop := ∀ b k, b < B → k < 10 → K b k ≤ 9
theorem wok_K {S : wS} {K : wKf} (ho : wok S) (hK : kok S.B K) : wok (wK S K) := by
  obtain ⟨h1, h2, h3, h4, h5, h6, h7, h8⟩ := ho
  exact ⟨h1, h2, h3, h4, h5, h6, hK, h8⟩
theorem wok_kok {S : wS} (ho : wok S) : kok S.B S.K := ho.2.2.2.2.2.2.1
def kLearn (K : wKf) (b k v : Nat) : wKf := wup K b k (min 9 (K b k + v))
theorem kok_learn {B : Nat} {K : wKf} (h : kok B K) (b k v : Nat) : kok B (kLearn K b k v) := by
  intro c j hc hj
  rw [kLearn, wup]
  split
  · exact Nat.min_le_left _ _
  · exact h c j hc hj
def kSpr (kd : Nat → Nat) (K : wKf) (k hs : Nat) : Nat → wKf
  | 0 => K
  | b + 1 => if hs.testBit b then kLearn (kSpr kd K k hs b) b k (wHears (kd b)) else kSpr kd K k hs b
theorem kok_spr {B : Nat} {kd : Nat → Nat} {K : wKf} (h : kok B K) (k hs : Nat) : ∀ b, kok B (kSpr kd K k hs b)
  | 0 => h
  | b + 1 => by
    rw [kSpr]
    split
    · exact kok_learn (kok_spr h k hs b) _ _ _
    · exact kok_spr h k hs b
theorem wHears_le (k : Nat) : wHears k ≤ 2 := by
  match k with
  | 0 => decide
  | 1 => decide
  | 2 => decide
  | 3 => decide
  | 4 => decide
  | k + 5 => simp [wHears]
theorem wtab1 : ∀ k, k < 5 → xtv 1 k = nI (wHears k) := by decide +kernel
theorem wtab2 : ∀ k, k < 5 → xtv 2 k = nI (wGets k) := by decide +kernel
theorem wtab3 : ∀ k, k < 5 → xtv 3 k = nI (wSays k) := by decide +kernel
theorem wtab4 : ∀ k, k < 5 → xtv 4 k = nI (wLoses k) := by decide +kernel
theorem wSays_le : ∀ k, k < 5 → wSays k ≤ 2 := by decide +kernel
theorem wGets_le : ∀ k, k < 5 → wGets k ≤ 5 := by decide +kernel
theorem wLoses_le : ∀ k, k < 5 → wLoses k ≤ 1 := by decide +kernel
section EV
variable {Γ : xG} {n : Nat} {D : xM} {post : Option Int32 → xM → Prop} {w : Nat} {S : wS}
theorem l_spread {k hs : Nat} {K : wKf} (ho : wok S) (hK : kok S.B K) (hk : k < 10) (hh : hs < 256) (hp : ∀ D', rW D' w (wK S (kSpr S.kd K k hs S.B)) → sameW w D D' → post none D') : ∀ f i (D1 : xM), i + f = S.B → rW D1 w (wK S (kSpr S.kd K k hs i)) → sameW w D D1 → xW Γ (n + 1) hX7_spread rX7_spread 2 [some (xR 0 7 w), some (xI (nI k)), some (xI (nI hs)), some (xI (nI i))] [] D1 post := by
  have h8 := ho.1
  intro f
  induction f with
  | zero =>
    intro i D1 hi hr1 hs1
    obtain rfl : i = S.B := by omega
    refine xi_geN S.B S.B rfl rfl rfl hr1.1 (by omega) (by omega) (fun _ => ?_) (fun h => absurd h (by omega))
    exact x_vret rfl rfl rfl (hp D1 hr1 hs1)
  | succ f ih =>
    intro i D1 hi hr1 hs1
    have h5 := ho.2.2.2.2.1 i (by omega)
    refine xi_geN i S.B rfl rfl rfl hr1.1 (by omega) (by omega) (fun h => absurd h (by omega)) (fun h => ?_)
    refine xi_neN (hs / 2 ^ i % 2) 1 rfl rfl (xb_bit (by omega) (by omega)) rfl (by omega) (by omega) (fun h2 => ?_) (fun h2 => ?_)
    · have ht : hs.testBit i = false := by
        cases hq : hs.testBit i with
        | false => rfl
        | true => exact absurd ((xb_tb _ _).mpr hq) h2
      have IH := ih (i + 1) D1 (by omega) (by rw [kSpr, ht]; exact hr1) hs1
      rw [← nI_1] at IH
      exact x_goto rfl rfl IH
    · have ht := (xb_tb _ _).mp h2
      refine x_aldN i rfl rfl rfl (by omega) rfl ?_
      rw [hr1.2.2.2.2.1 i (by show i < S.B; omega)]
      refine x_tldN (S.kd i) rfl rfl rfl h5 ?_
      rw [wtab1 _ h5]
      have hle := wHears_le (S.kd i)
      refine x_call [xI (nI i), xI (nI k), xI (nI (wHears (S.kd i)))] rfl rfl rfl rfl rfl rfl rfl (c_learn hr1 (wok_K ho (kok_spr hK k hs i)) (by show i < S.B; omega) hk (by omega) ?_)
      have IH := ih (i + 1) (xup D1 (w + 3) (i * 10 + k) (nI (min 9 (kSpr S.kd K k hs i i k + wHears (S.kd i))))) (by omega) (by
        rw [kSpr, ht]
        exact rW_K hr1 hk) (hs1.up (by omega))
      rw [← nI_1] at IH
      exact x_goto rfl rfl IH
theorem c_spread {k hs : Nat} (hr : rW D w S) (ho : wok S) (hk : k < 10) (hh : hs < 256) (hp : ∀ D', rW D' w (wK S (kSpr S.kd S.K k hs S.B)) → sameW w D D' → post none D') : xRuns Γ (n + 1) hX7_spread [xR 0 7 w, xI (nI k), xI (nI hs)] D post := by
  refine x_runs kX7_spread (by decide +kernel) rfl ?_
  refine x_to 2 rfl ?_
  exact l_spread (K := S.K) ho (wok_kok ho) hk hh hp S.B 0 D (by omega) hr sameW.rf
end EV
/-- a bird says what it has to -/
def kSpk (kd : Nat → Nat) (b p hs B : Nat) : Nat → Nat → wKf × (Nat → List Nat) → wKf × (Nat → List Nat)
  | 0, _, q => q
  | t + 1, said, q => match (wBst (q.1 b) said 10).1 with
    | none => q
    | some k => kSpk kd b p hs B t (said + (if said.testBit k then 0 else 2 ^ k)) (kSpr kd q.1 k hs B, wuf q.2 p (q.2 p ++ [k]))
theorem sd_lt : ∀ said k : Nat, said < 1024 → k < 10 → said + (if said.testBit k then 0 else 2 ^ k) = said ||| 2 ^ k := by
  have H : ∀ said : Fin 1024, ∀ k : Fin 10, said.val + (if said.val.testBit k.val then 0 else 2 ^ k.val) = said.val ||| 2 ^ k.val := by decide +kernel
  intro said k h1 h2
  exact H ⟨said, h1⟩ ⟨k, h2⟩
theorem or_lt {a k : Nat} (ha : a < 1024) (hk : k < 10) : a ||| 2 ^ k < 1024 := by
  have h2 : (2 : Nat) ^ k < 2 ^ 10 := Nat.pow_lt_pow_right (by decide) hk
  exact Nat.or_lt_two_pow (n := 10) ha h2
/-- outside a world's cells and the speech's -/
def sameP (w : Nat) (D D' : xM) : Prop := ∀ a, (a < w ∨ w + 5 < a) → a ≠ 34 → a ≠ 35 → D' a = D a
theorem sameP.rf {w : Nat} {D : xM} : sameP w D D := fun _ _ _ _ => rfl
theorem sameP.tr {w : Nat} {D D1 D2 : xM} (h : sameP w D D1) (h2 : sameP w D1 D2) : sameP w D D2 := fun a ha hb hc => (h2 a ha hb hc).trans (h a ha hb hc)
theorem sameP.ofW {w : Nat} {D D1 : xM} (h : sameW w D D1) : sameP w D D1 := fun a ha _ _ => h a ha
theorem rP_out {D D' : xM} {a c : Nat} {sp : Nat → List Nat} (h : rP D a c sp) (h1 : D' a = D a) (h2 : D' c = D c) : rP D' a c sp := by
  intro p hp
  rw [h1, h2]
  exact h p hp
section EV2
variable {Γ : xG} {n : Nat} {D : xM} {post : Option Int32 → xM → Prop} {w : Nat} {S : wS}
theorem l_speak {b p hs : Nat} (hw : w + 5 < 34) (ho : wok S) (hb : b < S.B) (hp4 : p < 4) (hh : hs < 256) : ∀ (f i said : Nat) (q : wKf × (Nat → List Nat)) (D1 : xM), i + f = wSays (S.kd b) → kok S.B q.1 → rW D1 w (wK S q.1) → rP D1 34 35 q.2 → (∀ z, z < 4 → (q.2 z).length ≤ 16) → (q.2 p).length + f ≤ 16 → said < 1024 → sameP w D D1 →
    (∀ D', rW D' w (wK S (kSpk S.kd b p hs S.B f said q).1) → rP D' 34 35 (kSpk S.kd b p hs S.B f said q).2 → sameP w D D' → post none D') → xW Γ (n + 2) hX7_speak rX7_speak 6 [some (xR 0 7 w), some (xI (nI b)), some (xI (nI p)), some (xI (nI hs)), some (xR 0 4 33), some (xI (nI said)), some (xI (nI i)), none] [] D1 post := by
  have h8 := ho.1
  have h5 := ho.2.2.2.2.1 b hb
  have hsy := wSays_le _ h5
  intro f
  induction f with
  | zero =>
    intro i said q D1 hi hq hr1 hP1 hlen hl hsd hs1 hp
    refine x_aldN b rfl rfl rfl (by omega) rfl ?_
    rw [hr1.2.2.2.2.1 b hb]
    refine x_tldN (S.kd b) rfl rfl rfl h5 ?_
    rw [wtab3 _ h5]
    refine xi_geN i (wSays (S.kd b)) rfl rfl rfl rfl (by omega) (by omega) (fun _ => ?_) (fun h => absurd h (by omega))
    exact x_vret rfl rfl rfl (hp D1 hr1 hP1 hs1)
  | succ f ih =>
    intro i said q D1 hi hq hr1 hP1 hlen hl hsd hs1 hp
    refine x_aldN b rfl rfl rfl (by omega) rfl ?_
    rw [hr1.2.2.2.2.1 b hb]
    refine x_tldN (S.kd b) rfl rfl rfl h5 ?_
    rw [wtab3 _ h5]
    refine xi_geN i (wSays (S.kd b)) rfl rfl rfl rfl (by omega) (by omega) (fun h => absurd h (by omega)) (fun h => ?_)
    refine x_call [xI (nI b), xI (nI said)] rfl rfl rfl rfl rfl rfl rfl (c_bestKnown hr1 (wok_K ho hq) hb hsd ?_)
    rw [kSpk] at hp
    cases hz : (wBst (q.1 b) said 10).1 with
    | none =>
      rw [hz] at hp
      refine xi_ne rfl rfl (fun h2 => absurd rfl h2) (fun _ => ?_)
      exact x_vret rfl rfl rfl (hp D1 hr1 hP1 hs1)
    | some k =>
      have hk : k < 10 := wBst_lt 10 k hz
      rw [hz] at hp
      dsimp only at hp
      refine xi_ne rfl rfl (fun _ => ?_) (fun h2 => ?_)
      · refine x_call [xI (nI p), xI (nI k)] rfl rfl rfl rfl rfl rfl rfl (c_spAdd hP1 hlen hp4 (by omega) (fun D2 hP2 hs2 => ?_))
        have hr2 : rW D2 w (wK S q.1) := rW_out hr1 (fun a ha hb => hs2 a (by omega) (by omega))
        refine x_call [xI (nI k), xI (nI hs)] rfl rfl rfl rfl rfl rfl rfl (c_spread hr2 (wok_K ho hq) hk hh (fun D3 hr3 hs3 => ?_))
        have e9 := sd_lt said k hsd hk
        rw [e9] at hp
        have IH := ih (i + 1) (said ||| 2 ^ k) (kSpr S.kd q.1 k hs S.B, wuf q.2 p (q.2 p ++ [k])) D3 (by omega) (kok_spr hq k hs S.B) hr3 (rP_out hP2 (hs3 34 (by omega)) (hs3 35 (by omega))) (fun z hz4 => by
            by_cases ez : z = p
            · subst ez; simp [wuf]; omega
            · simp only [wuf, ez, if_false]; exact hlen z hz4) (by simp [wuf]; omega) (or_lt hsd hk) (hs1.tr (fun a h1 h2 h3 => by rw [hs3 a h1, hs2 a h2 h3])) hp
        rw [← nI_1, ← xb_or, ← xb_sh1 (by omega)] at IH
        exact x_goto rfl rfl (x_drop 7 IH)
      · exact absurd ((xby_m1 (o := some k) (fun c hc => by cases hc; omega)).mp h2) (by simp)
theorem c_speak {b p hs : Nat} {sp : Nat → List Nat} (hw : w + 5 < 34) (hr : rW D w S) (hP : rP D 34 35 sp) (ho : wok S) (hb : b < S.B) (hp4 : p < 4) (hh : hs < 256) (hlen : ∀ z, z < 4 → (sp z).length ≤ 16) (hl : (sp p).length + wSays (S.kd b) ≤ 16)
    (hp : ∀ D', rW D' w (wK S (kSpk S.kd b p hs S.B (wSays (S.kd b)) 0 (S.K, sp)).1) → rP D' 34 35 (kSpk S.kd b p hs S.B (wSays (S.kd b)) 0 (S.K, sp)).2 → sameP w D D' → post none D') : xRuns Γ (n + 2) hX7_speak [xR 0 7 w, xI (nI b), xI (nI p), xI (nI hs), xR 0 4 33] D post := by
  refine x_runs kX7_speak (by decide +kernel) rfl ?_
  refine x_to 6 rfl ?_
  exact l_speak hw ho hb hp4 hh (wSays (S.kd b)) 0 0 (S.K, sp) D (by omega) (wok_kok ho) hr hP hlen hl (by omega) sameP.rf hp
end EV2
def kSpo (kd : Nat → Nat) (p aw B : Nat) : Nat → wKf × (Nat → List Nat) → wKf × (Nat → List Nat)
  | 0, q => q
  | b + 1, q => if aw.testBit b then kSpk kd b p (wWo aw b) B (wSays (kd b)) 0 (kSpo kd p aw B b q) else kSpo kd p aw B b q
theorem kok_spk {B : Nat} {kd : Nat → Nat} {b p hs : Nat} : ∀ (t said : Nat) (q : wKf × (Nat → List Nat)), kok B q.1 → kok B (kSpk kd b p hs B t said q).1
  | 0, _, _, h => h
  | t + 1, said, q, h => by
    rw [kSpk]
    split
    · exact h
    · exact kok_spk t _ _ (kok_spr h _ _ _)
theorem len_spk {B : Nat} {kd : Nat → Nat} {b p hs : Nat} : ∀ (t said : Nat) (q : wKf × (Nat → List Nat)) (z : Nat), ((kSpk kd b p hs B t said q).2 z).length ≤ (q.2 z).length + (if z = p then t else 0)
  | 0, _, _, _ => by rw [kSpk]; omega
  | t + 1, said, q, z => by
    rw [kSpk]
    split
    · omega
    · rename_i k _
      have := len_spk (B := B) (kd := kd) (b := b) (p := p) (hs := hs) t (said + (if said.testBit k then 0 else 2 ^ k)) (kSpr kd q.1 k hs B, wuf q.2 p (q.2 p ++ [k])) z
      by_cases e : z = p
      · subst e
        simp only [wuf, if_true, List.length_append, List.length_cons, List.length_nil] at this ⊢
        omega
      · simp only [wuf, e, if_false] at this ⊢
        exact this
theorem kok_spo {B : Nat} {kd : Nat → Nat} {p aw : Nat} : ∀ (b : Nat) (q : wKf × (Nat → List Nat)), kok B q.1 → kok B (kSpo kd p aw B b q).1
  | 0, _, h => h
  | b + 1, q, h => by
    rw [kSpo]
    split
    · exact kok_spk _ _ _ (kok_spo b q h)
    · exact kok_spo b q h
theorem len_spo {B : Nat} {kd : Nat → Nat} {p aw : Nat} : ∀ (b : Nat) (q : wKf × (Nat → List Nat)) (z : Nat), (∀ c, c < b → kd c < 5) → ((kSpo kd p aw B b q).2 z).length ≤ (q.2 z).length + (if z = p then 2 * b else 0)
  | 0, _, _, _ => by rw [kSpo]; omega
  | b + 1, q, z, h => by
    have ih := len_spo (B := B) (kd := kd) (p := p) (aw := aw) b q z (fun c hc => h c (by omega))
    rw [kSpo]
    split
    · have h1 := len_spk (B := B) (kd := kd) (b := b) (p := p) (hs := wWo aw b) (wSays (kd b)) 0 (kSpo kd p aw B b q) z
      have h2 := wSays_le _ (h b (by omega))
      by_cases e : z = p
      · simp only [e, if_true] at h1 ih ⊢
        omega
      · simp only [e, if_false] at h1 ih ⊢
        omega
    · by_cases e : z = p
      · simp only [e, if_true] at ih ⊢
        omega
      · simp only [e, if_false] at ih ⊢
        omega
section EV3
variable {Γ : xG} {n : Nat} {D : xM} {post : Option Int32 → xM → Prop} {w : Nat} {S : wS}
theorem l_speakOn {p aw : Nat} {q : wKf × (Nat → List Nat)} (hw : w + 5 < 34) (ho : wok S) (hp4 : p < 4) (ha : aw < 256) (hq : kok S.B q.1) (hlen : ∀ z, z < 4 → (q.2 z).length ≤ 16) (hl0 : (q.2 p).length = 0) (hp : ∀ D', rW D' w (wK S (kSpo S.kd p aw S.B S.B q).1) → rP D' 34 35 (kSpo S.kd p aw S.B S.B q).2 → sameP w D D' → post none D') : ∀ (f i : Nat) (D1 : xM), i + f = S.B → rW D1 w (wK S (kSpo S.kd p aw S.B i q).1) → rP D1 34 35 (kSpo S.kd p aw S.B i q).2 → sameP w D D1 → xW Γ (n + 3) hX7_speakOn rX7_speakOn 3 [some (xR 0 7 w), some (xI (nI p)), some (xI (nI aw)), some (xR 0 4 33), some (xI (nI i))] [] D1 post := by
  have h8 := ho.1
  intro f
  induction f with
  | zero =>
    intro i D1 hi hr1 hP1 hs1
    obtain rfl : i = S.B := by omega
    refine xi_geN S.B S.B rfl rfl rfl hr1.1 (by omega) (by omega) (fun _ => ?_) (fun h => absurd h (by omega))
    exact x_vret rfl rfl rfl (hp D1 hr1 hP1 hs1)
  | succ f ih =>
    intro i D1 hi hr1 hP1 hs1
    refine xi_geN i S.B rfl rfl rfl hr1.1 (by omega) (by omega) (fun h => absurd h (by omega)) (fun h => ?_)
    refine xi_neN (aw / 2 ^ i % 2) 1 rfl rfl (xb_bit (by omega) (by omega)) rfl (by omega) (by omega) (fun h2 => ?_) (fun h2 => ?_)
    · have ht : aw.testBit i = false := by
        cases hq : aw.testBit i with
        | false => rfl
        | true => exact absurd ((xb_tb _ _).mpr hq) h2
      have IH := ih (i + 1) D1 (by omega) (by rw [kSpo, ht]; exact hr1) (by rw [kSpo, ht]; exact hP1) hs1
      rw [← nI_1] at IH
      exact x_goto rfl rfl IH
    · have ht := (xb_tb _ _).mp h2
      have e : nI aw &&& ((xnum 1 <<< (nI i &&& 31)) ^^^ xnum (-1)) = nI (wWo aw i) := wWo_I ha (by omega)
      have hkd : ∀ c, c < i → S.kd c < 5 := fun c hc => ho.2.2.2.2.1 c (by omega)
      have hlz : ∀ z, z < 4 → ((kSpo S.kd p aw S.B i q).2 z).length ≤ 16 := fun z hz => by
        have h1 := len_spo (B := S.B) (kd := S.kd) (p := p) (aw := aw) i q z hkd
        have h2 := hlen z hz
        by_cases ez : z = p
        · subst ez; simp only [if_true] at h1; omega
        · simp only [ez, if_false] at h1; omega
      have hsy := wSays_le _ (ho.2.2.2.2.1 i (by omega))
      have hlp : ((kSpo S.kd p aw S.B i q).2 p).length + wSays (S.kd i) ≤ 16 := by
        have h1 := len_spo (B := S.B) (kd := S.kd) (p := p) (aw := aw) i q p hkd
        simp only [if_true] at h1
        omega
      refine x_call [xI (nI i), xI (nI p), xI (nI aw &&& ((xnum 1 <<< (nI i &&& 31)) ^^^ xnum (-1))), xR 0 4 33] rfl rfl rfl rfl rfl rfl rfl ?_
      rw [e]
      refine c_speak hw hr1 hP1 (wok_K ho (kok_spo i q hq)) (by show i < S.B; omega) hp4 (wWo_lt _ _) hlz hlp (fun D2 hr2 hP2 hs2 => ?_)
      have IH := ih (i + 1) D2 (by omega) (by rw [kSpo, ht]; exact hr2) (by rw [kSpo, ht]; exact hP2) (hs1.tr hs2)
      rw [← nI_1] at IH
      exact x_goto rfl rfl IH
theorem c_speakOn {p aw : Nat} {sp : Nat → List Nat} (hw : w + 5 < 34) (hr : rW D w S) (hP : rP D 34 35 sp) (ho : wok S) (hp4 : p < 4) (ha : aw < 256) (hlen : ∀ z, z < 4 → (sp z).length ≤ 16) (hl0 : (sp p).length = 0) (hp : ∀ D', rW D' w (wK S (kSpo S.kd p aw S.B S.B (S.K, sp)).1) → rP D' 34 35 (kSpo S.kd p aw S.B S.B (S.K, sp)).2 → sameP w D D' → post none D') : xRuns Γ (n + 3) hX7_speakOn [xR 0 7 w, xI (nI p), xI (nI aw), xR 0 4 33] D post := by
  refine x_runs kX7_speakOn (by decide +kernel) rfl ?_
  refine x_to 3 rfl ?_
  exact l_speakOn hw ho hp4 ha (wok_kok ho) hlen hl0 hp S.B 0 D (by omega) hr hP sameP.rf
end EV3
