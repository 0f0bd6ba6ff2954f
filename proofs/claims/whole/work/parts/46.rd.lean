/-! ===== the reader: numbers ===== -/
def tc (tx : List Nat) (i : Nat) : Nat := tx.getD i 0
def tSort (c : Nat) : Nat := if 97 ≤ c ∧ c ≤ 122 then 0 else if 48 ≤ c ∧ c ≤ 57 then 1 else 2
def tSk (tx : List Nat) : Nat → Nat → Nat
  | 0, i => i
  | g + 1, i => if tc tx i = 32 then tSk tx g (i + 1) else i
def tRu (tx : List Nat) (s : Nat) : Nat → Nat → Nat
  | 0, i => i
  | g + 1, i => if tSort (tc tx i) = s then tRu tx s g (i + 1) else i
def tF (tx : List Nat) (i : Nat) : Nat := tSk tx (tx.length - i) i
def tE (tx : List Nat) (f : Nat) : Nat := if f < tx.length then (if tSort (tc tx f) = 2 then f + 1 else tRu tx (tSort (tc tx f)) (tx.length - (f + 1)) (f + 1)) else f
theorem tSk_le (tx : List Nat) : ∀ g i, i ≤ tSk tx g i ∧ tSk tx g i ≤ i + g
  | 0, i => ⟨Nat.le_refl _, Nat.le_refl _⟩
  | g + 1, i => by
    rw [tSk]
    split
    · have := tSk_le tx g (i + 1); omega
    · omega
theorem tRu_le (tx : List Nat) (s : Nat) : ∀ g i, i ≤ tRu tx s g i ∧ tRu tx s g i ≤ i + g
  | 0, i => ⟨Nat.le_refl _, Nat.le_refl _⟩
  | g + 1, i => by
    rw [tRu]
    split
    · have := tRu_le tx s g (i + 1); omega
    · omega
theorem tF_le {tx : List Nat} {i : Nat} (h : i ≤ tx.length) : i ≤ tF tx i ∧ tF tx i ≤ tx.length := by
  have := tSk_le tx (tx.length - i) i
  rw [tF]; omega
theorem tE_le {tx : List Nat} {f : Nat} (h : f ≤ tx.length) : f ≤ tE tx f ∧ tE tx f ≤ tx.length ∧ (f < tx.length → f < tE tx f) := by
  rw [tE]
  split
  · split
    · omega
    · have := tRu_le tx (tSort (tc tx f)) (tx.length - (f + 1)) (f + 1); omega
  · omega
theorem tE_59 {tx : List Nat} {f : Nat} (h : f < tx.length) (hc : tc tx f = 59) : tE tx f = f + 1 := by
  rw [tE, if_pos h, hc]; rfl
def tWo (c : Nat) : Option Nat := if 97 ≤ c ∧ c < 107 then some (c - 97) else none
def tNum (tx : List Nat) (f e bound : Nat) : Option Nat := if e = f + 1 ∧ tSort (tc tx f) = 1 ∧ tc tx f - 48 < bound then some (tc tx f - 48) else none
def tOne (tx : List Nat) (f e : Nat) : Option Nat := if e = f + 1 then tWo (tc tx f) else none
def tRi (tx : List Nat) : Nat → Nat → Nat → Nat → Nat
  | 0, _, _, set => set
  | g + 1, i, lo, set => match tWo (tc tx i) with
    | none => 0
    | some w => if lo ≤ w then tRi tx g (i + 1) (w + 1) (set ||| 2 ^ w) else 0
def tWords (tx : List Nat) (f e : Nat) : Nat := tRi tx (e - f) f 0 0
theorem tWo_lt {c w : Nat} (h : tWo c = some w) : w < 10 ∧ c = 97 + w := by
  rw [tWo] at h
  split at h
  · cases h; omega
  · cases h
theorem tRi_len (tx : List Nat) : ∀ g i lo set, tRi tx g i lo set ≠ 0 → 0 < g → lo + g ≤ 10
  | 0, _, _, _, _, h => absurd h (by omega)
  | g + 1, i, lo, set, h, _ => by
    rw [tRi] at h
    split at h
    · exact absurd rfl h
    · rename_i w hw
      have := tWo_lt hw
      split at h
      · by_cases g0 : g = 0
        · omega
        · have := tRi_len tx g (i + 1) (w + 1) _ h (by omega)
          omega
      · exact absurd rfl h
theorem tRi_lt (tx : List Nat) : ∀ g i lo set, set < 1024 → tRi tx g i lo set < 1024
  | 0, _, _, _, h => h
  | g + 1, i, lo, set, h => by
    rw [tRi]
    split
    · omega
    · rename_i w hw
      split
      · exact tRi_lt tx g _ _ _ (or_lt h (tWo_lt hw).1)
      · omega
theorem tRi_pos (tx : List Nat) : ∀ g i lo set, set ≠ 0 → (∀ k, tRi tx g i lo set = k → k = 0 ∨ k ≠ 0) := fun g i lo set _ k _ => by omega
def tIs (tx : List Nat) (f e : Nat) (w : List Nat) : Bool := decide (e - f = w.length ∧ ∀ k, k < w.length → tc tx (f + k) = w.getD k 0)
def tKd (tx : List Nat) (f e : Nat) : Option Nat := if tIs tx f e (tWl.getD 0 []) then some 0 else if tIs tx f e (tWl.getD 1 []) then some 1 else if tIs tx f e (tWl.getD 2 []) then some 2 else if tIs tx f e (tWl.getD 3 []) then some 3 else if tIs tx f e (tWl.getD 4 []) then some 4 else none
abbrev wAB (S : wS) (kd p : Nat) : wS := wmk (S.B + 1) S.M S.E S.C (wuf S.kd S.B kd) (wuf S.pe S.B p) (fun b k => if b = S.B then 0 else S.K b k) S.ha S.bi
abbrev wAM (S : wS) (w : Nat) : wS := wmk S.B (S.M + 1) S.E S.C S.kd S.pe S.K (wuf S.ha S.M w) (wuf S.bi S.M none)
abbrev wClr (S : wS) : wS := wmk 0 0 0 0 S.kd S.pe S.K S.ha S.bi
abbrev rdT : Type := Nat ⊕ (Nat × wS)
def rdN (tx : List Nat) (e bound : Nat) (k : Nat → Nat → rdT) : rdT := match tNum tx (tF tx e) (tE tx (tF tx e)) bound with
  | none => .inl (tF tx e)
  | some v => k v (tE tx (tF tx e))
def rdMan (tx : List Nat) (S : wS) (f e : Nat) : rdT := if 4 ≤ S.M then .inl f else if tWords tx (tF tx e) (tE tx (tF tx e)) = 0 then .inl (tF tx e) else .inr (tE tx (tF tx e), wAM S (tWords tx (tF tx e) (tE tx (tF tx e))))
def rdBird (tx : List Nat) (S : wS) (f e kd : Nat) : rdT := if 8 ≤ S.B then .inl f else rdN tx e 4 (fun p e1 => .inr (e1, wAB S kd p))
def rdKn3 (tx : List Nat) (S : wS) (b w e : Nat) : rdT := rdN tx e 10 (fun v e3 => .inr (e3, wK S (wup S.K b w v)))
def rdKn2 (tx : List Nat) (S : wS) (b e : Nat) : rdT := match tOne tx (tF tx e) (tE tx (tF tx e)) with
  | none => .inl (tF tx e)
  | some w => rdKn3 tx S b w (tE tx (tF tx e))
def rdKn (tx : List Nat) (S : wS) (e : Nat) : rdT := rdN tx e S.B (fun b e1 => rdKn2 tx S b e1)
def rdSi2 (tx : List Nat) (S : wS) (m e : Nat) : rdT := rdN tx e S.B (fun b e2 => if wBy S b = none ∨ wBy S b = some m then .inr (e2, wSeat S m (some b)) else .inl (tF tx e))
def rdSi (tx : List Nat) (S : wS) (e : Nat) : rdT := rdN tx e S.M (fun m e1 => rdSi2 tx S m e1)
def rdCo (tx : List Nat) (S : wS) (e : Nat) : rdT := rdN tx e S.B (fun b e1 => .inr (e1, wCo S (S.C ||| 2 ^ b)))
def rd1 (tx : List Nat) (S : wS) (f e : Nat) : rdT := match tKd tx f e with
  | some kd => rdBird tx S f e kd
  | none => if tIs tx f e (tWl.getD 5 []) then .inr (e, wClr S) else if tIs tx f e (tWl.getD 6 []) then rdMan tx S f e else if tIs tx f e (tWl.getD 7 []) then rdKn tx S e else if tIs tx f e (tWl.getD 8 []) then rdSi tx S e else if tIs tx f e (tWl.getD 9 []) then rdCo tx S e else .inl f
def rdA (tx : List Nat) : Nat → Nat → wS → Nat → rdT
  | 0, _, _, i => .inl i
  | g + 1, c, S, i => match rd1 tx S (tF tx i) (tE tx (tF tx i)) with
    | .inl p => .inl p
    | .inr (e1, S1) => if tx.length ≤ tF tx e1 then .inr (c, S1) else if tc tx (tF tx e1) ≠ 59 then .inl (tF tx e1) else if g = 0 then .inl (tF tx e1) else rdA tx g (c + 1) S1 (tE tx (tF tx e1))
/-- worlds that come of it can be -/
theorem wok_AB {S : wS} {kd p : Nat} (ho : wok S) (hB : S.B < 8) (hk : kd < 5) (hp : p < 4) : wok (wAB S kd p) := by
  obtain ⟨o1, o2, o3, o4, o5, o6, o7, o8, o9, o10⟩ := ho
  refine ⟨hB, o2, o3, o4, fun c hc => ?_, fun c hc => ?_, fun c k hc hk2 => ?_, o8, fun m b hm hb => Nat.lt_succ_of_lt (o9 m b hm hb), o10⟩
  · have hc : c < S.B + 1 := hc
    show wuf S.kd S.B kd c < 5
    by_cases e : c = S.B
    · subst e; rw [wuf_at]; exact hk
    · rw [wuf_ne _ _ e]; exact o5 c (by omega)
  · have hc : c < S.B + 1 := hc
    show wuf S.pe S.B p c < 4
    by_cases e : c = S.B
    · subst e; rw [wuf_at]; exact hp
    · rw [wuf_ne _ _ e]; exact o6 c (by omega)
  · have hc : c < S.B + 1 := hc
    show (if c = S.B then 0 else S.K c k) ≤ 9
    split
    · omega
    · exact o7 c k (by omega) hk2
theorem wok_AM {S : wS} {w : Nat} (ho : wok S) (hM : S.M < 4) (hw : w < 1024) : wok (wAM S w) := by
  obtain ⟨o1, o2, o3, o4, o5, o6, o7, o8, o9, o10⟩ := ho
  refine ⟨o1, hM, o3, o4, o5, o6, o7, fun m hm => ?_, fun m b hm hb => ?_, fun m m' b hm hm' hb hb' => ?_⟩
  · have hm : m < S.M + 1 := hm
    show wuf S.ha S.M w m < 1024
    by_cases e : m = S.M
    · subst e; rw [wuf_at]; exact hw
    · rw [wuf_ne _ _ e]; exact o8 m (by omega)
  · have hm : m < S.M + 1 := hm
    have hb : wuf S.bi S.M none m = some b := hb
    by_cases e : m = S.M
    · subst e; rw [wuf_at] at hb; cases hb
    · rw [wuf_ne _ _ e] at hb; exact o9 m b (by omega) hb
  · have hm : m < S.M + 1 := hm
    have hm' : m' < S.M + 1 := hm'
    have hb : wuf S.bi S.M none m = some b := hb
    have hb' : wuf S.bi S.M none m' = some b := hb'
    by_cases e : m = S.M
    · subst e; rw [wuf_at] at hb; cases hb
    · by_cases e' : m' = S.M
      · subst e'; rw [wuf_at] at hb'; cases hb'
      · rw [wuf_ne _ _ e] at hb
        rw [wuf_ne _ _ e'] at hb'
        exact o10 m m' b (by omega) (by omega) hb hb'
theorem wok_Clr {S : wS} : wok (wClr S) := ⟨by show 0 ≤ 8; omega, by show 0 ≤ 4; omega, by show 0 < 1000000; omega, by show 0 < 256; omega, fun _ h => absurd h (Nat.not_lt_zero _), fun _ h => absurd h (Nat.not_lt_zero _), fun _ _ h => absurd h (Nat.not_lt_zero _), fun _ h => absurd h (Nat.not_lt_zero _), fun _ _ h => absurd h (Nat.not_lt_zero _), fun _ _ _ h => absurd h (Nat.not_lt_zero _)⟩
theorem tNum_lt {tx : List Nat} {f e bound v : Nat} (h : tNum tx f e bound = some v) : v < bound ∧ e = f + 1 ∧ tSort (tc tx f) = 1 ∧ v = tc tx f - 48 := by
  rw [tNum] at h
  split at h
  · cases h; rename_i q; exact ⟨q.2.2, q.1, q.2.1, rfl⟩
  · cases h
/-- what a clause leaves behind -/
def rdOk (L : Nat) (r : rdT) : Prop := match r with
  | .inl p => p ≤ L
  | .inr (e, S) => e ≤ L ∧ wok S ∧ S.E = 0
theorem rdN_ok {tx : List Nat} {e bound : Nat} {k : Nat → Nat → rdT} (he : e ≤ tx.length) (hk : ∀ v e1, v < bound → e1 ≤ tx.length → rdOk tx.length (k v e1)) : rdOk tx.length (rdN tx e bound k) := by
  have h1 := tF_le he
  have h2 := tE_le h1.2
  rw [rdN]
  split
  · exact h1.2
  · rename_i v hv
    exact hk v _ (tNum_lt hv).1 h2.2.1
theorem rd1_ok {tx : List Nat} {S : wS} {f e : Nat} (ho : wok S) (hE : S.E = 0) (hf : f ≤ tx.length) (he : e ≤ tx.length) : rdOk tx.length (rd1 tx S f e) := by
  have h1 := tF_le he
  have h2 := tE_le h1.2
  rw [rd1]
  split
  · rename_i kd hkd
    have hk5 : kd < 5 := by
      rw [tKd] at hkd
      split at hkd
      · cases hkd; omega
      · split at hkd
        · cases hkd; omega
        · split at hkd
          · cases hkd; omega
          · split at hkd
            · cases hkd; omega
            · split at hkd
              · cases hkd; omega
              · cases hkd
    rw [rdBird]
    split
    · exact hf
    · exact rdN_ok he (fun v e1 hv he1 => ⟨he1, wok_AB ho (by omega) hk5 hv, hE⟩)
  · split
    · exact ⟨he, wok_Clr, rfl⟩
    · split
      · rw [rdMan]
        split
        · exact hf
        · split
          · exact h1.2
          · exact ⟨h2.2.1, wok_AM ho (by omega) (tRi_lt tx _ _ _ _ (by omega)), hE⟩
      · split
        · rw [rdKn]
          refine rdN_ok he (fun b e1 hb he1 => ?_)
          have h3 := tF_le he1
          have h4 := tE_le h3.2
          rw [rdKn2]
          split
          · exact h3.2
          · rename_i w hw
            refine rdN_ok h4.2.1 (fun v e3 hv he3 => ⟨he3, wok_K ho (fun c k hc hk => ?_), hE⟩)
            rw [wup]
            split
            · omega
            · exact wok_kok ho c k hc hk
        · split
          · rw [rdSi]
            refine rdN_ok he (fun m e1 hm he1 => ?_)
            refine rdN_ok he1 (fun b e2 hb he2 => ?_)
            split
            · exact ⟨he2, wok_seat ho (fun c hc => by cases hc; exact hb), hE⟩
            · exact (tF_le he1).2
          · split
            · have h8 := ho.1
              exact rdN_ok he (fun b e1 hb he1 => ⟨he1, wok_co ho (Nat.or_lt_two_pow (n := 8) ho.2.2.2.1 (Nat.pow_lt_pow_right (by decide) (by omega))), hE⟩)
            · exact hf
theorem rdA_ok {tx : List Nat} : ∀ g c S i, wok S → S.E = 0 → i ≤ tx.length → match rdA tx g c S i with
    | .inl p => p ≤ tx.length
    | .inr (d, S1) => c ≤ d ∧ d < c + g ∧ wok S1 ∧ S1.E = 0
  | 0, _, _, _, _, _, hi => hi
  | g + 1, c, S, i, ho, hE, hi => by
    have h1 := tF_le hi
    have h2 := tE_le h1.2
    have h3 := rd1_ok ho hE h1.2 h2.2.1
    rw [rdA]
    rcases hr : rd1 tx S (tF tx i) (tE tx (tF tx i)) with p | ⟨e1, S1⟩
    · rw [hr] at h3; exact h3
    · rw [hr] at h3
      obtain ⟨q1, q2, q3⟩ := h3
      have h4 := tF_le q1
      have h5 := tE_le h4.2
      dsimp only
      by_cases w1 : tx.length ≤ tF tx e1
      · rw [if_pos w1]; exact ⟨by omega, by omega, q2, q3⟩
      · rw [if_neg w1]
        by_cases w2 : tc tx (tF tx e1) ≠ 59
        · rw [if_pos w2]; exact h4.2
        · rw [if_neg w2]
          by_cases w3 : g = 0
          · rw [if_pos w3]; exact h4.2
          · rw [if_neg w3]
            have := rdA_ok (tx := tx) g (c + 1) S1 (tE tx (tF tx e1)) q2 q3 h5.2.1
            rcases hr2 : rdA tx g (c + 1) S1 (tE tx (tF tx e1)) with p | ⟨d, S2⟩
            · rw [hr2] at this; exact this
            · rw [hr2] at this
              exact ⟨by omega, by omega, this.2.2⟩
