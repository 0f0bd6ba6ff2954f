/-! ===== the world, as numbers ===== -/
abbrev wS : Type := (Nat × Nat × Nat × Nat) × (Nat → Nat) × (Nat → Nat) × (Nat → Nat → Nat) × (Nat → Nat) × (Nat → Option Nat)
abbrev wS.B (S : wS) : Nat := S.1.1
abbrev wS.M (S : wS) : Nat := S.1.2.1
abbrev wS.E (S : wS) : Nat := S.1.2.2.1
abbrev wS.C (S : wS) : Nat := S.1.2.2.2
abbrev wS.kd (S : wS) : Nat → Nat := S.2.1
abbrev wS.pe (S : wS) : Nat → Nat := S.2.2.1
abbrev wS.K (S : wS) : Nat → Nat → Nat := S.2.2.2.1
abbrev wS.ha (S : wS) : Nat → Nat := S.2.2.2.2.1
abbrev wS.bi (S : wS) : Nat → Option Nat := S.2.2.2.2.2
abbrev wmk (B M E C : Nat) (kd pe : Nat → Nat) (K : Nat → Nat → Nat) (ha : Nat → Nat) (bi : Nat → Option Nat) : wS := ((B, M, E, C), kd, pe, K, ha, bi)
def xby (o : Option Nat) : Int32 := match o with
  | none => -1
  | some b => nI b
/-- the class's world at the cells w .. w + 5 -/
def rW (D : xM) (w : Nat) (S : wS) : Prop :=
  D w 0 = nI S.B ∧ D w 1 = nI S.M ∧ D w 2 = nI S.E ∧ D w 3 = nI S.C ∧ (∀ b, b < S.B → D (w + 1) b = nI (S.kd b)) ∧ (∀ b, b < S.B → D (w + 2) b = nI (S.pe b)) ∧
  (∀ b k, b < S.B → k < 10 → D (w + 3) (b * 10 + k) = nI (S.K b k)) ∧ (∀ m, m < S.M → D (w + 4) m = nI (S.ha m)) ∧ (∀ m, m < S.M → D (w + 5) m = xby (S.bi m))
/-- the reference's world, from place o of its row on -/
def rM (D : xM) (o : Nat) (S : wS) : Prop :=
  D 112 o = nI S.B ∧ D 112 (o + 1) = nI S.M ∧ D 112 (o + 2) = nI S.E ∧ D 112 (o + 3) = nI S.C ∧ (∀ b, b < S.B → D 112 (o + 4 + b) = nI (S.kd b)) ∧ (∀ b, b < S.B → D 112 (o + 12 + b) = nI (S.pe b)) ∧
  (∀ b k, b < S.B → k < 10 → D 112 (o + 20 + (b * 10 + k)) = nI (S.K b k)) ∧ (∀ m, m < S.M → D 112 (o + 100 + m) = nI (S.ha m)) ∧ (∀ m, m < S.M → D 112 (o + 104 + m) = xby (S.bi m))
/-- a world that can be -/
def wok (S : wS) : Prop := S.B ≤ 8 ∧ S.M ≤ 4 ∧ S.E < 1000000 ∧ S.C < 256 ∧ (∀ b, b < S.B → S.kd b < 5) ∧ (∀ b, b < S.B → S.pe b < 4) ∧ (∀ b k, b < S.B → k < 10 → S.K b k ≤ 9) ∧ (∀ m, m < S.M → S.ha m < 1024) ∧ (∀ m b, m < S.M → S.bi m = some b → b < S.B) ∧ (∀ m m' b, m < S.M → m' < S.M → S.bi m = some b → S.bi m' = some b → m = m')
def wup (K : Nat → Nat → Nat) (b k v : Nat) : Nat → Nat → Nat := fun b' k' => if b' = b ∧ k' = k then v else K b' k'
def wHears (k : Nat) : Nat := [1, 1, 1, 0, 2].getD k 0
def wGets (k : Nat) : Nat := [3, 5, 3, 0, 0].getD k 0
def wSays (k : Nat) : Nat := [1, 1, 2, 0, 0].getD k 0
def wLoses (k : Nat) : Nat := [1, 0, 1, 0, 0].getD k 0
/-- a bird learns -/
def wLearn (S : wS) (b k v : Nat) : wS := wmk S.B S.M S.E S.C S.kd S.pe (wup S.K b k (min 9 (S.K b k + v))) S.ha S.bi
/-- what is outside a world's cells stays -/
def sameW (w : Nat) (D D' : xM) : Prop := ∀ a, (a < w ∨ w + 5 < a) → D' a = D a
def wuf {α : Type} (f : Nat → α) (i : Nat) (v : α) : Nat → α := fun j => if j = i then v else f j
theorem rW_K {D : xM} {w : Nat} {S : wS} {b k v : Nat} (h : rW D w S) (hk : k < 10) : rW (xup D (w + 3) (b * 10 + k) (nI v)) w (wmk S.B S.M S.E S.C S.kd S.pe (wup S.K b k v) S.ha S.bi) := by
  obtain ⟨h1, h2, h3, h4, h5, h6, h7, h8, h9⟩ := h
  refine ⟨by simpa [xup] using h1, by simpa [xup] using h2, by simpa [xup] using h3, by simpa [xup] using h4, fun c hc => by simpa [xup] using h5 c hc, fun c hc => by simpa [xup] using h6 c hc, fun c j hc hj => ?_, fun m hm => by simpa [xup] using h8 m hm, fun m hm => by simpa [xup] using h9 m hm⟩
  show xup D (w + 3) (b * 10 + k) (nI v) (w + 3) (c * 10 + j) = nI (wup S.K b k v c j)
  by_cases e : c = b ∧ j = k
  · simp [xup, wup, e]
  · have e2 : ¬ (c * 10 + j = b * 10 + k) := by omega
    simp only [xup, wup, e, e2, and_false, if_false]
    exact h7 c j hc hj
theorem rW_bi {D : xM} {w : Nat} {S : wS} {i : Nat} {o : Option Nat} (h : rW D w S) : rW (xup D (w + 5) i (xby o)) w (wmk S.B S.M S.E S.C S.kd S.pe S.K S.ha (wuf S.bi i o)) := by
  obtain ⟨h1, h2, h3, h4, h5, h6, h7, h8, h9⟩ := h
  refine ⟨by simpa [xup] using h1, by simpa [xup] using h2, by simpa [xup] using h3, by simpa [xup] using h4, fun c hc => by simpa [xup] using h5 c hc, fun c hc => by simpa [xup] using h6 c hc, fun c j hc hj => by simpa [xup] using h7 c j hc hj, fun m hm => by simpa [xup] using h8 m hm, fun m hm => ?_⟩
  show xup D (w + 5) i (xby o) (w + 5) m = xby (wuf S.bi i o m)
  by_cases e : m = i
  · simp [xup, wuf, e]
  · simp only [xup, wuf, e, and_false, if_false]
    exact h9 m hm
theorem rW_ha {D : xM} {w : Nat} {S : wS} {i v : Nat} (h : rW D w S) : rW (xup D (w + 4) i (nI v)) w (wmk S.B S.M S.E S.C S.kd S.pe S.K (wuf S.ha i v) S.bi) := by
  obtain ⟨h1, h2, h3, h4, h5, h6, h7, h8, h9⟩ := h
  refine ⟨by simpa [xup] using h1, by simpa [xup] using h2, by simpa [xup] using h3, by simpa [xup] using h4, fun c hc => by simpa [xup] using h5 c hc, fun c hc => by simpa [xup] using h6 c hc, fun c j hc hj => by simpa [xup] using h7 c j hc hj, fun m hm => ?_, fun m hm => by simpa [xup] using h9 m hm⟩
  show xup D (w + 4) i (nI v) (w + 4) m = nI (wuf S.ha i v m)
  by_cases e : m = i
  · simp [xup, wuf, e]
  · simp only [xup, wuf, e, and_false, if_false]
    exact h8 m hm
theorem rW_pe {D : xM} {w : Nat} {S : wS} {i v : Nat} (h : rW D w S) : rW (xup D (w + 2) i (nI v)) w (wmk S.B S.M S.E S.C S.kd (wuf S.pe i v) S.K S.ha S.bi) := by
  obtain ⟨h1, h2, h3, h4, h5, h6, h7, h8, h9⟩ := h
  refine ⟨by simpa [xup] using h1, by simpa [xup] using h2, by simpa [xup] using h3, by simpa [xup] using h4, fun c hc => by simpa [xup] using h5 c hc, fun c hc => ?_, fun c j hc hj => by simpa [xup] using h7 c j hc hj, fun m hm => by simpa [xup] using h8 m hm, fun m hm => by simpa [xup] using h9 m hm⟩
  show xup D (w + 2) i (nI v) (w + 2) c = nI (wuf S.pe i v c)
  by_cases e : c = i
  · simp [xup, wuf, e]
  · simp only [xup, wuf, e, and_false, if_false]
    exact h6 c hc
theorem rW_kd {D : xM} {w : Nat} {S : wS} {i v : Nat} (h : rW D w S) : rW (xup D (w + 1) i (nI v)) w (wmk S.B S.M S.E S.C (wuf S.kd i v) S.pe S.K S.ha S.bi) := by
  obtain ⟨h1, h2, h3, h4, h5, h6, h7, h8, h9⟩ := h
  refine ⟨by simpa [xup] using h1, by simpa [xup] using h2, by simpa [xup] using h3, by simpa [xup] using h4, fun c hc => ?_, fun c hc => by simpa [xup] using h6 c hc, fun c j hc hj => by simpa [xup] using h7 c j hc hj, fun m hm => by simpa [xup] using h8 m hm, fun m hm => by simpa [xup] using h9 m hm⟩
  show xup D (w + 1) i (nI v) (w + 1) c = nI (wuf S.kd i v c)
  by_cases e : c = i
  · simp [xup, wuf, e]
  · simp only [xup, wuf, e, and_false, if_false]
    exact h5 c hc
theorem rW_E {D : xM} {w : Nat} {S : wS} {v : Nat} (h : rW D w S) : rW (xup D w 2 (nI v)) w (wmk S.B S.M v S.C S.kd S.pe S.K S.ha S.bi) := by
  obtain ⟨h1, h2, h3, h4, h5, h6, h7, h8, h9⟩ := h
  exact ⟨by simpa [xup] using h1, by simpa [xup] using h2, by simp [xup], by simpa [xup] using h4, fun c hc => by simpa [xup] using h5 c hc, fun c hc => by simpa [xup] using h6 c hc, fun c j hc hj => by simpa [xup] using h7 c j hc hj, fun m hm => by simpa [xup] using h8 m hm, fun m hm => by simpa [xup] using h9 m hm⟩
theorem rW_C {D : xM} {w : Nat} {S : wS} {v : Nat} (h : rW D w S) : rW (xup D w 3 (nI v)) w (wmk S.B S.M S.E v S.kd S.pe S.K S.ha S.bi) := by
  obtain ⟨h1, h2, h3, h4, h5, h6, h7, h8, h9⟩ := h
  exact ⟨by simpa [xup] using h1, by simpa [xup] using h2, by simpa [xup] using h3, by simp [xup], fun c hc => by simpa [xup] using h5 c hc, fun c hc => by simpa [xup] using h6 c hc, fun c j hc hj => by simpa [xup] using h7 c j hc hj, fun m hm => by simpa [xup] using h8 m hm, fun m hm => by simpa [xup] using h9 m hm⟩
theorem sameW.rf {w : Nat} {D : xM} : sameW w D D := fun _ _ => rfl
theorem sameW.tr {w : Nat} {D D1 D2 : xM} (h : sameW w D D1) (h2 : sameW w D1 D2) : sameW w D D2 := fun a ha => (h2 a ha).trans (h a ha)
theorem sameW.up {w i j : Nat} {v : Int32} {D D1 : xM} (h : sameW w D D1) (hi : w ≤ i ∧ i ≤ w + 5) : sameW w D (xup D1 i j v) := fun a ha => (xup_ne a (by omega)).trans (h a ha)
theorem rW_out {D D' : xM} {w : Nat} {S : wS} (h : rW D w S) (hs : ∀ a, w ≤ a → a ≤ w + 5 → D' a = D a) : rW D' w S := by
  have e0 := hs w (by omega) (by omega)
  have e1 := hs (w + 1) (by omega) (by omega)
  have e2 := hs (w + 2) (by omega) (by omega)
  have e3 := hs (w + 3) (by omega) (by omega)
  have e4 := hs (w + 4) (by omega) (by omega)
  have e5 := hs (w + 5) (by omega) (by omega)
  rw [rW, e0, e1, e2, e3, e4, e5]
  exact h
