/-! ===== numbers that are as told; the state of all ===== -/
def gI (x : Int32) (lo hi : Int) : Option Nat := if lo ≤ x.toInt ∧ x.toInt ≤ hi then some x.toInt.toNat else none
theorem gI_some {x : Int32} {lo hi : Int} {k : Nat} (h0 : 0 ≤ lo) (h : gI x lo hi = some k) : x = nI k ∧ lo ≤ (k : Int) ∧ (k : Int) ≤ hi ∧ k < 2 ^ 31 := by
  rw [gI] at h
  split at h
  · rename_i hq
    cases h
    have h1 := Int32.toInt_lt x
    refine ⟨?_, by omega, by omega, by omega⟩
    apply Int32.toInt_inj.mp
    rw [nI_toInt (by omega)]
    omega
  · cases h
theorem gI_none {x : Int32} {lo hi : Int} (h : gI x lo hi = none) : x.toInt < lo ∨ hi < x.toInt := by
  rw [gI] at h
  split at h
  · cases h
  · omega
theorem gI_nI {k : Nat} {lo hi : Int} (hk : k < 2 ^ 31) (h1 : lo ≤ (k : Int)) (h2 : (k : Int) ≤ hi) : gI (nI k) lo hi = some k := by
  rw [gI, nI_toInt hk, if_pos ⟨h1, h2⟩]
  rfl
section GI
variable {Γ : xG} {n : Nat} {D : xM} {post : Option Int32 → xM → Prop}
theorem c_isNot {x l u : Int32} {lo hi : Int} (hl : l.toInt = lo) (hu : u.toInt = hi) (hp : post (some (if (gI x lo hi).isSome then 0 else 1)) D) : xRuns Γ n hX8_isNot [xI x, xI l, xI u] D post := by
  subst hl; subst hu
  refine x_runs kX8_isNot (by decide +kernel) rfl ?_
  refine xi_lt rfl rfl (fun h => ?_) (fun h => ?_)
  · have h := Int32.lt_iff_toInt_lt.mp h
    have e : gI x l.toInt u.toInt = none := by rw [gI, if_neg (by omega)]
    rw [e] at hp
    exact x_goto rfl rfl (x_ret rfl rfl rfl rfl hp)
  · have h : ¬ x.toInt < l.toInt := fun z => h (Int32.lt_iff_toInt_lt.mpr z)
    refine xi_le rfl rfl (fun h2 => ?_) (fun h2 => ?_)
    · have h2 := Int32.le_iff_toInt_le.mp h2
      have e : gI x l.toInt u.toInt = some x.toInt.toNat := by rw [gI, if_pos (by omega)]
      rw [e] at hp
      exact x_ret rfl rfl rfl rfl hp
    · have h2 : ¬ x.toInt ≤ u.toInt := fun z => h2 (Int32.le_iff_toInt_le.mpr z)
      have e : gI x l.toInt u.toInt = none := by rw [gI, if_neg (by omega)]
      rw [e] at hp
      exact x_goto rfl rfl (x_ret rfl rfl rfl rfl hp)
theorem c_inI {x : Int32} {l u : Int64} {lo hi : Int} (hl : l.toInt = lo) (hu : u.toInt = hi) (hp : post (some (if (gI x lo hi).isSome then 1 else 0)) D) : xRuns Γ n hX9_in [xL x.toInt64, xL l, xL u] D post := by
  refine c_in ?_
  have e : (l ≤ x.toInt64 ∧ x.toInt64 ≤ u) ↔ (lo ≤ x.toInt ∧ x.toInt ≤ hi) := by
    rw [Int64.le_iff_toInt_le, Int64.le_iff_toInt_le, Int32.toInt_toInt64, hl, hu]
  by_cases h : lo ≤ x.toInt ∧ x.toInt ≤ hi
  · rw [if_pos (e.mpr h)]
    rw [gI, if_pos h] at hp
    exact hp
  · rw [if_neg (fun z => h (e.mp z))]
    rw [gI, if_neg h] at hp
    exact hp
theorem c_noBird {x : Int32} {S : wS} (hr : rW D 21 S) (ho : wok S) (hp : post (some (if (gI x 0 ((S.B : Int) - 1)).isSome then 0 else 1)) D) : xRuns Γ (n + 1) hX8_noBird [xR 0 8 0, xI x] D post := by
  have h8 := ho.1
  refine x_runs kX8_noBird (by decide +kernel) rfl ?_
  refine x_scall [xI x, xI (nI 0), xI (D 21 0 - xnum 1)] rfl rfl rfl rfl rfl rfl rfl (c_isNot (lo := 0) (hi := (S.B : Int) - 1) (by decide) (by rw [hr.1]; exact pk_sub_toInt (b := 1) (by omega) (by decide)) ?_)
  refine x_ret rfl rfl rfl (by split <;> rfl) hp
theorem c_noMan {x : Int32} {S : wS} (hr : rW D 21 S) (ho : wok S) (hp : post (some (if (gI x 0 ((S.M : Int) - 1)).isSome then 0 else 1)) D) : xRuns Γ (n + 1) hX8_noMan [xR 0 8 0, xI x] D post := by
  have h4 := ho.2.1
  refine x_runs kX8_noMan (by decide +kernel) rfl ?_
  refine x_scall [xI x, xI (nI 0), xI (D 21 1 - xnum 1)] rfl rfl rfl rfl rfl rfl rfl (c_isNot (lo := 0) (hi := (S.M : Int) - 1) (by decide) (by rw [hr.2.1]; exact pk_sub_toInt (b := 1) (by omega) (by decide)) ?_)
  refine x_ret rfl rfl rfl (by split <;> rfl) hp
theorem c_noWord {x : Int32} (hp : post (some (if (gI x 0 9).isSome then 0 else 1)) D) : xRuns Γ (n + 1) hX8_noWord [xI x] D post := by
  refine x_runs kX8_noWord (by decide +kernel) rfl ?_
  refine x_scall [xI x, xI (nI 0), xI (nI 9)] rfl rfl rfl rfl rfl rfl rfl (c_isNot (lo := 0) (hi := 9) (by decide) (by decide) ?_)
  refine x_ret rfl rfl rfl (by split <;> rfl) hp
theorem c_noPerch {x : Int32} (hp : post (some (if (gI x 0 3).isSome then 0 else 1)) D) : xRuns Γ (n + 1) hX8_noPerch [xI x] D post := by
  refine x_runs kX8_noPerch (by decide +kernel) rfl ?_
  refine x_scall [xI x, xI (nI 0), xI (nI 3)] rfl rfl rfl rfl rfl rfl rfl (c_isNot (lo := 0) (hi := 3) (by decide) (by decide) ?_)
  refine x_ret rfl rfl rfl (by split <;> rfl) hp
theorem c_noReel {x : Int32} (hp : post (some (if (gI x 0 2).isSome then 0 else 1)) D) : xRuns Γ (n + 1) hX8_noReel [xI x] D post := by
  refine x_runs kX8_noReel (by decide +kernel) rfl ?_
  refine x_scall [xI x, xI (nI 0), xI (nI 2)] rfl rfl rfl rfl rfl rfl rfl (c_isNot (lo := 0) (hi := 2) (by decide) (by decide) ?_)
  refine x_ret rfl rfl rfl (by split <;> rfl) hp
theorem c_noSort {x : Int32} (hp : post (some (if (gI x 0 3).isSome then 0 else 1)) D) : xRuns Γ (n + 1) hX8_noSort [xI x] D post := by
  refine x_runs kX8_noSort (by decide +kernel) rfl ?_
  refine x_scall [xI x, xI (nI 0), xI (nI 3)] rfl rfl rfl rfl rfl rfl rfl (c_isNot (lo := 0) (hi := 3) (by decide) (by decide) ?_)
  refine x_ret rfl rfl rfl (by split <;> rfl) hp
theorem c_isBird {x : Int32} {S : wS} (hr : rM D 0 S) (ho : wok S) (hp : post (some (if (gI x 0 ((S.B : Int) - 1)).isSome then 1 else 0)) D) : xRuns Γ (n + 1) hX9_isBird [xR 0 9 111, xI x] D post := by
  have h8 := ho.1
  refine x_runs kX9_isBird (by decide +kernel) rfl ?_
  refine x_aldN 0 rfl rfl rfl (by omega) rfl ?_
  refine x_scall [xL x.toInt64, xL (Int64.ofNat 0), xL (D 112 0 - xnum 1).toInt64] rfl rfl rfl rfl rfl rfl rfl (c_inI (lo := 0) (hi := (S.B : Int) - 1) (by decide) (by rw [Int32.toInt_toInt64, hr.1]; exact pk_sub_toInt (b := 1) (by omega) (by decide)) ?_)
  refine x_ret rfl rfl rfl (by split <;> rfl) hp
theorem c_isMan {x : Int32} {S : wS} (hr : rM D 0 S) (ho : wok S) (hp : post (some (if (gI x 0 ((S.M : Int) - 1)).isSome then 1 else 0)) D) : xRuns Γ (n + 1) hX9_isMan [xR 0 9 111, xI x] D post := by
  have h4 := ho.2.1
  refine x_runs kX9_isMan (by decide +kernel) rfl ?_
  refine x_aldN 1 rfl rfl rfl (by omega) rfl ?_
  refine x_scall [xL x.toInt64, xL (Int64.ofNat 0), xL (D 112 1 - xnum 1).toInt64] rfl rfl rfl rfl rfl rfl rfl (c_inI (lo := 0) (hi := (S.M : Int) - 1) (by decide) (by rw [Int32.toInt_toInt64, hr.2.1]; exact pk_sub_toInt (b := 1) (by omega) (by decide)) ?_)
  refine x_ret rfl rfl rfl (by split <;> rfl) hp
theorem c_isWordN {x : Int32} (hp : post (some (if (gI x 0 9).isSome then 1 else 0)) D) : xRuns Γ (n + 1) hX9_isWordNumber [xI x] D post := by
  refine x_runs kX9_isWordNumber (by decide +kernel) rfl ?_
  refine x_scall [xL x.toInt64, xL (Int64.ofNat 0), xL (Int64.ofNat 9)] rfl rfl rfl rfl rfl rfl rfl (c_inI (lo := 0) (hi := 9) (by decide) (by decide) ?_)
  refine x_ret rfl rfl rfl (by split <;> rfl) hp
theorem c_isReel {x : Int32} (hp : post (some (if (gI x 0 2).isSome then 1 else 0)) D) : xRuns Γ (n + 1) hX9_isReel [xI x] D post := by
  refine x_runs kX9_isReel (by decide +kernel) rfl ?_
  refine x_scall [xL x.toInt64, xL (Int64.ofNat 0), xL (Int64.ofNat 2)] rfl rfl rfl rfl rfl rfl rfl (c_inI (lo := 0) (hi := 2) (by decide) (by decide) ?_)
  refine x_ret rfl rfl rfl (by split <;> rfl) hp
end GI
/-- the state of all: text; tongue; told, now; pasts (the latest first); kept; seen; reels -/
abbrev gS : Type := List Nat × List Nat × (wS × wS) × List wS × (Nat → Option wS) × List (Nat × Nat × Option Nat) × (Nat → Option (Nat × Nat × (Nat → Int32)))
abbrev gS.tx (G : gS) : List Nat := G.1
abbrev gS.tg (G : gS) : List Nat := G.2.1
abbrev gS.told (G : gS) : wS := G.2.2.1.1
abbrev gS.now (G : gS) : wS := G.2.2.1.2
abbrev gS.past (G : gS) : List wS := G.2.2.2.1
abbrev gS.kept (G : gS) : Nat → Option wS := G.2.2.2.2.1
abbrev gS.seen (G : gS) : List (Nat × Nat × Option Nat) := G.2.2.2.2.2.1
abbrev gS.reel (G : gS) : Nat → Option (Nat × Nat × (Nat → Int32)) := G.2.2.2.2.2.2
abbrev gmk (tx tg : List Nat) (told now : wS) (past : List wS) (kept : Nat → Option wS) (seen : List (Nat × Nat × Option Nat)) (reel : Nat → Option (Nat × Nat × (Nat → Int32))) : gS := (tx, tg, (told, now), past, kept, seen, reel)
/-- a row of letters in cells -/
def rL (D : xM) (a : Nat) (l : List Nat) : Prop := ∀ j, j < l.length → D a j = nI (l.getD j 0)
theorem rL_out {D D' : xM} {a : Nat} {l : List Nat} (h : rL D a l) (e : D' a = D a) : rL D' a l := fun j hj => by rw [e]; exact h j hj
theorem rL_add {D : xM} {a k : Nat} {l : List Nat} (h : rL D a l) : rL (xup D a l.length (nI k)) a (l ++ [k]) := by
  intro j hj
  rw [List.length_append] at hj
  by_cases e : j = l.length
  · subst e
    rw [xup_at, List.getD_eq_getElem?_getD, List.getElem?_append_right (Nat.le_refl _)]
    simp
  · rw [xup_o (by omega), h j (by simp at hj; omega), List.getD_eq_getElem?_getD, List.getD_eq_getElem?_getD, List.getElem?_append_left (by simp at hj; omega)]
/-- the class's pieces -/
def cTx (D : xM) (tx : List Nat) : Prop := D 1 1 = nI tx.length ∧ rL D 2 tx
def cHi (D : xM) (past : List wS) (kept : Nat → Option wS) : Prop := ∃ nx sb : Nat, nx < 8 ∧ sb < 4 ∧ D 36 2 = nI nx ∧ D 36 3 = nI sb ∧ D 36 4 = nI past.length ∧ (∀ j, (h : j < past.length) → rW D (xelB 8 ((nx + 7 - j) % 8)) past[j]) ∧ ∀ k, k < 2 → sb.testBit k = (kept k).isSome ∧ ∀ S, kept k = some S → rW D (xelB 2 k) S
def cSe (D : xM) (seen : List (Nat × Nat × Option Nat)) : Prop := D 99 3 = nI seen.length ∧ ∀ j, (h : j < seen.length) → D 100 j = nI seen[j].1 ∧ D 101 j = nI seen[j].2.1 ∧ D 102 j = xby seen[j].2.2
def cRe (D : xM) (reel : Nat → Option (Nat × Nat × (Nat → Int32))) : Prop := ∀ r, r < 3 → match reel r with
  | none => D (104 + 2 * r) 1 = 0
  | some (s, l, f) => D (104 + 2 * r) 1 = 1 ∧ D (104 + 2 * r) 2 = nI s ∧ D (104 + 2 * r) 3 = nI l ∧ ∀ j, j < 12 → D (105 + 2 * r) j = f j
/-- the reference's -/
def mTx (D : xM) (tx : List Nat) : Prop := D 111 4 = nI tx.length ∧ rL D 114 tx
def mHi (D : xM) (past : List wS) (kept : Nat → Option wS) : Prop := D 111 1 = nI past.length ∧ (∀ j, (h : j < past.length) → rM D (216 + 108 * (past.length - 1 - j)) past[j]) ∧ ∀ k, k < 2 → D 113 k = (if (kept k).isSome then 1 else 0) ∧ ∀ S, kept k = some S → rM D (1080 + 108 * k) S
def mSe (D : xM) (seen : List (Nat × Nat × Option Nat)) : Prop := D 111 5 = nI seen.length ∧ ∀ j, (h : j < seen.length) → D 115 j = nI seen[j].1 ∧ D 116 j = nI seen[j].2.1 ∧ D 117 j = xby seen[j].2.2
def mRe (D : xM) (reel : Nat → Option (Nat × Nat × (Nat → Int32))) : Prop := ∀ r, r < 3 → match reel r with
  | none => D 121 r = -1
  | some (s, l, f) => D 121 r = nI l ∧ D 122 r = nI s ∧ ∀ j, j < 12 → D 123 (12 * r + j) = f j
def mSp (D : xM) : Prop := ∃ sp, rP D 138 139 sp ∧ ∀ z, z < 4 → (sp z).length ≤ 16
/-- a state that can be -/
def gok (G : gS) : Prop := (G.tx.length ≤ 200 ∧ ∀ c ∈ G.tx, c < 256) ∧ wok G.told ∧ (wok G.now ∧ G.now.E ≤ 999) ∧ (G.past.length ≤ 8 ∧ ∀ S ∈ G.past, wok S ∧ S.E ≤ 999) ∧ (∀ k S, k < 2 → G.kept k = some S → wok S ∧ S.E ≤ 999) ∧ (G.seen.length ≤ 6 ∧ ∀ q ∈ G.seen, q.1 < 4 ∧ q.2.1 < 10 ∧ ∀ v, q.2.2 = some v → v < 10) ∧ (∀ r s l f, r < 3 → G.reel r = some (s, l, f) → s < 4 ∧ l ≤ 12)
