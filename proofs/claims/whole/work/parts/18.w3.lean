/-! ===== World: awakeOn, isSilenced, bestKnown, hearable ===== -/
/-- a local is forgotten -/
theorem x_drop {Γ : xG} {n : Nat} {h : xHd} {rows : List xRow} {post : Option Int32 → xM → Prop} (i : Nat) {pc : Nat} {lv : List (Option xV)} {st : List xV} {D : xM} (kk : xW Γ n h rows pc (lv.set i none) st D post) : xW Γ n h rows pc lv st D post := by
  intro p e R s m args below meth c H locs cells slots Q ls C hH hS hl hst hret
  refine kk p e R s m args below meth c H locs cells slots Q ls C hH hS ⟨hl.1, hl.2.1, fun j v hj => ?_, by rw [List.length_set]; exact hl.2.2.2⟩ hst hret
  by_cases e1 : j = i
  · subst e1
    by_cases hlt : j < lv.length
    · rw [List.getElem?_set_self hlt] at hj; cases hj
    · rw [List.getElem?_eq_none (by simp; omega)] at hj; cases hj
  · rw [List.getElem?_set_ne (Ne.symm e1)] at hj
    exact hl.2.2.1 j v hj
theorem xb_m1 (i : Nat) : (-1 : Int32).toBitVec.getLsbD i = decide (i < 32) := by
  have e : (-1 : Int32).toBitVec = BitVec.allOnes 32 := by decide
  rw [e, BitVec.getLsbD_allOnes]
theorem xb_andn {a c r : Nat} (ha : a < 2 ^ 31) (h : ∀ i, r.testBit i = (a.testBit i && !c.testBit i)) : nI a &&& (nI c ^^^ -1) = nI r := by
  apply Int32.toBitVec_inj.1
  apply BitVec.eq_of_getLsbD_eq
  intro i hi
  show ((BitVec.ofNat 32 a) &&& ((BitVec.ofNat 32 c) ^^^ (-1 : Int32).toBitVec)).getLsbD i = (BitVec.ofNat 32 r).getLsbD i
  rw [BitVec.getLsbD_and, BitVec.getLsbD_xor, xb_m1, BitVec.getLsbD_ofNat, BitVec.getLsbD_ofNat, BitVec.getLsbD_ofNat, h]
  simp [hi]
/-- who stands there, uncovered, by bits -/
def wAw (S : wS) (p : Nat) : Nat := wbits (fun b => decide (S.pe b = p) && !S.C.testBit b) S.B
theorem wAw_lt {S : wS} (ho : wok S) (p : Nat) : wAw S p < 256 := by
  have h1 := wbits_lt (fun b => decide (S.pe b = p) && !S.C.testBit b) S.B
  have h2 : (2 : Nat) ^ S.B ≤ 2 ^ 8 := Nat.pow_le_pow_right (by decide) ho.1
  show wbits _ _ < _
  omega
theorem p2_lt {i : Nat} (h : i ≤ 8) : (2 : Nat) ^ i ≤ 256 := Nat.pow_le_pow_right (by decide) h
section W3
variable {Γ : xG} {n : Nat} {D : xM} {post : Option Int32 → xM → Prop} {w : Nat} {S : wS}
theorem l_awakeOn {p : Nat} (hr : rW D w S) (ho : wok S) (hp4 : p < 4) (hp : post (some (nI (wAw S p))) D) : ∀ f i, i + f = S.B → xW Γ n hX7_awakeOn rX7_awakeOn 4 [some (xR 0 7 w), some (xI (nI p)), some (xI (nI (wbits (fun b => decide (S.pe b = p)) i))), some (xI (nI i))] [] D post := by
  have h8 := ho.1
  intro f
  induction f with
  | zero =>
    intro i hi
    obtain rfl : i = S.B := by omega
    have hl := wbits_lt (fun b => decide (S.pe b = p)) S.B
    have h2 := p2_lt h8
    refine xi_geN S.B S.B rfl rfl rfl hr.1 (by omega) (by omega) (fun _ => ?_) (fun h => absurd h (by omega))
    have e : nI (wbits (fun b => decide (S.pe b = p)) S.B) &&& (nI S.C ^^^ -1) = nI (wAw S p) := xb_andn (by omega) (fun i => by
      rw [wAw, wbits_tb, wbits_tb, Bool.and_assoc])
    have e2 : nI (wbits (fun b => decide (S.pe b = p)) S.B) &&& (D w 3 ^^^ xnum (-1)) = nI (wAw S p) := by rw [hr.2.2.2.1]; exact e
    refine x_ret rfl rfl rfl rfl ?_
    rw [e2]
    exact hp
  | succ f ih =>
    intro i hi
    have IH := ih (i + 1) (by omega)
    rw [wbits, ← nI_1] at IH
    have h4 := ho.2.2.2.2.2.1 i (by omega)
    refine xi_geN i S.B rfl rfl rfl hr.1 (by omega) (by omega) (fun h => absurd h (by omega)) (fun h => ?_)
    refine x_aldN i rfl rfl rfl (by omega) rfl ?_
    rw [hr.2.2.2.2.2.1 i (by omega)]
    refine xi_neN (S.pe i) p rfl rfl rfl rfl (by omega) (by omega) (fun h2 => ?_) (fun h2 => ?_)
    · rw [if_neg (by simpa using h2), Nat.add_zero] at IH
      exact x_goto rfl rfl IH
    · rw [if_pos (by simpa using h2), ← xb_orp (wbits_lt _ _), ← xb_sh1 (by omega)] at IH
      exact x_goto rfl rfl IH
theorem c_awakeOn {p : Nat} (hr : rW D w S) (ho : wok S) (hp4 : p < 4) (hp : post (some (nI (wAw S p))) D) : xRuns Γ n hX7_awakeOn [xR 0 7 w, xI (nI p)] D post := by
  refine x_runs kX7_awakeOn (by decide +kernel) rfl ?_
  refine x_to 4 rfl ?_
  exact l_awakeOn hr ho hp4 hp S.B 0 (by omega)
/-- a bird there silences -/
def wSil (S : wS) (aw : Nat) : Bool := (List.range S.B).any (fun b => aw.testBit b && decide (S.kd b = 3))
theorem l_isSilenced {aw : Nat} (hr : rW D w S) (ho : wok S) (ha : aw < 256) (hp : post (some (if wSil S aw then 1 else 0)) D) : ∀ f i, i + f = S.B → (∀ b, b < i → (aw.testBit b && decide (S.kd b = 3)) = false) → xW Γ n hX7_isSilenced rX7_isSilenced 2 [some (xR 0 7 w), some (xI (nI aw)), some (xI (nI i))] [] D post := by
  have h8 := ho.1
  intro f
  induction f with
  | zero =>
    intro i hi hno
    obtain rfl : i = S.B := by omega
    refine xi_geN S.B S.B rfl rfl rfl hr.1 (by omega) (by omega) (fun _ => ?_) (fun h => absurd h (by omega))
    have e : wSil S aw = false := by
      rw [wSil, List.any_eq_false]
      intro b hb
      have := hno b (List.mem_range.mp hb)
      simpa using this
    rw [e] at hp
    exact x_ret rfl rfl rfl rfl hp
  | succ f ih =>
    intro i hi hno
    have h5 := ho.2.2.2.2.1 i (by omega)
    have next : (aw.testBit i && decide (S.kd i = 3)) = false → xW Γ n hX7_isSilenced rX7_isSilenced 31 [some (xR 0 7 w), some (xI (nI aw)), some (xI (nI i))] [] D post := by
      intro h
      have IH := ih (i + 1) (by omega) (fun b hb => by
        by_cases e : b = i
        · rw [e]; exact h
        · exact hno b (by omega))
      rw [← nI_1] at IH
      exact x_goto rfl rfl IH
    refine xi_geN i S.B rfl rfl rfl hr.1 (by omega) (by omega) (fun h => absurd h (by omega)) (fun h => ?_)
    refine xi_neN (aw / 2 ^ i % 2) 1 rfl rfl (xb_bit (by omega) (by omega)) rfl (by omega) (by omega) (fun h2 => ?_) (fun h2 => ?_)
    · refine next ?_
      cases hq : aw.testBit i with
      | false => rfl
      | true => exact absurd ((xb_tb _ _).mpr hq) h2
    · refine x_aldN i rfl rfl rfl (by omega) rfl ?_
      rw [hr.2.2.2.2.1 i (by omega)]
      refine xi_neN (S.kd i) 3 rfl rfl rfl rfl (by omega) (by omega) (fun h3 => ?_) (fun h3 => ?_)
      · exact next (by simp [h3])
      · have e : wSil S aw = true := by
          rw [wSil, List.any_eq_true]
          exact ⟨i, List.mem_range.mpr (by omega), by simp [(xb_tb _ _).mp h2, h3]⟩
        rw [e] at hp
        exact x_ret rfl rfl rfl rfl hp
theorem c_isSilenced {aw : Nat} (hr : rW D w S) (ho : wok S) (ha : aw < 256) (hp : post (some (if wSil S aw then 1 else 0)) D) : xRuns Γ n hX7_isSilenced [xR 0 7 w, xI (nI aw)] D post := by
  refine x_runs kX7_isSilenced (by decide +kernel) rfl ?_
  refine x_to 2 rfl ?_
  exact l_isSilenced hr ho ha hp S.B 0 (by omega) (fun b hb => absurd hb (by omega))
/-- the word best known, of as well known ones the least, without some -/
def wBst (f : Nat → Nat) (wo : Nat) : Nat → Option Nat × Nat
  | 0 => (none, 0)
  | k + 1 => if (wBst f wo k).2 < f k ∧ wo.testBit k = false then (some k, f k) else wBst f wo k
theorem wBst_le {f : Nat → Nat} {wo c : Nat} : ∀ k, (∀ j, j < k → f j ≤ c) → (wBst f wo k).2 ≤ c
  | 0, _ => Nat.zero_le _
  | k + 1, h => by
    rw [wBst]
    split
    · exact h k (by omega)
    · exact wBst_le k (fun j hj => h j (by omega))
theorem wBst_lt {f : Nat → Nat} {wo : Nat} : ∀ k b, (wBst f wo k).1 = some b → b < k
  | 0, _, h => by cases h
  | k + 1, b, h => by
    rw [wBst] at h
    split at h
    · cases h; omega
    · have := wBst_lt k b h; omega
theorem l_bestKnown {b wo : Nat} (hr : rW D w S) (ho : wok S) (hb : b < S.B) (hwo : wo < 1024) (hp : post (some (xby (wBst (S.K b) wo 10).1)) D) : ∀ f i, i + f = 10 → xW Γ n hX7_bestKnown rX7_bestKnown 8 [some (xR 0 7 w), some (xI (nI b)), some (xI (nI wo)), some (xI (xby (wBst (S.K b) wo i).1)), some (xI (nI (wBst (S.K b) wo i).2)), some (xI (nI i)), none] [] D post := by
  have h8 := ho.1
  intro f
  induction f with
  | zero =>
    intro i hi
    obtain rfl : i = 10 := by omega
    refine xi_geN 10 10 rfl rfl rfl rfl (by omega) (by omega) (fun _ => ?_) (fun h => absurd h (by omega))
    exact x_ret rfl rfl rfl rfl hp
  | succ f ih =>
    intro i hi
    have h9 := ho.2.2.2.2.2.2.1 b i hb (by omega)
    have hle := wBst_le (f := S.K b) (wo := wo) (c := 9) i (fun j hj => ho.2.2.2.2.2.2.1 b j hb (by omega))
    have IH := ih (i + 1) (by omega)
    rw [wBst, ← nI_1] at IH
    refine xi_geN i 10 rfl rfl rfl rfl (by omega) (by omega) (fun h => absurd h (by omega)) (fun h => ?_)
    refine x_aldN (b * 10 + i) rfl rfl ix10 (by omega) rfl ?_
    rw [hr.2.2.2.2.2.2.1 b i hb (by omega)]
    refine xi_leN (S.K b i) (wBst (S.K b) wo i).2 rfl rfl rfl rfl (by omega) (by omega) (fun h2 => ?_) (fun h2 => ?_)
    · rw [if_neg (by omega)] at IH
      exact x_goto rfl rfl (x_drop 6 IH)
    · have e : (nI wo >>> (nI i &&& 31)) &&& xnum 1 = nI (wo / 2 ^ i % 2) := xb_bit (by omega) (by omega)
      refine x0_ne rfl rfl (fun h3 => ?_) (fun h3 => ?_)
      · rw [e] at h3
        have ht : wo.testBit i = true := by
          cases hq : wo.testBit i with
          | true => rfl
          | false =>
            have : ¬ wo / 2 ^ i % 2 = 1 := fun z => by rw [(xb_tb _ _).mp z] at hq; cases hq
            have : wo / 2 ^ i % 2 = 0 := by omega
            rw [this] at h3
            exact absurd rfl h3
        rw [if_neg (by rw [ht]; simp)] at IH
        exact x_goto rfl rfl (x_drop 6 IH)
      · rw [e] at h3
        have ht : wo.testBit i = false := by
          cases hq : wo.testBit i with
          | false => rfl
          | true =>
            rw [(xb_tb _ _).mpr hq] at h3
            exact absurd h3 (by decide)
        rw [if_pos ⟨h2, ht⟩] at IH
        exact x_goto rfl rfl (x_drop 6 IH)
theorem c_bestKnown {b wo : Nat} (hr : rW D w S) (ho : wok S) (hb : b < S.B) (hwo : wo < 1024) (hp : post (some (xby (wBst (S.K b) wo 10).1)) D) : xRuns Γ n hX7_bestKnown [xR 0 7 w, xI (nI b), xI (nI wo)] D post := by
  refine x_runs kX7_bestKnown (by decide +kernel) rfl ?_
  refine x_to 8 rfl ?_
  exact l_bestKnown hr ho hb hwo hp 10 0 rfl
/-- a set without one -/
def wWo (a b : Nat) : Nat := wbits (fun i => a.testBit i && !decide (i = b)) 8
theorem wWo_lt (a b : Nat) : wWo a b < 256 := wbits_lt _ 8
theorem wWo_tb {a b : Nat} (ha : a < 256) (i : Nat) : (wWo a b).testBit i = (a.testBit i && !decide (i = b)) := by
  rw [wWo, wbits_tb]
  by_cases h : i < 8
  · simp [h]
  · have : a.testBit i = false := Nat.testBit_lt_two_pow (Nat.lt_of_lt_of_le ha (by have : (2:Nat) ^ 8 ≤ 2 ^ i := Nat.pow_le_pow_right (by decide) (by omega); omega))
    simp [h, this]
theorem wWo_I {a b : Nat} (ha : a < 256) (hb : b < 31) : nI a &&& ((nI 1 <<< (nI b &&& 31)) ^^^ -1) = nI (wWo a b) := by
  rw [xb_sh1 hb]
  refine xb_andn (by omega) (fun i => ?_)
  rw [wWo_tb ha, Nat.testBit_two_pow]
  simp [eq_comm]
theorem c_hearable {b : Nat} (hr : rW D w S) (ho : wok S) (hb : b < S.B) (hp : post (some (nI (wWo (wAw S (S.pe b)) b))) D) : xRuns Γ (n + 1) hX7_hearable [xR 0 7 w, xI (nI b)] D post := by
  have h8 := ho.1
  refine x_runs kX7_hearable (by decide +kernel) rfl ?_
  refine x_aldN b rfl rfl rfl (by omega) rfl ?_
  rw [hr.2.2.2.2.2.1 b hb]
  refine x_call [xI (nI (S.pe b))] rfl rfl rfl rfl rfl rfl rfl (c_awakeOn hr ho (ho.2.2.2.2.2.1 b hb) ?_)
  refine x_ret rfl rfl rfl rfl ?_
  have e : nI (wAw S (S.pe b)) &&& ((xnum 1 <<< (nI b &&& 31)) ^^^ xnum (-1)) = nI (wWo (wAw S (S.pe b)) b) := wWo_I (wAw_lt ho _) (by omega)
  rw [e]
  exact hp
end W3
