/-! ===== World, small methods ===== -/
section W1
variable {Γ : xG} {n : Nat} {D : xM} {post : Option Int32 → xM → Prop} {w : Nat} {S : wS}
theorem ix10 {b k : Nat} : nI b * xnum 10 + nI k = nI (b * 10 + k) := by
  show nI b * nI 10 + nI k = _
  rw [pk_mul, nI_add]
theorem c_knowledge {b k : Nat} (hr : rW D w S) (ho : wok S) (hb : b < S.B) (hk : k < 10) (hp : post (some (nI (S.K b k))) D) : xRuns Γ n hX7_knowledge [xR 0 7 w, xI (nI b), xI (nI k)] D post := by
  have h8 := ho.1
  refine x_runs kX7_knowledge (by decide +kernel) rfl ?_
  refine x_aldN (b * 10 + k) rfl rfl ix10 (by omega) rfl ?_
  refine x_ret rfl rfl rfl rfl ?_
  rw [hr.2.2.2.2.2.2.1 b k hb hk]
  exact hp
theorem c_learn {b k v : Nat} (hr : rW D w S) (ho : wok S) (hb : b < S.B) (hk : k < 10) (hv : v ≤ 9) (hp : post none (xup D (w + 3) (b * 10 + k) (nI (min 9 (S.K b k + v))))) : xRuns Γ n hX7_learn [xR 0 7 w, xI (nI b), xI (nI k), xI (nI v)] D post := by
  have h8 := ho.1
  have h9 := ho.2.2.2.2.2.2.1 b k hb hk
  refine x_runs kX7_learn (by decide +kernel) rfl ?_
  refine x_aldN (b * 10 + k) rfl rfl ix10 (by omega) rfl ?_
  rw [hr.2.2.2.2.2.2.1 b k hb hk]
  refine xi_leN (S.K b k + v) 9 rfl rfl (nI_add _ _) rfl (by omega) (by omega) (fun h => ?_) (fun h => ?_)
  · refine x_astN (b * 10 + k) rfl rfl ix10 (by omega) rfl ?_
    refine x_vret rfl rfl rfl ?_
    rw [nI_add]
    rw [Nat.min_eq_right h] at hp
    exact hp
  · refine x_goto rfl rfl ?_
    refine x_astN (b * 10 + k) rfl rfl ix10 (by omega) rfl ?_
    refine x_vret rfl rfl rfl ?_
    rw [Nat.min_eq_left (by omega)] at hp
    exact hp
/-- what a bird's cover is -/
theorem c_isCovered {b : Nat} (hr : rW D w S) (ho : wok S) (hb : b < 32) (hp : post (some (if S.C.testBit b then 1 else 0)) D) : xRuns Γ n hX7_isCovered [xR 0 7 w, xI (nI b)] D post := by
  have hc := ho.2.2.2.1
  refine x_runs kX7_isCovered (by decide +kernel) rfl ?_
  have e : (nI S.C >>> (nI b &&& 31)) &&& xnum 1 = nI (S.C / 2 ^ b % 2) := xb_bit (by omega) hb
  refine xi_neN (S.C / 2 ^ b % 2) 1 rfl rfl (by rw [hr.2.2.2.1]; exact e) rfl (by omega) (by omega) (fun h => ?_) (fun h => ?_)
  · have : S.C.testBit b = false := by
      cases hq : S.C.testBit b with
      | false => rfl
      | true => exact absurd ((xb_tb _ _).mpr hq) h
    rw [this] at hp
    exact x_ret rfl rfl rfl rfl hp
  · rw [(xb_tb _ _).mp h] at hp
    refine x_goto rfl rfl ?_
    exact x_ret rfl rfl rfl rfl hp
def wWell (S : wS) (b : Nat) : Nat := wbits (fun k => decide (5 ≤ S.K b k)) 10
theorem l_wellKnown {b : Nat} (hr : rW D w S) (ho : wok S) (hb : b < S.B) (hp : post (some (nI (wWell S b))) D) : ∀ f i, i + f = 10 → xW Γ (n + 1) hX7_wellKnown rX7_wellKnown 4 [some (xR 0 7 w), some (xI (nI b)), some (xI (nI (wbits (fun k => decide (5 ≤ S.K b k)) i))), some (xI (nI i))] [] D post := by
  intro f
  induction f with
  | zero =>
    intro i hi
    obtain rfl : i = 10 := by omega
    refine xi_geN 10 10 rfl rfl rfl rfl (by omega) (by omega) (fun _ => ?_) (fun h => absurd h (by omega))
    exact x_ret rfl rfl rfl rfl hp
  | succ f ih =>
    intro i hi
    have h9 := ho.2.2.2.2.2.2.1 b i hb (by omega)
    have IH := ih (i + 1) (by omega)
    rw [wbits, ← nI_1] at IH
    refine xi_geN i 10 rfl rfl rfl rfl (by omega) (by omega) (fun h => absurd h (by omega)) (fun h => ?_)
    refine x_call [xI (nI b), xI (nI i)] rfl rfl rfl rfl rfl rfl rfl (c_knowledge hr ho hb (by omega) ?_)
    refine xi_ltN (S.K b i) 5 rfl rfl rfl rfl (by omega) (by omega) (fun h5 => ?_) (fun h5 => ?_)
    · rw [if_neg (by simp; omega), Nat.add_zero] at IH
      exact x_goto rfl rfl IH
    · rw [if_pos (by simp; omega), ← xb_orp (wbits_lt _ _), ← xb_sh1 (by omega)] at IH
      exact x_goto rfl rfl IH
theorem c_wellKnown {b : Nat} (hr : rW D w S) (ho : wok S) (hb : b < S.B) (hp : post (some (nI (wWell S b))) D) : xRuns Γ (n + 1) hX7_wellKnown [xR 0 7 w, xI (nI b)] D post := by
  refine x_runs kX7_wellKnown (by decide +kernel) rfl ?_
  refine x_to 4 rfl ?_
  exact l_wellKnown hr ho hb hp 10 0 rfl
def wSum (f : Nat → Nat) : Nat → Nat
  | 0 => 0
  | k + 1 => wSum f k + f k
theorem l_allKnowledge {b : Nat} (hr : rW D w S) (ho : wok S) (hb : b < S.B) (hp : post (some (nI (wSum (S.K b) 10))) D) : ∀ f i, i + f = 10 → xW Γ (n + 1) hX7_allKnowledge rX7_allKnowledge 4 [some (xR 0 7 w), some (xI (nI b)), some (xI (nI (wSum (S.K b) i))), some (xI (nI i))] [] D post := by
  intro f
  induction f with
  | zero =>
    intro i hi
    obtain rfl : i = 10 := by omega
    refine xi_geN 10 10 rfl rfl rfl rfl (by omega) (by omega) (fun _ => ?_) (fun h => absurd h (by omega))
    exact x_ret rfl rfl rfl rfl hp
  | succ f ih =>
    intro i hi
    have IH := ih (i + 1) (by omega)
    rw [wSum, ← nI_1, ← nI_add] at IH
    refine xi_geN i 10 rfl rfl rfl rfl (by omega) (by omega) (fun h => absurd h (by omega)) (fun h => ?_)
    refine x_call [xI (nI b), xI (nI i)] rfl rfl rfl rfl rfl rfl rfl (c_knowledge hr ho hb (by omega) ?_)
    exact x_goto rfl rfl IH
theorem c_allKnowledge {b : Nat} (hr : rW D w S) (ho : wok S) (hb : b < S.B) (hp : post (some (nI (wSum (S.K b) 10))) D) : xRuns Γ (n + 1) hX7_allKnowledge [xR 0 7 w, xI (nI b)] D post := by
  refine x_runs kX7_allKnowledge (by decide +kernel) rfl ?_
  refine x_to 4 rfl ?_
  exact l_allKnowledge hr ho hb hp 10 0 rfl
end W1
