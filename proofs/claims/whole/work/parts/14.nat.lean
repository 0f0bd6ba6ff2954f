/-! ===== numbers as naturals: the rules by nI ===== -/
theorem xnum_nat (k : Nat) : xnum (Int.ofNat k) = nI k := rfl
theorem xnum_lit (k : Nat) : xnum (OfNat.ofNat k) = nI k := rfl
theorem xnum_m1 : xnum (-1) = -1 := rfl
theorem xofn (k : Nat) : Int32.ofNat k = nI k := rfl
theorem xlit (k : Nat) : (OfNat.ofNat k : Int32) = nI k := rfl
theorem xcl_nI {j : Nat} (h : j < 2 ^ 31) : (nI j).toNatClampNeg = j := nI_clamp h
section XNR
variable {Γ : xG} {n : Nat} {h : xHd} {rows : List xRow} {post : Option Int32 → xM → Prop}
theorem x_aldN {pc pc' a b : Nat} {lv lv' : List (Option xV)} {st st' : List xV} {D D' : xM} {k i : Nat} {z : Int32} (j : Nat) (h1 : xrun rows xN 60 pc lv st D = some (pc', lv', .inl z :: .inr (.inr (1, k, i)) :: st', D')) (hr : xrw rows pc' = some (.iaload, 1, a, b)) (hz : z = nI j) (hj : j < k) (hk : Nat.ble k 2000000 = true) (kk : xW Γ n h rows (pc' + 1) lv' (.inl (D' i j) :: st') D' post) : xW Γ n h rows pc lv st D post := by
  have hk2 := Nat.le_of_ble_eq_true hk
  refine x_ald h1 hr (by rw [hz]; exact vp_in_nI hj (by omega)) ?_
  rw [hz, nI_clamp (by omega)]
  exact kk
theorem x_bldN {pc pc' a b : Nat} {lv lv' : List (Option xV)} {st st' : List xV} {D D' : xM} {k i : Nat} {z : Int32} (j : Nat) (h1 : xrun rows xN 60 pc lv st D = some (pc', lv', .inl z :: .inr (.inr (2, k, i)) :: st', D')) (hr : xrw rows pc' = some (.baload, 1, a, b)) (hz : z = nI j) (hj : j < k) (hk : Nat.ble k 2000000 = true) (kk : xW Γ n h rows (pc' + 1) lv' (.inl (D' i j) :: st') D' post) : xW Γ n h rows pc lv st D post := by
  have hk2 := Nat.le_of_ble_eq_true hk
  refine x_bld h1 hr (by rw [hz]; exact vp_in_nI hj (by omega)) ?_
  rw [hz, nI_clamp (by omega)]
  exact kk
theorem x_wldN {pc pc' a b : Nat} {lv lv' : List (Option xV)} {st st' : List xV} {D D' : xM} {k i : Nat} {z : Int32} (j : Nat) (h1 : xrun rows xN 60 pc lv st D = some (pc', lv', .inl z :: .inr (.inr (3, k, i)) :: st', D')) (hr : xrw rows pc' = some (.aaload, 1, a, b)) (hz : z = nI j) (hj : j < k) (hk : Nat.ble k 2000000 = true) (kk : xW Γ n h rows (pc' + 1) lv' (.inr (.inr (0, 7, xelB k j)) :: st') D' post) : xW Γ n h rows pc lv st D post := by
  have hk2 := Nat.le_of_ble_eq_true hk
  refine x_wld h1 hr (by rw [hz]; exact vp_in_nI hj (by omega)) ?_
  rw [hz, nI_clamp (by omega)]
  exact kk
theorem x_rldN {pc pc' a b : Nat} {lv lv' : List (Option xV)} {st st' : List xV} {D D' : xM} {k i : Nat} {z : Int32} (j : Nat) (h1 : xrun rows xN 60 pc lv st D = some (pc', lv', .inl z :: .inr (.inr (6, k, i)) :: st', D')) (hr : xrw rows pc' = some (.aaload, 1, a, b)) (hz : z = nI j) (hj : j < k) (hk : Nat.ble k 2000000 = true) (kk : xW Γ n h rows (pc' + 1) lv' (.inr (.inr (0, 2, xR0 + 2 * j)) :: st') D' post) : xW Γ n h rows pc lv st D post := by
  have hk2 := Nat.le_of_ble_eq_true hk
  refine x_rld h1 hr (by rw [hz]; exact vp_in_nI hj (by omega)) ?_
  rw [hz, nI_clamp (by omega)]
  exact kk
theorem x_tldN {pc pc' a b : Nat} {lv lv' : List (Option xV)} {st st' : List xV} {D D' : xM} {k i : Nat} {z : Int32} (j : Nat) (h1 : xrun rows xN 60 pc lv st D = some (pc', lv', .inl z :: .inr (.inr (4, k, i)) :: st', D')) (hr : xrw rows pc' = some (.iaload, 1, a, b)) (hz : z = nI j) (hj : j < 5) (kk : xW Γ n h rows (pc' + 1) lv' (.inl (xtv k j) :: st') D' post) : xW Γ n h rows pc lv st D post := by
  refine x_tld h1 hr (by rw [hz]; exact vp_in_nI hj (by omega)) ?_
  rw [hz, nI_clamp (by omega)]
  exact kk
theorem x_astN {pc pc' a b : Nat} {lv lv' : List (Option xV)} {st st' : List xV} {D D' : xM} {k i : Nat} {z x : Int32} (j : Nat) (h1 : xrun rows xN 60 pc lv st D = some (pc', lv', .inl x :: .inl z :: .inr (.inr (1, k, i)) :: st', D')) (hr : xrw rows pc' = some (.iastore, 1, a, b)) (hz : z = nI j) (hj : j < k) (hk : Nat.ble k 2000000 = true) (kk : xW Γ n h rows (pc' + 1) lv' st' (xup D' i j x) post) : xW Γ n h rows pc lv st D post := by
  have hk2 := Nat.le_of_ble_eq_true hk
  refine x_ast h1 hr (by rw [hz]; exact vp_in_nI hj (by omega)) ?_
  rw [hz, nI_clamp (by omega)]
  exact kk
theorem xnz {x : Int32} (hx : x = 0 ∨ x = 1) : vp_nar .boolean x = x := by rcases hx with rfl | rfl <;> rfl
theorem x_bstN {pc pc' a b : Nat} {lv lv' : List (Option xV)} {st st' : List xV} {D D' : xM} {k i : Nat} {z x : Int32} (j : Nat) (h1 : xrun rows xN 60 pc lv st D = some (pc', lv', .inl x :: .inl z :: .inr (.inr (2, k, i)) :: st', D')) (hr : xrw rows pc' = some (.bastore, 1, a, b)) (hz : z = nI j) (hj : j < k) (hk : Nat.ble k 2000000 = true) (hx : x = 0 ∨ x = 1) (kk : xW Γ n h rows (pc' + 1) lv' st' (xup D' i j x) post) : xW Γ n h rows pc lv st D post := by
  have hk2 := Nat.le_of_ble_eq_true hk
  refine x_bst h1 hr (by rw [hz]; exact vp_in_nI hj (by omega)) ?_
  rw [hz, nI_clamp (by omega), xnz hx]
  exact kk
theorem xi_eqN {pc pc' a b : Nat} {lv lv' : List (Option xV)} {st st' : List xV} {D D' : xM} {x y : Int32} {off : Int} (p q : Nat) (h1 : xrun rows xN 60 pc lv st D = some (pc', lv', .inl y :: .inl x :: st', D')) (hr : xrw rows pc' = some (.if_icmp .eq off, 3, a, b)) (hx : x = nI p) (hy : y = nI q) (hp : p < 2 ^ 31) (hq : q < 2 ^ 31) (kt : p = q → xW Γ n h rows a lv' st' D' post) (kf : p ≠ q → xW Γ n h rows (pc' + 3) lv' st' D' post) : xW Γ n h rows pc lv st D post := by
  subst hx; subst hy
  have e1 := @nI_eq p q hp hq
  have e2 := @nI_leI p q hp hq
  have e3 := @nI_leI q p hq hp
  have e4 := @nI_ltI p q hp hq
  have e5 := @nI_ltI q p hq hp
  refine xi_eq h1 hr (fun z => kt ?_) (fun z => kf ?_)
  all_goals (first | exact z | (simp only [e1, e2, e3, e4, e5] at z; omega))
theorem xi_neN {pc pc' a b : Nat} {lv lv' : List (Option xV)} {st st' : List xV} {D D' : xM} {x y : Int32} {off : Int} (p q : Nat) (h1 : xrun rows xN 60 pc lv st D = some (pc', lv', .inl y :: .inl x :: st', D')) (hr : xrw rows pc' = some (.if_icmp .ne off, 3, a, b)) (hx : x = nI p) (hy : y = nI q) (hp : p < 2 ^ 31) (hq : q < 2 ^ 31) (kt : p ≠ q → xW Γ n h rows a lv' st' D' post) (kf : p = q → xW Γ n h rows (pc' + 3) lv' st' D' post) : xW Γ n h rows pc lv st D post := by
  subst hx; subst hy
  have e1 := @nI_eq p q hp hq
  have e2 := @nI_leI p q hp hq
  have e3 := @nI_leI q p hq hp
  have e4 := @nI_ltI p q hp hq
  have e5 := @nI_ltI q p hq hp
  refine xi_ne h1 hr (fun z => kt ?_) (fun z => kf ?_)
  all_goals (first | exact z | (simp only [e1, e2, e3, e4, e5] at z; omega))
theorem xi_ltN {pc pc' a b : Nat} {lv lv' : List (Option xV)} {st st' : List xV} {D D' : xM} {x y : Int32} {off : Int} (p q : Nat) (h1 : xrun rows xN 60 pc lv st D = some (pc', lv', .inl y :: .inl x :: st', D')) (hr : xrw rows pc' = some (.if_icmp .lt off, 3, a, b)) (hx : x = nI p) (hy : y = nI q) (hp : p < 2 ^ 31) (hq : q < 2 ^ 31) (kt : p < q → xW Γ n h rows a lv' st' D' post) (kf : q ≤ p → xW Γ n h rows (pc' + 3) lv' st' D' post) : xW Γ n h rows pc lv st D post := by
  subst hx; subst hy
  have e1 := @nI_eq p q hp hq
  have e2 := @nI_leI p q hp hq
  have e3 := @nI_leI q p hq hp
  have e4 := @nI_ltI p q hp hq
  have e5 := @nI_ltI q p hq hp
  refine xi_lt h1 hr (fun z => kt ?_) (fun z => kf ?_)
  all_goals (first | exact z | (simp only [e1, e2, e3, e4, e5] at z; omega))
theorem xi_geN {pc pc' a b : Nat} {lv lv' : List (Option xV)} {st st' : List xV} {D D' : xM} {x y : Int32} {off : Int} (p q : Nat) (h1 : xrun rows xN 60 pc lv st D = some (pc', lv', .inl y :: .inl x :: st', D')) (hr : xrw rows pc' = some (.if_icmp .ge off, 3, a, b)) (hx : x = nI p) (hy : y = nI q) (hp : p < 2 ^ 31) (hq : q < 2 ^ 31) (kt : q ≤ p → xW Γ n h rows a lv' st' D' post) (kf : p < q → xW Γ n h rows (pc' + 3) lv' st' D' post) : xW Γ n h rows pc lv st D post := by
  subst hx; subst hy
  have e1 := @nI_eq p q hp hq
  have e2 := @nI_leI p q hp hq
  have e3 := @nI_leI q p hq hp
  have e4 := @nI_ltI p q hp hq
  have e5 := @nI_ltI q p hq hp
  refine xi_ge h1 hr (fun z => kt ?_) (fun z => kf ?_)
  all_goals (first | exact z | (simp only [e1, e2, e3, e4, e5] at z; omega))
theorem xi_gtN {pc pc' a b : Nat} {lv lv' : List (Option xV)} {st st' : List xV} {D D' : xM} {x y : Int32} {off : Int} (p q : Nat) (h1 : xrun rows xN 60 pc lv st D = some (pc', lv', .inl y :: .inl x :: st', D')) (hr : xrw rows pc' = some (.if_icmp .gt off, 3, a, b)) (hx : x = nI p) (hy : y = nI q) (hp : p < 2 ^ 31) (hq : q < 2 ^ 31) (kt : q < p → xW Γ n h rows a lv' st' D' post) (kf : p ≤ q → xW Γ n h rows (pc' + 3) lv' st' D' post) : xW Γ n h rows pc lv st D post := by
  subst hx; subst hy
  have e1 := @nI_eq p q hp hq
  have e2 := @nI_leI p q hp hq
  have e3 := @nI_leI q p hq hp
  have e4 := @nI_ltI p q hp hq
  have e5 := @nI_ltI q p hq hp
  refine xi_gt h1 hr (fun z => kt ?_) (fun z => kf ?_)
  all_goals (first | exact z | (simp only [e1, e2, e3, e4, e5] at z; omega))
theorem xi_leN {pc pc' a b : Nat} {lv lv' : List (Option xV)} {st st' : List xV} {D D' : xM} {x y : Int32} {off : Int} (p q : Nat) (h1 : xrun rows xN 60 pc lv st D = some (pc', lv', .inl y :: .inl x :: st', D')) (hr : xrw rows pc' = some (.if_icmp .le off, 3, a, b)) (hx : x = nI p) (hy : y = nI q) (hp : p < 2 ^ 31) (hq : q < 2 ^ 31) (kt : p ≤ q → xW Γ n h rows a lv' st' D' post) (kf : q < p → xW Γ n h rows (pc' + 3) lv' st' D' post) : xW Γ n h rows pc lv st D post := by
  subst hx; subst hy
  have e1 := @nI_eq p q hp hq
  have e2 := @nI_leI p q hp hq
  have e3 := @nI_leI q p hq hp
  have e4 := @nI_ltI p q hp hq
  have e5 := @nI_ltI q p hq hp
  refine xi_le h1 hr (fun z => kt ?_) (fun z => kf ?_)
  all_goals (first | exact z | (simp only [e1, e2, e3, e4, e5] at z; omega))
end XNR
/-! ===== bits ===== -/
theorem xb_and (a b : Nat) : nI a &&& nI b = nI (a &&& b) := by
  apply Int32.toBitVec_inj.1
  show BitVec.ofNat 32 a &&& BitVec.ofNat 32 b = BitVec.ofNat 32 (a &&& b)
  apply BitVec.eq_of_getLsbD_eq
  intro i hi
  simp [hi]
theorem xb_or (a b : Nat) : nI a ||| nI b = nI (a ||| b) := by
  apply Int32.toBitVec_inj.1
  show BitVec.ofNat 32 a ||| BitVec.ofNat 32 b = BitVec.ofNat 32 (a ||| b)
  apply BitVec.eq_of_getLsbD_eq
  intro i hi
  simp [hi]
theorem xb_xor (a b : Nat) : nI a ^^^ nI b = nI (a ^^^ b) := by
  apply Int32.toBitVec_inj.1
  show BitVec.ofNat 32 a ^^^ BitVec.ofNat 32 b = BitVec.ofNat 32 (a ^^^ b)
  apply BitVec.eq_of_getLsbD_eq
  intro i hi
  simp [hi]
theorem xb_s : ∀ k, k < 32 → ((nI k &&& 31).toBitVec.smod 32).toNat = k := by decide +kernel
theorem xb_shl {c i : Nat} (hi : i < 32) (h : c * 2 ^ i < 2 ^ 32) : nI c <<< (nI i &&& 31) = nI (c * 2 ^ i) := pk_shlN _ i (xb_s i hi) h
theorem xb_sh1 {i : Nat} (hi : i < 31) : nI 1 <<< (nI i &&& 31) = nI (2 ^ i) := by
  have h2 : (2 : Nat) ^ i < 2 ^ 31 := Nat.pow_lt_pow_right (by decide) hi
  rw [xb_shl (by omega) (by omega), Nat.one_mul]
theorem xb_shr {c i : Nat} (hc : c < 2 ^ 31) (hi : i < 32) : nI c >>> (nI i &&& 31) = nI (c / 2 ^ i) := pk_shrN hc _ i (xb_s i hi)
theorem xb_bit {c i : Nat} (hc : c < 2 ^ 31) (hi : i < 32) : (nI c >>> (nI i &&& 31)) &&& nI 1 = nI (c / 2 ^ i % 2) := by
  have hd : c / 2 ^ i ≤ c := Nat.div_le_self _ _
  rw [xb_shr hc hi, pk_andN (by omega) (m := nI 1) 1 rfl]
theorem xb_tb (c i : Nat) : c / 2 ^ i % 2 = 1 ↔ c.testBit i = true := by
  rw [Nat.testBit_eq_decide_div_mod_eq, decide_eq_true_eq]
theorem xb_orp {a i : Nat} (h : a < 2 ^ i) : nI a ||| nI (2 ^ i) = nI (a + 2 ^ i) := by
  rw [xb_or, Nat.or_comm, Nat.add_comm]
  have := Nat.two_pow_add_eq_or_of_lt h 1
  rw [Nat.mul_one] at this
  rw [this]
/-- a set of places below n, by bits -/
def wbits (p : Nat → Bool) : Nat → Nat
  | 0 => 0
  | n + 1 => wbits p n + (if p n then 2 ^ n else 0)
theorem wbits_lt (p : Nat → Bool) : ∀ n, wbits p n < 2 ^ n
  | 0 => by simp [wbits]
  | n + 1 => by
    have := wbits_lt p n
    rw [wbits, Nat.pow_succ]
    split <;> omega
theorem wbits_cong {p q : Nat → Bool} : ∀ n, (∀ i, i < n → p i = q i) → wbits p n = wbits q n
  | 0, _ => rfl
  | n + 1, h => by rw [wbits, wbits, wbits_cong n (fun i hi => h i (by omega)), h n (by omega)]
theorem wbits_tb (p : Nat → Bool) : ∀ n i, (wbits p n).testBit i = (decide (i < n) && p i)
  | 0, i => by simp [wbits]
  | n + 1, i => by
    have ih := wbits_tb p n
    have hl := wbits_lt p n
    rw [wbits]
    split
    · rename_i hp
      have e : wbits p n + 2 ^ n = 2 ^ n * 1 ||| wbits p n := by rw [← Nat.two_pow_add_eq_or_of_lt hl 1]; omega
      rw [e, Nat.testBit_or, ih, Nat.mul_one, Nat.testBit_two_pow]
      by_cases h : i = n
      · subst h; simp [hp]
      · by_cases h2 : i < n
        · have : i < n + 1 := by omega
          simp [h2, this, Ne.symm h]
        · have : ¬ i < n + 1 := by omega
          simp [h2, this, Ne.symm h]
    · rename_i hp
      rw [Nat.add_zero, ih]
      by_cases h : i = n
      · subst h; simp [hp]
      · by_cases h2 : i < n
        · have : i < n + 1 := by omega
          simp [h2, this]
        · have : ¬ i < n + 1 := by omega
          simp [h2, this]
