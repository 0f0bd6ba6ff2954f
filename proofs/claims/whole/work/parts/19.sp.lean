/-! ===== the JDK's small numbers; Speech ===== -/
section XMM
variable {Γ : xG} {n : Nat} {h : xHd} {rows : List xRow} {post : Option Int32 → xM → Prop}
set_option maxHeartbeats 4000000 in
theorem x_max {pc pc' b : Nat} {lv lv' : List (Option xV)} {st : List xV} {D D' : xM} {idx : Nat} {x y : Int32} {rest : List xV} (h1 : xrun rows xN 60 pc lv st D = some (pc', lv', .inl y :: .inl x :: rest, D')) (hr : xrw rows pc' = some (.invokestatic idx, 3, iJ9_max_7cf53, b)) (hroom : Nat.ble ((rest.map xcat).sum) 8 = true)
    (kk : xW Γ (n + 1) h rows (pc' + 3) lv' (.inl (if x < y then y else x) :: rest) D' post) : xW Γ (n + 1) h rows pc lv st D post := by
  refine x_to xN h1 ?_
  intro p e R s m args below meth c H locs cells slots Q ls C hH hS hl hst hret
  obtain ⟨hx, hb, hml, hrt, hlk, hown, hts, hs, hck, hR⟩ := id C
  have hok := xck_row hck hr
  have hd := xok_dec hok
  have hok2 := (xand hok).2
  have ha2 : ¬ iJ9_max_7cf53 = 1000 := by decide
  have hg : xsg[iJ9_max_7cf53]? = some hJ9_max_7cf53 := rfl
  simp only [if_neg ha2] at hok2
  obtain ⟨p1, hp1⟩ := xzip (p := xmlp) xml_len (of_decide_eq_true (xand hok2).1)
  obtain ⟨p2, hp2⟩ := xzip (p := xmsp) xms_len (of_decide_eq_true (xand hok2).2)
  have c1 := List.all_eq_true.mp xml_ok _ hp1
  have w2 := List.all_eq_true.mp xms_ok _ hp2
  have c3 := xmapz xms_c _ hp2
  simp only [xmlB, xmsB, hg] at c1 w2 c3
  have c3 := xcd_in c3
  obtain ⟨q01, q2⟩ := xand w2
  obtain ⟨q1, c2⟩ := xand q01
  have hcat : ((rest.map (xcv Γ)).map fun v => v.category).sum ≤ 8 := by
    have := Nat.le_of_ble_eq_true hroom
    rw [List.map_map]
    have e2 : (Value.category ∘ xcv Γ) = xcat := funext (xcat_ok Γ)
    show (List.map (Value.category ∘ xcv Γ) rest).sum ≤ 8
    rw [e2]
    exact this
  exact va_mmax hx hb (hml.trans hl.1.symm) hown (hts _ (xat_mem c1)) (hts _ (xat_mem q2)) (hts _ (xat_mem c2)) (hts _ c3) (by have := hR.1; omega) (by have := hR.2.1; omega) hR.2.2.1 hR.2.2.2 hd (kk p e R s m args below meth c H locs cells slots Q ls C hH hS hl (xfc trivial (xft (xft hst))) hret)
set_option maxHeartbeats 4000000 in
theorem x_min {pc pc' b : Nat} {lv lv' : List (Option xV)} {st : List xV} {D D' : xM} {idx : Nat} {x y : Int32} {rest : List xV} (h1 : xrun rows xN 60 pc lv st D = some (pc', lv', .inl y :: .inl x :: rest, D')) (hr : xrw rows pc' = some (.invokestatic idx, 3, iJ9_min_7cf53, b)) (hroom : Nat.ble ((rest.map xcat).sum) 8 = true)
    (kk : xW Γ (n + 1) h rows (pc' + 3) lv' (.inl (if y < x then y else x) :: rest) D' post) : xW Γ (n + 1) h rows pc lv st D post := by
  refine x_to xN h1 ?_
  intro p e R s m args below meth c H locs cells slots Q ls C hH hS hl hst hret
  obtain ⟨hx, hb, hml, hrt, hlk, hown, hts, hs, hck, hR⟩ := id C
  have hok := xck_row hck hr
  have hd := xok_dec hok
  have hok2 := (xand hok).2
  have ha2 : ¬ iJ9_min_7cf53 = 1000 := by decide
  have hg : xsg[iJ9_min_7cf53]? = some hJ9_min_7cf53 := rfl
  simp only [if_neg ha2] at hok2
  obtain ⟨p1, hp1⟩ := xzip (p := xmlp) xml_len (of_decide_eq_true (xand hok2).1)
  obtain ⟨p2, hp2⟩ := xzip (p := xmsp) xms_len (of_decide_eq_true (xand hok2).2)
  have c1 := List.all_eq_true.mp xml_ok _ hp1
  have w2 := List.all_eq_true.mp xms_ok _ hp2
  have c3 := xmapz xms_c _ hp2
  simp only [xmlB, xmsB, hg] at c1 w2 c3
  have c3 := xcd_in c3
  obtain ⟨q01, q2⟩ := xand w2
  obtain ⟨q1, c2⟩ := xand q01
  have hcat : ((rest.map (xcv Γ)).map fun v => v.category).sum ≤ 8 := by
    have := Nat.le_of_ble_eq_true hroom
    rw [List.map_map]
    have e2 : (Value.category ∘ xcv Γ) = xcat := funext (xcat_ok Γ)
    show (List.map (Value.category ∘ xcv Γ) rest).sum ≤ 8
    rw [e2]
    exact this
  exact va_mmin hx hb (hml.trans hl.1.symm) hown (hts _ (xat_mem c1)) (hts _ (xat_mem q2)) (hts _ (xat_mem c2)) (hts _ c3) (by have := hR.1; omega) (by have := hR.2.1; omega) hR.2.2.1 hR.2.2.2 hd (kk p e R s m args below meth c H locs cells slots Q ls C hH hS hl (xfc trivial (xft (xft hst))) hret)
end XMM
section JN
variable {Γ : xG} {n : Nat} {D : xM} {post : Option Int32 → xM → Prop}
def jus (x y : Int32) : Int32 := (x.toUInt32 >>> (y.toUInt32 &&& Int32.toUInt32 31)).toInt32
def jn1 (y z : Int32) : Int32 := z + jus y 1
def jn2 (y z : Int32) : Int32 := if y ≤ 4 then jn1 y z else jn1 (jus y 2) (z + 2)
def jn4 (y z : Int32) : Int32 := if y ≤ 16 then jn2 y z else jn2 (jus y 4) (z + 4)
def jn8 (y z : Int32) : Int32 := if y ≤ 256 then jn4 y z else jn4 (jus y 8) (z + 8)
def jn16 (y z : Int32) : Int32 := if y ≤ 65536 then jn8 y z else jn8 (jus y 16) (z + 16)
def jntz (x : Int32) : Int32 := if 0 < (x ^^^ -1) &&& (x - 1) then jn16 ((x ^^^ -1) &&& (x - 1)) 1 else ((x ^^^ -1) &&& (x - 1)) &&& 32
theorem c_ntz {x : Int32} (hp : post (some (jntz x)) D) : xRuns Γ n hJ6_numberOfTrailingZeros_0f7a4 [xI x] D post := by
  refine x_runs kJ6_numberOfTrailingZeros_0f7a4 (by decide +kernel) rfl ?_
  have s1 : ∀ y z, post (some (jn1 y z)) D → xW Γ n hJ6_numberOfTrailingZeros_0f7a4 rJ6_numberOfTrailingZeros_0f7a4 74 [some (xI y), some (xI z)] [] D post := fun y z h => x_ret rfl rfl rfl rfl h
  have s2 : ∀ y z, post (some (jn2 y z)) D → xW Γ n hJ6_numberOfTrailingZeros_0f7a4 rJ6_numberOfTrailingZeros_0f7a4 62 [some (xI y), some (xI z)] [] D post := by
    intro y z h
    refine xi_le rfl rfl (fun c => ?_) (fun c => ?_)
    · have c : y ≤ 4 := c
      rw [jn2, if_pos c] at h
      exact s1 _ _ h
    · have c : ¬ y ≤ 4 := c
      rw [jn2, if_neg c] at h
      exact x_to 74 rfl (s1 _ _ h)
  have s4 : ∀ y z, post (some (jn4 y z)) D → xW Γ n hJ6_numberOfTrailingZeros_0f7a4 rJ6_numberOfTrailingZeros_0f7a4 49 [some (xI y), some (xI z)] [] D post := by
    intro y z h
    refine xi_le rfl rfl (fun c => ?_) (fun c => ?_)
    · have c : y ≤ 16 := c
      rw [jn4, if_pos c] at h
      exact s2 _ _ h
    · have c : ¬ y ≤ 16 := c
      rw [jn4, if_neg c] at h
      exact x_to 62 rfl (s2 _ _ h)
  have s8 : ∀ y z, post (some (jn8 y z)) D → xW Γ n hJ6_numberOfTrailingZeros_0f7a4 rJ6_numberOfTrailingZeros_0f7a4 34 [some (xI y), some (xI z)] [] D post := by
    intro y z h
    refine xi_le rfl rfl (fun c => ?_) (fun c => ?_)
    · have c : y ≤ 256 := c
      rw [jn8, if_pos c] at h
      exact s4 _ _ h
    · have c : ¬ y ≤ 256 := c
      rw [jn8, if_neg c] at h
      exact x_to 49 rfl (s4 _ _ h)
  have s16 : ∀ y z, post (some (jn16 y z)) D → xW Γ n hJ6_numberOfTrailingZeros_0f7a4 rJ6_numberOfTrailingZeros_0f7a4 19 [some (xI y), some (xI z)] [] D post := by
    intro y z h
    refine xi_le rfl rfl (fun c => ?_) (fun c => ?_)
    · have c : y ≤ 65536 := c
      rw [jn16, if_pos c] at h
      exact s8 _ _ h
    · have c : ¬ y ≤ 65536 := c
      rw [jn16, if_neg c] at h
      exact x_to 34 rfl (s8 _ _ h)
  refine x0_gt rfl rfl (fun c => ?_) (fun c => ?_)
  · have c : 0 < (x ^^^ -1) &&& (x - 1) := c
    rw [jntz, if_pos c] at hp
    exact x_to 19 rfl (s16 _ _ hp)
  · have c : ¬ 0 < (x ^^^ -1) &&& (x - 1) := c
    rw [jntz, if_neg c] at hp
    exact x_ret rfl rfl rfl rfl hp
/-- the least of a set of words -/
def wLow (c : Nat) : Nat := ((List.range 10).find? (fun i => c.testBit i)).getD 0
theorem jntz_low : ∀ c, c < 1024 → 0 < c → jntz (nI c) = nI (wLow c) := by decide +kernel
def jbc (x : Int32) : Int32 :=
  let a := x - (jus x 1 &&& 1431655765)
  let b := (a &&& 858993459) + (jus a 2 &&& 858993459)
  let c := (b + jus b 4) &&& 252645135
  let d := c + jus c 8
  let e := d + jus d 16
  e &&& 63
theorem c_bitCount {x : Int32} (hp : post (some (jbc x)) D) : xRuns Γ n hJ6_bitCount_0f7a4 [xI x] D post := by
  refine x_runs kJ6_bitCount_0f7a4 (by decide +kernel) rfl ?_
  exact x_ret rfl rfl rfl rfl hp
/-- how many are in a set -/
def wCnt (c : Nat) : Nat := wSum (fun i => if c.testBit i then 1 else 0) 10
theorem jbc_cnt : ∀ c, c < 1024 → jbc (nI c) = nI (wCnt c) := by decide +kernel
end JN
/-- what was said, on each perch -/
def rP (D : xM) (a c : Nat) (sp : Nat → List Nat) : Prop := ∀ p, p < 4 → D c p = nI (sp p).length ∧ ∀ j, j < (sp p).length → D a (p * 16 + j) = nI ((sp p).getD j 0)
theorem rP_add {D : xM} {a c p k : Nat} {sp : Nat → List Nat} (h : rP D a c sp) (hac : a ≠ c) (hp : p < 4) (hl : (sp p).length < 16) (hall : ∀ q, q < 4 → (sp q).length ≤ 16) : rP (xup (xup D a (p * 16 + (sp p).length) (nI k)) c p (nI ((sp p).length + 1))) a c (wuf sp p (sp p ++ [k])) := by
  intro q hq
  obtain ⟨h1, h2⟩ := h q hq
  have hlq := hall q hq
  by_cases e : q = p
  · subst e
    refine ⟨by simp [xup, wuf], fun j hj => ?_⟩
    have hj : j < (sp q).length + 1 := by simpa [wuf] using hj
    have e1 : wuf sp q (sp q ++ [k]) q = sp q ++ [k] := by simp [wuf]
    rw [e1]
    by_cases ej : j = (sp q).length
    · subst ej
      simp [xup, hac]
    · have : ¬ (q * 16 + j = q * 16 + (sp q).length) := by omega
      simp only [xup, hac, this, and_false, false_and, if_false]
      rw [h2 j (by omega), List.getD_eq_getElem?_getD, List.getD_eq_getElem?_getD, List.getElem?_append_left (by omega)]
  · have e1 : wuf sp p (sp p ++ [k]) q = sp q := by simp [wuf, e]
    rw [e1]
    refine ⟨by simp [xup, e, Ne.symm hac, h1], fun j hj => ?_⟩
    have : ¬ (q * 16 + j = p * 16 + (sp p).length) := by omega
    simp only [xup, hac, this, and_false, false_and, if_false]
    exact h2 j hj
section SP
variable {Γ : xG} {n : Nat} {D : xM} {post : Option Int32 → xM → Prop} {sp : Nat → List Nat}
theorem ix16 {b k : Nat} : nI b * xnum 16 + nI k = nI (b * 16 + k) := by
  show nI b * nI 16 + nI k = _
  rw [pk_mul, nI_add]
theorem c_spAdd {p k : Nat} (hr : rP D 34 35 sp) (hall : ∀ q, q < 4 → (sp q).length ≤ 16) (hp4 : p < 4) (hl : (sp p).length < 16) (hp : ∀ D', rP D' 34 35 (wuf sp p (sp p ++ [k])) → (∀ a, a ≠ 34 → a ≠ 35 → D' a = D a) → post none D') : xRuns Γ n hX4_add [xR 0 4 33, xI (nI p), xI (nI k)] D post := by
  have h1 := (hr p hp4).1
  refine x_runs kX4_add (by decide +kernel) rfl ?_
  refine x_aldN p rfl rfl rfl (by omega) rfl ?_
  refine xi_geN (sp p).length 16 rfl rfl h1 rfl (by omega) (by omega) (fun h => absurd h (by omega)) (fun h => ?_)
  refine x_aldN p rfl rfl rfl (by omega) rfl ?_
  refine x_astN (p * 16 + (sp p).length) rfl rfl (by rw [h1]; exact ix16) (by omega) rfl ?_
  refine x_aldN p rfl rfl rfl (by omega) rfl ?_
  refine x_astN p rfl rfl rfl (by omega) rfl ?_
  refine x_vret rfl rfl rfl ?_
  have e : xup D 34 (p * 16 + (sp p).length) (nI k) 35 p + xnum 1 = nI ((sp p).length + 1) := by
    have : xup D 34 (p * 16 + (sp p).length) (nI k) 35 p = nI (sp p).length := by simpa [xup] using h1
    rw [this]
    exact nI_1 _
  rw [e]
  exact hp _ (rP_add hr (by decide) hp4 hl hall) (fun a ha hb => by rw [xup_ne a hb, xup_ne a ha])
theorem l_spClear (hp : ∀ D', rP D' 34 35 (fun _ => []) → (∀ a, a ≠ 35 → D' a = D a) → post none D') : ∀ f i (D1 : xM), i + f = 4 → (∀ q, q < i → D1 35 q = nI 0) → (∀ a, a ≠ 35 → D1 a = D a) → xW Γ n hX4_clear rX4_clear 2 [some (xR 0 4 33), some (xI (nI i))] [] D1 post := by
  intro f
  induction f with
  | zero =>
    intro i D1 hi hz hs
    obtain rfl : i = 4 := by omega
    refine xi_geN 4 4 rfl rfl rfl rfl (by omega) (by omega) (fun _ => ?_) (fun h => absurd h (by omega))
    exact x_vret rfl rfl rfl (hp D1 (fun q hq => ⟨hz q hq, fun j hj => absurd hj (by simp)⟩) hs)
  | succ f ih =>
    intro i D1 hi hz hs
    refine xi_geN i 4 rfl rfl rfl rfl (by omega) (by omega) (fun h => absurd h (by omega)) (fun h => ?_)
    refine x_astN i rfl rfl rfl (by omega) rfl ?_
    have IH := ih (i + 1) (xup D1 35 i (nI 0)) (by omega) (fun q hq => by
      by_cases e : q = i
      · simp [xup, e]
      · simp only [xup, e, and_false, if_false]
        exact hz q (by omega)) (fun a ha => by rw [xup_ne a ha]; exact hs a ha)
    rw [← nI_1] at IH
    exact x_goto rfl rfl IH
theorem c_spClear (hp : ∀ D', rP D' 34 35 (fun _ => []) → (∀ a, a ≠ 35 → D' a = D a) → post none D') : xRuns Γ n hX4_clear [xR 0 4 33] D post := by
  refine x_runs kX4_clear (by decide +kernel) rfl ?_
  refine x_to 2 rfl ?_
  exact l_spClear hp 4 0 D rfl (fun q hq => absurd hq (by omega)) (fun _ _ => rfl)
theorem c_wordAt {p i : Nat} (hr : rP D 34 35 sp) (hall : ∀ q, q < 4 → (sp q).length ≤ 16) (hp4 : p < 4) (hi : i < 16) (hp : post (some (xby ((sp p)[i]?))) D) : xRuns Γ n hX4_wordAt [xR 0 4 33, xI (nI p), xI (nI i)] D post := by
  obtain ⟨h1, h2⟩ := hr p hp4
  have hl := hall p hp4
  refine x_runs kX4_wordAt (by decide +kernel) rfl ?_
  refine x_aldN p rfl rfl rfl (by omega) rfl ?_
  refine xi_geN i (sp p).length rfl rfl rfl h1 (by omega) (by omega) (fun h => ?_) (fun h => ?_)
  · rw [List.getElem?_eq_none (by omega)] at hp
    exact x_ret rfl rfl rfl rfl hp
  · refine x_aldN (p * 16 + i) rfl rfl ix16 (by omega) rfl ?_
    refine x_goto rfl rfl ?_
    refine x_ret rfl rfl rfl rfl ?_
    rw [h2 i h]
    have e : (sp p)[i]? = some ((sp p).getD i 0) := by rw [List.getD_eq_getElem?_getD, List.getElem?_eq_getElem h]; rfl
    rw [e] at hp
    exact hp
end SP
