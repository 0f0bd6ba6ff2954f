/-! ===== the memory behind the constructors ===== -/
def kM1 : kM := [.inl (8, [.inr (some 1), .inr (some 3), .inr (some 10), .inr (some 15), .inr (some 21), .inr (some 27), .inr (some 33), .inr (some 36), .inr (some 99), .inr (some 103), .inr (some 110)]),
  .inl (5, [.inr (some 2), .inl 0, .inl 0, .inl 0]),
  .inr (0, 200, [], []),
  .inl (0, [.inr (some 1), .inr (some 4), .inl 0]),
  .inl (7, [.inl 0, .inl 0, .inl 0, .inl 0, .inr (some 5), .inr (some 6), .inr (some 7), .inr (some 8), .inr (some 9)]),
  .inr (0, 8, [], []),
  .inr (0, 8, [], []),
  .inr (0, 80, [], []),
  .inr (0, 4, [], []),
  .inr (0, 4, [], []),
  .inl (6, [.inr (some 11), .inr (some 12), .inr (some 13), .inr (some 14), .inl 0, .inl 0, .inl 0]),
  .inr (0, 200, [], []),
  .inr (0, 200, [], []),
  .inr (0, 6, [], []),
  .inr (0, 16, [], []),
  .inl (7, [.inl 0, .inl 0, .inl 0, .inl 0, .inr (some 16), .inr (some 17), .inr (some 18), .inr (some 19), .inr (some 20)]),
  .inr (0, 8, [], []),
  .inr (0, 8, [], []),
  .inr (0, 80, [], []),
  .inr (0, 4, [], []),
  .inr (0, 4, [], []),
  .inl (7, [.inl 0, .inl 0, .inl 0, .inl 0, .inr (some 22), .inr (some 23), .inr (some 24), .inr (some 25), .inr (some 26)]),
  .inr (0, 8, [], []),
  .inr (0, 8, [], []),
  .inr (0, 80, [], []),
  .inr (0, 4, [], []),
  .inr (0, 4, [], []),
  .inl (7, [.inl 0, .inl 0, .inl 0, .inl 0, .inr (some 28), .inr (some 29), .inr (some 30), .inr (some 31), .inr (some 32)]),
  .inr (0, 8, [], []),
  .inr (0, 8, [], []),
  .inr (0, 80, [], []),
  .inr (0, 4, [], []),
  .inr (0, 4, [], []),
  .inl (4, [.inr (some 34), .inr (some 35)]),
  .inr (0, 64, [], []),
  .inr (0, 4, [], []),
  .inl (1, [.inr (some 37), .inr (some 38), .inl 0, .inl 0, .inl 0]),
  .inr (2, 8, [], [(7, 81), (6, 75), (5, 69), (4, 63), (3, 57), (2, 51), (1, 45), (0, 39)]),
  .inr (2, 2, [], [(1, 93), (0, 87)]),
  .inl (7, [.inl 0, .inl 0, .inl 0, .inl 0, .inr (some 40), .inr (some 41), .inr (some 42), .inr (some 43), .inr (some 44)]),
  .inr (0, 8, [], []),
  .inr (0, 8, [], []),
  .inr (0, 80, [], []),
  .inr (0, 4, [], []),
  .inr (0, 4, [], []),
  .inl (7, [.inl 0, .inl 0, .inl 0, .inl 0, .inr (some 46), .inr (some 47), .inr (some 48), .inr (some 49), .inr (some 50)]),
  .inr (0, 8, [], []),
  .inr (0, 8, [], []),
  .inr (0, 80, [], []),
  .inr (0, 4, [], []),
  .inr (0, 4, [], []),
  .inl (7, [.inl 0, .inl 0, .inl 0, .inl 0, .inr (some 52), .inr (some 53), .inr (some 54), .inr (some 55), .inr (some 56)]),
  .inr (0, 8, [], []),
  .inr (0, 8, [], []),
  .inr (0, 80, [], []),
  .inr (0, 4, [], []),
  .inr (0, 4, [], []),
  .inl (7, [.inl 0, .inl 0, .inl 0, .inl 0, .inr (some 58), .inr (some 59), .inr (some 60), .inr (some 61), .inr (some 62)]),
  .inr (0, 8, [], []),
  .inr (0, 8, [], []),
  .inr (0, 80, [], []),
  .inr (0, 4, [], []),
  .inr (0, 4, [], []),
  .inl (7, [.inl 0, .inl 0, .inl 0, .inl 0, .inr (some 64), .inr (some 65), .inr (some 66), .inr (some 67), .inr (some 68)]),
  .inr (0, 8, [], []),
  .inr (0, 8, [], []),
  .inr (0, 80, [], []),
  .inr (0, 4, [], []),
  .inr (0, 4, [], []),
  .inl (7, [.inl 0, .inl 0, .inl 0, .inl 0, .inr (some 70), .inr (some 71), .inr (some 72), .inr (some 73), .inr (some 74)]),
  .inr (0, 8, [], []),
  .inr (0, 8, [], []),
  .inr (0, 80, [], []),
  .inr (0, 4, [], []),
  .inr (0, 4, [], []),
  .inl (7, [.inl 0, .inl 0, .inl 0, .inl 0, .inr (some 76), .inr (some 77), .inr (some 78), .inr (some 79), .inr (some 80)]),
  .inr (0, 8, [], []),
  .inr (0, 8, [], []),
  .inr (0, 80, [], []),
  .inr (0, 4, [], []),
  .inr (0, 4, [], []),
  .inl (7, [.inl 0, .inl 0, .inl 0, .inl 0, .inr (some 82), .inr (some 83), .inr (some 84), .inr (some 85), .inr (some 86)]),
  .inr (0, 8, [], []),
  .inr (0, 8, [], []),
  .inr (0, 80, [], []),
  .inr (0, 4, [], []),
  .inr (0, 4, [], []),
  .inl (7, [.inl 0, .inl 0, .inl 0, .inl 0, .inr (some 88), .inr (some 89), .inr (some 90), .inr (some 91), .inr (some 92)]),
  .inr (0, 8, [], []),
  .inr (0, 8, [], []),
  .inr (0, 80, [], []),
  .inr (0, 4, [], []),
  .inr (0, 4, [], []),
  .inl (7, [.inl 0, .inl 0, .inl 0, .inl 0, .inr (some 94), .inr (some 95), .inr (some 96), .inr (some 97), .inr (some 98)]),
  .inr (0, 8, [], []),
  .inr (0, 8, [], []),
  .inr (0, 80, [], []),
  .inr (0, 4, [], []),
  .inr (0, 4, [], []),
  .inl (3, [.inr (some 100), .inr (some 101), .inr (some 102), .inl 0]),
  .inr (0, 6, [], []),
  .inr (0, 6, [], []),
  .inr (0, 6, [], []),
  .inr (3, 3, [], [(2, 108), (1, 106), (0, 104)]),
  .inl (2, [.inr (some 105), .inl 0, .inl 0, .inl 0]),
  .inr (0, 12, [], []),
  .inl (2, [.inr (some 107), .inl 0, .inl 0, .inl 0]),
  .inr (0, 12, [], []),
  .inl (2, [.inr (some 109), .inl 0, .inl 0, .inl 0]),
  .inr (0, 12, [], []),
  .inr (0, 32, [], [])]
def kM9 : kM := [.inl (9, [.inr (some 112), .inl 0, .inr (some 113), .inr (some 114), .inl 0, .inl 0, .inr (some 115), .inr (some 116), .inr (some 117), .inl 0, .inr (some 118), .inr (some 119), .inr (some 120), .inr (some 121), .inr (some 122), .inr (some 123), .inl 0, .inl 0, .inl 0, .inl 0, .inr (some 124), .inl 0, .inl 0, .inr (some 125), .inr (some 126), .inr (some 127), .inr (some 128), .inr (some 129), .inr (some 130), .inr (some 131), .inr (some 132), .inr (some 133), .inr (some 134), .inr (some 135), .inr (some 136), .inr (some 137), .inr (some 138), .inr (some 139), .inr (some 140), .inr (some 141), .inr (some 142), .inr (some 143)]),
  .inr (0, 1404, [], []),
  .inr (1, 2, [], []),
  .inr (0, 200, [], []),
  .inr (0, 6, [], []),
  .inr (0, 6, [], []),
  .inr (0, 6, [], []),
  .inr (0, 202, [], []),
  .inr (0, 202, [], []),
  .inr (0, 202, [], []),
  .inr (0, 3, [(2, -1), (1, -1), (0, -1)], []),
  .inr (0, 3, [], []),
  .inr (0, 36, [], []),
  .inr (0, 4, [], []),
  .inr (0, 7, [(6, 114), (5, 117), (4, 111), (3, 98), (2, 114), (1, 97), (0, 104)], []),
  .inr (0, 6, [(5, 116), (4, 111), (3, 114), (2, 114), (1, 97), (0, 112)], []),
  .inr (0, 4, [(3, 121), (2, 101), (1, 114), (0, 103)], []),
  .inr (0, 8, [(7, 111), (6, 111), (5, 116), (4, 97), (3, 107), (2, 99), (1, 111), (0, 99)], []),
  .inr (0, 4, [(3, 107), (2, 119), (1, 97), (0, 104)], []),
  .inr (0, 5, [(4, 110), (3, 101), (2, 101), (1, 114), (0, 103)], []),
  .inr (0, 3, [(2, 110), (1, 97), (0, 109)], []),
  .inr (0, 5, [(4, 115), (3, 119), (2, 111), (1, 110), (0, 107)], []),
  .inr (0, 4, [(3, 115), (2, 116), (1, 105), (0, 115)], []),
  .inr (0, 5, [(4, 114), (3, 101), (2, 118), (1, 111), (0, 99)], []),
  .inr (0, 8, [], []),
  .inr (1, 203, [], []),
  .inr (1, 203, [], []),
  .inr (0, 64, [], []),
  .inr (0, 4, [], []),
  .inr (0, 32, [], []),
  .inr (0, 4, [], []),
  .inr (0, 4, [], []),
  .inr (0, 12, [], [])]
def kM2 : kM := kM1 ++ kM9
theorem kM1_len : kM1.length = 111 := by decide +kernel
theorem kM2_len : kM2.length = 144 := by decide +kernel
def kbF (a b : kF) : Bool := match a, b with
  | .inl x, .inl y => decide (x = y)
  | .inr o, .inr p => decide (o = p)
  | _, _ => false
def kbL : List kF → List kF → Bool
  | [], [] => true
  | a :: l, b :: m => kbF a b && kbL l m
  | _, _ => false
def kbC (a b : kC) : Bool := match a, b with
  | .inl (c, fs), .inl (d, gs) => decide (c = d) && kbL fs gs
  | .inr x, .inr y => decide (x = y)
  | _, _ => false
def kbM : kM → kM → Bool
  | [], [] => true
  | a :: l, b :: m => kbC a b && kbM l m
  | _, _ => false
theorem kbF_ok {a b : kF} (h : kbF a b = true) : a = b := by
  rcases a with x | o <;> rcases b with y | p
  · exact congrArg Sum.inl (of_decide_eq_true h)
  · cases h
  · cases h
  · exact congrArg Sum.inr (of_decide_eq_true h)
theorem kbL_ok : ∀ {l m : List kF}, kbL l m = true → l = m
  | [], [], _ => rfl
  | [], _ :: _, h => by cases h
  | _ :: _, [], h => by cases h
  | a :: l, b :: m, h => by
    obtain ⟨h1, h2⟩ := xand h
    rw [kbF_ok h1, kbL_ok h2]
theorem kbC_ok {a b : kC} (h : kbC a b = true) : a = b := by
  rcases a with ⟨c, fs⟩ | x <;> rcases b with ⟨d, gs⟩ | y
  · obtain ⟨h1, h2⟩ := xand h
    rw [(of_decide_eq_true h1 : c = d), kbL_ok h2]
  · cases h
  · cases h
  · exact congrArg Sum.inr (of_decide_eq_true h)
theorem kbM_ok : ∀ {l m : kM}, kbM l m = true → l = m
  | [], [], _ => rfl
  | [], _ :: _, h => by cases h
  | _ :: _, [], h => by cases h
  | a :: l, b :: m, h => by
    obtain ⟨h1, h2⟩ := xand h
    rw [kbC_ok h1, kbM_ok h2]
def kbO (o : Option kM) (m : kM) : Bool := match o with
  | some l => kbM l m
  | none => false
theorem kbO_ok {o : Option kM} {m : kM} (h : kbO o m = true) : o = some m := by
  cases o with
  | none => cases h
  | some l => rw [kbM_ok h]
theorem kM1_ok : kx 2000 8 0 (kpad [.inr 0] 2) [] [.inl (8, kdf.getD 8 [])] 0 0 = some kM1 := kbO_ok (by decide +kernel)
theorem kM2_ok : kx 2000 9 0 (kpad [.inr 111] 1) [] (kM1 ++ [.inl (9, kdf.getD 9 [])]) 0 0 = some kM2 := kbO_ok (by decide +kernel)
def kD (M : kM) (i j : Nat) : Int32 := match M[i]? with
  | some (.inl (_, fs)) => (match fs[j]? with
    | some (.inl x) => x
    | _ => 0)
  | some (.inr (_, _, ps, _)) => kiF ps j
  | none => 0
def klk : List (Nat × Nat) → Nat → Option Nat
  | [], _ => none
  | q :: l, j => if j = q.1 then some q.2 else klk l j
theorem krF_lk (r : Nat → Nat) : ∀ (qs : List (Nat × Nat)) (j : Nat), krF r qs j = (klk qs j).map r
  | [], _ => rfl
  | q :: l, j => by
    rw [krF, klk]
    split
    · rfl
    · exact krF_lk r l j
def kck1 (i k : Nat) (fs : List kF) (j : Nat) : Bool := match xfR k j i, fs[j]? with
  | some (s, _, w), some (.inr (some w')) => decide (s ≤ 3 ∨ s = 6) && decide (w = w')
  | none, some (.inl _) => true
  | _, _ => false
def kchk (M : kM) (i : Nat) : Bool := match M[i]?, xkd[i]? with
  | some (.inl (ci, fs)), some (0, k) => decide (ci = k) && (decide (fs.length = xnf k) && (List.range (xnf k)).all (kck1 i k fs))
  | some (.inr (0, n, _, _)), some (1, k) => decide (n = k)
  | some (.inr (1, n, _, _)), some (2, k) => decide (n = k)
  | some (.inr (2, n, _, qs)), some (3, k) => decide (n = k) && (List.range n).all (fun j => decide (klk qs j = some (xelB k j)))
  | some (.inr (3, n, _, qs)), some (6, k) => decide (n = k) && (List.range n).all (fun j => decide (klk qs j = some (xR0 + 2 * j)))
  | _, _ => false
theorem kchk_all : (List.range 144).all (kchk kM2) = true := by decide +kernel
theorem arrV_cg {c : ClassId} {N : Nat} {f h : Nat → Value} (e : ∀ j, j < N → f j = h j) : arrV c N f = arrV c N h := by
  have : (fun j : Fin N => f j.val) = fun j => h j.val := funext fun j => e j.val j.isLt
  rw [arrV, arrV, this]
set_option maxHeartbeats 4000000 in
theorem k_xH {Γ : xG} {b0 : Nat} {H : Heap} (h : kH Γ b0 Γ.r kM2 H) : xH Γ (kD kM2) H := by
  have hchk := kchk_all
  have hl := kM2_len
  generalize hM : kM2 = M at h hchk hl ⊢
  clear hM
  intro k q hk
  have hk1 : k < xNC := by
    have := (List.getElem?_eq_some_iff.mp hk).1
    simpa [xws] using this
  obtain ⟨c, hc⟩ : ∃ c, M[k]? = some c := ⟨_, List.getElem?_eq_getElem (by rw [hl]; exact hk1)⟩
  obtain ⟨kd, hkd⟩ : ∃ kd, xkd[k]? = some kd := ⟨_, List.getElem?_eq_getElem (by rw [xkd_len]; exact hk1)⟩
  rw [xws_at hkd] at hk
  have hk := Option.some.inj hk
  subst hk
  have at0 := h.1 k _ (kws_at hc)
  have hck := List.all_eq_true.mp hchk k (List.mem_range.mpr hk1)
  have eD : kD M k = fun j => kD M k j := rfl
  unfold kchk at hck
  rw [hc, hkd] at hck
  split at hck
  · rename_i ci fs kk e1 e2
    cases e1; cases e2
    obtain ⟨w1, w2⟩ := xand hck
    obtain ⟨w2, w3⟩ := xand w2
    have w1 := of_decide_eq_true w1
    have w2 : fs.length = xnf kk := of_decide_eq_true w2
    subst w1
    have e5 : (List.range (xnf ci)).map (fun j => xcv Γ (xfv (kD M) ci k j)) = fs.map (kfV Γ.r) := by
      apply List.ext_getElem?
      intro j
      by_cases hj : j < xnf ci
      · have hc1 := List.all_eq_true.mp w3 j (List.mem_range.mpr hj)
        rw [List.getElem?_map, List.getElem?_map, List.getElem?_range hj]
        unfold kck1 at hc1
        split at hc1
        · rename_i s0 t0 w0 w' e6 e7
          obtain ⟨y1, y2⟩ := xand hc1
          have y2 := of_decide_eq_true y2
          have y1 : s0 ≤ 3 ∨ s0 = 6 := of_decide_eq_true y1
          subst y2
          rw [e7]
          show some (xcv Γ (xfv (kD M) ci k j)) = some (.ref (Γ.r w0))
          rw [xfv, e6]
          match s0, y1 with
          | 0, _ => rfl
          | 1, _ => rfl
          | 2, _ => rfl
          | 3, _ => rfl
          | 6, _ => rfl
          | 4, h => omega
          | 5, h => omega
          | n + 7, h => omega
        · rename_i x0 e6 e7
          rw [e7]
          show some (xcv Γ (xfv (kD M) ci k j)) = some (.int x0)
          rw [xfv, e6]
          show some (Value.int (kD M k j)) = some (.int x0)
          rw [kD, hc]
          dsimp only
          rw [e7]
        · cases hc1
      · rw [List.getElem?_eq_none (by simp; omega), List.getElem?_eq_none (by simp; omega)]
    show va_at Γ.d vwCl (Γ.r k, .inr (ci, (List.range (xnf ci)).map (fun j => xcv Γ (xfv (kD M) ci k j)))) H
    rw [e5]
    exact at0
  · rename_i n0 ps qs kk e1 e2
    cases e1; cases e2
    have w1 := of_decide_eq_true hck
    subst w1
    have e5 : kD M k = kiF ps := by
      funext j
      rw [kD, hc]
    show va_at Γ.d vwCl (Γ.r k, .inl (Γ.c 0, n0, .inl (kD M k))) H
    rw [e5]
    exact at0
  · rename_i n0 ps qs kk e1 e2
    cases e1; cases e2
    have w1 := of_decide_eq_true hck
    subst w1
    have e5 : kD M k = kiF ps := by
      funext j
      rw [kD, hc]
    show va_at Γ.d vwCl (Γ.r k, .inl (Γ.c 1, n0, .inl (kD M k))) H
    rw [e5]
    exact at0
  · rename_i n0 ps qs kk e1 e2
    cases e1; cases e2
    obtain ⟨w1, w2⟩ := xand hck
    have w1 := of_decide_eq_true w1
    subst w1
    have at0 : H[Γ.r k]? = some (arrV (Γ.c 2) n0 (fun j => va_rf (krF Γ.r qs j))) := at0
    show H[Γ.r k]? = some (arrV (Γ.c 2) n0 (fun j => va_rf (some (Γ.r (xelB n0 j)))))
    rw [at0]
    refine congrArg some (arrV_cg (fun j hj => ?_))
    rw [krF_lk, (of_decide_eq_true (List.all_eq_true.mp w2 j (List.mem_range.mpr hj)) : klk qs j = some (xelB n0 j))]
    rfl
  · rename_i n0 ps qs kk e1 e2
    cases e1; cases e2
    obtain ⟨w1, w2⟩ := xand hck
    have w1 := of_decide_eq_true w1
    subst w1
    have at0 : H[Γ.r k]? = some (arrV (Γ.c 3) n0 (fun j => va_rf (krF Γ.r qs j))) := at0
    show H[Γ.r k]? = some (arrV (Γ.c 3) n0 (fun j => va_rf (some (Γ.r (xR0 + 2 * j)))))
    rw [at0]
    refine congrArg some (arrV_cg (fun j hj => ?_))
    rw [krF_lk, (of_decide_eq_true (List.all_eq_true.mp w2 j (List.mem_range.mpr hj)) : klk qs j = some (xR0 + 2 * j))]
    rfl
  · cases hck
/-- the first state -/
def kW0 : wS := wmk 0 0 0 0 (fun _ => 0) (fun _ => 0) (fun _ _ => 0) (fun _ => 0) (fun _ => none)
def kG0 : gS := gmk [] [] kW0 kW0 [] (fun _ => none) [] (fun _ => none)
theorem k_wok : wok kW0 := ⟨Nat.zero_le _, Nat.zero_le _, by show 0 < 1000000; omega, by show 0 < 256; omega, fun _ h => absurd h (Nat.not_lt_zero _), fun _ h => absurd h (Nat.not_lt_zero _), fun _ _ h => absurd h (Nat.not_lt_zero _), fun _ h => absurd h (Nat.not_lt_zero _), fun _ _ h => absurd h (Nat.not_lt_zero _), fun _ _ _ h => absurd h (Nat.not_lt_zero _)⟩
theorem k_gok : gok kG0 := ⟨⟨Nat.zero_le _, fun _ h => (by cases h)⟩, k_wok, ⟨k_wok, Nat.zero_le _⟩, ⟨Nat.zero_le _, fun _ h => (by cases h)⟩, fun _ _ _ h => (by cases h), ⟨Nat.zero_le _, fun _ h => (by cases h)⟩, fun _ _ _ _ _ h => (by cases h)⟩
/-- places that begin with 0, and the few that don't -/
theorem kD_0 : ([(15, 0), (15, 1), (15, 2), (15, 3), (21, 0), (21, 1), (21, 2), (21, 3), (1, 1), (36, 2), (36, 3), (36, 4), (99, 3), (104, 1), (106, 1), (108, 1), (10, 5), (111, 4), (111, 1), (111, 5), (111, 9), (113, 0), (113, 1)] : List (Nat × Nat)).all (fun q => decide (kD kM2 q.1 q.2 = 0)) = true := by decide +kernel
theorem kD_at {i j : Nat} (h : (i, j) ∈ ([(15, 0), (15, 1), (15, 2), (15, 3), (21, 0), (21, 1), (21, 2), (21, 3), (1, 1), (36, 2), (36, 3), (36, 4), (99, 3), (104, 1), (106, 1), (108, 1), (10, 5), (111, 4), (111, 1), (111, 5), (111, 9), (113, 0), (113, 1)] : List (Nat × Nat))) : kD kM2 i j = 0 := of_decide_eq_true (List.all_eq_true.mp kD_0 _ h)
theorem kD_row : kM2[112]? = some (.inr (0, 1404, [], [])) ∧ kM2[139]? = some (.inr (0, 4, [], [])) := ⟨by rfl, by rfl⟩
theorem kD_112 (j : Nat) : kD kM2 112 j = 0 := by rw [kD, kD_row.1]; rfl
theorem kD_139 (j : Nat) : kD kM2 139 j = 0 := by rw [kD, kD_row.2]; rfl
theorem kD_121 : ∀ r, r < 3 → kD kM2 121 r = -1 := by decide +kernel
theorem kD_wd : ∀ q, q < 10 → ∀ j, j < (tWl.getD q []).length → kD kM2 (tWc.getD q 0) j = nI ((tWl.getD q []).getD j 0) := by decide +kernel
theorem k_relC : RelC (kD kM2) kG0 := by
  refine ⟨⟨kD_at (by decide), kD_at (by decide), kD_at (by decide), kD_at (by decide), fun _ h => absurd h (Nat.not_lt_zero _), fun _ h => absurd h (Nat.not_lt_zero _), fun _ _ h => absurd h (Nat.not_lt_zero _), fun _ h => absurd h (Nat.not_lt_zero _), fun _ h => absurd h (Nat.not_lt_zero _)⟩, ⟨kD_at (by decide), kD_at (by decide), kD_at (by decide), kD_at (by decide), fun _ h => absurd h (Nat.not_lt_zero _), fun _ h => absurd h (Nat.not_lt_zero _), fun _ _ h => absurd h (Nat.not_lt_zero _), fun _ h => absurd h (Nat.not_lt_zero _), fun _ h => absurd h (Nat.not_lt_zero _)⟩, ⟨kD_at (by decide), fun _ h => absurd h (Nat.not_lt_zero _)⟩, ⟨0, 0, by omega, by omega, kD_at (by decide), kD_at (by decide), kD_at (by decide), fun _ h => absurd h (Nat.not_lt_zero _), fun k hk => ⟨by simp [kG0], fun S hS => by cases hS⟩⟩, ⟨kD_at (by decide), fun _ h => absurd h (Nat.not_lt_zero _)⟩, fun r hr => ?_, ⟨kD_at (by decide), fun _ h => absurd h (Nat.not_lt_zero _), fun _ h => absurd h (Nat.not_lt_zero _)⟩⟩
  show kD kM2 (104 + 2 * r) 1 = 0
  match r, hr with
  | 0, _ => exact kD_at (by decide)
  | 1, _ => exact kD_at (by decide)
  | 2, _ => exact kD_at (by decide)
  | r + 3, h => exact absurd h (by omega)
theorem k_relM : RelM (kD kM2) kG0 := by
  refine ⟨⟨⟨kD_112 _, kD_112 _, kD_112 _, kD_112 _, fun _ h => absurd h (Nat.not_lt_zero _), fun _ h => absurd h (Nat.not_lt_zero _), fun _ _ h => absurd h (Nat.not_lt_zero _), fun _ h => absurd h (Nat.not_lt_zero _), fun _ h => absurd h (Nat.not_lt_zero _)⟩, fun b k _ _ _ => kD_112 _, fun q hq j hj => kD_wd q hq j hj⟩, ⟨kD_112 _, kD_112 _, kD_112 _, kD_112 _, fun _ h => absurd h (Nat.not_lt_zero _), fun _ h => absurd h (Nat.not_lt_zero _), fun _ _ h => absurd h (Nat.not_lt_zero _), fun _ h => absurd h (Nat.not_lt_zero _), fun _ h => absurd h (Nat.not_lt_zero _)⟩, ⟨kD_at (by decide), fun _ h => absurd h (Nat.not_lt_zero _)⟩, ⟨kD_at (by decide), fun _ h => absurd h (Nat.not_lt_zero _), fun k hk => ⟨?_, fun S hS => by cases hS⟩⟩, ⟨kD_at (by decide), fun _ h => absurd h (Nat.not_lt_zero _)⟩, fun r hr => kD_121 r hr, ⟨kD_at (by decide), fun h => absurd rfl h⟩, ⟨fun _ => [], fun p hp => ⟨kD_139 _, fun _ h => absurd h (Nat.not_lt_zero _)⟩, fun _ _ => Nat.zero_le _⟩⟩
  show kD kM2 113 k = 0
  match k, hk with
  | 0, _ => exact kD_at (by decide)
  | 1, _ => exact kD_at (by decide)
  | k + 2, h => exact absurd h (by omega)
theorem k_lI : lI (kD kM2) kG0 := ⟨k_relC, k_relM, k_gok, rfl, Or.inl rfl⟩
