/-! ===== count, reels ===== -/
abbrev reT : Type := Nat × Nat × (Nat → Int32)
def gReel (G : gS) (r : Nat → Option reT) : gS := gmk G.tx G.tg G.told G.now G.past G.kept G.seen r
section A7
variable {Γ : xG} {n : Nat} {D : xM} {post : Option Int32 → xM → Prop} {G : gS} {S : wS}
theorem c_reelsThere {reel : Nat → Option reT} (h : cRe D reel) (hp : post (some (nI (wSum (fun r => if (reel r).isSome then 1 else 0) 3))) D) : xRuns Γ n hX8_reelsThere [xR 0 8 0] D post := by
  refine x_runs kX8_reelsThere (by decide +kernel) rfl ?_
  refine x_to 4 rfl ?_
  have loop : ∀ (f i : Nat), i + f = 3 → xW Γ n hX8_reelsThere rX8_reelsThere 4 [some (xR 0 8 0), some (xI (nI (wSum (fun r => if (reel r).isSome then 1 else 0) i))), some (xI (nI i))] [] D post := by
    intro f
    induction f with
    | zero =>
      intro i hi
      obtain rfl : i = 3 := by omega
      refine xi_geN 3 3 rfl rfl rfl rfl (by omega) (by omega) (fun _ => ?_) (fun h => absurd h (by omega))
      exact x_ret rfl rfl rfl rfl hp
    | succ f ih =>
      intro i hi
      have IH := ih (i + 1) (by omega)
      have hi3 := h i (by omega)
      refine xi_geN i 3 rfl rfl rfl rfl (by omega) (by omega) (fun h => absurd h (by omega)) (fun h => ?_)
      refine x_rldN i rfl rfl rfl (by omega) rfl ?_
      rw [wSum, ← nI_1] at IH
      rcases hq : reel i with _ | ⟨s, l, f⟩
      · rw [hq] at IH hi3
        dsimp only at hi3
        refine x0_eq rfl rfl (fun _ => ?_) (fun h => absurd hi3 h)
        exact x_goto rfl rfl IH
      · rw [hq] at IH hi3
        dsimp only at hi3
        refine x0_eq rfl rfl (fun h => absurd (hi3.1.symm.trans h) (by decide)) (fun _ => ?_)
        rw [Option.isSome, if_pos rfl, ← nI_1] at IH
        exact x_goto rfl rfl IH
  exact loop 3 0 (by omega)
theorem c_mreelsThere {reel : Nat → Option reT} (h : mRe D reel) (hl : ∀ r s l f, r < 3 → reel r = some (s, l, f) → l ≤ 12) (hp : post (some (nI (wSum (fun r => if (reel r).isSome then 1 else 0) 3))) D) : xRuns Γ n hX9_reelsThere [xR 0 9 111] D post := by
  refine x_runs kX9_reelsThere (by decide +kernel) rfl ?_
  refine x_to 4 rfl ?_
  have loop : ∀ (f i : Nat), i + f = 3 → xW Γ n hX9_reelsThere rX9_reelsThere 4 [some (xR 0 9 111), some (xI (nI (wSum (fun r => if (reel r).isSome then 1 else 0) i))), some (xI (nI i))] [] D post := by
    intro f
    induction f with
    | zero =>
      intro i hi
      obtain rfl : i = 3 := by omega
      refine xi_geN 3 3 rfl rfl rfl rfl (by omega) (by omega) (fun _ => ?_) (fun h => absurd h (by omega))
      exact x_ret rfl rfl rfl rfl hp
    | succ f ih =>
      intro i hi
      have IH := ih (i + 1) (by omega)
      have hi3 := h i (by omega)
      refine xi_geN i 3 rfl rfl rfl rfl (by omega) (by omega) (fun h => absurd h (by omega)) (fun h => ?_)
      refine x_aldN i rfl rfl rfl (by omega) rfl ?_
      rw [wSum, ← nI_1, ← nI_add] at IH
      rcases hq : reel i with _ | ⟨s, l, f⟩
      · rw [hq] at IH hi3
        dsimp only at hi3
        refine x0_ge rfl rfl (fun h => absurd (hi3 ▸ h) (by decide)) (fun _ => ?_)
        exact x_goto rfl rfl (x_goto rfl rfl IH)
      · have := hl i s l f (by omega) hq
        rw [hq] at IH hi3
        dsimp only at hi3
        refine x0_ge rfl rfl (fun _ => ?_) (fun h => absurd (hi3.1 ▸ nI_pos' (by omega)) h)
        exact x_goto rfl rfl IH
  exact loop 3 0 (by omega)
theorem c_mmenWords (hr : rM D 0 S) (ho : wok S) (hp : post (some (nI (wSum (fun m => wCnt (S.ha m)) S.M))) D) : xRuns Γ (n + 1) hX9_menWords [xR 0 9 111] D post := by
  have h4 := ho.2.1
  refine x_runs kX9_menWords (by decide +kernel) rfl ?_
  refine x_to 4 rfl ?_
  have loop : ∀ f i, i + f = S.M → xW Γ (n + 1) hX9_menWords rX9_menWords 4 [some (xR 0 9 111), some (xI (nI (wSum (fun m => wCnt (S.ha m)) i))), some (xI (nI i))] [] D post := by
    intro f
    induction f with
    | zero =>
      intro i hi
      obtain rfl : i = S.M := by omega
      refine x_aldN (0 + 1) rfl rfl rfl (by omega) rfl ?_
      refine xi_geN S.M S.M rfl rfl rfl hr.2.1 (by omega) (by omega) (fun _ => ?_) (fun h => absurd h (by omega))
      exact x_ret rfl rfl rfl rfl hp
    | succ f ih =>
      intro i hi
      have IH := ih (i + 1) (by omega)
      rw [wSum, ← nI_1, ← nI_add] at IH
      refine x_aldN (0 + 1) rfl rfl rfl (by omega) rfl ?_
      refine xi_geN i S.M rfl rfl rfl hr.2.1 (by omega) (by omega) (fun h => absurd h (by omega)) (fun h => ?_)
      refine x_aldN (0 + 100 + i) rfl rfl (by rw [Nat.zero_add]; exact nI_add 100 i) (by omega) rfl ?_
      rw [hr.2.2.2.2.2.2.2.1 i (by omega)]
      refine x_scall [xI (nI (S.ha i))] rfl rfl rfl rfl rfl rfl rfl (c_bits (ho.2.2.2.2.2.2.2.1 i (by omega)) ?_)
      exact x_goto rfl rfl IH
  exact loop S.M 0 (by omega)
theorem c_mallWell (hr : rM D 0 S) (ho : wok S) (hp : post (some (nI (wbits (fun k => (List.range S.B).any fun b => decide (5 ≤ S.K b k)) 10))) D) : xRuns Γ (n + 1) hX9_allWellKnown [xR 0 9 111] D post := by
  have h8 := ho.1
  refine x_runs kX9_allWellKnown (by decide +kernel) rfl ?_
  refine x_to 4 rfl ?_
  have loop : ∀ f i, i + f = S.B → xW Γ (n + 1) hX9_allWellKnown rX9_allWellKnown 4 [some (xR 0 9 111), some (xI (nI (wbits (fun k => (List.range i).any fun b => decide (5 ≤ S.K b k)) 10))), some (xI (nI i))] [] D post := by
    intro f
    induction f with
    | zero =>
      intro i hi
      obtain rfl : i = S.B := by omega
      refine x_aldN 0 rfl rfl rfl (by omega) rfl ?_
      refine xi_geN S.B S.B rfl rfl rfl hr.1 (by omega) (by omega) (fun _ => ?_) (fun h => absurd h (by omega))
      exact x_ret rfl rfl rfl rfl hp
    | succ f ih =>
      intro i hi
      have IH := ih (i + 1) (by omega)
      have e : wbits (fun k => (List.range (i + 1)).any fun b => decide (5 ≤ S.K b k)) 10 = wbits (fun k => (List.range i).any fun b => decide (5 ≤ S.K b k)) 10 ||| wWell S i := by
        apply Nat.eq_of_testBit_eq
        intro j
        rw [Nat.testBit_or, wWell, wbits_tb, wbits_tb, wbits_tb, List.range_succ, List.any_append]
        cases decide (j < 10) <;> simp
      rw [e, ← nI_1, ← xb_or] at IH
      refine x_aldN 0 rfl rfl rfl (by omega) rfl ?_
      refine xi_geN i S.B rfl rfl rfl hr.1 (by omega) (by omega) (fun h => absurd h (by omega)) (fun h => ?_)
      refine x_call [xI (nI 0), xI (nI i)] rfl rfl rfl rfl rfl rfl rfl (c_mwell hr ho (by omega) (by omega) ?_)
      exact x_goto rfl rfl IH
  have := loop S.B 0 (by omega)
  have e : wbits (fun k => (List.range 0).any fun b => decide (5 ≤ S.K b k)) 10 = 0 := by simp [wbits]
  rw [e] at this
  exact this
theorem a_count {x : Int32} (h : RelC D G) (hg : gok G) (hp : post (some (aCount G x)) D) : xRuns Γ (n + 3) hX8_count [xR 0 8 0, xI x] D post := by
  have ho := hg.2.2.1.1
  have hr := h.2.1
  refine x_runs kX8_count (by decide +kernel) rfl ?_
  rw [aCount] at hp
  cases hx : gI x 0 9 with
  | none =>
    rw [hx] at hp
    refine x_tout (tgt := 133) rfl rfl (gI_none hx) (by decide) ?_
    exact x_ret rfl rfl rfl rfl hp
  | some k =>
    rw [hx] at hp
    obtain ⟨f1, f2, f3, f4⟩ := gI_some (by decide) hx
    subst f1
    match k, f3 with
    | 0, _ =>
      refine x_tin (tgt := 56) (off := 55) rfl rfl (by decide) (by decide) (by decide) (by decide) ?_
      refine x_ret rfl rfl rfl rfl ?_
      rw [hr.1]; exact hp
    | 1, _ =>
      refine x_tin (tgt := 64) (off := 63) rfl rfl (by decide) (by decide) (by decide) (by decide) ?_
      refine x_ret rfl rfl rfl rfl ?_
      rw [hr.2.1]; exact hp
    | 2, _ =>
      refine x_tin (tgt := 72) (off := 71) rfl rfl (by decide) (by decide) (by decide) (by decide) ?_
      refine x_ret rfl rfl rfl rfl ?_
      rw [hr.2.2.1]; exact hp
    | 3, _ =>
      refine x_tin (tgt := 80) (off := 79) rfl rfl (by decide) (by decide) (by decide) (by decide) ?_
      refine x_ret rfl rfl rfl rfl ?_
      rw [hr.2.2.2.1]; exact hp
    | 4, _ =>
      refine x_tin (tgt := 88) (off := 87) rfl rfl (by decide) (by decide) (by decide) (by decide) ?_
      refine x_call [] rfl rfl rfl rfl rfl rfl rfl (c_menWords hr ho ?_)
      exact x_ret rfl rfl rfl rfl hp
    | 5, _ =>
      refine x_tin (tgt := 96) (off := 95) rfl rfl (by decide) (by decide) (by decide) (by decide) ?_
      refine x_ret rfl rfl rfl rfl ?_
      rw [h.2.2.2.2.1.1]; exact hp
    | 6, _ =>
      refine x_tin (tgt := 104) (off := 103) rfl rfl (by decide) (by decide) (by decide) (by decide) ?_
      refine x_call [] rfl rfl rfl rfl rfl rfl rfl (c_reelsThere h.2.2.2.2.2.1 ?_)
      exact x_ret rfl rfl rfl rfl hp
    | 7, _ =>
      refine x_tin (tgt := 109) (off := 108) rfl rfl (by decide) (by decide) (by decide) (by decide) ?_
      refine x_ret rfl rfl rfl rfl ?_
      have hsz : D 36 4 = nI G.past.length := by obtain ⟨nx, sb, q⟩ := h.2.2.2.1; exact q.2.2.2.2.1
      rw [hsz]; exact hp
    | 8, _ =>
      refine x_tin (tgt := 117) (off := 116) rfl rfl (by decide) (by decide) (by decide) (by decide) ?_
      refine x_ret rfl rfl rfl rfl ?_
      rw [h.2.2.1.1]; exact hp
    | 9, _ =>
      refine x_tin (tgt := 125) (off := 124) rfl rfl (by decide) (by decide) (by decide) (by decide) ?_
      refine x_call [] rfl rfl rfl rfl rfl rfl rfl (c_someWell hr ho ?_)
      exact x_ret rfl rfl rfl rfl hp
    | k + 10, h => exact absurd h (by omega)
theorem am_count {x : Int32} (h : RelM D G) (hg : gok G) (hp : post (some (aCount G x)) D) : xRuns Γ (n + 2) hX9_count [xR 0 9 111, xI x] D post := by
  have ho := hg.2.2.1.1
  have hr := h.2.1
  refine x_runs kX9_count (by decide +kernel) rfl ?_
  rw [aCount] at hp
  cases hx : gI x 0 9 with
  | none =>
    rw [hx] at hp
    refine x_tout (tgt := 114) rfl rfl (gI_none hx) (by decide) ?_
    exact x_ret rfl rfl rfl rfl hp
  | some k =>
    rw [hx] at hp
    obtain ⟨f1, f2, f3, f4⟩ := gI_some (by decide) hx
    subst f1
    match k, f3 with
    | 0, _ =>
      refine x_tin (tgt := 56) (off := 55) rfl rfl (by decide) (by decide) (by decide) (by decide) ?_
      refine x_aldN 0 rfl rfl rfl (by omega) rfl ?_
      refine x_ret rfl rfl rfl rfl ?_
      rw [hr.1]; exact hp
    | 1, _ =>
      refine x_tin (tgt := 63) (off := 62) rfl rfl (by decide) (by decide) (by decide) (by decide) ?_
      refine x_aldN (0 + 1) rfl rfl rfl (by omega) rfl ?_
      refine x_ret rfl rfl rfl rfl ?_
      rw [hr.2.1]; exact hp
    | 2, _ =>
      refine x_tin (tgt := 70) (off := 69) rfl rfl (by decide) (by decide) (by decide) (by decide) ?_
      refine x_aldN (0 + 2) rfl rfl rfl (by omega) rfl ?_
      refine x_ret rfl rfl rfl rfl ?_
      rw [hr.2.2.1]; exact hp
    | 3, _ =>
      refine x_tin (tgt := 77) (off := 76) rfl rfl (by decide) (by decide) (by decide) (by decide) ?_
      refine x_aldN (0 + 3) rfl rfl rfl (by omega) rfl ?_
      refine x_ret rfl rfl rfl rfl ?_
      rw [hr.2.2.2.1]; exact hp
    | 4, _ =>
      refine x_tin (tgt := 84) (off := 83) rfl rfl (by decide) (by decide) (by decide) (by decide) ?_
      refine x_call [] rfl rfl rfl rfl rfl rfl rfl (c_mmenWords hr ho ?_)
      exact x_ret rfl rfl rfl rfl hp
    | 5, _ =>
      refine x_tin (tgt := 89) (off := 88) rfl rfl (by decide) (by decide) (by decide) (by decide) ?_
      refine x_ret rfl rfl rfl rfl ?_
      rw [h.2.2.2.2.1.1]; exact hp
    | 6, _ =>
      refine x_tin (tgt := 94) (off := 93) rfl rfl (by decide) (by decide) (by decide) (by decide) ?_
      refine x_call [] rfl rfl rfl rfl rfl rfl rfl (c_mreelsThere h.2.2.2.2.2.1 (fun r s l f q1 q2 => (hg.2.2.2.2.2.2 r s l f q1 q2).2) ?_)
      exact x_ret rfl rfl rfl rfl hp
    | 7, _ =>
      refine x_tin (tgt := 99) (off := 98) rfl rfl (by decide) (by decide) (by decide) (by decide) ?_
      refine x_ret rfl rfl rfl rfl ?_
      rw [h.2.2.2.1.1]; exact hp
    | 8, _ =>
      refine x_tin (tgt := 104) (off := 103) rfl rfl (by decide) (by decide) (by decide) (by decide) ?_
      refine x_ret rfl rfl rfl rfl ?_
      rw [h.2.2.1.1]; exact hp
    | 9, _ =>
      refine x_tin (tgt := 109) (off := 108) rfl rfl (by decide) (by decide) (by decide) (by decide) ?_
      refine x_call [] rfl rfl rfl rfl rfl rfl rfl (c_mallWell hr ho ?_)
      exact x_ret rfl rfl rfl rfl hp
    | k + 10, h => exact absurd h (by omega)
end A7
