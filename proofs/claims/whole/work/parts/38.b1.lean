/-! ===== splice ===== -/
def rSpan (i z : Int32) (l : Nat) : Bool := decide (0 ≤ i.toInt ∧ 0 ≤ z.toInt ∧ i.toInt + z.toInt ≤ (l : Int))
def rSpl (G : gS) (t : Nat) (i j z : Int32) : Option reT → Option reT → Int32 × gS
  | some (s, l, f), some (s2, l2, f2) => if s = s2 then (if rSpan i z l && rSpan j z l2 then (z, gReel G (wuf G.reel t (some (s2, l2, va_cpy f f2 i.toInt.toNat j.toInt.toNat z.toInt.toNat)))) else (-14, G)) else (-13, G)
  | _, _ => (-11, G)
def aSplice (G : gS) (x i y j z : Int32) : Int32 × gS := match gI x 0 2 with
  | none => (-2, G)
  | some r => match gI y 0 2 with
    | none => (-2, G)
    | some t => rSpl G t i j z (G.reel r) (G.reel t)
theorem span_nat {i z : Int32} {l : Nat} (h : rSpan i z l = true) : ∃ a c : Nat, i = nI a ∧ z = nI c ∧ a + c ≤ l ∧ a < 2 ^ 31 ∧ c < 2 ^ 31 := by
  have h := of_decide_eq_true h
  have h0 : (0 : Int32).toInt = 0 := rfl
  obtain ⟨a, ha, rfl⟩ := nI_of (x := i) (fun q => by have := Int32.lt_iff_toInt_lt.mp q; omega)
  obtain ⟨c, hc, rfl⟩ := nI_of (x := z) (fun q => by have := Int32.lt_iff_toInt_lt.mp q; omega)
  rw [nI_toInt ha, nI_toInt hc] at h
  exact ⟨a, c, rfl, rfl, by omega, ha, hc⟩
section B1
variable {Γ : xG} {n : Nat} {D : xM} {post : Option Int32 → xM → Prop} {G : gS} {S : wS}
theorem g_splice {x i y j z : Int32} (hg : gok G) : gok (aSplice G x i y j z).2 := by
  rw [aSplice]
  split
  · exact hg
  · rename_i r hr
    split
    · exact hg
    · rename_i t ht
      have h2 := gI_some (by decide) ht
      rw [rSpl.eq_def]
      split
      · rename_i s l f s2 l2 f2 h3 h4
        split
        · split
          · refine g_reelset hg (reel_one hg.2.2.2.2.2.2 (fun s' l' f' e => ?_))
            cases e
            exact hg.2.2.2.2.2.2 t s2 l2 f2 (by omega) h4
          · exact hg
        · exact hg
      · exact hg
theorem spn_walk {l : Nat} (hl : l ≤ 12) {i z : Int32} (h1 : ¬ i < 0) (h2 : ¬ z < 0) : (0 < lg_cmp (i.toInt64 + z.toInt64) (nI l).toInt64 ↔ rSpan i z l = false) := by
  obtain ⟨a, ha, rfl⟩ := nI_of h1
  obtain ⟨c, hc, rfl⟩ := nI_of h2
  rw [lg_pos, nI_l ha, nI_l hc, nI_l (by omega), lN_add, pk_lLT (by omega) (by omega), rSpan, nI_toInt ha, nI_toInt hc, decide_eq_false_iff_not]
  omega
theorem spn_neg1 {l : Nat} {i z : Int32} (h1 : i < 0) : rSpan i z l = false := by
  have h0 : (0 : Int32).toInt = 0 := rfl
  have := Int32.lt_iff_toInt_lt.mp h1
  rw [rSpan, decide_eq_false_iff_not]; omega
theorem spn_neg2 {l : Nat} {i z : Int32} (h1 : z < 0) : rSpan i z l = false := by
  have h0 : (0 : Int32).toInt = 0 := rfl
  have := Int32.lt_iff_toInt_lt.mp h1
  rw [rSpan, decide_eq_false_iff_not]; omega
theorem c_holds {r l : Nat} {i z : Int32} (hl : l ≤ 12) (q3 : D (104 + 2 * r) 3 = nI l) (hp : post (some (if rSpan i z l then 1 else 0)) D) : xRuns Γ n hX2_holds [xR 0 2 (104 + 2 * r), xI i, xI z] D post := by
  refine x_runs kX2_holds (by decide +kernel) rfl ?_
  refine x0_lt rfl rfl (fun h1 => ?_) (fun h1 => ?_)
  · rw [spn_neg1 h1] at hp
    exact x_ret rfl rfl rfl rfl hp
  · refine x0_lt rfl rfl (fun h2 => ?_) (fun h2 => ?_)
    · rw [spn_neg2 h2] at hp
      exact x_ret rfl rfl rfl rfl hp
    · refine x_to 19 rfl ?_
      rw [q3]
      refine x0_gt rfl rfl (fun h3 => ?_) (fun h3 => ?_)
      · rw [(spn_walk hl h1 h2).mp h3] at hp
        exact x_ret rfl rfl rfl rfl hp
      · have e : rSpan i z l = true := by
          cases q : rSpan i z l with
          | true => rfl
          | false => exact absurd ((spn_walk hl h1 h2).mpr q) h3
        rw [e] at hp
        exact x_goto rfl rfl (x_ret rfl rfl rfl rfl hp)
theorem c_isSpan {r l : Nat} {i z : Int32} (hr : r < 3) (hl : l ≤ 12) (q1 : D 121 r = nI l) (hp : post (some (if rSpan i z l then 1 else 0)) D) : xRuns Γ n hX9_isSpan [xR 0 9 111, xI (nI r), xI i, xI z] D post := by
  refine x_runs kX9_isSpan (by decide +kernel) rfl ?_
  refine x0_lt rfl rfl (fun h1 => ?_) (fun h1 => ?_)
  · rw [spn_neg1 h1] at hp
    exact x_ret rfl rfl rfl rfl hp
  · refine x0_lt rfl rfl (fun h2 => ?_) (fun h2 => ?_)
    · rw [spn_neg2 h2] at hp
      exact x_ret rfl rfl rfl rfl hp
    · refine x_aldN r rfl rfl rfl (by omega) rfl ?_
      rw [q1]
      refine x0_gt rfl rfl (fun h3 => ?_) (fun h3 => ?_)
      · rw [(spn_walk hl h1 h2).mp h3] at hp
        exact x_ret rfl rfl rfl rfl hp
      · have e : rSpan i z l = true := by
          cases q : rSpan i z l with
          | true => rfl
          | false => exact absurd ((spn_walk hl h1 h2).mpr q) h3
        rw [e] at hp
        exact x_goto rfl rfl (x_ret rfl rfl rfl rfl hp)
theorem a_splice {x i y j z : Int32} (h : RelC D G) (hg : gok G) (hp : ∀ D', RelC D' (aSplice G x i y j z).2 → (∀ a, 111 ≤ a → D' a = D a) → post (some (aSplice G x i y j z).1) D') : xRuns Γ (n + 2) hX8_splice [xR 0 8 0, xI x, xI i, xI y, xI j, xI z] D post := by
  have hl := hg.2.2.2.2.2.2
  refine x_runs kX8_splice (by decide +kernel) rfl ?_
  rw [aSplice] at hp
  refine x_scall [xI x] rfl rfl rfl rfl rfl rfl rfl (c_noReel ?_)
  rcases hx_r : gI x 0 2 with _ | r
  · rw [hx_r] at hp
    refine x0_ne rfl rfl (fun _ => ?_) (fun h => absurd h (by decide))
    exact x_ret rfl rfl rfl rfl (hp D h (fun _ _ => rfl))
  rw [hx_r] at hp
  dsimp only at hp
  obtain ⟨e1_r, e2_r, e3_r, e4_r⟩ := gI_some (by decide) hx_r
  subst e1_r
  have h_r : r < 3 := by omega
  refine x0_ne rfl rfl (fun h => absurd rfl h) (fun _ => ?_)
  refine x_scall [xI y] rfl rfl rfl rfl rfl rfl rfl (c_noReel ?_)
  rcases hx_t : gI y 0 2 with _ | t
  · rw [hx_t] at hp
    refine x0_eq rfl rfl (fun h => absurd h (by decide)) (fun _ => ?_)
    exact x_ret rfl rfl rfl rfl (hp D h (fun _ _ => rfl))
  rw [hx_t] at hp
  dsimp only at hp
  obtain ⟨e1_t, e2_t, e3_t, e4_t⟩ := gI_some (by decide) hx_t
  subst e1_t
  have h_t : t < 3 := by omega
  refine x0_eq rfl rfl (fun _ => ?_) (fun h => absurd rfl h)
  have h1 := h.2.2.2.2.2.1 r h_r
  have h2 := h.2.2.2.2.2.1 t h_t
  refine x_rldN r rfl rfl rfl (by omega) rfl ?_
  refine x_rldN t rfl rfl rfl (by omega) rfl ?_
  rcases hq : G.reel r with _ | ⟨s, l, f⟩
  · rw [hq] at h1 hp
    refine x0_eq rfl rfl (fun _ => ?_) (fun q => absurd h1 q)
    exact x_ret rfl rfl rfl rfl (hp D h (fun _ _ => rfl))
  · have hl1 := hl r s l f h_r hq
    rw [hq] at h1 hp
    obtain ⟨q1, q2, q3, q4⟩ := h1
    refine x0_eq rfl rfl (fun q => absurd (q1.symm.trans q) (by decide)) (fun _ => ?_)
    rcases hq2 : G.reel t with _ | ⟨s2, l2, f2⟩
    · rw [hq2] at h2 hp
      refine x0_ne rfl rfl (fun q => absurd h2 q) (fun _ => ?_)
      exact x_ret rfl rfl rfl rfl (hp D h (fun _ _ => rfl))
    · have hl2 := hl t s2 l2 f2 h_t hq2
      rw [hq2] at h2 hp
      obtain ⟨p1, p2, p3, p4⟩ := h2
      refine x0_ne rfl rfl (fun _ => ?_) (fun q => absurd (p1.symm.trans q) (by decide))
      rw [rSpl] at hp
      refine xi_eqN s s2 rfl rfl q2 p2 (by omega) (by omega) (fun h5 => ?_) (fun h5 => ?_)
      · rw [if_pos h5] at hp
        refine x_call [xI i, xI z] rfl rfl rfl rfl rfl rfl rfl (c_holds hl1.2 q3 ?_)
        cases hs1 : rSpan i z l with
        | false =>
          rw [hs1] at hp
          refine x0_eq rfl rfl (fun _ => ?_) (fun h => absurd rfl h)
          exact x_ret rfl rfl rfl rfl (hp D h (fun _ _ => rfl))
        | true =>
          rw [hs1] at hp
          refine x0_eq rfl rfl (fun h => absurd h (by decide)) (fun _ => ?_)
          refine x_call [xI j, xI z] rfl rfl rfl rfl rfl rfl rfl (c_holds hl2.2 p3 ?_)
          cases hs2 : rSpan j z l2 with
          | false =>
            rw [hs2] at hp
            refine x0_ne rfl rfl (fun h => absurd rfl h) (fun _ => ?_)
            exact x_ret rfl rfl rfl rfl (hp D h (fun _ _ => rfl))
          | true =>
            rw [hs2] at hp
            refine x0_ne rfl rfl (fun _ => ?_) (fun h => absurd h (by decide))
            obtain ⟨a, c, ea, ec, hac, ha, hc⟩ := span_nat hs1
            obtain ⟨b, c2, eb, ec2, hbc, hb, hc2⟩ := span_nat hs2
            have hcc : c2 = c := (nI_eq hc2 hc).mp (ec2.symm.trans ec)
            subst hcc
            subst ea eb ec
            refine x_copy (st' := []) rfl rfl (nI_pos ha) (nI_pos hb) (nI_pos hc) (by rw [nI_clamp ha, nI_clamp hc]; omega) (by rw [nI_clamp hb, nI_clamp hc]; omega) rfl ?_
            refine x_ret rfl rfl rfl rfl ?_
            rw [nI_clamp ha, nI_clamp hb, nI_clamp hc]
            rw [nI_toInt ha, nI_toInt hb, nI_toInt hc, Int.toNat_natCast, Int.toNat_natCast, Int.toNat_natCast] at hp
            have e5 : ∀ r, xR0 + 2 * r + 1 = 105 + 2 * r := fun r => by show 104 + 2 * r + 1 = _; omega
            rw [e5, e5]
            refine hp _ (RelC_reel h (cRe_one h.2.2.2.2.2.1 h_t ⟨by rw [xcp_ne (by omega)]; exact p1, by rw [xcp_ne (by omega)]; exact p2, by rw [xcp_ne (by omega)]; exact p3, fun k hk => ?_⟩ (fun a q1 q2 => xcp_ne q2)) (fun a ha => xcp_ne (by omega))) (fun a ha => xcp_ne (by omega))
            rw [xcp_at]
            by_cases hin : b ≤ k ∧ k < b + c2
            · rw [pk_cpy_in hin.1 hin.2, pk_cpy_in hin.1 hin.2]
              exact q4 _ (by omega)
            · rw [pk_cpy_out (by omega), pk_cpy_out (by omega)]
              exact p4 k hk
      · rw [if_neg h5] at hp
        exact x_ret rfl rfl rfl rfl (hp D h (fun _ _ => rfl))
theorem am_splice {x i y j z : Int32} (h : RelM D G) (hg : gok G) (hp : ∀ D', RelM D' (aSplice G x i y j z).2 → (∀ a, a < 111 → D' a = D a) → post (some (aSplice G x i y j z).1) D') : xRuns Γ (n + 2) hX9_splice [xR 0 9 111, xI x, xI i, xI y, xI j, xI z] D post := by
  have hl := hg.2.2.2.2.2.2
  refine x_runs kX9_splice (by decide +kernel) rfl ?_
  rw [aSplice] at hp
  refine x_scall [xI x] rfl rfl rfl rfl rfl rfl rfl (c_isReel ?_)
  rcases hx_r : gI x 0 2 with _ | r
  · rw [hx_r] at hp
    refine x0_eq rfl rfl (fun _ => ?_) (fun h => absurd rfl h)
    exact x_ret rfl rfl rfl rfl (hp D h (fun _ _ => rfl))
  rw [hx_r] at hp
  dsimp only at hp
  obtain ⟨e1_r, e2_r, e3_r, e4_r⟩ := gI_some (by decide) hx_r
  subst e1_r
  have h_r : r < 3 := by omega
  refine x0_eq rfl rfl (fun h => absurd h (by simp)) (fun _ => ?_)
  refine x_scall [xI y] rfl rfl rfl rfl rfl rfl rfl (c_isReel ?_)
  rcases hx_t : gI y 0 2 with _ | t
  · rw [hx_t] at hp
    refine x0_ne rfl rfl (fun h => absurd rfl h) (fun _ => ?_)
    exact x_ret rfl rfl rfl rfl (hp D h (fun _ _ => rfl))
  rw [hx_t] at hp
  dsimp only at hp
  obtain ⟨e1_t, e2_t, e3_t, e4_t⟩ := gI_some (by decide) hx_t
  subst e1_t
  have h_t : t < 3 := by omega
  refine x0_ne rfl rfl (fun _ => ?_) (fun h => absurd h (by simp))
  have h1 := h.2.2.2.2.2.1 r h_r
  have h2 := h.2.2.2.2.2.1 t h_t
  refine x_aldN r rfl rfl rfl (by omega) rfl ?_
  rcases hq : G.reel r with _ | ⟨s, l, f⟩
  · rw [hq] at h1 hp
    dsimp only at h1
    rw [h1]
    refine x0_lt rfl rfl (fun _ => ?_) (fun q => absurd (by decide) q)
    exact x_ret rfl rfl rfl rfl (hp D h (fun _ _ => rfl))
  · have hl1 := hl r s l f h_r hq
    rw [hq] at h1 hp
    obtain ⟨q1, q2, q3⟩ := h1
    refine x0_lt rfl rfl (fun q => absurd (q1 ▸ q) (nI_pos (by omega))) (fun _ => ?_)
    refine x_aldN t rfl rfl rfl (by omega) rfl ?_
    rcases hq2 : G.reel t with _ | ⟨s2, l2, f2⟩
    · rw [hq2] at h2 hp
      dsimp only at h2
      rw [h2]
      refine x0_ge rfl rfl (fun q => absurd q (by decide)) (fun _ => ?_)
      exact x_ret rfl rfl rfl rfl (hp D h (fun _ _ => rfl))
    · have hl2 := hl t s2 l2 f2 h_t hq2
      rw [hq2] at h2 hp
      obtain ⟨p1, p2, p3⟩ := h2
      refine x0_ge rfl rfl (fun _ => ?_) (fun q => absurd (p1 ▸ nI_pos' (by omega)) q)
      rw [rSpl] at hp
      refine x_aldN r rfl rfl rfl (by omega) rfl ?_
      refine x_aldN t rfl rfl rfl (by omega) rfl ?_
      refine xi_eqN s s2 rfl rfl q2 p2 (by omega) (by omega) (fun h5 => ?_) (fun h5 => ?_)
      · rw [if_pos h5] at hp
        refine x_call [xI (nI r), xI i, xI z] rfl rfl rfl rfl rfl rfl rfl (c_isSpan h_r hl1.2 q1 ?_)
        cases hs1 : rSpan i z l with
        | false =>
          rw [hs1] at hp
          refine x0_eq rfl rfl (fun _ => ?_) (fun h => absurd rfl h)
          exact x_ret rfl rfl rfl rfl (hp D h (fun _ _ => rfl))
        | true =>
          rw [hs1] at hp
          refine x0_eq rfl rfl (fun h => absurd h (by decide)) (fun _ => ?_)
          refine x_call [xI (nI t), xI j, xI z] rfl rfl rfl rfl rfl rfl rfl (c_isSpan h_t hl2.2 p1 ?_)
          cases hs2 : rSpan j z l2 with
          | false =>
            rw [hs2] at hp
            refine x0_ne rfl rfl (fun h => absurd rfl h) (fun _ => ?_)
            exact x_ret rfl rfl rfl rfl (hp D h (fun _ _ => rfl))
          | true =>
            rw [hs2] at hp
            refine x0_ne rfl rfl (fun _ => ?_) (fun h => absurd h (by decide))
            obtain ⟨a, c, ea, ec, hac, ha, hc⟩ := span_nat hs1
            obtain ⟨b, c2, eb, ec2, hbc, hb, hc2⟩ := span_nat hs2
            have hcc : c2 = c := (nI_eq hc2 hc).mp (ec2.symm.trans ec)
            subst hcc
            subst ea eb ec
            rw [nI_toInt ha, nI_toInt hb, nI_toInt hc, Int.toNat_natCast, Int.toNat_natCast, Int.toNat_natCast] at hp
            have ix : ∀ r a k, xnum 12 * nI r + nI a + nI k = nI (12 * r + a + k) := fun r a k => by
              show nI 12 * nI r + nI a + nI k = _
              rw [pk_mul, nI_add, nI_add]
            refine x_to 85 rfl ?_
            have loop2 : ∀ (g k : Nat) (D1 : xM), k + g = c2 → (∀ k, k < c2 → D1 143 k = f (a + k)) → (∀ a, a ≠ 123 → a ≠ 143 → D1 a = D a) → (∀ m, D1 123 m = if 12 * t + b ≤ m ∧ m < 12 * t + b + k then f (a + (m - (12 * t + b))) else D 123 m) → xW Γ (n + 2) hX9_splice rX9_splice 122 [some (xR 0 9 111), some (xI (nI r)), some (xI (nI a)), some (xI (nI t)), some (xI (nI b)), some (xI (nI c2)), some (xI (nI k))] [] D1 post := by
              intro g
              induction g with
              | zero =>
                intro k D1 hk k1 k2 k3
                obtain rfl : k = c2 := by omega
                refine xi_geN k k rfl rfl rfl rfl (by omega) (by omega) (fun _ => ?_) (fun h => absurd h (by omega))
                refine x_ret rfl rfl rfl rfl ?_
                refine hp D1 (RelM_reel h hg (mRe_one h.2.2.2.2.2.1 h_t ⟨by rw [k2 121 (by omega) (by omega)]; exact p1, by rw [k2 122 (by omega) (by omega)]; exact p2, fun m hm => ?_⟩ (fun j _ => by rw [k2 121 (by omega) (by omega)]) (fun j _ => by rw [k2 122 (by omega) (by omega)]) (fun r' m q1 q2 => by rw [k3, if_neg (by omega)])) (fun a ha hb => k2 a (by omega) hb)) (fun a ha => k2 a (by omega) (by omega))
                rw [k3]
                by_cases hin : b ≤ m ∧ m < b + k
                · rw [if_pos (by omega), pk_cpy_in hin.1 hin.2]
                  exact congrArg f (by omega)
                · rw [if_neg (by omega), pk_cpy_out (by omega)]
                  exact p3 m hm
              | succ g ih =>
                intro k D1 hk k1 k2 k3
                refine xi_geN k c2 rfl rfl rfl rfl (by omega) (by omega) (fun h => absurd h (by omega)) (fun h6 => ?_)
                refine x_aldN k rfl rfl rfl (by omega) rfl ?_
                refine x_astN (12 * t + b + k) rfl rfl (ix t b k) (by omega) rfl ?_
                have IH := ih (k + 1) (xup D1 123 (12 * t + b + k) (D1 143 k)) (by omega) (fun m hm => by rw [xup_o (by omega)]; exact k1 m hm) (fun a q1 q2 => by rw [xup_ne a q1]; exact k2 a q1 q2) (fun m => by
                  by_cases em : m = 12 * t + b + k
                  · subst em
                    rw [xup_at, if_pos (by omega), k1 k h6]
                    exact congrArg f (by omega)
                  · rw [xup_o (by omega), k3]
                    by_cases hin : 12 * t + b ≤ m ∧ m < 12 * t + b + k
                    · rw [if_pos hin, if_pos (by omega)]
                    · rw [if_neg hin, if_neg (by omega)])
                rw [← nI_1] at IH
                exact x_goto rfl rfl IH
            have loop1 : ∀ (g k : Nat) (D1 : xM), k + g = c2 → (∀ m, m < k → D1 143 m = f (a + m)) → (∀ a, a ≠ 143 → D1 a = D a) → xW Γ (n + 2) hX9_splice rX9_splice 85 [some (xR 0 9 111), some (xI (nI r)), some (xI (nI a)), some (xI (nI t)), some (xI (nI b)), some (xI (nI c2)), some (xI (nI k))] [] D1 post := by
              intro g
              induction g with
              | zero =>
                intro k D1 hk k1 k2
                obtain rfl : k = c2 := by omega
                refine xi_geN k k rfl rfl rfl rfl (by omega) (by omega) (fun _ => ?_) (fun h => absurd h (by omega))
                refine x_to 122 rfl ?_
                exact loop2 k 0 D1 (by omega) k1 (fun a _ q => k2 a q) (fun m => by rw [if_neg (by omega), k2 123 (by omega)])
              | succ g ih =>
                intro k D1 hk k1 k2
                refine xi_geN k c2 rfl rfl rfl rfl (by omega) (by omega) (fun h => absurd h (by omega)) (fun h6 => ?_)
                refine x_aldN (12 * r + a + k) rfl rfl (ix r a k) (by omega) rfl ?_
                refine x_astN k rfl rfl rfl (by omega) rfl ?_
                have ev : D1 123 (12 * r + a + k) = f (a + k) := by
                  rw [k2 123 (by omega), Nat.add_assoc]
                  exact q3 (a + k) (by omega)
                rw [ev]
                have IH := ih (k + 1) (xup D1 143 k (f (a + k))) (by omega) (fun m hm => by
                  by_cases em : m = k
                  · subst em; rw [xup_at]
                  · rw [xup_o (by omega)]; exact k1 m (by omega)) (fun a q => by rw [xup_ne a q]; exact k2 a q)
                rw [← nI_1] at IH
                exact x_goto rfl rfl IH
            exact loop1 c2 0 D (by omega) (fun m hm => absurd hm (by omega)) (fun _ _ => rfl)
      · rw [if_neg h5] at hp
        exact x_ret rfl rfl rfl rfl (hp D h (fun _ _ => rfl))
end B1
