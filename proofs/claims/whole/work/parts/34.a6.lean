/-! ===== seen, forget, kinds, count ===== -/
abbrev seT : Type := Nat × Nat × Option Nat
def gSeen (G : gS) (s : List seT) : gS := gmk G.tx G.tg G.told G.now G.past G.kept s G.reel
def aSeen (G : gS) (x y z : Int32) : Int32 × gS := match gI x 0 3 with
  | none => (-2, G)
  | some p => match gO z 9 with
    | none => (-2, G)
    | some o => match gI y 0 9 with
      | none => (-3, G)
      | some i => if 6 ≤ G.seen.length then (-5, G) else (nI (G.seen.length + 1), gSeen G (G.seen ++ [(p, i, o)]))
def aForget (G : gS) : Int32 × gS := (nI G.seen.length, gSeen G [])
def pAg (seen : List seT) (sp : Nat → List Nat) (j : Nat) : Bool := match seen[j]? with
  | none => true
  | some q => decide ((sp q.1)[q.2.1]? = q.2.2)
def wAgree (seen : List seT) (sp : Nat → List Nat) : Bool := (List.range seen.length).all (pAg seen sp)
abbrev wKd (S : wS) (b k : Nat) : wS := wmk S.B S.M S.E S.C (wuf S.kd b k) S.pe S.K S.ha S.bi
theorem wok_kd {S : wS} {b k : Nat} (ho : wok S) (hk : k < 5) : wok (wKd S b k) := by
  obtain ⟨o1, o2, o3, o4, o5, o6, o7, o8, o9, o10⟩ := ho
  refine ⟨o1, o2, o3, o4, fun c hc => ?_, o6, o7, o8, o9, o10⟩
  show wuf S.kd b k c < 5
  simp only [wuf]
  split
  · exact hk
  · exact o5 c hc
def aKinds (G : gS) (x : Int32) : Int32 := match gI x 0 ((G.now.B : Int) - 1) with
  | none => -2
  | some b => nI (wbits (fun k => wAgree G.seen (wSaid (wKd G.now b k))) 5)
def aCount (G : gS) (x : Int32) : Int32 := match gI x 0 9 with
  | none => -3
  | some 0 => nI G.now.B
  | some 1 => nI G.now.M
  | some 2 => nI G.now.E
  | some 3 => nI G.now.C
  | some 4 => nI (wSum (fun m => wCnt (G.now.ha m)) G.now.M)
  | some 5 => nI G.seen.length
  | some 6 => nI (wSum (fun r => if (G.reel r).isSome then 1 else 0) 3)
  | some 7 => nI G.past.length
  | some 8 => nI G.tx.length
  | some _ => nI (wbits (fun k => (List.range G.now.B).any fun b => decide (5 ≤ G.now.K b k)) 10)
theorem all_succ (p : Nat → Bool) (i : Nat) : (List.range (i + 1)).all p = ((List.range i).all p && p i) := by
  rw [List.range_succ, List.all_append]; simp
theorem all_false {p : Nat → Bool} {i n : Nat} (hi : i < n) (h : p i = false) : (List.range n).all p = false := by
  cases hq : (List.range n).all p with
  | false => rfl
  | true => rw [List.all_eq_true.mp hq i (List.mem_range.mpr hi)] at h; cases h
theorem rM_kd {D : xM} {o : Nat} {S : wS} {i v : Nat} (h : rM D o S) (hB : S.B ≤ 8) (hM : S.M ≤ 4) (hi : i < S.B) : rM (xup D 112 (o + 4 + i) (nI v)) o (wKd S i v) := by
  obtain ⟨h1, h2, h3, h4, h5, h6, h7, h8, h9⟩ := h
  refine ⟨by rw [xup_o (by omega)]; exact h1, by rw [xup_o (by omega)]; exact h2, by rw [xup_o (by omega)]; exact h3, by rw [xup_o (by omega)]; exact h4, fun b hb => ?_, fun b hb => ?_, fun b k hb hk => ?_, fun m hm => ?_, fun m hm => ?_⟩
  · have hb' : b < S.B := hb
    show _ = nI (wuf S.kd i v b)
    by_cases e : b = i
    · subst e; rw [xup_at]; simp [wuf]
    · rw [xup_o (by omega), h5 b hb]; simp [wuf, e]
  · have : b < S.B := hb
    rw [xup_o (by omega)]; exact h6 b hb
  · have : b < S.B := hb
    rw [xup_o (by omega)]; exact h7 b k hb hk
  · have : m < S.M := hm
    rw [xup_o (by omega)]; exact h8 m hm
  · have : m < S.M := hm
    rw [xup_o (by omega)]; exact h9 m hm
section A6
variable {Γ : xG} {n : Nat} {D : xM} {post : Option Int32 → xM → Prop} {G : gS} {S : wS}
theorem g_seen {x y z : Int32} (hg : gok G) : gok (aSeen G x y z).2 := by
  obtain ⟨g1, g2, g3, g4, g5, g6, g7⟩ := id hg
  rw [aSeen]
  split
  · exact hg
  · rename_i p hx
    split
    · exact hg
    · rename_i o ho
      split
      · exact hg
      · rename_i i hi
        split
        · exact hg
        · have q1 := gI_some (by decide) hx
          have q2 := gI_some (by decide) hi
          have q3 := gO_b ho
          refine ⟨g1, g2, g3, g4, g5, ⟨by show (G.seen ++ [(p, i, o)]).length ≤ 6; rw [List.length_append]; simp; omega, fun q hq => ?_⟩, g7⟩
          rcases List.mem_append.mp hq with e | e
          · exact g6.2 q e
          · rw [List.mem_singleton.mp e]
            exact ⟨by show p < 4; omega, by show i < 10; omega, fun v hv => by have := q3.2 v hv; omega⟩
theorem g_forget (hg : gok G) : gok (aForget G).2 := by
  obtain ⟨g1, g2, g3, g4, g5, g6, g7⟩ := id hg
  exact ⟨g1, g2, g3, g4, g5, ⟨Nat.zero_le _, fun c hc => absurd hc (by intro z; cases z)⟩, g7⟩
theorem se_add {f : Nat → Int32} {α : Type} {s : List seT} {q : seT} (g : seT → Int32) (h : ∀ j, (hj : j < s.length) → f j = g s[j]) (hq : f s.length = g q) : ∀ j, (hj : j < (s ++ [q]).length) → f j = g (s ++ [q])[j] := by
  intro j hj
  by_cases e : j < s.length
  · rw [List.getElem_append_left e]; exact h j e
  · have : j = s.length := by rw [List.length_append] at hj; simp at hj; omega
    subst this
    rw [List.getElem_append_right (Nat.le_refl _)]
    simp
    exact hq
theorem RelC_seen {D' : xM} {s : List seT} (h : RelC D G) (hh : cSe D' s) (e : ∀ a, (a < 99 ∨ 102 < a) → D' a = D a) : RelC D' (gSeen G s) := by
  obtain ⟨h1, h2, h3, h4, h5, h6, h7⟩ := h
  exact ⟨rW_out h1 (fun a ha hb => e a (by omega)), rW_out h2 (fun a ha hb => e a (by omega)), cTx_out h3 (by rw [e 1 (by omega)]) (e 2 (by omega)), cHi_out h4 (fun a ha hb => e a (by omega)), hh, cRe_out h6 (fun a ha hb => e a (by omega)), cTg_out h7 (by rw [e 10 (by omega)]) (e 11 (by omega)) (e 12 (by omega))⟩
theorem RelM_seen {D' : xM} {s : List seT} (h : RelM D G) (hg : gok G) (hh : mSe D' s) (e : ∀ a j, ¬ (a = 111 ∧ j = 5) → (a < 115 ∨ 117 < a) → D' a j = D a j) : RelM D' (gSeen G s) := by
  obtain ⟨⟨h1, h1z⟩, h2, h3, h4, h5, h6, h7, h8⟩ := h
  obtain ⟨g1, g2, g3, g4, g5, g6, g7⟩ := hg
  have ef : ∀ a, a ≠ 111 → (a < 115 ∨ 117 < a) → D' a = D a := fun a ha hb => funext fun j => e a j (by omega) hb
  have e1 : ∀ j, j ≠ 5 → D' 111 j = D 111 j := fun j hj => e 111 j (by omega) (by omega)
  have e112 := ef 112 (by omega) (by omega)
  exact ⟨⟨rM_out h1 g2.1 g2.2.1 (fun j q1 q2 => by rw [e112]), mZ_out h1z (fun j _ _ => by rw [e112]) (fun a ha hb => ef a (by omega) (by omega))⟩, rM_out h2 g3.1.1 g3.1.2.1 (fun j _ _ => by rw [e112]), mTx_out h3 (e1 4 (by omega)) (ef 114 (by omega) (by omega)), mHi_out h4 g4.1 (fun S hS => (g4.2 S hS).1) (fun k S hk hS => (g5 k S hk hS).1) (e1 1 (by omega)) (fun j _ _ => by rw [e112]) (ef 113 (by omega) (by omega)), hh, mRe_out h6 (fun a ha hb => ef a (by omega) (by omega)), mTg_out h7 (e1 9 (by omega)) (ef 118 (by omega) (by omega)) (ef 119 (by omega) (by omega)) (ef 120 (by omega) (by omega)), mSp_out h8 (ef 138 (by omega) (by omega)) (ef 139 (by omega) (by omega))⟩
theorem a_seen {x y z : Int32} (h : RelC D G) (hg : gok G) (hp : ∀ D', RelC D' (aSeen G x y z).2 → (∀ a, 111 ≤ a → D' a = D a) → post (some (aSeen G x y z).1) D') : xRuns Γ (n + 2) hX8_seen [xR 0 8 0, xI x, xI y, xI z] D post := by
  have hse := h.2.2.2.2.1
  have hl := hg.2.2.2.2.2.1.1
  refine x_runs kX8_seen (by decide +kernel) rfl ?_
  rw [aSeen] at hp
  refine x_scall [xI x] rfl rfl rfl rfl rfl rfl rfl (c_noPerch ?_)
  rcases hx_p : gI x 0 3 with _ | p
  · rw [hx_p] at hp
    refine x0_ne rfl rfl (fun _ => ?_) (fun h => absurd h (by decide))
    exact x_ret rfl rfl rfl rfl (hp D h (fun _ _ => rfl))
  rw [hx_p] at hp
  dsimp only at hp
  obtain ⟨e1_p, e2_p, e3_p, e4_p⟩ := gI_some (by decide) hx_p
  subst e1_p
  have h_p : p < 4 := by omega
  refine x0_ne rfl rfl (fun h => absurd rfl h) (fun _ => ?_)
  have go : ∀ o, gO z 9 = some o → xW Γ (n + 2) hX8_seen rX8_seen 22 [some (xR 0 8 0), some (xI (nI p)), some (xI y), some (xI z)] [] D post := by
    intro o hq
    rw [hq] at hp
    dsimp only at hp
    obtain ⟨ez, hb⟩ := gO_b hq
    subst ez
    refine x_scall [xI y, xI (nI 0), xI (nI 9)] rfl rfl rfl rfl rfl rfl rfl (c_isNot (lo := 0) (hi := 9) (by decide) (by decide) ?_)
    rcases hx_i : gI y 0 9 with _ | i
    · rw [hx_i] at hp
      refine x0_eq rfl rfl (fun h => absurd h (by decide)) (fun _ => ?_)
      exact x_ret rfl rfl rfl rfl (hp D h (fun _ _ => rfl))
    rw [hx_i] at hp
    dsimp only at hp
    obtain ⟨e1_i, e2_i, e3_i, e4_i⟩ := gI_some (by decide) hx_i
    subst e1_i
    have h_i : i < 10 := by omega
    refine x0_eq rfl rfl (fun _ => ?_) (fun h => absurd rfl h)
    refine xi_ltN G.seen.length 6 rfl rfl hse.1 rfl (by omega) (by omega) (fun h2 => ?_) (fun h2 => ?_)
    · rw [if_neg (by omega)] at hp
      refine x_call [xI (nI p), xI (nI i), xI (xby o)] rfl rfl rfl rfl rfl rfl rfl ?_
      refine x_runs kX3_add (by decide +kernel) rfl ?_
      refine x_astN G.seen.length rfl rfl hse.1 (by omega) rfl ?_
      refine x_astN G.seen.length rfl rfl hse.1 (by omega) rfl ?_
      refine x_astN G.seen.length rfl rfl hse.1 (by omega) rfl ?_
      refine x_vret rfl rfl rfl ?_
      refine x_ret rfl rfl rfl rfl ?_
      rw [xup_at]
      have e1 : xup (xup (xup D 100 G.seen.length (nI p)) 101 G.seen.length (nI i)) 102 G.seen.length (xby o) 99 3 + xnum 1 = nI (G.seen.length + 1) := by
        rw [xup_o (by omega), xup_o (by omega), xup_o (by omega), hse.1]
        exact nI_1 _
      rw [e1]
      refine hp _ (RelC_seen h ⟨by rw [xup_at, List.length_append]; rfl, fun j hj => ⟨?_, ?_, ?_⟩⟩ (fun a ha => by rw [xup_ne a (by omega), xup_ne a (by omega), xup_ne a (by omega), xup_ne a (by omega)])) (fun a ha => by rw [xup_ne a (by omega), xup_ne a (by omega), xup_ne a (by omega), xup_ne a (by omega)])
      · rw [xup_ne 100 (by omega), xup_ne 100 (by omega), xup_ne 100 (by omega)]
        exact se_add (α := Nat) (fun q : seT => nI q.1) (fun j hj => by rw [xup_o (by omega)]; exact (hse.2 j hj).1) xup_at j hj
      · rw [xup_ne 101 (by omega), xup_ne 101 (by omega)]
        exact se_add (α := Nat) (fun q : seT => nI q.2.1) (fun j hj => by rw [xup_o (by omega), xup_o (by omega)]; exact (hse.2 j hj).2.1) xup_at j hj
      · rw [xup_ne 102 (by omega)]
        exact se_add (α := Nat) (fun q : seT => xby q.2.2) (fun j hj => by rw [xup_o (by omega), xup_o (by omega), xup_o (by omega)]; exact (hse.2 j hj).2.2) xup_at j hj
    · rw [if_pos (by omega)] at hp
      exact x_ret rfl rfl rfl rfl (hp D h (fun _ _ => rfl))
  refine xi_eq rfl rfl (fun (h2 : z = -1) => go none (by rw [gO, if_pos h2])) (fun (h2 : ¬ z = -1) => ?_)
  refine x_scall [xI z] rfl rfl rfl rfl rfl rfl rfl (c_noWord ?_)
  rcases hy : gI z 0 9 with _ | b
  · have e : gO z 9 = none := by rw [gO, if_neg h2, hy]
    rw [e] at hp
    refine x0_eq rfl rfl (fun h => absurd h (by decide)) (fun _ => ?_)
    exact x_ret rfl rfl rfl rfl (hp D h (fun _ _ => rfl))
  · refine x0_eq rfl rfl (fun _ => ?_) (fun h => absurd rfl h)
    exact go (some b) (by rw [gO, if_neg h2, hy])
theorem am_seen {x y z : Int32} (h : RelM D G) (hg : gok G) (hp : ∀ D', RelM D' (aSeen G x y z).2 → (∀ a, a < 111 → D' a = D a) → post (some (aSeen G x y z).1) D') : xRuns Γ (n + 2) hX9_seen [xR 0 9 111, xI x, xI y, xI z] D post := by
  have hse := h.2.2.2.2.1
  have hl := hg.2.2.2.2.2.1.1
  refine x_runs kX9_seen (by decide +kernel) rfl ?_
  rw [aSeen] at hp
  refine x_scall [xL x.toInt64, xL (Int64.ofNat 0), xL (Int64.ofNat 3)] rfl rfl rfl rfl rfl rfl rfl (c_inI (lo := 0) (hi := 3) (by decide) (by decide) ?_)
  rcases hx_p : gI x 0 3 with _ | p
  · rw [hx_p] at hp
    refine x0_eq rfl rfl (fun _ => ?_) (fun h => absurd rfl h)
    exact x_ret rfl rfl rfl rfl (hp D h (fun _ _ => rfl))
  rw [hx_p] at hp
  dsimp only at hp
  obtain ⟨e1_p, e2_p, e3_p, e4_p⟩ := gI_some (by decide) hx_p
  subst e1_p
  have h_p : p < 4 := by omega
  refine x0_eq rfl rfl (fun h => absurd h (by simp)) (fun _ => ?_)
  have go : ∀ o, gO z 9 = some o → xW Γ (n + 2) hX9_seen rX9_seen 27 [some (xR 0 9 111), some (xI (nI p)), some (xI y), some (xI z)] [] D post := by
    intro o hq
    rw [hq] at hp
    dsimp only at hp
    obtain ⟨ez, hb⟩ := gO_b hq
    subst ez
    refine x_scall [xL y.toInt64, xL (Int64.ofNat 0), xL (Int64.ofNat 9)] rfl rfl rfl rfl rfl rfl rfl (c_inI (lo := 0) (hi := 9) (by decide) (by decide) ?_)
    rcases hx_i : gI y 0 9 with _ | i
    · rw [hx_i] at hp
      refine x0_ne rfl rfl (fun h => absurd rfl h) (fun _ => ?_)
      exact x_ret rfl rfl rfl rfl (hp D h (fun _ _ => rfl))
    rw [hx_i] at hp
    dsimp only at hp
    obtain ⟨e1_i, e2_i, e3_i, e4_i⟩ := gI_some (by decide) hx_i
    subst e1_i
    have h_i : i < 10 := by omega
    refine x0_ne rfl rfl (fun _ => ?_) (fun h => absurd h (by simp))
    refine xi_neN G.seen.length 6 rfl rfl hse.1 rfl (by omega) (by omega) (fun h2 => ?_) (fun h2 => ?_)
    · rw [if_neg (by omega)] at hp
      refine x_astN G.seen.length rfl rfl hse.1 (by omega) rfl ?_
      refine x_astN G.seen.length rfl rfl hse.1 (by omega) rfl ?_
      refine x_astN G.seen.length rfl rfl hse.1 (by omega) rfl ?_
      refine x_ret rfl rfl rfl rfl ?_
      rw [xup_at]
      have e1 : xup (xup (xup D 115 G.seen.length (nI p)) 116 G.seen.length (nI i)) 117 G.seen.length (xby o) 111 5 + xnum 1 = nI (G.seen.length + 1) := by
        rw [xup_o (by omega), xup_o (by omega), xup_o (by omega), hse.1]
        exact nI_1 _
      rw [e1]
      refine hp _ (RelM_seen h hg ⟨by rw [xup_at, List.length_append]; rfl, fun j hj => ⟨?_, ?_, ?_⟩⟩ (fun a j ha hb => by rw [xup_o (by omega), xup_o (by omega), xup_o (by omega), xup_o (by omega)])) (fun a ha => by rw [xup_ne a (by omega), xup_ne a (by omega), xup_ne a (by omega), xup_ne a (by omega)])
      · rw [xup_ne 115 (by omega), xup_ne 115 (by omega), xup_ne 115 (by omega)]
        exact se_add (α := Nat) (fun q : seT => nI q.1) (fun j hj => by rw [xup_o (by omega)]; exact (hse.2 j hj).1) xup_at j hj
      · rw [xup_ne 116 (by omega), xup_ne 116 (by omega)]
        exact se_add (α := Nat) (fun q : seT => nI q.2.1) (fun j hj => by rw [xup_o (by omega), xup_o (by omega)]; exact (hse.2 j hj).2.1) xup_at j hj
      · rw [xup_ne 117 (by omega)]
        exact se_add (α := Nat) (fun q : seT => xby q.2.2) (fun j hj => by rw [xup_o (by omega), xup_o (by omega), xup_o (by omega)]; exact (hse.2 j hj).2.2) xup_at j hj
    · rw [if_pos (by omega)] at hp
      exact x_ret rfl rfl rfl rfl (hp D h (fun _ _ => rfl))
  refine xi_eq rfl rfl (fun (h2 : z = -1) => go none (by rw [gO, if_pos h2])) (fun (h2 : ¬ z = -1) => ?_)
  refine x_scall [xI z] rfl rfl rfl rfl rfl rfl rfl (c_isWordN ?_)
  rcases hy : gI z 0 9 with _ | b
  · have e : gO z 9 = none := by rw [gO, if_neg h2, hy]
    rw [e] at hp
    refine x0_ne rfl rfl (fun h => absurd rfl h) (fun _ => ?_)
    exact x_ret rfl rfl rfl rfl (hp D h (fun _ _ => rfl))
  · refine x0_ne rfl rfl (fun _ => ?_) (fun h => absurd h (by simp))
    exact go (some b) (by rw [gO, if_neg h2, hy])
theorem a_forget (h : RelC D G) (hg : gok G) (hp : ∀ D', RelC D' (aForget G).2 → (∀ a, 111 ≤ a → D' a = D a) → post (some (aForget G).1) D') : xRuns Γ (n + 1) hX8_forget [xR 0 8 0] D post := by
  refine x_runs kX8_forget (by decide +kernel) rfl ?_
  refine x_call [] rfl rfl rfl rfl rfl rfl rfl ?_
  refine x_runs kX3_clear (by decide +kernel) rfl ?_
  refine x_vret rfl rfl rfl ?_
  refine x_ret rfl rfl rfl rfl ?_
  rw [h.2.2.2.2.1.1]
  exact hp _ (RelC_seen h ⟨by rw [xup_at]; rfl, fun j hj => absurd hj (Nat.not_lt_zero j)⟩ (fun a ha => xup_ne a (by omega))) (fun a ha => xup_ne a (by omega))
theorem am_forget (h : RelM D G) (hg : gok G) (hp : ∀ D', RelM D' (aForget G).2 → (∀ a, a < 111 → D' a = D a) → post (some (aForget G).1) D') : xRuns Γ n hX9_forget [xR 0 9 111] D post := by
  refine x_runs kX9_forget (by decide +kernel) rfl ?_
  refine x_ret rfl rfl rfl rfl ?_
  rw [h.2.2.2.2.1.1]
  exact hp _ (RelM_seen h hg ⟨by rw [xup_at]; rfl, fun j hj => absurd hj (Nat.not_lt_zero j)⟩ (fun a j ha hb => xup_o (by omega))) (fun a ha => xup_ne a (by omega))
theorem sa_key {sp : Nat → List Nat} {p i : Nat} {o : Option Nat} (hs : sokl sp) (ho : ∀ v, o = some v → v < 10) : xby ((sp p)[i]?) = xby o ↔ (sp p)[i]? = o := by
  have h1 : ∀ c, (sp p)[i]? = some c → c < 2 ^ 31 := fun c hc => by have := hs p c (List.mem_of_getElem? hc); omega
  cases o with
  | none => exact xby_m1 h1
  | some b => exact xby_eq (by have := ho b rfl; omega) h1
theorem c_agree {sp : Nat → List Nat} {s : List seT} (hse : cSe D s) (hl : s.length ≤ 6) (hok : ∀ q ∈ s, q.1 < 4 ∧ q.2.1 < 10 ∧ ∀ v, q.2.2 = some v → v < 10) (hr : rP D 34 35 sp) (hall : ∀ q, q < 4 → (sp q).length ≤ 16) (hs : sokl sp) (hp : post (some (if wAgree s sp then 1 else 0)) D) : xRuns Γ (n + 1) hX3_agreeWith [xR 0 3 99, xR 0 4 33] D post := by
  refine x_runs kX3_agreeWith (by decide +kernel) rfl ?_
  refine x_to 2 rfl ?_
  have loop : ∀ (f i : Nat), i + f = s.length → (List.range i).all (pAg s sp) = true → xW Γ (n + 1) hX3_agreeWith rX3_agreeWith 2 [some (xR 0 3 99), some (xR 0 4 33), some (xI (nI i))] [] D post := by
    intro f
    induction f with
    | zero =>
      intro i hi ha
      have hi' : i = s.length := by omega
      refine xi_geN i s.length rfl rfl rfl hse.1 (by omega) (by omega) (fun _ => ?_) (fun h => absurd h (by omega))
      rw [wAgree, ← hi', ha] at hp
      exact x_ret rfl rfl rfl rfl hp
    | succ f ih =>
      intro i hi ha
      have hi' : i < s.length := by omega
      have hq := hok s[i] (List.getElem_mem hi')
      obtain ⟨q1, q2, q3⟩ := hse.2 i hi'
      refine xi_geN i s.length rfl rfl rfl hse.1 (by omega) (by omega) (fun h => absurd h (by omega)) (fun h => ?_)
      refine x_aldN i rfl rfl rfl (by omega) rfl ?_
      refine x_aldN i rfl rfl rfl (by omega) rfl ?_
      rw [q1, q2]
      refine x_call [xI (nI s[i].1), xI (nI s[i].2.1)] rfl rfl rfl rfl rfl rfl rfl (c_wordAt hr hall hq.1 (by omega) ?_)
      refine x_aldN i rfl rfl rfl (by omega) rfl ?_
      rw [q3]
      have ep : pAg s sp i = decide ((sp s[i].1)[s[i].2.1]? = s[i].2.2) := by simp only [pAg, List.getElem?_eq_getElem hi']
      have key := sa_key (p := s[i].1) (i := s[i].2.1) hs hq.2.2
      refine xi_eq rfl rfl (fun h2 => ?_) (fun h2 => ?_)
      · have IH := ih (i + 1) (by omega) (by rw [all_succ, ha, ep, decide_eq_true (key.mp h2)]; rfl)
        rw [← nI_1] at IH
        exact x_goto rfl rfl IH
      · have e : wAgree s sp = false := all_false hi' (by rw [ep, decide_eq_false (fun z => h2 (key.mpr z))])
        rw [e] at hp
        exact x_ret rfl rfl rfl rfl hp
  exact loop s.length 0 (by omega) rfl
theorem a_kinds {x : Int32} (h : RelC D G) (hg : gok G) (hp : ∀ D', RelC D' G → (∀ a, 111 ≤ a → D' a = D a) → post (some (aKinds G x)) D') : xRuns Γ (n + 5) hX8_kinds [xR 0 8 0, xI x] D post := by
  have ho := hg.2.2.1.1
  have hE := hg.2.2.1.2
  have h8 := ho.1
  have hr := h.2.1
  have g6 := hg.2.2.2.2.2.1
  refine x_runs kX8_kinds (by decide +kernel) rfl ?_
  rw [aKinds] at hp
  refine x_call [xI x] rfl rfl rfl rfl rfl rfl rfl (c_noBird hr ho ?_)
  rcases hx_b : gI x 0 ((G.now.B : Int) - 1) with _ | b
  · rw [hx_b] at hp
    refine x0_eq rfl rfl (fun h => absurd h (by decide)) (fun _ => ?_)
    exact x_ret rfl rfl rfl rfl (hp D h (fun _ _ => rfl))
  rw [hx_b] at hp
  dsimp only at hp
  obtain ⟨e1_b, e2_b, e3_b, e4_b⟩ := gI_some (by decide) hx_b
  subst e1_b
  have h_b : b < G.now.B := by omega
  refine x0_eq rfl rfl (fun _ => ?_) (fun h => absurd rfl h)
  refine x_to 15 rfl ?_
  have loop : ∀ (f i : Nat) (D2 : xM), i + f = 5 → (∀ a, (a < 27 ∨ 35 < a) → D2 a = D a) → xW Γ (n + 5) hX8_kinds rX8_kinds 15 [some (xR 0 8 0), some (xI (nI b)), some (xI (nI (wbits (fun k => wAgree G.seen (wSaid (wKd G.now b k))) i))), some (xI (nI i))] [] D2 post := by
    intro f
    induction f with
    | zero =>
      intro i D2 hi hs2
      obtain rfl : i = 5 := by omega
      refine xi_geN 5 5 rfl rfl rfl rfl (by omega) (by omega) (fun _ => ?_) (fun h => absurd h (by omega))
      exact x_ret rfl rfl rfl rfl (hp D2 (RelC_out h (fun a ha _ => hs2 a ha)) (fun a ha => hs2 a (by omega)))
    | succ f ih =>
      intro i D2 hi hs2
      have hlt := wbits_lt (fun k => wAgree G.seen (wSaid (wKd G.now b k))) i
      refine xi_geN i 5 rfl rfl rfl rfl (by omega) (by omega) (fun h => absurd h (by omega)) (fun h2 => ?_)
      refine x_call [xR 0 7 21] rfl rfl rfl rfl rfl rfl rfl (c_become (by omega) (fun D3 hc hs3 => ?_))
      have hr2 : rW D2 21 G.now := rW_out hr (fun a ha hb => hs2 a (by omega))
      refine x_astN b rfl rfl rfl (by omega) rfl ?_
      have hok := wok_kd (b := b) (k := i) ho (by omega)
      refine x_call [xR 0 4 33] rfl rfl rfl rfl rfl rfl rfl (c_passEvening (by omega) (rW_kd (i := b) (v := i) (hc G.now h8 ho.2.1 hr2)) hok (by show G.now.E + 1 < _; omega) (fun D4 hr4 hP4 hs4 => ?_))
      have hs5 : ∀ a, (a < 27 ∨ 35 < a) → D4 a = D a := fun a ha => by rw [hs4 a (by omega) (by omega) (by omega), xup_ne a (by omega), hs3 a (by omega), hs2 a ha]
      refine x_call [xR 0 4 33] rfl rfl rfl rfl rfl rfl rfl (c_agree (cSe_out h.2.2.2.2.1 (fun a ha hb => hs5 a (by omega))) g6.1 g6.2 hP4 (len_said hok) (said_lt _) ?_)
      have IH := ih (i + 1) D4 (by omega) hs5
      rw [← nI_1, wbits] at IH
      cases hq : wAgree G.seen (wSaid (wKd G.now b i)) with
      | true =>
        rw [hq, if_pos rfl] at IH
        refine x0_eq rfl rfl (fun h => absurd h (by decide)) (fun _ => ?_)
        refine x_to 72 rfl ?_
        have e : nI (wbits (fun k => wAgree G.seen (wSaid (wKd G.now b k))) i) ||| (xnum 1 <<< (nI i &&& 31)) = nI (wbits (fun k => wAgree G.seen (wSaid (wKd G.now b k))) i + 2 ^ i) := by
          rw [← xb_orp hlt, ← xb_sh1 (by omega)]
          rfl
        rw [e]
        exact x_goto rfl rfl IH
      | false =>
        rw [hq] at IH
        refine x0_eq rfl rfl (fun _ => ?_) (fun h => absurd rfl h)
        exact x_goto rfl rfl IH
  exact loop 5 0 D (by omega) (fun _ _ => rfl)
theorem am_kinds {x : Int32} (h : RelM D G) (hg : gok G) (hp : ∀ D', RelM D' G → (∀ a, a < 111 → D' a = D a) → post (some (aKinds G x)) D') : xRuns Γ (n + 6) hX9_kinds [xR 0 9 111, xI x] D post := by
  have ho := hg.2.2.1.1
  have hE := hg.2.2.1.2
  have h8 := ho.1
  have hr := h.2.1
  have g6 := hg.2.2.2.2.2.1
  refine x_runs kX9_kinds (by decide +kernel) rfl ?_
  rw [aKinds] at hp
  refine x_call [xI x] rfl rfl rfl rfl rfl rfl rfl (c_isBird hr ho ?_)
  rcases hx_b : gI x 0 ((G.now.B : Int) - 1) with _ | b
  · rw [hx_b] at hp
    refine x0_ne rfl rfl (fun h => absurd rfl h) (fun _ => ?_)
    exact x_ret rfl rfl rfl rfl (hp D h (fun _ _ => rfl))
  rw [hx_b] at hp
  dsimp only at hp
  obtain ⟨e1_b, e2_b, e3_b, e4_b⟩ := gI_some (by decide) hx_b
  subst e1_b
  have h_b : b < G.now.B := by omega
  refine x0_ne rfl rfl (fun _ => ?_) (fun h => absurd h (by simp))
  obtain ⟨sp0, hP0, hl0⟩ := h.2.2.2.2.2.2.2
  refine x_to 15 rfl ?_
  have loop : ∀ (f i : Nat) (D2 : xM) (sp : Nat → List Nat), i + f = 5 → rP D2 138 139 sp → (∀ z, z < 4 → (sp z).length ≤ 16) → sameMP 1296 D D2 → xW Γ (n + 6) hX9_kinds rX9_kinds 15 [some (xR 0 9 111), some (xI (nI b)), some (xI (nI (wbits (fun k => wAgree G.seen (wSaid (wKd G.now b k))) i))), some (xI (nI i)), none, none] [] D2 post := by
    intro f
    induction f with
    | zero =>
      intro i D2 sp hi hP2 hl2 hs2
      obtain rfl : i = 5 := by omega
      refine xi_geN 5 5 rfl rfl rfl rfl (by omega) (by omega) (fun _ => ?_) (fun h => absurd h (by omega))
      exact x_ret rfl rfl rfl rfl (hp D2 (RelM_out h hg (fun a j g1 g2 g3 _ => hs2 a j (by omega) g2 g3) ⟨sp, hP2, hl2⟩) (fun a ha => funext fun j => hs2 a j (by omega) (by omega) (by omega)))
    | succ f ih =>
      intro i D2 sp hi hP2 hl2 hs2
      have hlt := wbits_lt (fun k => wAgree G.seen (wSaid (wKd G.now b k))) i
      refine xi_geN i 5 rfl rfl rfl rfl (by omega) (by omega) (fun h => absurd h (by omega)) (fun h2 => ?_)
      have hr2 : rM D2 0 G.now := rM_out hr h8 ho.2.1 (fun j _ _ => hs2 112 j (by omega) (by omega) (by omega))
      refine x_call [] rfl rfl rfl rfl rfl rfl rfl (c_layTried hr2 ho.1 ho.2.1 (fun D3 hr3 hs3 => ?_))
      refine x_astN (1296 + 4 + b) rfl rfl (by show nI 1300 + nI b = _; rw [nI_add]) (by omega) rfl ?_
      have hok := wok_kd (b := b) (k := i) ho (by omega)
      have hs4 : sameM 1296 D3 (xup D3 112 (1296 + 4 + b) (nI i)) := sameM.rf.up (by omega) (by omega)
      refine x_call [xI (nI 1)] rfl rfl rfl rfl rfl rfl rfl (c_passTried (k := 1) (by omega) (rM_kd hr3 h8 ho.2.1 h_b) (rP_outM (rP_outM hP2 hs3) hs4) hl2 hok (by show G.now.E + 1 < _; omega) (fun D5 hr5 hsp hs5 => ?_))
      obtain ⟨sp5, q1, q2, q3⟩ := hsp
      have q3 := q3 (by omega)
      subst q3
      have hs6 : sameMP 1296 D D5 := ((hs2.tr (sameMP.ofM hs3)).tr (sameMP.ofM hs4)).tr hs5
      have hse : mSe D5 G.seen := mSe_out h.2.2.2.2.1 (hs6 111 5 (by omega) (by omega) (by omega)) (fun a ha hb => funext fun j => hs6 a j (by omega) (by omega) (by omega))
      have IH := ih (i + 1) D5 _ (by omega) q1 q2 hs6
      rw [← nI_1, wbits] at IH
      refine x_to 46 rfl ?_
      have inner : ∀ (f2 j : Nat), j + f2 = G.seen.length → xW Γ (n + 6) hX9_kinds rX9_kinds 46 [some (xR 0 9 111), some (xI (nI b)), some (xI (nI (wbits (fun k => wAgree G.seen (wSaid (wKd G.now b k))) i))), some (xI (nI i)), some (xI (if (List.range j).all (pAg G.seen (wSaid (wKd G.now b i))) then 1 else 0)), some (xI (nI j))] [] D5 post := by
        intro f2
        induction f2 with
        | zero =>
          intro j hj
          have hj' : j = G.seen.length := by omega
          refine xi_geN j G.seen.length rfl rfl rfl hse.1 (by omega) (by omega) (fun _ => ?_) (fun h => absurd h (by omega))
          rw [hj']
          show xW Γ _ _ _ _ [_, _, _, _, some (xI (if wAgree G.seen (wSaid (wKd G.now b i)) then 1 else 0)), _] _ _ _
          cases hq : wAgree G.seen (wSaid (wKd G.now b i)) with
          | true =>
            rw [hq, if_pos rfl] at IH
            refine x0_eq rfl rfl (fun h => absurd h (by decide)) (fun _ => ?_)
            refine x_goto rfl rfl ?_
            refine x_to 116 rfl ?_
            have e : nI (wbits (fun k => wAgree G.seen (wSaid (wKd G.now b k))) i) ||| (xnum 1 <<< (nI i &&& 31)) = nI (wbits (fun k => wAgree G.seen (wSaid (wKd G.now b k))) i + 2 ^ i) := by
              rw [← xb_orp hlt, ← xb_sh1 (by omega)]
              rfl
            rw [e]
            refine x_drop 4 (x_drop 5 ?_)
            exact x_goto rfl rfl IH
          | false =>
            rw [hq] at IH
            refine x0_eq rfl rfl (fun _ => ?_) (fun h => absurd rfl h)
            refine x_to 116 rfl ?_
            have e : nI (wbits (fun k => wAgree G.seen (wSaid (wKd G.now b k))) i) ||| xnum 0 = nI (wbits (fun k => wAgree G.seen (wSaid (wKd G.now b k))) i) := by
              show _ ||| nI 0 = _
              rw [xb_or, Nat.or_zero]
            rw [e]
            refine x_drop 4 (x_drop 5 ?_)
            exact x_goto rfl rfl IH
        | succ f2 ih2 =>
          intro j hj
          have hj' : j < G.seen.length := by omega
          have hq := g6.2 G.seen[j] (List.getElem_mem hj')
          have hl6 := g6.1
          obtain ⟨w1, w2, w3⟩ := hse.2 j hj'
          have IH2 := ih2 (j + 1) (by omega)
          rw [← nI_1, all_succ] at IH2
          have ep : pAg G.seen (wSaid (wKd G.now b i)) j = decide ((wSaid (wKd G.now b i) G.seen[j].1)[G.seen[j].2.1]? = G.seen[j].2.2) := by simp only [pAg, List.getElem?_eq_getElem hj']
          refine xi_geN j G.seen.length rfl rfl rfl hse.1 (by omega) (by omega) (fun h => absurd h (by omega)) (fun h => ?_)
          cases ha : (List.range j).all (pAg G.seen (wSaid (wKd G.now b i))) with
          | false =>
            rw [ha] at IH2
            refine x0_eq rfl rfl (fun _ => ?_) (fun h => absurd rfl h)
            exact x_goto rfl rfl IH2
          | true =>
            rw [ha, ep] at IH2
            refine x0_eq rfl rfl (fun h => absurd h (by decide)) (fun _ => ?_)
            refine x_aldN j rfl rfl rfl (by omega) rfl ?_
            refine x_aldN j rfl rfl rfl (by omega) rfl ?_
            rw [w1, w2]
            refine x_call [xI (nI G.seen[j].1), xI (nI G.seen[j].2.1)] rfl rfl rfl rfl rfl rfl rfl (c_saidAt q1 q2 hq.1 (by omega) ?_)
            refine x_aldN j rfl rfl rfl (by omega) rfl ?_
            rw [w3]
            have key := sa_key (p := G.seen[j].1) (i := G.seen[j].2.1) (said_lt (wKd G.now b i)) hq.2.2
            refine xi_ne rfl rfl (fun h2 => ?_) (fun h2 => ?_)
            · rw [decide_eq_false (fun z => h2 (key.mpr z))] at IH2
              exact x_goto rfl rfl IH2
            · rw [decide_eq_true (key.mp h2)] at IH2
              exact x_goto rfl rfl (x_goto rfl rfl IH2)
      exact inner G.seen.length 0 (by omega)
  exact loop 5 0 D sp0 (by omega) hP0 hl0 sameMP.rf
end A6
