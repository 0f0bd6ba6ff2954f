/-! ===== said, when, keeps ===== -/
def sokl (sp : Nat → List Nat) : Prop := ∀ z w, w ∈ sp z → w < 10
theorem sok_spk {B : Nat} {kd : Nat → Nat} {b p hs : Nat} : ∀ (t said : Nat) (q : wKf × (Nat → List Nat)), sokl q.2 → sokl (kSpk kd b p hs B t said q).2
  | 0, _, _, h => h
  | t + 1, said, q, h => by
    rw [kSpk]
    split
    · exact h
    · rename_i k hk
      refine sok_spk t _ _ (fun z w hw => ?_)
      have hw : w ∈ wuf q.2 p (q.2 p ++ [k]) z := hw
      simp only [wuf] at hw
      split at hw
      · rcases List.mem_append.mp hw with e | e
        · exact h p w e
        · rw [List.mem_singleton.mp e]
          exact wBst_lt 10 k hk
      · exact h z w hw
theorem sok_spo {B : Nat} {kd : Nat → Nat} {p aw : Nat} : ∀ (b : Nat) (q : wKf × (Nat → List Nat)), sokl q.2 → sokl (kSpo kd p aw B b q).2
  | 0, _, h => h
  | b + 1, q, h => by
    rw [kSpo]
    split
    · exact sok_spk _ _ _ (sok_spo b q h)
    · exact sok_spo b q h
theorem sok_per {S : wS} : ∀ (p : Nat) (q : wKf × (Nat → List Nat)), sokl q.2 → sokl (kPer S p q).2
  | 0, _, h => h
  | p + 1, q, h => by
    rw [kPer]
    split
    · exact sok_per p q h
    · exact sok_spo _ _ (sok_per p q h)
theorem said_lt (S : wS) : sokl (wSaid S) := sok_per 4 _ (fun _ _ h => by cases h)
theorem said_g {S : wS} {p i w : Nat} (h : (wSaid S p)[i]? = some w) : w < 10 := said_lt S p w (List.mem_of_getElem? h)
def wWhn (S : wS) (b w k : Nat) : Nat → Nat → Option Nat
  | 0, _ => none
  | f + 1, i => if k ≤ (wPassN S i).K b w then some i else wWhn S b w k f (i + 1)
def wKept (S : wS) (m b k : Nat) : Nat := wCnt (S.ha m &&& wWell (wPassN (wSeat S m (some b)) k) b)
def aSaid (G : gS) (x y : Int32) : Int32 := match gI x 0 3 with
  | none => -2
  | some p => match gI y 0 15 with
    | none => -3
    | some i => xby ((wSaid G.now p)[i]?)
def aWhen (G : gS) (x y z : Int32) : Int32 := match gI x 0 ((G.now.B : Int) - 1) with
  | none => -2
  | some b => match gI y 0 9 with
    | none => -2
    | some w => match gI z 1 9 with
      | none => -3
      | some k => xby (wWhn G.now b w k 61 0)
def aKeeps (G : gS) (x y z : Int32) : Int32 := match gI x 0 ((G.now.M : Int) - 1) with
  | none => -2
  | some m => match gI y 0 ((G.now.B : Int) - 1) with
    | none => -2
    | some b => match gI z 1 20 with
      | none => -3
      | some k => nI (wKept G.now m b k)
section A5
variable {Γ : xG} {n : Nat} {D : xM} {post : Option Int32 → xM → Prop} {G : gS} {S : wS}
theorem c_foretell (hr : rW D 21 S) (ho : wok S) (hE : S.E + 1 < 1000000) (hp : ∀ D', rP D' 34 35 (wSaid S) → (∀ a, (a < 27 ∨ 35 < a) → D' a = D a) → post none D') : xRuns Γ (n + 5) hX8_foretellSpeech [xR 0 8 0] D post := by
  refine x_runs kX8_foretellSpeech (by decide +kernel) rfl ?_
  refine x_call [xR 0 7 21] rfl rfl rfl rfl rfl rfl rfl (c_become (by omega) (fun D1 hc hs => ?_))
  refine x_call [xR 0 4 33] rfl rfl rfl rfl rfl rfl rfl (c_passEvening (by omega) (hc S ho.1 ho.2.1 hr) ho hE (fun D2 hr2 hP2 hs2 => ?_))
  exact x_vret rfl rfl rfl (hp D2 hP2 (fun a ha => by rw [hs2 a (by omega) (by omega) (by omega), hs a (by omega)]))
theorem a_said {x y : Int32} (h : RelC D G) (hg : gok G) (hp : ∀ D', RelC D' G → (∀ a, 111 ≤ a → D' a = D a) → post (some (aSaid G x y)) D') : xRuns Γ (n + 6) hX8_said [xR 0 8 0, xI x, xI y] D post := by
  have ho := hg.2.2.1.1
  have hE := hg.2.2.1.2
  have hr := h.2.1
  refine x_runs kX8_said (by decide +kernel) rfl ?_
  rw [aSaid] at hp
  refine x_scall [xI x] rfl rfl rfl rfl rfl rfl rfl (c_noPerch ?_)
  rcases hx_p : gI x 0 3 with _ | p
  · rw [hx_p] at hp
    refine x0_eq rfl rfl (fun h => absurd h (by decide)) (fun _ => ?_)
    exact x_ret rfl rfl rfl rfl (hp D h (fun _ _ => rfl))
  rw [hx_p] at hp
  dsimp only at hp
  obtain ⟨e1_p, e2_p, e3_p, e4_p⟩ := gI_some (by decide) hx_p
  subst e1_p
  have h_p : p < 4 := by omega
  refine x0_eq rfl rfl (fun _ => ?_) (fun h => absurd rfl h)
  refine x_scall [xI y, xI (nI 0), xI (nI 15)] rfl rfl rfl rfl rfl rfl rfl (c_isNot (lo := 0) (hi := 15) (by decide) (by decide) ?_)
  rcases hx_i : gI y 0 15 with _ | i
  · rw [hx_i] at hp
    refine x0_eq rfl rfl (fun h => absurd h (by decide)) (fun _ => ?_)
    exact x_ret rfl rfl rfl rfl (hp D h (fun _ _ => rfl))
  rw [hx_i] at hp
  dsimp only at hp
  obtain ⟨e1_i, e2_i, e3_i, e4_i⟩ := gI_some (by decide) hx_i
  subst e1_i
  have h_i : i < 16 := by omega
  refine x0_eq rfl rfl (fun _ => ?_) (fun h => absurd rfl h)
  refine x_call [] rfl rfl rfl rfl rfl rfl rfl (c_foretell hr ho (by omega) (fun D1 hP1 hs1 => ?_))
  refine x_call [xI (nI p), xI (nI i)] rfl rfl rfl rfl rfl rfl rfl (c_wordAt hP1 (len_said ho) h_p h_i ?_)
  exact x_ret rfl rfl rfl rfl (hp D1 (RelC_out h (fun a ha _ => hs1 a ha)) (fun a ha => hs1 a (by omega)))
theorem c_saidAt {sp : Nat → List Nat} {p i : Nat} (hr : rP D 138 139 sp) (hall : ∀ q, q < 4 → (sp q).length ≤ 16) (hp4 : p < 4) (hi : i < 16) (hp : post (some (xby ((sp p)[i]?))) D) : xRuns Γ n hX9_saidAt [xR 0 9 111, xI (nI p), xI (nI i)] D post := by
  have h16 := hall p hp4
  refine x_runs kX9_saidAt (by decide +kernel) rfl ?_
  refine x_aldN p rfl rfl rfl hp4 rfl ?_
  rw [(hr p hp4).1]
  refine xi_geN i (sp p).length rfl rfl rfl rfl (by omega) (by omega) (fun h2 => ?_) (fun h2 => ?_)
  · rw [List.getElem?_eq_none h2] at hp
    exact x_ret rfl rfl rfl rfl hp
  · refine x_aldN (p * 16 + i) rfl rfl (by
      show nI 16 * nI p + nI i = _
      rw [pk_mul, nI_add]
      exact congrArg nI (by omega)) (by omega) rfl ?_
    refine x_goto rfl rfl (x_ret rfl rfl rfl rfl ?_)
    rw [(hr p hp4).2 i h2]
    rw [List.getElem?_eq_getElem h2] at hp
    rw [List.getD_eq_getElem?_getD, List.getElem?_eq_getElem h2]
    exact hp
theorem am_said {x y : Int32} (h : RelM D G) (hg : gok G) (hp : ∀ D', RelM D' G → (∀ a, a < 111 → D' a = D a) → post (some (aSaid G x y)) D') : xRuns Γ (n + 6) hX9_said [xR 0 9 111, xI x, xI y] D post := by
  have ho := hg.2.2.1.1
  have hE := hg.2.2.1.2
  have hr := h.2.1
  refine x_runs kX9_said (by decide +kernel) rfl ?_
  rw [aSaid] at hp
  refine x_scall [xL x.toInt64, xL (Int64.ofNat 0), xL (Int64.ofNat 3)] rfl rfl rfl rfl rfl rfl rfl (c_inI (lo := 0) (hi := 3) (by decide) (by decide) ?_)
  rcases hx_p : gI x 0 3 with _ | p
  · rw [hx_p] at hp
    refine x0_ne rfl rfl (fun h => absurd rfl h) (fun _ => ?_)
    exact x_ret rfl rfl rfl rfl (hp D h (fun _ _ => rfl))
  rw [hx_p] at hp
  dsimp only at hp
  obtain ⟨e1_p, e2_p, e3_p, e4_p⟩ := gI_some (by decide) hx_p
  subst e1_p
  have h_p : p < 4 := by omega
  refine x0_ne rfl rfl (fun _ => ?_) (fun h => absurd h (by simp))
  refine x_scall [xL y.toInt64, xL (Int64.ofNat 0), xL (Int64.ofNat 15)] rfl rfl rfl rfl rfl rfl rfl (c_inI (lo := 0) (hi := 15) (by decide) (by decide) ?_)
  rcases hx_i : gI y 0 15 with _ | i
  · rw [hx_i] at hp
    refine x0_ne rfl rfl (fun h => absurd rfl h) (fun _ => ?_)
    exact x_ret rfl rfl rfl rfl (hp D h (fun _ _ => rfl))
  rw [hx_i] at hp
  dsimp only at hp
  obtain ⟨e1_i, e2_i, e3_i, e4_i⟩ := gI_some (by decide) hx_i
  subst e1_i
  have h_i : i < 16 := by omega
  refine x0_ne rfl rfl (fun _ => ?_) (fun h => absurd h (by simp))
  refine x_call [] rfl rfl rfl rfl rfl rfl rfl (c_layTried hr ho.1 ho.2.1 (fun D1 hr1 hs1 => ?_))
  obtain ⟨sp0, hP0, hl0⟩ := h.2.2.2.2.2.2.2
  refine x_call [xI (nI 1)] rfl rfl rfl rfl rfl rfl rfl (c_passTried (k := 1) (by omega) hr1 (rP_outM hP0 hs1) hl0 ho (by omega) (fun D2 hr2 hsp hs2 => ?_))
  obtain ⟨sp, q1, q2, q3⟩ := hsp
  have q3 := q3 (by omega)
  subst q3
  refine x_call [xI (nI p), xI (nI i)] rfl rfl rfl rfl rfl rfl rfl (c_saidAt q1 q2 h_p h_i ?_)
  exact x_ret rfl rfl rfl rfl (hp D2 (RelM_out h hg (fun a j g1 g2 g3 _ => by rw [hs2 a j (by omega) g2 g3, hs1 a j (by omega)]) ⟨_, q1, q2⟩) (fun a ha => funext fun j => by rw [hs2 a j (by omega) (by omega) (by omega), hs1 a j (by omega)]))
theorem a_when {x y z : Int32} (h : RelC D G) (hg : gok G) (hp : ∀ D', RelC D' G → (∀ a, 111 ≤ a → D' a = D a) → post (some (aWhen G x y z)) D') : xRuns Γ (n + 5) hX8_when [xR 0 8 0, xI x, xI y, xI z] D post := by
  have ho := hg.2.2.1.1
  have hE := hg.2.2.1.2
  have h8 := ho.1
  have hr := h.2.1
  refine x_runs kX8_when (by decide +kernel) rfl ?_
  rw [aWhen] at hp
  refine x_call [xI x] rfl rfl rfl rfl rfl rfl rfl (c_noBird hr ho ?_)
  rcases hx_b : gI x 0 ((G.now.B : Int) - 1) with _ | b
  · rw [hx_b] at hp
    refine x0_ne rfl rfl (fun _ => ?_) (fun h => absurd h (by decide))
    exact x_ret rfl rfl rfl rfl (hp D h (fun _ _ => rfl))
  rw [hx_b] at hp
  dsimp only at hp
  obtain ⟨e1_b, e2_b, e3_b, e4_b⟩ := gI_some (by decide) hx_b
  subst e1_b
  have h_b : b < G.now.B := by omega
  refine x0_ne rfl rfl (fun h => absurd rfl h) (fun _ => ?_)
  refine x_scall [xI y] rfl rfl rfl rfl rfl rfl rfl (c_noWord ?_)
  rcases hx_w : gI y 0 9 with _ | w
  · rw [hx_w] at hp
    refine x0_eq rfl rfl (fun h => absurd h (by decide)) (fun _ => ?_)
    exact x_ret rfl rfl rfl rfl (hp D h (fun _ _ => rfl))
  rw [hx_w] at hp
  dsimp only at hp
  obtain ⟨e1_w, e2_w, e3_w, e4_w⟩ := gI_some (by decide) hx_w
  subst e1_w
  have h_w : w < 10 := by omega
  refine x0_eq rfl rfl (fun _ => ?_) (fun h => absurd rfl h)
  refine x_scall [xI z, xI (nI 1), xI (nI 9)] rfl rfl rfl rfl rfl rfl rfl (c_isNot (lo := 1) (hi := 9) (by decide) (by decide) ?_)
  rcases hx_k : gI z 1 9 with _ | k
  · rw [hx_k] at hp
    refine x0_eq rfl rfl (fun h => absurd h (by decide)) (fun _ => ?_)
    exact x_ret rfl rfl rfl rfl (hp D h (fun _ _ => rfl))
  rw [hx_k] at hp
  dsimp only at hp
  obtain ⟨e1_k, e2_k, e3_k, e4_k⟩ := gI_some (by decide) hx_k
  subst e1_k
  have h_k : k < 10 := by omega
  refine x0_eq rfl rfl (fun _ => ?_) (fun h => absurd rfl h)
  refine x_call [xR 0 7 21] rfl rfl rfl rfl rfl rfl rfl (c_become (by omega) (fun D1 hc hs => ?_))
  refine x_to 45 rfl ?_
  have loop : ∀ (f i : Nat) (D2 : xM), i + f = 61 → wWhn G.now b w k 61 0 = wWhn G.now b w k f i → rW D2 27 (wPassN G.now i) → (∀ a, (a < 27 ∨ 35 < a) → D2 a = D a) → xW Γ (n + 5) hX8_when rX8_when 45 [some (xR 0 8 0), some (xI (nI b)), some (xI (nI w)), some (xI (nI k)), some (xI (nI i))] [] D2 post := by
    intro f
    induction f with
    | zero =>
      intro i D2 hi hw hr2 hs2
      obtain rfl : i = 61 := by omega
      rw [hw] at hp
      refine xi_gtN 61 60 rfl rfl rfl rfl (by omega) (by omega) (fun _ => ?_) (fun h => absurd h (by omega))
      exact x_ret rfl rfl rfl rfl (hp D2 (RelC_out h (fun a ha _ => hs2 a ha)) (fun a ha => hs2 a (by omega)))
    | succ f ih =>
      intro i D2 hi hw hr2 hs2
      have ho2 := wok_passN ho i (by omega)
      have hb2 : b < (wPassN G.now i).B := by rw [(passN_B G.now i).1]; exact h_b
      have h9 := ho2.2.2.2.2.2.2.1 b w hb2 h_w
      refine xi_gtN i 60 rfl rfl rfl rfl (by omega) (by omega) (fun h => absurd h (by omega)) (fun h2 => ?_)
      refine x_call [xI (nI b), xI (nI w)] rfl rfl rfl rfl rfl rfl rfl (c_knowledge hr2 ho2 hb2 h_w ?_)
      have hw2 : wWhn G.now b w k (f + 1) i = if k ≤ (wPassN G.now i).K b w then some i else wWhn G.now b w k f (i + 1) := rfl
      rw [hw2] at hw
      refine xi_ltN ((wPassN G.now i).K b w) k rfl rfl rfl rfl (by omega) (by omega) (fun h3 => ?_) (fun h3 => ?_)
      · rw [if_neg (by omega)] at hw
        refine x_call [xR 0 4 33] rfl rfl rfl rfl rfl rfl rfl (c_passEvening (by omega) hr2 ho2 (by rw [(passN_B G.now i).2.2]; omega) (fun D3 hr3 hP3 hs3 => ?_))
        have IH := ih (i + 1) D3 (by omega) hw hr3 (fun a ha => by rw [hs3 a (by omega) (by omega) (by omega)]; exact hs2 a ha)
        rw [← nI_1] at IH
        exact x_goto rfl rfl IH
      · rw [if_pos h3] at hw
        rw [hw] at hp
        exact x_ret rfl rfl rfl rfl (hp D2 (RelC_out h (fun a ha _ => hs2 a ha)) (fun a ha => hs2 a (by omega)))
  exact loop 61 0 D1 (by omega) rfl (hc G.now h8 ho.2.1 hr) (fun a ha => hs a (by omega))
theorem am_when {x y z : Int32} (h : RelM D G) (hg : gok G) (hp : ∀ D', RelM D' G → (∀ a, a < 111 → D' a = D a) → post (some (aWhen G x y z)) D') : xRuns Γ (n + 6) hX9_when [xR 0 9 111, xI x, xI y, xI z] D post := by
  have ho := hg.2.2.1.1
  have hE := hg.2.2.1.2
  have h8 := ho.1
  have hr := h.2.1
  refine x_runs kX9_when (by decide +kernel) rfl ?_
  rw [aWhen] at hp
  refine x_call [xI x] rfl rfl rfl rfl rfl rfl rfl (c_isBird hr ho ?_)
  rcases hx_b : gI x 0 ((G.now.B : Int) - 1) with _ | b
  · rw [hx_b] at hp
    refine x0_eq rfl rfl (fun _ => ?_) (fun h => absurd rfl h)
    exact x_ret rfl rfl rfl rfl (hp D h (fun _ _ => rfl))
  rw [hx_b] at hp
  dsimp only at hp
  obtain ⟨e1_b, e2_b, e3_b, e4_b⟩ := gI_some (by decide) hx_b
  subst e1_b
  have h_b : b < G.now.B := by omega
  refine x0_eq rfl rfl (fun h => absurd h (by simp)) (fun _ => ?_)
  refine x_scall [xI y] rfl rfl rfl rfl rfl rfl rfl (c_isWordN ?_)
  rcases hx_w : gI y 0 9 with _ | w
  · rw [hx_w] at hp
    refine x0_ne rfl rfl (fun h => absurd rfl h) (fun _ => ?_)
    exact x_ret rfl rfl rfl rfl (hp D h (fun _ _ => rfl))
  rw [hx_w] at hp
  dsimp only at hp
  obtain ⟨e1_w, e2_w, e3_w, e4_w⟩ := gI_some (by decide) hx_w
  subst e1_w
  have h_w : w < 10 := by omega
  refine x0_ne rfl rfl (fun _ => ?_) (fun h => absurd h (by simp))
  refine x_scall [xL z.toInt64, xL (Int64.ofNat 1), xL (Int64.ofNat 9)] rfl rfl rfl rfl rfl rfl rfl (c_inI (lo := 1) (hi := 9) (by decide) (by decide) ?_)
  rcases hx_k : gI z 1 9 with _ | k
  · rw [hx_k] at hp
    refine x0_ne rfl rfl (fun h => absurd rfl h) (fun _ => ?_)
    exact x_ret rfl rfl rfl rfl (hp D h (fun _ _ => rfl))
  rw [hx_k] at hp
  dsimp only at hp
  obtain ⟨e1_k, e2_k, e3_k, e4_k⟩ := gI_some (by decide) hx_k
  subst e1_k
  have h_k : k < 10 := by omega
  refine x0_ne rfl rfl (fun _ => ?_) (fun h => absurd h (by simp))
  refine x_call [] rfl rfl rfl rfl rfl rfl rfl (c_layTried hr ho.1 ho.2.1 (fun D1 hr1 hs1 => ?_))
  obtain ⟨sp0, hP0, hl0⟩ := h.2.2.2.2.2.2.2
  refine x_to 40 rfl ?_
  have loop : ∀ (f i : Nat) (D2 : xM) (sp : Nat → List Nat), i + f = 61 → wWhn G.now b w k 61 0 = wWhn G.now b w k f i → rM D2 1296 (wPassN G.now i) → rP D2 138 139 sp → (∀ z, z < 4 → (sp z).length ≤ 16) → sameMP 1296 D D2 → xW Γ (n + 6) hX9_when rX9_when 40 [some (xR 0 9 111), some (xI (nI b)), some (xI (nI w)), some (xI (nI k)), some (xI (nI i))] [] D2 post := by
    intro f
    induction f with
    | zero =>
      intro i D2 sp hi hw hr2 hP2 hl2 hs2
      obtain rfl : i = 61 := by omega
      rw [hw] at hp
      refine xi_geN 61 61 rfl rfl rfl rfl (by omega) (by omega) (fun _ => ?_) (fun h => absurd h (by omega))
      exact x_ret rfl rfl rfl rfl (hp D2 (RelM_out h hg (fun a j g1 g2 g3 _ => hs2 a j (by omega) g2 g3) ⟨sp, hP2, hl2⟩) (fun a ha => funext fun j => hs2 a j (by omega) (by omega) (by omega)))
    | succ f ih =>
      intro i D2 sp hi hw hr2 hP2 hl2 hs2
      have ho2 := wok_passN ho i (by omega)
      have hb2 : b < (wPassN G.now i).B := by rw [(passN_B G.now i).1]; exact h_b
      have h9 := ho2.2.2.2.2.2.2.1 b w hb2 h_w
      refine xi_geN i 61 rfl rfl rfl rfl (by omega) (by omega) (fun h => absurd h (by omega)) (fun h2 => ?_)
      refine x_aldN (1296 + 20 + (b * 10 + w)) rfl rfl (by
        show nI 1316 + nI 10 * nI b + nI w = _
        rw [pk_mul, nI_add, nI_add]
        exact congrArg nI (by omega)) (by omega) rfl ?_
      rw [hr2.2.2.2.2.2.2.1 b w hb2 h_w]
      have hw2 : wWhn G.now b w k (f + 1) i = if k ≤ (wPassN G.now i).K b w then some i else wWhn G.now b w k f (i + 1) := rfl
      rw [hw2] at hw
      refine xi_ltN ((wPassN G.now i).K b w) k rfl rfl rfl rfl (by omega) (by omega) (fun h3 => ?_) (fun h3 => ?_)
      · rw [if_neg (by omega)] at hw
        refine x_call [xI (nI 1)] rfl rfl rfl rfl rfl rfl rfl (c_passTried (k := 1) (by omega) hr2 hP2 hl2 ho2 (by rw [(passN_B G.now i).2.2]; omega) (fun D3 hr3 hsp hs3 => ?_))
        obtain ⟨sp3, q1, q2, q3⟩ := hsp
        have IH := ih (i + 1) D3 sp3 (by omega) hw hr3 q1 q2 (hs2.tr hs3)
        rw [← nI_1] at IH
        exact x_goto rfl rfl IH
      · rw [if_pos h3] at hw
        rw [hw] at hp
        exact x_ret rfl rfl rfl rfl (hp D2 (RelM_out h hg (fun a j g1 g2 g3 _ => hs2 a j (by omega) g2 g3) ⟨sp, hP2, hl2⟩) (fun a ha => funext fun j => hs2 a j (by omega) (by omega) (by omega)))
  exact loop 61 0 D1 sp0 (by omega) rfl hr1 (rP_outM hP0 hs1) hl0 (sameMP.ofM hs1)
theorem and_lt' {a b : Nat} (ha : a < 1024) : a &&& b < 1024 := Nat.lt_of_le_of_lt Nat.and_le_left ha
theorem c_keptWords {m b k : Nat} (hr : rW D 21 S) (ho : wok S) (hm : m < S.M) (hb : b < S.B) (hk : k ≤ 20) (hE : S.E ≤ 999) (hp : ∀ D', (∀ a, (a < 27 ∨ 35 < a) → D' a = D a) → post (some (nI (wKept S m b k))) D') : xRuns Γ (n + 5) hX8_keptWords [xR 0 8 0, xI (nI m), xI (nI b), xI (nI k)] D post := by
  have h8 := ho.1
  have h4 := ho.2.1
  have hos : wok (wSeat S m (some b)) := wok_seat ho (fun c hc => by cases hc; exact hb)
  refine x_runs kX8_keptWords (by decide +kernel) rfl ?_
  refine x_call [xR 0 7 21] rfl rfl rfl rfl rfl rfl rfl (c_become (by omega) (fun D1 hc hs => ?_))
  refine x_call [xI (nI m), xI (xby (some b))] rfl rfl rfl rfl rfl rfl rfl (c_seat (hc S h8 h4 hr) ho hm (fun c hc => by cases hc; exact hb) (fun D2 hr2 hs2 => ?_))
  refine x_to 23 rfl ?_
  have loop : ∀ (f i : Nat) (D3 : xM), i + f = k → rW D3 27 (wPassN (wSeat S m (some b)) i) → (∀ a, (a < 27 ∨ 35 < a) → D3 a = D a) → xW Γ (n + 5) hX8_keptWords rX8_keptWords 23 [some (xR 0 8 0), some (xI (nI m)), some (xI (nI b)), some (xI (nI k)), some (xI (nI i))] [] D3 post := by
    intro f
    induction f with
    | zero =>
      intro i D3 hi hr3 hs3
      obtain rfl : i = k := by omega
      have ho3 := wok_passN hos i (by show S.E + i < _; omega)
      have hr21 : rW D3 21 S := rW_out hr (fun a ha hb => hs3 a (by omega))
      refine xi_geN i i rfl rfl rfl rfl (by omega) (by omega) (fun _ => ?_) (fun h => absurd h (by omega))
      refine x_aldN m rfl rfl rfl (by omega) rfl ?_
      rw [hr21.2.2.2.2.2.2.2.1 m hm]
      refine x_call [xI (nI b)] rfl rfl rfl rfl rfl rfl rfl (c_wellKnown hr3 ho3 (by rw [(passN_B _ i).1]; exact hb) ?_)
      refine x_to 64 rfl ?_
      have e : nI (S.ha m) &&& nI (wWell (wPassN (wSeat S m (some b)) i) b) = nI (S.ha m &&& wWell (wPassN (wSeat S m (some b)) i) b) := xb_and _ _
      rw [e]
      refine x_scall [xI (nI (S.ha m &&& wWell (wPassN (wSeat S m (some b)) i) b))] rfl rfl rfl rfl rfl rfl rfl (c_bitCount ?_)
      refine x_ret rfl rfl rfl rfl ?_
      rw [jbc_cnt _ (and_lt' (ho.2.2.2.2.2.2.2.1 m hm))]
      exact hp D3 hs3
    | succ f ih =>
      intro i D3 hi hr3 hs3
      have ho3 := wok_passN hos i (by show S.E + i < _; omega)
      refine xi_geN i k rfl rfl rfl rfl (by omega) (by omega) (fun h => absurd h (by omega)) (fun h => ?_)
      refine x_call [xR 0 4 33] rfl rfl rfl rfl rfl rfl rfl (c_passEvening (by omega) hr3 ho3 (by rw [(passN_B _ i).2.2]; show S.E + i + 1 < _; omega) (fun D4 hr4 hP4 hs4 => ?_))
      have IH := ih (i + 1) D4 (by omega) hr4 (fun a ha => by rw [hs4 a (by omega) (by omega) (by omega)]; exact hs3 a ha)
      rw [← nI_1] at IH
      exact x_goto rfl rfl IH
  exact loop k 0 D2 (by omega) hr2 (fun a ha => by rw [hs2 a (by omega), hs a (by omega)])
theorem a_keeps {x y z : Int32} (h : RelC D G) (hg : gok G) (hp : ∀ D', RelC D' G → (∀ a, 111 ≤ a → D' a = D a) → post (some (aKeeps G x y z)) D') : xRuns Γ (n + 6) hX8_keeps [xR 0 8 0, xI x, xI y, xI z] D post := by
  have ho := hg.2.2.1.1
  have hE := hg.2.2.1.2
  have hr := h.2.1
  refine x_runs kX8_keeps (by decide +kernel) rfl ?_
  rw [aKeeps] at hp
  refine x_call [xI x] rfl rfl rfl rfl rfl rfl rfl (c_noMan hr ho ?_)
  rcases hx_m : gI x 0 ((G.now.M : Int) - 1) with _ | m
  · rw [hx_m] at hp
    refine x0_ne rfl rfl (fun _ => ?_) (fun h => absurd h (by decide))
    exact x_ret rfl rfl rfl rfl (hp D h (fun _ _ => rfl))
  rw [hx_m] at hp
  dsimp only at hp
  obtain ⟨e1_m, e2_m, e3_m, e4_m⟩ := gI_some (by decide) hx_m
  subst e1_m
  have h_m : m < G.now.M := by omega
  refine x0_ne rfl rfl (fun h => absurd rfl h) (fun _ => ?_)
  refine x_call [xI y] rfl rfl rfl rfl rfl rfl rfl (c_noBird hr ho ?_)
  rcases hx_b : gI y 0 ((G.now.B : Int) - 1) with _ | b
  · rw [hx_b] at hp
    refine x0_eq rfl rfl (fun h => absurd h (by decide)) (fun _ => ?_)
    exact x_ret rfl rfl rfl rfl (hp D h (fun _ _ => rfl))
  rw [hx_b] at hp
  dsimp only at hp
  obtain ⟨e1_b, e2_b, e3_b, e4_b⟩ := gI_some (by decide) hx_b
  subst e1_b
  have h_b : b < G.now.B := by omega
  refine x0_eq rfl rfl (fun _ => ?_) (fun h => absurd rfl h)
  refine x_scall [xI z, xI (nI 1), xI (nI 20)] rfl rfl rfl rfl rfl rfl rfl (c_isNot (lo := 1) (hi := 20) (by decide) (by decide) ?_)
  rcases hx_k : gI z 1 20 with _ | k
  · rw [hx_k] at hp
    refine x0_eq rfl rfl (fun h => absurd h (by decide)) (fun _ => ?_)
    exact x_ret rfl rfl rfl rfl (hp D h (fun _ _ => rfl))
  rw [hx_k] at hp
  dsimp only at hp
  obtain ⟨e1_k, e2_k, e3_k, e4_k⟩ := gI_some (by decide) hx_k
  subst e1_k
  have h_k : k < 21 := by omega
  refine x0_eq rfl rfl (fun _ => ?_) (fun h => absurd rfl h)
  refine x_call [xI (nI m), xI (nI b), xI (nI k)] rfl rfl rfl rfl rfl rfl rfl (c_keptWords hr ho h_m h_b (by omega) hE (fun D1 hs1 => ?_))
  exact x_ret rfl rfl rfl rfl (hp D1 (RelC_out h (fun a ha _ => hs1 a ha)) (fun a ha => hs1 a (by omega)))
theorem c_keptBy {m b k : Nat} {sp0 : Nat → List Nat} (hr : rM D 0 S) (hP0 : rP D 138 139 sp0) (hl0 : ∀ z, z < 4 → (sp0 z).length ≤ 16) (ho : wok S) (hm : m < S.M) (hb : b < S.B) (hk : k ≤ 20) (hE : S.E ≤ 999) (hp : ∀ D', mSp D' → sameMP 1296 D D' → post (some (nI (wKept S m b k))) D') : xRuns Γ (n + 6) hX9_keptBy [xR 0 9 111, xI (nI m), xI (nI b), xI (nI k)] D post := by
  have h8 := ho.1
  have h4 := ho.2.1
  have hos : wok (wSeat S m (some b)) := wok_seat ho (fun c hc => by cases hc; exact hb)
  refine x_runs kX9_keptBy (by decide +kernel) rfl ?_
  refine x_call [] rfl rfl rfl rfl rfl rfl rfl (c_layTried hr h8 h4 (fun D1 hr1 hs1 => ?_))
  refine x_call [xI (nI 1296), xI (nI m), xI (xby (some b))] rfl rfl rfl rfl rfl rfl rfl (c_sets hr1 ho (by omega) hm (fun c hc => by cases hc; exact hb) (fun D2 hr2 hs2 => ?_))
  refine x_call [xI (nI k)] rfl rfl rfl rfl rfl rfl rfl (c_passTried (by omega) hr2 (rP_outM (rP_outM hP0 hs1) hs2) hl0 hos (by show S.E + k < _; omega) (fun D3 hr3 hsp hs3 => ?_))
  have ho3 := wok_passN hos k (by show S.E + k < _; omega)
  have hs : sameMP 1296 D D3 := ((sameMP.ofM hs1).tr (sameMP.ofM hs2)).tr hs3
  refine x_call [xI (nI 1296), xI (nI b)] rfl rfl rfl rfl rfl rfl rfl (c_mwell hr3 ho3 (by omega) (by rw [(passN_B _ k).1]; exact hb) ?_)
  refine x_aldN (0 + 100 + m) rfl rfl (by rw [Nat.zero_add]; exact nI_add 100 m) (by omega) rfl ?_
  rw [hs 112 (0 + 100 + m) (by omega) (by omega) (by omega), hr.2.2.2.2.2.2.2.1 m hm]
  refine x_to 36 rfl ?_
  have e : nI (wWell (wPassN (wSeat S m (some b)) k) b) &&& nI (S.ha m) = nI (S.ha m &&& wWell (wPassN (wSeat S m (some b)) k) b) := by rw [Nat.and_comm]; exact xb_and _ _
  rw [e]
  refine x_scall [xI (nI (S.ha m &&& wWell (wPassN (wSeat S m (some b)) k) b))] rfl rfl rfl rfl rfl rfl rfl (c_bits (and_lt' (ho.2.2.2.2.2.2.2.1 m hm)) ?_)
  obtain ⟨sp, q1, q2, q3⟩ := hsp
  exact x_ret rfl rfl rfl rfl (hp D3 ⟨sp, q1, q2⟩ hs)
theorem am_keeps {x y z : Int32} (h : RelM D G) (hg : gok G) (hp : ∀ D', RelM D' G → (∀ a, a < 111 → D' a = D a) → post (some (aKeeps G x y z)) D') : xRuns Γ (n + 7) hX9_keeps [xR 0 9 111, xI x, xI y, xI z] D post := by
  have ho := hg.2.2.1.1
  have hE := hg.2.2.1.2
  have hr := h.2.1
  refine x_runs kX9_keeps (by decide +kernel) rfl ?_
  rw [aKeeps] at hp
  refine x_call [xI x] rfl rfl rfl rfl rfl rfl rfl (c_isMan hr ho ?_)
  rcases hx_m : gI x 0 ((G.now.M : Int) - 1) with _ | m
  · rw [hx_m] at hp
    refine x0_eq rfl rfl (fun _ => ?_) (fun h => absurd rfl h)
    exact x_ret rfl rfl rfl rfl (hp D h (fun _ _ => rfl))
  rw [hx_m] at hp
  dsimp only at hp
  obtain ⟨e1_m, e2_m, e3_m, e4_m⟩ := gI_some (by decide) hx_m
  subst e1_m
  have h_m : m < G.now.M := by omega
  refine x0_eq rfl rfl (fun h => absurd h (by simp)) (fun _ => ?_)
  refine x_call [xI y] rfl rfl rfl rfl rfl rfl rfl (c_isBird hr ho ?_)
  rcases hx_b : gI y 0 ((G.now.B : Int) - 1) with _ | b
  · rw [hx_b] at hp
    refine x0_ne rfl rfl (fun h => absurd rfl h) (fun _ => ?_)
    exact x_ret rfl rfl rfl rfl (hp D h (fun _ _ => rfl))
  rw [hx_b] at hp
  dsimp only at hp
  obtain ⟨e1_b, e2_b, e3_b, e4_b⟩ := gI_some (by decide) hx_b
  subst e1_b
  have h_b : b < G.now.B := by omega
  refine x0_ne rfl rfl (fun _ => ?_) (fun h => absurd h (by simp))
  refine x_scall [xL z.toInt64, xL (Int64.ofNat 1), xL (Int64.ofNat 20)] rfl rfl rfl rfl rfl rfl rfl (c_inI (lo := 1) (hi := 20) (by decide) (by decide) ?_)
  rcases hx_k : gI z 1 20 with _ | k
  · rw [hx_k] at hp
    refine x0_eq rfl rfl (fun _ => ?_) (fun h => absurd rfl h)
    exact x_ret rfl rfl rfl rfl (hp D h (fun _ _ => rfl))
  rw [hx_k] at hp
  dsimp only at hp
  obtain ⟨e1_k, e2_k, e3_k, e4_k⟩ := gI_some (by decide) hx_k
  subst e1_k
  have h_k : k < 21 := by omega
  refine x0_eq rfl rfl (fun h => absurd h (by simp)) (fun _ => ?_)
  obtain ⟨sp0, hP0, hl0⟩ := h.2.2.2.2.2.2.2
  refine x_call [xI (nI m), xI (nI b), xI (nI k)] rfl rfl rfl rfl rfl rfl rfl (c_keptBy hr hP0 hl0 ho h_m h_b (by omega) hE (fun D1 hsp hs1 => ?_))
  refine x_goto rfl rfl ?_
  exact x_ret rfl rfl rfl rfl (hp D1 (RelM_out h hg (fun a j g1 g2 g3 _ => hs1 a j (by omega) g2 g3) hsp) (fun a ha => funext fun j => hs1 a j (by omega) (by omega) (by omega)))
end A5
