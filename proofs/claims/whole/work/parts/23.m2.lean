/-! ===== the reference: an evening ===== -/
theorem ixo {o k m : Nat} : nI o + nI k + nI m = nI (o + k + m) := by rw [nI_add, nI_add]
def sameMP (o : Nat) (D D' : xM) : Prop := ∀ a j, ¬ (a = 112 ∧ o ≤ j ∧ j < o + 108) → a ≠ 138 → a ≠ 139 → D' a j = D a j
theorem sameMP.rf {o : Nat} {D : xM} : sameMP o D D := fun _ _ _ _ _ => rfl
theorem sameMP.tr {o : Nat} {D D1 D2 : xM} (h : sameMP o D D1) (h2 : sameMP o D1 D2) : sameMP o D D2 := fun a j h1 h3 h4 => (h2 a j h1 h3 h4).trans (h a j h1 h3 h4)
theorem sameMP.ofM {o : Nat} {D D1 : xM} (h : sameM o D D1) : sameMP o D D1 := fun a j h1 _ _ => h a j h1
theorem rP_outM {D D' : xM} {o : Nat} {sp : Nat → List Nat} (h : rP D 138 139 sp) (hs : sameM o D D') : rP D' 138 139 sp := by
  intro p hp
  obtain ⟨h1, h2⟩ := h p hp
  exact ⟨by rw [hs 139 p (by omega)]; exact h1, fun j hj => by rw [hs 138 _ (by omega)]; exact h2 j hj⟩
theorem wLow_spec : ∀ c, c < 1024 → 0 < c → c.testBit (wLow c) = true ∧ ∀ j, j < 10 → j < wLow c → c.testBit j = false := by decide +kernel
theorem ha_drop2 : ∀ c, c < 1024 → 0 < c → nI c &&& ((nI 1 <<< (nI (wLow c) &&& 31)) ^^^ (-1)) = nI (c &&& (c - 1)) := by decide +kernel
section M2
variable {Γ : xG} {n : Nat} {D : xM} {post : Option Int32 → xM → Prop} {o : Nat} {S : wS}
theorem l_manOf {b : Nat} (hr : rM D o S) (ho : wok S) (hoo : o ≤ 1296) (hb : b < 2 ^ 31) (hp : post (some (xby (wBy S b))) D) : ∀ f i (q : Option Nat), i + f = S.M → (q = none → ∀ m, m < i → S.bi m ≠ some b) → (∀ m, q = some m → m < i ∧ S.bi m = some b) → xW Γ n hX9_manOf rX9_manOf 5 [some (xR 0 9 111), some (xI (nI o)), some (xI (nI b)), some (xI (xby q)), some (xI (nI i))] [] D post := by
  have h4 := ho.2.1
  intro f
  induction f with
  | zero =>
    intro i q hi hn hs
    refine x_aldN (o + 1) rfl rfl (nI_add _ _) (by omega) rfl ?_
    refine xi_geN i S.M rfl rfl rfl hr.2.1 (by omega) (by omega) (fun _ => ?_) (fun h => absurd h (by omega))
    have e : wBy S b = q := by
      cases q with
      | none =>
        cases hz : wBy S b with
        | none => rfl
        | some m => exact absurd (wBy_some hz).2 (hn rfl m (by have := (wBy_some hz).1; omega))
      | some m => exact wBy_is ho (by have := (hs m rfl).1; omega) (hs m rfl).2
    rw [e] at hp
    exact x_ret rfl rfl rfl rfl hp
  | succ f ih =>
    intro i q hi hn hs
    refine x_aldN (o + 1) rfl rfl (nI_add _ _) (by omega) rfl ?_
    refine xi_geN i S.M rfl rfl rfl hr.2.1 (by omega) (by omega) (fun h => absurd h (by omega)) (fun h => ?_)
    refine x_aldN (o + 104 + i) rfl rfl (ixo (k := 104)) (by omega) rfl ?_
    rw [hr.2.2.2.2.2.2.2.2 i (by omega)]
    refine xi_ne rfl rfl (fun h2 => ?_) (fun h2 => ?_)
    · have h2 : S.bi i ≠ some b := fun z => h2 ((xby_eq hb (wok_bi ho (by omega))).mpr z)
      have IH := ih (i + 1) q (by omega) (fun hq m hm => by
        by_cases e : m = i
        · subst e; exact h2
        · exact hn hq m (by omega)) (fun m hm => ⟨by have := (hs m hm).1; omega, (hs m hm).2⟩)
      rw [← nI_1] at IH
      exact x_goto rfl rfl IH
    · have h3 := (xby_eq hb (wok_bi ho (by omega))).mp h2
      have IH := ih (i + 1) (some i) (by omega) (fun hq => by cases hq) (fun m hm => by cases hm; exact ⟨by omega, h3⟩)
      rw [← nI_1] at IH
      exact x_goto rfl rfl (x_goto rfl rfl IH)
theorem c_manOf {b : Nat} (hr : rM D o S) (ho : wok S) (hoo : o ≤ 1296) (hb : b < 2 ^ 31) (hp : post (some (xby (wBy S b))) D) : xRuns Γ n hX9_manOf [xR 0 9 111, xI (nI o), xI (nI b)] D post := by
  refine x_runs kX9_manOf (by decide +kernel) rfl ?_
  refine x_to 5 rfl ?_
  exact l_manOf hr ho hoo hb hp S.M 0 none (by omega) (fun _ m hm => absurd hm (by omega)) (fun m hm => by cases hm)
theorem l_bestWord {b wo : Nat} (hr : rM D o S) (ho : wok S) (hoo : o ≤ 1296) (hb : b < S.B) (hwo : wo < 1024) (hp : post (some (xby (wBst (S.K b) wo 10).1)) D) : ∀ f i, i + f = 10 → xW Γ (n + 1) hX9_bestWord rX9_bestWord 9 [some (xR 0 9 111), some (xI (nI o)), some (xI (nI b)), some (xI (nI wo)), some (xI (xby (wBst (S.K b) wo i).1)), some (xI (nI (wBst (S.K b) wo i).2)), some (xI (nI i)), none] [] D post := by
  have h8 := ho.1
  intro f
  induction f with
  | zero =>
    intro i hi
    obtain rfl : i = 10 := by omega
    refine xi_geN 10 10 rfl rfl rfl rfl (by omega) (by omega) (fun _ => ?_) (fun h => absurd h (by omega))
    exact x_ret rfl rfl rfl rfl hp
  | succ f ih =>
    intro i hi
    have h9 := ho.2.2.2.2.2.2.1 b i hb (by omega)
    have hle := wBst_le (f := S.K b) (wo := wo) (c := 9) i (fun j hj => ho.2.2.2.2.2.2.1 b j hb (by omega))
    have IH := ih (i + 1) (by omega)
    rw [wBst, ← nI_1] at IH
    refine xi_geN i 10 rfl rfl rfl rfl (by omega) (by omega) (fun h => absurd h (by omega)) (fun h => ?_)
    refine x_scall [xI (nI wo), xI (nI i)] rfl rfl rfl rfl rfl rfl rfl (c_has (by omega) (by omega) ?_)
    cases ht : wo.testBit i with
    | true =>
      rw [if_neg (by rw [ht]; simp)] at IH
      refine x0_eq rfl rfl (fun h => absurd h (by decide)) (fun _ => ?_)
      refine x_goto rfl rfl ?_
      refine xi_leN 0 (wBst (S.K b) wo i).2 rfl rfl rfl rfl (by omega) (by omega) (fun _ => ?_) (fun h => absurd h (by omega))
      refine xi_leN 0 (wBst (S.K b) wo i).2 rfl rfl rfl rfl (by omega) (by omega) (fun _ => ?_) (fun h => absurd h (by omega))
      exact x_goto rfl rfl (x_drop 7 IH)
    | false =>
      refine x0_eq rfl rfl (fun _ => ?_) (fun h => absurd rfl h)
      refine x_aldN (o + 20 + (b * 10 + i)) rfl rfl ixM (by omega) rfl ?_
      rw [hr.2.2.2.2.2.2.1 b i hb (by omega)]
      refine xi_leN (S.K b i) (wBst (S.K b) wo i).2 rfl rfl rfl rfl (by omega) (by omega) (fun h2 => ?_) (fun h2 => ?_)
      · rw [if_neg (by omega)] at IH
        refine xi_leN (S.K b i) (wBst (S.K b) wo i).2 rfl rfl rfl rfl (by omega) (by omega) (fun _ => ?_) (fun h => absurd h (by omega))
        exact x_goto rfl rfl (x_drop 7 IH)
      · rw [if_pos ⟨h2, ht⟩] at IH
        refine x_goto rfl rfl ?_
        refine xi_leN (S.K b i) (wBst (S.K b) wo i).2 rfl rfl rfl rfl (by omega) (by omega) (fun h => absurd h (by omega)) (fun _ => ?_)
        exact x_goto rfl rfl (x_goto rfl rfl (x_drop 7 IH))
theorem c_bestWord {b wo : Nat} (hr : rM D o S) (ho : wok S) (hoo : o ≤ 1296) (hb : b < S.B) (hwo : wo < 1024) (hp : post (some (xby (wBst (S.K b) wo 10).1)) D) : xRuns Γ (n + 1) hX9_bestWord [xR 0 9 111, xI (nI o), xI (nI b), xI (nI wo)] D post := by
  refine x_runs kX9_bestWord (by decide +kernel) rfl ?_
  refine x_to 9 rfl ?_
  exact l_bestWord hr ho hoo hb hwo hp 10 0 rfl
theorem wAw_tb {S : wS} {p i : Nat} (hi : i < S.B) : (wAw S p).testBit i = (decide (S.pe i = p) && !S.C.testBit i) := by
  rw [wAw, wbits_tb]
  simp [hi]
theorem l_isSilent {p : Nat} (hr : rM D o S) (ho : wok S) (hoo : o ≤ 1296) (hp4 : p < 4) (hp : post (some (if wSil S (wAw S p) then 1 else 0)) D) : ∀ f i, i + f = S.B → xW Γ (n + 2) hX9_isSilent rX9_isSilent 5 [some (xR 0 9 111), some (xI (nI o)), some (xI (nI p)), some (xI (if (List.range i).any (fun b => (wAw S p).testBit b && decide (S.kd b = 3)) then 1 else 0)), some (xI (nI i))] [] D post := by
  have h8 := ho.1
  intro f
  induction f with
  | zero =>
    intro i hi
    obtain rfl : i = S.B := by omega
    refine x_aldN o rfl rfl (by show nI o + nI 0 = nI o; rw [nI_add, Nat.add_zero]) (by omega) rfl ?_
    refine xi_geN S.B S.B rfl rfl rfl hr.1 (by omega) (by omega) (fun _ => ?_) (fun h => absurd h (by omega))
    exact x_ret rfl rfl rfl (by split <;> rfl) hp
  | succ f ih =>
    intro i hi
    have h4 := ho.2.2.2.2.2.1 i (by omega)
    have h5 := ho.2.2.2.2.1 i (by omega)
    have IH := ih (i + 1) (by omega)
    rw [List.range_succ, List.any_append, ← nI_1] at IH
    refine x_aldN o rfl rfl (by show nI o + nI 0 = nI o; rw [nI_add, Nat.add_zero]) (by omega) rfl ?_
    refine xi_geN i S.B rfl rfl rfl hr.1 (by omega) (by omega) (fun h => absurd h (by omega)) (fun h => ?_)
    have tt := wAw_tb (S := S) (p := p) (i := i) (by omega)
    cases hany : (List.range i).any (fun b => (wAw S p).testBit b && decide (S.kd b = 3)) with
    | true =>
      rw [hany, Bool.true_or] at IH
      exact x0_ne rfl rfl (fun _ => x_goto rfl rfl (x_goto rfl rfl IH)) (fun h => absurd h (by decide))
    | false =>
      rw [hany, Bool.false_or] at IH
      refine x0_ne rfl rfl (fun h => absurd rfl h) (fun _ => ?_)
      refine x_aldN (o + 12 + i) rfl rfl (ixo (k := 12)) (by omega) rfl ?_
      rw [hr.2.2.2.2.2.1 i (by omega)]
      refine xi_neN (S.pe i) p rfl rfl rfl rfl (by omega) (by omega) (fun h2 => ?_) (fun h2 => ?_)
      · have e : ([i].any fun b => (wAw S p).testBit b && decide (S.kd b = 3)) = false := by simp [tt, h2]
        rw [e] at IH
        exact x_goto rfl rfl IH
      · refine x_aldN (o + 4 + i) rfl rfl (ixo (k := 4)) (by omega) rfl ?_
        rw [hr.2.2.2.2.1 i (by omega)]
        refine xi_neN (S.kd i) 3 rfl rfl rfl rfl (by omega) (by omega) (fun h3 => ?_) (fun h3 => ?_)
        · have e : ([i].any fun b => (wAw S p).testBit b && decide (S.kd b = 3)) = false := by simp [h3]
          rw [e] at IH
          exact x_goto rfl rfl IH
        · refine x_call [xI (nI o), xI (nI i)] rfl rfl rfl rfl rfl rfl rfl (c_isOpen hr ho hoo (by omega) ?_)
          cases hc : S.C.testBit i with
          | true =>
            have e : ([i].any fun b => (wAw S p).testBit b && decide (S.kd b = 3)) = false := by simp [tt, hc]
            rw [e] at IH
            exact x0_eq rfl rfl (fun _ => x_goto rfl rfl IH) (fun h => absurd rfl h)
          | false =>
            have e : ([i].any fun b => (wAw S p).testBit b && decide (S.kd b = 3)) = true := by simp [tt, hc, h2, h3]
            rw [e] at IH
            exact x0_eq rfl rfl (fun h => absurd h (by decide)) (fun _ => x_goto rfl rfl (x_goto rfl rfl IH))
theorem c_isSilent {p : Nat} (hr : rM D o S) (ho : wok S) (hoo : o ≤ 1296) (hp4 : p < 4) (hp : post (some (if wSil S (wAw S p) then 1 else 0)) D) : xRuns Γ (n + 2) hX9_isSilent [xR 0 9 111, xI (nI o), xI (nI p)] D post := by
  refine x_runs kX9_isSilent (by decide +kernel) rfl ?_
  refine x_to 5 rfl ?_
  exact l_isSilent hr ho hoo hp4 hp S.B 0 (by omega)
theorem wWoAw {S : wS} (ho : wok S) {p b i : Nat} (hi : i < S.B) : (wWo (wAw S p) b).testBit i = (decide (S.pe i = p) && !S.C.testBit i && !decide (i = b)) := by
  rw [wWo_tb (wAw_lt ho p), wAw_tb hi]
theorem l_say {p b k : Nat} {K : wKf} (ho : wok S) (hK : kok S.B K) (hoo : o ≤ 1296) (hp4 : p < 4) (hb : b < S.B) (hk : k < 10) (hp : ∀ D', rM D' o (wK S (kSpr S.kd K k (wWo (wAw S p) b) S.B)) → sameM o D D' → post none D') : ∀ f i (D1 : xM), i + f = S.B → rM D1 o (wK S (kSpr S.kd K k (wWo (wAw S p) b) i)) → sameM o D D1 → xW Γ (n + 2) hX9_say rX9_say 31 [some (xR 0 9 111), some (xI (nI o)), some (xI (nI p)), some (xI (nI b)), some (xI (nI k)), some (xI (nI i))] [] D1 post := by
  have h8 := ho.1
  intro f
  induction f with
  | zero =>
    intro i D1 hi hr1 hs1
    obtain rfl : i = S.B := by omega
    refine x_aldN o rfl rfl (by show nI o + nI 0 = nI o; rw [nI_add, Nat.add_zero]) (by omega) rfl ?_
    refine xi_geN S.B S.B rfl rfl rfl hr1.1 (by omega) (by omega) (fun _ => ?_) (fun h => absurd h (by omega))
    exact x_vret rfl rfl rfl (hp D1 hr1 hs1)
  | succ f ih =>
    intro i D1 hi hr1 hs1
    have h4 := ho.2.2.2.2.2.1 i (by omega)
    have h5 := ho.2.2.2.2.1 i (by omega)
    have ho1 := wok_K ho (kok_spr hK k (wWo (wAw S p) b) i (kd := S.kd))
    have tt := wWoAw ho (p := p) (b := b) (i := i) (by omega)
    have skip : (wWo (wAw S p) b).testBit i = false → xW Γ (n + 2) hX9_say rX9_say 99 [some (xR 0 9 111), some (xI (nI o)), some (xI (nI p)), some (xI (nI b)), some (xI (nI k)), some (xI (nI i))] [] D1 post := by
      intro ht
      have IH := ih (i + 1) D1 (by omega) (by rw [kSpr, ht]; exact hr1) hs1
      rw [← nI_1] at IH
      exact x_goto rfl rfl IH
    refine x_aldN o rfl rfl (by show nI o + nI 0 = nI o; rw [nI_add, Nat.add_zero]) (by omega) rfl ?_
    refine xi_geN i S.B rfl rfl rfl hr1.1 (by omega) (by omega) (fun h => absurd h (by omega)) (fun h => ?_)
    refine xi_eqN i b rfl rfl rfl rfl (by omega) (by omega) (fun h2 => skip (by rw [tt]; simp [h2])) (fun h2 => ?_)
    refine x_aldN (o + 12 + i) rfl rfl (ixo (k := 12)) (by omega) rfl ?_
    rw [hr1.2.2.2.2.2.1 i (by show i < S.B; omega)]
    refine xi_neN (S.pe i) p rfl rfl rfl rfl (by omega) (by omega) (fun h3 => skip (by simp [tt, h3])) (fun h3 => ?_)
    refine x_call [xI (nI o), xI (nI i)] rfl rfl rfl rfl rfl rfl rfl (c_isOpen hr1 ho1 hoo (by omega) ?_)
    cases hc : S.C.testBit i with
    | true =>
      exact x0_eq rfl rfl (fun _ => skip (by simp [tt, hc])) (fun h => absurd rfl h)
    | false =>
      refine x0_eq rfl rfl (fun h => absurd h (by decide)) (fun _ => ?_)
      have ht : (wWo (wAw S p) b).testBit i = true := by simp [tt, hc, h2, h3]
      refine x_aldN (o + 4 + i) rfl rfl (ixo (k := 4)) (by omega) rfl ?_
      rw [hr1.2.2.2.2.1 i (by show i < S.B; omega)]
      have hle := wHears_le (S.kd i)
      refine x_scall [xI (nI (S.kd i))] rfl rfl rfl rfl rfl rfl rfl (c_hears h5 ?_)
      refine x_call [xI (nI o), xI (nI i), xI (nI k), xI (nI (wHears (S.kd i)))] rfl rfl rfl rfl rfl rfl rfl (c_learns hr1 ho1 hoo (by show i < S.B; omega) hk (by omega) ?_)
      have IH := ih (i + 1) _ (by omega) (by rw [kSpr, ht]; exact rM_K hr1 h8 ho.2.1 (by show i < S.B; omega) hk) (hs1.up (by omega) (by omega))
      rw [← nI_1] at IH
      exact x_goto rfl rfl IH
theorem c_say {p b k : Nat} {sp : Nat → List Nat} (hr : rM D o S) (hP : rP D 138 139 sp) (ho : wok S) (hoo : o ≤ 1296) (hp4 : p < 4) (hb : b < S.B) (hk : k < 10) (hlen : ∀ z, z < 4 → (sp z).length ≤ 16) (hl : (sp p).length < 16) (hp : ∀ D', rM D' o (wK S (kSpr S.kd S.K k (wWo (wAw S p) b) S.B)) → rP D' 138 139 (wuf sp p (sp p ++ [k])) → sameMP o D D' → post none D') : xRuns Γ (n + 2) hX9_say [xR 0 9 111, xI (nI o), xI (nI p), xI (nI b), xI (nI k)] D post := by
  have h1 := (hP p hp4).1
  have h8 := ho.1
  refine x_runs kX9_say (by decide +kernel) rfl ?_
  refine x_aldN p rfl rfl rfl (by omega) rfl ?_
  refine x_astN (p * 16 + (sp p).length) rfl rfl (by
    rw [h1]
    show nI 16 * nI p + nI (sp p).length = _
    rw [pk_mul, nI_add, Nat.mul_comm]) (by omega) rfl ?_
  refine x_aldN p rfl rfl rfl (by omega) rfl ?_
  refine x_astN p rfl rfl rfl (by omega) rfl ?_
  have e : xup D 138 (p * 16 + (sp p).length) (nI k) 139 p + xnum 1 = nI ((sp p).length + 1) := by
    rw [xup_o (by omega), h1]
    exact nI_1 _
  rw [e]
  have hP2 := rP_add (k := k) hP (by decide) hp4 hl hlen
  refine x_to 31 rfl ?_
  refine l_say (K := S.K) ho (wok_kok ho) hoo hp4 hb hk (fun D' hr' hs' => hp D' hr' (rP_outM hP2 hs') (fun a j g1 g2 g3 => ?_)) S.B 0 _ (by omega) (rM_out hr h8 ho.2.1 (fun j _ _ => by rw [xup_o (by omega), xup_o (by omega)])) sameM.rf
  rw [hs' a j g1, xup_o (by omega), xup_o (by omega)]
end M2
