/-! ===== match: the reference's lines ===== -/
def ps (K : kT) (B : Nat) (l : Nat → Nat) : Nat → Option (Nat × Nat)
  | 0 => some (0, 0)
  | m + 1 => match ps K B l m with
    | none => none
    | some (s, u) => if l m < B then (if u.testBit (l m) then none else some (s + K m (l m), u ||| 2 ^ l m)) else some (s, u)
theorem ps_cong {K : kT} {B : Nat} {l l' : Nat → Nat} : ∀ m, (∀ j, j < m → l j = l' j) → ps K B l m = ps K B l' m
  | 0, _ => rfl
  | m + 1, h => by rw [ps, ps, ps_cong m (fun j hj => h j (by omega)), h m (by omega)]
theorem ps_le {K : kT} {B : Nat} (hB : B ≤ 8) (hK : ∀ m b, K m b ≤ 10) {l : Nat → Nat} : ∀ m s u, ps K B l m = some (s, u) → s ≤ 10 * m ∧ u < 256
  | 0, s, u, h => by cases h; exact ⟨by omega, by omega⟩
  | m + 1, s, u, h => by
    rw [ps] at h
    split at h
    · cases h
    · rename_i s' u' hq
      obtain ⟨a, b⟩ := ps_le hB hK m s' u' hq
      split at h
      · split at h
        · cases h
        · injection h with h
          injection h with h1 h2
          have := hK m (l m)
          refine ⟨by omega, ?_⟩
          rw [← h2]
          exact Nat.or_lt_two_pow (n := 8) b (Nat.pow_lt_pow_right (by decide) (by omega))
      · injection h with h
        injection h with h1 h2
        exact ⟨by omega, by omega⟩
abbrev mSt : Type := Option Nat × (Nat → Int32)
def mUp (st : mSt) (x : Nat) (l : Nat → Nat) : mSt := match st.1 with
  | none => (some x, fun j => nI (l j))
  | some y => if y < x then (some x, fun j => nI (l j)) else st
theorem mUp2 (st : mSt) (x y : Nat) (l l' : Nat → Nat) : mUp (mUp st x l) y l' = if x < y then mUp st y l' else mUp st x l := by
  obtain ⟨q, b⟩ := st
  cases q with
  | none =>
    simp only [mUp]
  | some z =>
    simp only [mUp]
    by_cases h1 : z < x
    · rw [if_pos h1]
      by_cases h2 : x < y
      · simp only [if_pos h2, if_pos (show z < y by omega)]
      · simp only [if_neg h2]
    · rw [if_neg h1]
      by_cases h2 : x < y
      · simp only [if_pos h2]
      · simp only [if_neg h2, if_neg (show ¬ z < y by omega)]
def ext (K : kT) (B : Nat) : Nat → Nat → Nat → (Nat → Nat) → Nat → Nat
  | 0, _, _, l => l
  | f + 1, m, u, l => ext K B f (m + 1) (mU B u (gd K B f m u)) (wuf l m (gd K B f m u))
def mRes (K : kT) (B f m : Nat) (l : Nat → Nat) (st : mSt) : mSt := match ps K B l m with
  | none => st
  | some (s, u) => mUp st (s + mX K B f m u) (ext K B f m u l)
def mSd (K : kT) (B f m : Nat) (l : Nat → Nat) (st : mSt) (d : Nat) : mSt := match ps K B l m with
  | none => st
  | some (s, u) => match wB (mVal K B m u (mX K B f (m + 1))) d with
    | none => st
    | some (x, j) => mUp st (s + x) (ext K B f (m + 1) (mU B u j) (wuf l m j))
theorem mSd_last (K : kT) (B f m : Nat) (l : Nat → Nat) (st : mSt) : mSd K B f m l st (B + 1) = mRes K B (f + 1) m l st := by
  rw [mSd, mRes]
  split
  · rfl
  · rename_i s u hq
    rw [gd_spec]
    rfl
theorem wuf_at {α : Type} (f : Nat → α) (i : Nat) (v : α) : wuf f i v i = v := by simp [wuf]
theorem wuf_ne {α : Type} (f : Nat → α) {i j : Nat} (v : α) (h : j ≠ i) : wuf f i v j = f j := by simp [wuf, h]
theorem mSd_succ (K : kT) (B f m : Nat) (l : Nat → Nat) (st : mSt) (d : Nat) : mRes K B f (m + 1) (wuf l m d) (mSd K B f m l st d) = mSd K B f m l st (d + 1) := by
  have hc : ps K B (wuf l m d) m = ps K B l m := ps_cong m (fun j hj => wuf_ne l d (by omega))
  rw [mRes, ps, hc, wuf_at]
  rw [mSd, mSd]
  rcases hq : ps K B l m with _ | ⟨s, u⟩
  · rfl
  · dsimp only
    rw [wB]
    have hv : mVal K B m u (mX K B f (m + 1)) d = if d < B then (if u.testBit d then none else some (K m d + mX K B f (m + 1) (u ||| 2 ^ d))) else some (mX K B f (m + 1) u) := rfl
    have hmU : mU B u d = if d < B then u ||| 2 ^ d else u := rfl
    by_cases h1 : d < B
    · rw [if_pos h1] at hv hmU ⊢
      cases ht : u.testBit d with
      | true =>
        rw [ht] at hv
        rw [hv]
        rfl
      | false =>
        rw [ht, if_neg (by decide)] at hv
        rw [hv]
        simp only [Bool.false_eq_true, if_false]
        rcases hw : wB (mVal K B m u (mX K B f (m + 1))) d with _ | ⟨y, j⟩
        · dsimp only
          rw [hmU, Nat.add_assoc]
        · dsimp only
          rw [mUp2, Nat.add_assoc]
          by_cases h3 : y < K m d + mX K B f (m + 1) (u ||| 2 ^ d)
          · rw [if_pos (by omega), if_pos h3]
            dsimp only
            rw [hmU]
          · rw [if_neg (by omega), if_neg h3]
    · rw [if_neg h1] at hv hmU ⊢
      rw [hv]
      dsimp only
      rcases hw : wB (mVal K B m u (mX K B f (m + 1))) d with _ | ⟨y, j⟩
      · dsimp only
        rw [hmU]
      · dsimp only
        rw [mUp2]
        by_cases h3 : y < mX K B f (m + 1) u
        · rw [if_pos (by omega), if_pos h3]
          dsimp only
          rw [hmU]
        · rw [if_neg (by omega), if_neg h3]
theorem ext_lo (K : kT) (B : Nat) : ∀ f m u l j, j < m → ext K B f m u l j = l j
  | 0, _, _, _, _, _ => rfl
  | f + 1, m, u, l, j, h => by
    rw [ext, ext_lo K B f (m + 1) _ _ j (by omega)]
    exact wuf_ne l _ (by omega)
theorem ext_dg (K : kT) (B M : Nat) : ∀ f m l, m + f = M → ∀ j, m ≤ j → j < M → ext K B f m (mUs K B M m) l j = mDg K B M j
  | 0, m, _, h, j, h1, h2 => absurd h2 (by omega)
  | f + 1, m, l, h, j, h1, h2 => by
    have hf : M - m - 1 = f := by omega
    have e : mU B (mUs K B M m) (gd K B f m (mUs K B M m)) = mUs K B M (m + 1) := by rw [mUs, hf]
    rw [ext, e]
    by_cases q : j = m
    · subst q
      rw [ext_lo K B f (j + 1) _ _ j (by omega), wuf_at, mDg, hf]
    · exact ext_dg K B M f (m + 1) _ (by omega) j (by omega) h2
theorem xby_leI {p q : Option Nat} (hp : ∀ x, p = some x → x < 2 ^ 31) (hq : ∀ x, q = some x → x < 2 ^ 31) : xby p ≤ xby q ↔ (match p, q with
  | none, _ => True
  | some _, none => False
  | some x, some y => x ≤ y) := by
  cases p with
  | none =>
    cases q with
    | none => exact ⟨fun _ => trivial, fun _ => Int32.le_refl _⟩
    | some y =>
      refine ⟨fun _ => trivial, fun _ => ?_⟩
      rw [Int32.le_iff_toInt_le]
      have : (xby (some y)).toInt = (y : Int) := nI_toInt (hq y rfl)
      have e1 : (xby none).toInt = -1 := rfl
      omega
  | some x =>
    cases q with
    | none =>
      refine ⟨fun h => ?_, fun h => h.elim⟩
      rw [Int32.le_iff_toInt_le] at h
      have : (xby (some x)).toInt = (x : Int) := nI_toInt (hp x rfl)
      have e1 : (xby none).toInt = -1 := rfl
      omega
    | some y => exact nI_leI (hp x rfl) (hq y rfl)
section B4
variable {Γ : xG} {n : Nat} {D : xM} {post : Option Int32 → xM → Prop} {G : gS} {S : wS}
theorem ix8' (m b : Nat) : xnum 8 * nI m + nI b = nI (8 * m + b) := by
  show nI 8 * nI m + nI b = _
  rw [pk_mul, nI_add]
theorem c_keptByLine {K : kT} {l : Nat → Nat} (hr : rM D 0 S) (ho : wok S) (hK : ∀ m b, m < S.M → b < S.B → D 140 (8 * m + b) = nI (K m b)) (hKl : ∀ m b, K m b ≤ 10) (hl : ∀ j, j < 4 → D 141 j = nI (l j)) (hlB : ∀ j, j < S.M → l j ≤ S.B) (hp : post (some (xby ((ps K S.B l S.M).map Prod.fst))) D) : xRuns Γ (n + 1) hX9_keptByLine [xR 0 9 111] D post := by
  have h8 := ho.1
  have h4 := ho.2.1
  refine x_runs kX9_keptByLine (by decide +kernel) rfl ?_
  refine x_to 9 rfl ?_
  have loop : ∀ f m (sm tk is : Int32), m + f = S.M → (match ps K S.B l m with
      | none => is = 0
      | some (s, u) => is = 1 ∧ sm = nI s ∧ tk = nI u) → xW Γ (n + 1) hX9_keptByLine rX9_keptByLine 9 [some (xR 0 9 111), some (xI sm), some (xI tk), some (xI is), some (xI (nI m)), none] [] D post := by
    intro f
    induction f with
    | zero =>
      intro m sm tk is hm hj
      obtain rfl : m = S.M := by omega
      refine x_aldN (0 + 1) rfl rfl rfl (by omega) rfl ?_
      refine xi_geN S.M S.M rfl rfl rfl hr.2.1 (by omega) (by omega) (fun _ => ?_) (fun h => absurd h (by omega))
      rcases hq : ps K S.B l S.M with _ | ⟨s, u⟩
      · rw [hq] at hp hj
        refine x0_eq rfl rfl (fun _ => ?_) (fun h => absurd hj h)
        exact x_ret rfl rfl rfl rfl hp
      · rw [hq] at hp hj
        obtain ⟨j1, j2, j3⟩ := hj
        subst j1 j2
        refine x0_eq rfl rfl (fun h => absurd h (by decide)) (fun _ => ?_)
        exact x_goto rfl rfl (x_ret rfl rfl rfl rfl hp)
    | succ f ih =>
      intro m sm tk is hm hj
      have hlm := hlB m (by omega)
      have hl2 := hl m (by omega)
      refine x_aldN (0 + 1) rfl rfl rfl (by omega) rfl ?_
      refine xi_geN m S.M rfl rfl rfl hr.2.1 (by omega) (by omega) (fun h => absurd h (by omega)) (fun h => ?_)
      refine x_aldN m rfl rfl rfl (by omega) rfl ?_
      refine x_aldN 0 rfl rfl rfl (by omega) rfl ?_
      rw [hl2]
      refine xi_geN (l m) S.B rfl rfl rfl hr.1 (by omega) (by omega) (fun h2 => ?_) (fun h2 => ?_)
      · -- nobody
        have IH := fun sm' tk' is' hj' => ih (m + 1) sm' tk' is' (by omega) hj'
        have tail : ∀ is' : Int32, is' = is → xW Γ (n + 1) hX9_keptByLine rX9_keptByLine 72 [some (xR 0 9 111), some (xI sm), some (xI tk), some (xI is'), some (xI (nI m)), some (xI (xnum 0))] [] D post := by
          intro is' e
          subst e
          refine x0_eq rfl rfl (fun _ => ?_) (fun h => absurd rfl h)
          refine x0_eq rfl rfl (fun _ => ?_) (fun h => absurd rfl h)
          have I := IH (sm + xnum 0) (tk ||| xnum 0) is' (by
            rw [ps]
            rcases hq : ps K S.B l m with _ | ⟨s, u⟩
            · rw [hq] at hj; exact hj
            · rw [hq] at hj
              obtain ⟨j1, j2, j3⟩ := hj
              dsimp only
              rw [if_neg (by omega)]
              refine ⟨j1, ?_, ?_⟩
              · rw [j2]; exact nI_add s 0
              · rw [j3]
                show nI u ||| nI 0 = _
                rw [xb_or, Nat.or_zero])
          rw [← nI_1] at I
          refine x_to 123 rfl ?_
          refine x_drop 5 ?_
          exact x_goto rfl rfl I
        refine x0_eq rfl rfl (fun h3 => ?_) (fun h3 => ?_)
        · refine x_to 72 rfl ?_
          exact tail _ h3.symm
        · refine x0_eq rfl rfl (fun _ => ?_) (fun h => absurd rfl h)
          refine x_goto rfl rfl ?_
          refine x_to 72 rfl ?_
          refine tail _ ?_
          rcases hq : ps K S.B l m with _ | ⟨s, u⟩
          · rw [hq] at hj; exact absurd hj h3
          · rw [hq] at hj; exact hj.1.symm
      · refine x_goto rfl rfl ?_
        have IH := fun sm' tk' is' hj' => ih (m + 1) sm' tk' is' (by omega) hj'
        have tail : ∀ is' : Int32, (match ps K S.B l (m + 1) with
            | none => is' = 0
            | some (s, u) => is' = 1 ∧ sm + nI (K m (l m)) = nI s ∧ (tk ||| (xnum 1 <<< (nI (l m) &&& 31))) = nI u) → xW Γ (n + 1) hX9_keptByLine rX9_keptByLine 72 [some (xR 0 9 111), some (xI sm), some (xI tk), some (xI is'), some (xI (nI m)), some (xI (xnum 1))] [] D post := by
          intro is' hj'
          refine x0_eq rfl rfl (fun h => absurd h (by decide)) (fun _ => ?_)
          refine x_aldN m rfl rfl rfl (by omega) rfl ?_
          rw [hl2]
          refine x_goto rfl rfl ?_
          refine x0_eq rfl rfl (fun h => absurd h (by decide)) (fun _ => ?_)
          refine x_aldN m rfl rfl rfl (by omega) rfl ?_
          rw [hl2]
          refine x_aldN (8 * m + l m) rfl rfl (ix8' m (l m)) (by omega) rfl ?_
          rw [hK m (l m) (by omega) h2]
          refine x_goto rfl rfl ?_
          have I := IH (sm + nI (K m (l m))) (tk ||| (xnum 1 <<< (nI (l m) &&& 31))) is' hj'
          rw [← nI_1] at I
          refine x_to 123 rfl ?_
          refine x_drop 5 ?_
          exact x_goto rfl rfl I
        refine x0_eq rfl rfl (fun h3 => ?_) (fun h3 => ?_)
        · refine x_to 72 rfl ?_
          refine tail _ ?_
          have hn : ps K S.B l m = none := by
            rcases hq : ps K S.B l m with _ | ⟨s, u⟩
            · rfl
            · rw [hq] at hj; rw [hj.1] at h3; exact absurd h3 (by decide)
          rw [ps, hn]
          rfl
        · refine x0_eq rfl rfl (fun h => absurd h (by decide)) (fun _ => ?_)
          refine x_aldN m rfl rfl rfl (by omega) rfl ?_
          rw [hl2]
          rcases hq : ps K S.B l m with _ | ⟨s, u⟩
          · rw [hq] at hj; exact absurd hj h3
          · rw [hq] at hj
            obtain ⟨j1, j2, j3⟩ := hj
            obtain ⟨b1, b2⟩ := ps_le h8 hKl m s u hq
            subst j1 j2 j3
            have e2 : nI u ||| (xnum 1 <<< (nI (l m) &&& 31)) = nI (u ||| 2 ^ l m) := by
              rw [← xb_or, ← xb_sh1 (by omega)]
              rfl
            have hps : ps K S.B l (m + 1) = if u.testBit (l m) then none else some (s + K m (l m), u ||| 2 ^ l m) := by
              rw [ps, hq]
              dsimp only
              rw [if_pos h2]
            refine x_scall [xI (nI u), xI (nI (l m))] rfl rfl rfl rfl rfl rfl rfl (c_has (by omega) (by omega) ?_)
            cases ht : u.testBit (l m) with
            | true =>
              rw [ht] at hps
              refine x0_ne rfl rfl (fun _ => ?_) (fun h => absurd h (by decide))
              refine x_to 72 rfl ?_
              refine tail _ ?_
              rw [hps]
              rfl
            | false =>
              rw [ht] at hps
              refine x0_ne rfl rfl (fun h => absurd rfl h) (fun _ => ?_)
              refine x_goto rfl rfl ?_
              refine x_to 72 rfl ?_
              refine tail _ ?_
              rw [hps, if_neg (by decide)]
              exact ⟨rfl, nI_add _ _, e2⟩
  exact loop S.M 0 0 0 1 (by omega) ⟨rfl, rfl, rfl⟩
theorem dec_nI (k : Nat) : nI (k + 1) - xnum 1 + xnum (-1) = nI k - xnum 1 := by
  have e : nI (k + 1) - xnum 1 = nI k := nI_pred k
  rw [e, Int32.sub_eq_add_neg]
  rfl
theorem l_next {l : Nat → Nat} {k0 : Nat} (hr : rM D 0 S) (ho : wok S) (hlB : ∀ j, j < S.M → l j ≤ S.B) (hk0 : k0 ≤ S.M) (hd : k0 = 0 ∨ l (k0 - 1) ≠ S.B) (hB : ∀ j, k0 ≤ j → j < S.M → l j = S.B) (kk : ∀ D1 : xM, (∀ j, j < 4 → D1 141 j = nI (if k0 ≤ j ∧ j < S.M then 0 else l j)) → (∀ a, a ≠ 141 → D1 a = D a) → xW Γ n hX9_nextLine rX9_nextLine 41 [some (xR 0 9 111), some (xI (nI k0 - xnum 1))] [] D1 post) : ∀ k (D1 : xM), k0 ≤ k → k ≤ S.M → (∀ j, j < 4 → D1 141 j = nI (if k ≤ j ∧ j < S.M then 0 else l j)) → (∀ a, a ≠ 141 → D1 a = D a) → xW Γ n hX9_nextLine rX9_nextLine 9 [some (xR 0 9 111), some (xI (nI k - xnum 1))] [] D1 post := by
  have h8 := ho.1
  have h4 := ho.2.1
  intro k
  induction k with
  | zero =>
    intro D1 h1 h2 hl hs
    obtain rfl : k0 = 0 := by omega
    refine x0_lt rfl rfl (fun _ => kk D1 hl hs) (fun h => absurd (by decide) h)
  | succ k ih =>
    intro D1 h1 h2 hl hs
    have ek : nI (k + 1) - xnum 1 = nI k := nI_pred k
    have e112 : D1 112 = D 112 := hs 112 (by omega)
    have hlk : D1 141 k = nI (l k) := by rw [hl k (by omega), if_neg (by omega)]
    have hlb := hlB k (by omega)
    rw [ek]
    refine x0_lt rfl rfl (fun h => absurd h (nI_pos (by omega))) (fun _ => ?_)
    refine x_aldN k rfl rfl rfl (by omega) rfl ?_
    refine x_aldN 0 rfl rfl rfl (by omega) rfl ?_
    refine xi_neN (l k) S.B rfl rfl hlk (by rw [e112]; exact hr.1) (by omega) (by omega) (fun h3 => ?_) (fun h3 => ?_)
    · have : k0 = k + 1 := by
        by_cases q : k0 = k + 1
        · exact q
        · exact absurd (hB k (by omega) (by omega)) h3
      subst this
      have K := kk D1 hl hs
      rw [ek] at K
      exact K
    · have hne : k0 ≠ k + 1 := fun z => by
        rcases hd with q | q
        · omega
        · rw [z] at q; exact q h3
      refine x_astN k rfl rfl rfl (by omega) rfl ?_
      have IH := ih (xup D1 141 k (xnum 0)) (by omega) (by omega) (fun j hj => by
        by_cases q : j = k
        · subst q; rw [xup_at, if_pos (by omega)]; rfl
        · rw [xup_o (by omega), hl j hj]
          by_cases q2 : k + 1 ≤ j ∧ j < S.M
          · rw [if_pos q2, if_pos (by omega)]
          · rw [if_neg q2, if_neg (by omega)]) (fun a ha => by rw [xup_ne a ha]; exact hs a ha)
      rw [← dec_nI, ek] at IH
      exact x_goto rfl rfl IH
theorem c_next_inc {l : Nat → Nat} {m : Nat} (hr : rM D 0 S) (ho : wok S) (hl : ∀ j, j < 4 → D 141 j = nI (l j)) (hlB : ∀ j, j < S.M → l j ≤ S.B) (hm : m < S.M) (hd : l m < S.B) (hB : ∀ j, m < j → j < S.M → l j = S.B) (hp : ∀ D', (∀ j, j < 4 → D' 141 j = nI (if j = m then l m + 1 else if m < j ∧ j < S.M then 0 else l j)) → (∀ a, a ≠ 141 → D' a = D a) → post (some 1) D') : xRuns Γ n hX9_nextLine [xR 0 9 111] D post := by
  have h4 := ho.2.1
  have h8 := ho.1
  refine x_runs kX9_nextLine (by decide +kernel) rfl ?_
  refine x_aldN (0 + 1) rfl rfl rfl (by omega) rfl ?_
  refine x_to 9 rfl ?_
  rw [hr.2.1]
  refine l_next (k0 := m + 1) hr ho hlB (by omega) (Or.inr (by rw [Nat.add_sub_cancel]; omega)) (fun j q1 q2 => hB j (by omega) q2) (fun D1 hl1 hs1 => ?_) S.M D (by omega) (Nat.le_refl _) (fun j hj => by rw [if_neg (by omega)]; exact hl j hj) (fun _ _ => rfl)
  have ek : nI (m + 1) - xnum 1 = nI m := nI_pred m
  rw [ek]
  refine x0_lt rfl rfl (fun h => absurd h (nI_pos (by omega))) (fun _ => ?_)
  refine x_aldN m rfl rfl rfl (by omega) rfl ?_
  refine x_astN m rfl rfl rfl (by omega) rfl ?_
  refine x0_lt rfl rfl (fun h => absurd h (nI_pos (by omega))) (fun _ => ?_)
  refine x_goto rfl rfl ?_
  refine x_ret rfl rfl rfl rfl ?_
  refine hp _ (fun j hj => ?_) (fun a ha => by rw [xup_ne a ha]; exact hs1 a ha)
  by_cases q : j = m
  · subst q
    rw [xup_at, if_pos rfl, hl1 j hj, if_neg (by omega)]
    exact nI_1 _
  · rw [xup_o (by omega), if_neg q, hl1 j hj]
    by_cases q2 : m + 1 ≤ j ∧ j < S.M
    · rw [if_pos q2, if_pos (by omega)]
    · rw [if_neg q2, if_neg (by omega)]
theorem c_next_end {l : Nat → Nat} (hr : rM D 0 S) (ho : wok S) (hl : ∀ j, j < 4 → D 141 j = nI (l j)) (hB : ∀ j, j < S.M → l j = S.B) (hp : ∀ D', (∀ a, a ≠ 141 → D' a = D a) → post (some 0) D') : xRuns Γ n hX9_nextLine [xR 0 9 111] D post := by
  have h4 := ho.2.1
  refine x_runs kX9_nextLine (by decide +kernel) rfl ?_
  refine x_aldN (0 + 1) rfl rfl rfl (by omega) rfl ?_
  refine x_to 9 rfl ?_
  rw [hr.2.1]
  refine l_next (k0 := 0) hr ho (fun j hj => by rw [hB j hj]; exact Nat.le_refl _) (by omega) (Or.inl rfl) (fun j q1 q2 => hB j q2) (fun D1 hl1 hs1 => ?_) S.M D (by omega) (Nat.le_refl _) (fun j hj => by rw [if_neg (by omega)]; exact hl j hj) (fun _ _ => rfl)
  refine x0_lt rfl rfl (fun _ => ?_) (fun h => absurd (by decide) h)
  refine x0_lt rfl rfl (fun _ => ?_) (fun h => absurd (by decide) h)
  exact x_ret rfl rfl rfl rfl (hp D1 hs1)
end B4
