/-! ===== the reference's reader: clauses ===== -/
def sM (D : xM) (S : wS) : Prop := D 111 18 = nI S.B ∧ D 111 19 = nI S.M ∧ ∀ m, m < S.M → D 124 m = xby (S.bi m)
def zS (D : xM) (S : wS) : Prop := ∀ b k, S.B ≤ b → b < 8 → k < 10 → D 112 (108 + 20 + (b * 10 + k)) = 0
def wM (D : xM) (d : Bool) (S : wS) : Prop := D 111 22 = (if d then 1 else 0) ∧ (∀ q, q < 10 → rL D (tWc.getD q 0) (tWl.getD q [])) ∧ (d = true → rM D 108 S ∧ zS D S)
def fR (d : Bool) (D D' : xM) : Prop := ∀ a j, ¬ (a = 111 ∧ 16 ≤ j ∧ j ≤ 19) → a ≠ 124 → ¬ (d = true ∧ a = 112 ∧ 108 ≤ j ∧ j < 216) → D' a j = D a j
theorem fR.rf {d : Bool} {D : xM} : fR d D D := fun _ _ _ _ _ => rfl
theorem fR.tr {d : Bool} {D D1 D2 : xM} (h : fR d D D1) (h2 : fR d D1 D2) : fR d D D2 := fun a j q1 q2 q3 => (h2 a j q1 q2 q3).trans (h a j q1 q2 q3)
theorem fR.ofT {d : Bool} {D D1 : xM} (h : fT D D1) : fR d D D1 := fun a j q1 _ _ => h a j (by omega)
theorem sM_T {D D' : xM} {S : wS} (h : sM D S) (e : fT D D') : sM D' S := ⟨by rw [e 111 18 (by omega)]; exact h.1, by rw [e 111 19 (by omega)]; exact h.2.1, fun m hm => by rw [e 124 m (by omega)]; exact h.2.2 m hm⟩
theorem wM_T {D D' : xM} {d : Bool} {S : wS} (h : wM D d S) (ho : S.B ≤ 8 ∧ S.M ≤ 4) (e : fT D D') : wM D' d S := ⟨by rw [e 111 22 (by omega)]; exact h.1, fun q hq => rL_out (h.2.1 q hq) (funext fun j => e _ j (by have := tWc_in q hq; omega)), fun hd => ⟨rM_out (h.2.2 hd).1 ho.1 ho.2 (fun j _ _ => e 112 j (by omega)), fun b k q1 q2 q3 => by rw [e 112 _ (by omega)]; exact (h.2.2 hd).2 b k q1 q2 q3⟩⟩
def rmP (D : xM) (d : Bool) (tx : List Nat) (r : rdT) (v : Option Int32) (D' : xM) : Prop := fR d D D' ∧ match r with
  | .inl p => v = some 0 ∧ D' 111 16 = nI p
  | .inr (e, S) => v = some 1 ∧ tM D' tx (tF tx e) (tE tx (tF tx e)) ∧ sM D' S ∧ wM D' d S
theorem rmP_bool {D D' : xM} {d : Bool} {tx : List Nat} {r : rdT} {v : Option Int32} (h : rmP D d tx r v D') : v = some 0 ∨ v = some 1 := by
  obtain ⟨h1, h2⟩ := h
  rcases r with p | ⟨e, S⟩
  · exact Or.inl h2.1
  · exact Or.inr h2.1
/-- the words stay, whatever else is read -/
theorem wd_R {D D' : xM} {d : Bool} (h : ∀ q, q < 10 → rL D (tWc.getD q 0) (tWl.getD q [])) (e : fR d D D') : ∀ q, q < 10 → rL D' (tWc.getD q 0) (tWl.getD q []) := fun q hq => rL_out (h q hq) (funext fun j => e _ j (by have := tWc_in q hq; omega) (by have := tWc_in q hq; omega) (by have := tWc_in q hq; omega))
section MS
variable {Γ : xG} {n : Nat} {D : xM} {post : Option Int32 → xM → Prop} {tx : List Nat} {S : wS} {d : Bool}
theorem x0_eqd {h0 : xHd} {rows : List xRow} {pc pc' a b : Nat} {lv lv' : List (Option xV)} {st st' : List xV} {D D' : xM} {x : Int32} {off : Int} (hx : x = if d then 1 else 0) (h1 : xrun rows xN 60 pc lv st D = some (pc', lv', .inl x :: st', D')) (hr : xrw rows pc' = some (.ifCond .eq off, 3, a, b)) (kt : d = false → xW Γ n h0 rows a lv' st' D' post) (kf : d = true → xW Γ n h0 rows (pc' + 3) lv' st' D' post) : xW Γ n h0 rows pc lv st D post := by
  cases d with
  | true => exact x0_eq h1 hr (fun z => absurd (hx.symm.trans z) (by decide)) (fun _ => kf rfl)
  | false => exact x0_eq h1 hr (fun _ => kt rfl) (fun z => absurd hx z)
theorem c_readsBird {f e kd : Nat} (h : tM D tx f e) (hs : sM D S) (hw : wM D d S) (ho : wok S) (hbe : e ≤ tx.length) (hT : tx.length ≤ 200 ∧ ∀ c ∈ tx, c < 256) (hp : ∀ v D', rmP D d tx (rdBird tx S f e kd) v D' → post v D') : xRuns Γ (n + 4) hX9_readsBird [xR 0 9 111, xI (nI kd)] D post := by
  have h8 := ho.1
  have h4 := ho.2.1
  have g1 := tF_le hbe
  have g2 := tE_le g1.2
  refine x_runs kX9_readsBird (by decide +kernel) rfl ?_
  rw [rdBird] at hp
  refine xi_neN S.B 8 rfl rfl hs.1 rfl (by omega) (by omega) (fun h1 => ?_) (fun h1 => ?_)
  · rw [if_neg (by omega), rdN] at hp
    refine x_call [] rfl rfl rfl rfl rfl rfl rfl (c_nextToken h hbe hT (fun D1 k1 k2 => ?_))
    have hs1 := sM_T hs k2
    have hw1 := wM_T hw ⟨h8, h4⟩ k2
    refine x_call [xI (nI 4)] rfl rfl rfl rfl rfl rfl rfl (c_number k1 g2.1 g2.2.1 g2.2.2 hT (by omega) ?_)
    rcases hv : tNum tx (tF tx e) (tE tx (tF tx e)) 4 with _ | p
    · rw [hv] at hp
      refine xi_ne rfl rfl (fun q => absurd rfl q) (fun _ => ?_)
      exact x_ret rfl rfl rfl rfl (hp _ D1 ⟨fR.ofT k2, rfl, k1.2.2.1⟩)
    · rw [hv] at hp
      dsimp only at hp ⊢
      intro D2 k3 k4
      have hs2 := sM_T hs1 k4
      have hw2 := wM_T hw1 ⟨h8, h4⟩ k4
      have f2 : fR d D D2 := fR.ofT (k2.tr k4)
      have hpl := (tNum_lt hv).1
      refine xi_ne rfl rfl (fun _ => ?_) (fun q => absurd q (nI_nm1 (by omega)))
      have last : ∀ D3 : xM, fR d D2 D3 → (∀ j, D3 111 j = D2 111 j) → (∀ m, D3 124 m = D2 124 m) → (d = true → rM (xup D3 111 18 (nI (S.B + 1))) 108 (wAB S kd p) ∧ zS (xup D3 111 18 (nI (S.B + 1))) (wAB S kd p)) → xW Γ (n + 4) hX9_readsBird rX9_readsBird 72 [some (xR 0 9 111), some (xI (nI kd)), some (xI (nI p))] [] D3 post := by
        intro D3 f3 e1 e2 hd
        refine x_ret rfl rfl rfl rfl ?_
        have eB : D3 111 18 + xnum 1 = nI (S.B + 1) := by rw [e1, hs2.1]; exact nI_1 _
        rw [eB]
        have f4 : fR d D (xup D3 111 18 (nI (S.B + 1))) := f2.tr (f3.tr (fun a j q1 q2 q3 => xup_o (by omega)))
        refine hp _ _ ⟨f4, rfl, ⟨by rw [xup_o (by omega), e1]; exact k3.1, rL_out k3.2.1 (by rw [xup_ne 114 (by omega)]; exact funext fun j => f3 114 j (by omega) (by omega) (by omega)), by rw [xup_o (by omega), e1]; exact k3.2.2.1, by rw [xup_o (by omega), e1]; exact k3.2.2.2⟩, ⟨by rw [xup_at], by rw [xup_o (by omega), e1]; exact hs2.2.1, fun m hm => by rw [xup_o (by omega), e2]; exact hs2.2.2 m hm⟩, by rw [xup_o (by omega), e1]; exact hw2.1, wd_R hw.2.1 f4, hd⟩
      refine x0_eqd hw2.1 rfl rfl (fun hd => ?_) (fun hd => ?_)
      · exact last D2 fR.rf (fun _ => rfl) (fun _ => rfl) (fun z => by rw [hd] at z; cases z)
      · obtain ⟨⟨r1, r2, r3, r4, r5, r6, r7, r8, r9⟩, hz⟩ := hw2.2.2 hd
        refine x_astN (112 + S.B) rfl rfl (by rw [hs2.1]; exact nI_add 112 _) (by omega) rfl ?_
        refine x_astN (120 + S.B) rfl rfl (by rw [xup_o (by omega), hs2.1]; exact nI_add 120 _) (by omega) rfl ?_
        refine x_aldN 108 rfl rfl rfl (by omega) rfl ?_
        refine x_astN 108 rfl rfl rfl (by omega) rfl ?_
        have e8 : xup (xup D2 112 (112 + S.B) (nI kd)) 112 (120 + S.B) (nI p) 112 108 + xnum 1 = nI (S.B + 1) := by
          rw [xup_o (by omega), xup_o (by omega), r1]; exact nI_1 _
        rw [e8]
        refine last _ (fun a j q1 q2 q3 => by
          have q4 : ¬ (a = 112 ∧ 108 ≤ j ∧ j < 216) := fun z => q3 ⟨hd, z⟩
          rw [xup_o (by omega), xup_o (by omega), xup_o (by omega)]) (fun j => by rw [xup_o (by omega), xup_o (by omega), xup_o (by omega)]) (fun j => by rw [xup_o (by omega), xup_o (by omega), xup_o (by omega)]) (fun _ => ⟨⟨?_, ?_, ?_, ?_, fun b hb => ?_, fun b hb => ?_, fun b k hb hk => ?_, fun m hm => ?_, fun m hm => ?_⟩, fun b k q1 q2 q3 => ?_⟩)
        · rw [xup_o (by omega), xup_at]
        · rw [xup_o (by omega), xup_o (by omega), xup_o (by omega), xup_o (by omega)]; exact r2
        · rw [xup_o (by omega), xup_o (by omega), xup_o (by omega), xup_o (by omega)]; exact r3
        · rw [xup_o (by omega), xup_o (by omega), xup_o (by omega), xup_o (by omega)]; exact r4
        · have hb : b < S.B + 1 := hb
          show _ = nI (wuf S.kd S.B kd b)
          rw [xup_o (by omega), xup_o (by omega), xup_o (by omega)]
          by_cases q : b = S.B
          · subst q; rw [wuf_at]
            have : 108 + 4 + S.B = 112 + S.B := by omega
            rw [this, xup_at]
          · rw [xup_o (by omega), wuf_ne _ _ q]; exact r5 b (by omega)
        · have hb : b < S.B + 1 := hb
          show _ = nI (wuf S.pe S.B p b)
          rw [xup_o (by omega), xup_o (by omega)]
          by_cases q : b = S.B
          · subst q; rw [wuf_at]
            have : 108 + 12 + S.B = 120 + S.B := by omega
            rw [this, xup_at]
          · rw [xup_o (by omega), xup_o (by omega), wuf_ne _ _ q]; exact r6 b (by omega)
        · have hb : b < S.B + 1 := hb
          show _ = nI (if b = S.B then 0 else S.K b k)
          rw [xup_o (by omega), xup_o (by omega), xup_o (by omega), xup_o (by omega)]
          by_cases q : b = S.B
          · subst q; rw [if_pos rfl]; exact hz S.B k (Nat.le_refl _) (by omega) hk
          · rw [if_neg q]; exact r7 b k (by omega) hk
        · have hm : m < S.M := hm
          rw [xup_o (by omega), xup_o (by omega), xup_o (by omega), xup_o (by omega)]; exact r8 m hm
        · have hm : m < S.M := hm
          rw [xup_o (by omega), xup_o (by omega), xup_o (by omega), xup_o (by omega)]; exact r9 m hm
        · have q1 : S.B + 1 ≤ b := q1
          rw [xup_o (by omega), xup_o (by omega), xup_o (by omega), xup_o (by omega)]; exact hz b k (by omega) q2 q3
  · rw [if_pos (by omega)] at hp
    exact x_ret rfl rfl rfl rfl (hp _ D ⟨fR.rf, rfl, h.2.2.1⟩)
theorem c_readsMan {f e : Nat} (h : tM D tx f e) (hs : sM D S) (hw : wM D d S) (ho : wok S) (hbe : e ≤ tx.length) (hT : tx.length ≤ 200 ∧ ∀ c ∈ tx, c < 256) (hp : ∀ v D', rmP D d tx (rdMan tx S f e) v D' → post v D') : xRuns Γ (n + 4) hX9_readsMan [xR 0 9 111] D post := by
  have h8 := ho.1
  have h4 := ho.2.1
  have g1 := tF_le hbe
  have g2 := tE_le g1.2
  refine x_runs kX9_readsMan (by decide +kernel) rfl ?_
  rw [rdMan] at hp
  refine xi_neN S.M 4 rfl rfl hs.2.1 rfl (by omega) (by omega) (fun h1 => ?_) (fun h1 => ?_)
  · rw [if_neg (by omega)] at hp
    refine x_call [] rfl rfl rfl rfl rfl rfl rfl (c_nextToken h hbe hT (fun D1 k1 k2 => ?_))
    have hs1 := sM_T hs k2
    have hw1 := wM_T hw ⟨h8, h4⟩ k2
    have e10 := tWm10 (tx := tx) g2.1 g2.2.1 g2.2.2
    have hlt : tWords tx (tF tx e) (tE tx (tF tx e)) < 1024 := tRi_lt tx _ _ _ _ (by omega)
    refine x_call [xI (nI 10)] rfl rfl rfl rfl rfl rfl rfl (c_words k1 g2.1 g2.2.1 g2.2.2 hT (by omega) (fun hn => ?_) (fun hn D2 k3 k4 => ?_))
    · rw [e10] at hn
      rw [if_pos hn] at hp
      refine x0_ne rfl rfl (fun q => absurd rfl q) (fun _ => ?_)
      exact x_ret rfl rfl rfl rfl (hp _ D1 ⟨fR.ofT k2, rfl, k1.2.2.1⟩)
    · rw [e10] at hn ⊢
      rw [if_neg hn] at hp
      generalize tWords tx (tF tx e) (tE tx (tF tx e)) = ws at hn hp hlt ⊢
      have hs2 := sM_T hs1 k4
      have hw2 := wM_T hw1 ⟨h8, h4⟩ k4
      have f2 : fR d D D2 := fR.ofT (k2.tr k4)
      refine x0_ne rfl rfl (fun _ => ?_) (fun q => absurd q (nI_ne0 (by omega) (by omega)))
      have last : ∀ D3 : xM, fR d D2 D3 → (∀ j, D3 111 j = D2 111 j) → (∀ m, D3 124 m = D2 124 m) → (d = true → rM (xup (xup D3 124 S.M (xnum (-1))) 111 19 (nI (S.M + 1))) 108 (wAM S ws) ∧ zS (xup (xup D3 124 S.M (xnum (-1))) 111 19 (nI (S.M + 1))) (wAM S ws)) → xW Γ (n + 4) hX9_readsMan rX9_readsMan 73 [some (xR 0 9 111), some (xI (nI ws))] [] D3 post := by
        intro D3 f3 e1 e2 hd
        refine x_astN S.M rfl rfl (by rw [e1]; exact hs2.2.1) (by omega) rfl ?_
        refine x_ret rfl rfl rfl rfl ?_
        have eM : xup D3 124 S.M (xnum (-1)) 111 19 + xnum 1 = nI (S.M + 1) := by rw [xup_o (by omega), e1, hs2.2.1]; exact nI_1 _
        rw [eM]
        have f4 : fR d D (xup (xup D3 124 S.M (xnum (-1))) 111 19 (nI (S.M + 1))) := f2.tr (f3.tr (fun a j q1 q2 q3 => by rw [xup_o (by omega), xup_o (by omega)]))
        refine hp _ _ ⟨f4, rfl, ⟨by rw [xup_o (by omega), xup_o (by omega), e1]; exact k3.1, rL_out k3.2.1 (by rw [xup_ne 114 (by omega), xup_ne 114 (by omega)]; exact funext fun j => f3 114 j (by omega) (by omega) (by omega)), by rw [xup_o (by omega), xup_o (by omega), e1]; exact k3.2.2.1, by rw [xup_o (by omega), xup_o (by omega), e1]; exact k3.2.2.2⟩, ⟨by rw [xup_o (by omega), xup_o (by omega), e1]; exact hs2.1, by rw [xup_at], fun m hm => ?_⟩, by rw [xup_o (by omega), xup_o (by omega), e1]; exact hw2.1, wd_R hw.2.1 f4, hd⟩
        have hm : m < S.M + 1 := hm
        show _ = xby (wuf S.bi S.M none m)
        rw [xup_o (by omega)]
        by_cases q : m = S.M
        · subst q; rw [xup_at, wuf_at]; rfl
        · rw [xup_o (by omega), wuf_ne _ _ q, e2]; exact hs2.2.2 m (by omega)
      refine x0_eqd hw2.1 rfl rfl (fun hd => ?_) (fun hd => ?_)
      · exact last D2 fR.rf (fun _ => rfl) (fun _ => rfl) (fun z => by rw [hd] at z; cases z)
      · obtain ⟨⟨r1, r2, r3, r4, r5, r6, r7, r8, r9⟩, hz⟩ := hw2.2.2 hd
        refine x_astN (208 + S.M) rfl rfl (by rw [hs2.2.1]; exact nI_add 208 _) (by omega) rfl ?_
        refine x_astN (212 + S.M) rfl rfl (by rw [xup_o (by omega), hs2.2.1]; exact nI_add 212 _) (by omega) rfl ?_
        refine x_aldN 109 rfl rfl rfl (by omega) rfl ?_
        refine x_astN 109 rfl rfl rfl (by omega) rfl ?_
        have e8 : xup (xup D2 112 (208 + S.M) (nI ws)) 112 (212 + S.M) (xnum (-1)) 112 109 + xnum 1 = nI (S.M + 1) := by
          rw [xup_o (by omega), xup_o (by omega), r2]; exact nI_1 _
        rw [e8]
        refine last _ (fun a j q1 q2 q3 => by
          have q4 : ¬ (a = 112 ∧ 108 ≤ j ∧ j < 216) := fun z => q3 ⟨hd, z⟩
          rw [xup_o (by omega), xup_o (by omega), xup_o (by omega)]) (fun j => by rw [xup_o (by omega), xup_o (by omega), xup_o (by omega)]) (fun j => by rw [xup_o (by omega), xup_o (by omega), xup_o (by omega)]) (fun _ => ⟨⟨?_, ?_, ?_, ?_, fun b hb => ?_, fun b hb => ?_, fun b k hb hk => ?_, fun m hm => ?_, fun m hm => ?_⟩, fun b k q1 q2 q3 => ?_⟩)
        · rw [xup_o (by omega), xup_o (by omega), xup_o (by omega), xup_o (by omega), xup_o (by omega)]; exact r1
        · rw [xup_o (by omega), xup_o (by omega), xup_at]
        · rw [xup_o (by omega), xup_o (by omega), xup_o (by omega), xup_o (by omega), xup_o (by omega)]; exact r3
        · rw [xup_o (by omega), xup_o (by omega), xup_o (by omega), xup_o (by omega), xup_o (by omega)]; exact r4
        · have hb : b < S.B := hb
          rw [xup_o (by omega), xup_o (by omega), xup_o (by omega), xup_o (by omega), xup_o (by omega)]; exact r5 b hb
        · have hb : b < S.B := hb
          rw [xup_o (by omega), xup_o (by omega), xup_o (by omega), xup_o (by omega), xup_o (by omega)]; exact r6 b hb
        · have hb : b < S.B := hb
          rw [xup_o (by omega), xup_o (by omega), xup_o (by omega), xup_o (by omega), xup_o (by omega)]; exact r7 b k hb hk
        · have hm : m < S.M + 1 := hm
          show _ = nI (wuf S.ha S.M ws m)
          rw [xup_o (by omega), xup_o (by omega), xup_o (by omega), xup_o (by omega)]
          by_cases q : m = S.M
          · subst q; rw [wuf_at]
            have : 108 + 100 + S.M = 208 + S.M := by omega
            rw [this, xup_at]
          · rw [xup_o (by omega), wuf_ne _ _ q]; exact r8 m (by omega)
        · have hm : m < S.M + 1 := hm
          show _ = xby (wuf S.bi S.M none m)
          rw [xup_o (by omega), xup_o (by omega), xup_o (by omega)]
          by_cases q : m = S.M
          · subst q; rw [wuf_at]
            have : 108 + 104 + S.M = 212 + S.M := by omega
            rw [this, xup_at]; rfl
          · rw [xup_o (by omega), xup_o (by omega), wuf_ne _ _ q]; exact r9 m (by omega)
        · have q1 : S.B ≤ b := q1
          rw [xup_o (by omega), xup_o (by omega), xup_o (by omega), xup_o (by omega), xup_o (by omega)]; exact hz b k q1 q2 q3
  · rw [if_pos (by omega)] at hp
    exact x_ret rfl rfl rfl rfl (hp _ D ⟨fR.rf, rfl, h.2.2.1⟩)
theorem c_readsKnows {f e : Nat} (h : tM D tx f e) (hs : sM D S) (hw : wM D d S) (ho : wok S) (hbe : e ≤ tx.length) (hT : tx.length ≤ 200 ∧ ∀ c ∈ tx, c < 256) (hp : ∀ v D', rmP D d tx (rdKn tx S e) v D' → post v D') : xRuns Γ (n + 4) hX9_readsKnows [xR 0 9 111] D post := by
  have h8 := ho.1
  have h4 := ho.2.1
  have g1 := tF_le hbe
  have g2 := tE_le g1.2
  refine x_runs kX9_readsKnows (by decide +kernel) rfl ?_
  rw [rdKn, rdN] at hp
  refine x_call [] rfl rfl rfl rfl rfl rfl rfl (c_nextToken h hbe hT (fun D1 k1 k2 => ?_))
  have hs1 := sM_T hs k2
  have hw1 := wM_T hw ⟨h8, h4⟩ k2
  refine x_to 9 rfl ?_
  rw [hs1.1]
  refine x_call [xI (nI S.B)] rfl rfl rfl rfl rfl rfl rfl (c_number k1 g2.1 g2.2.1 g2.2.2 hT (by omega) ?_)
  rcases hv : tNum tx (tF tx e) (tE tx (tF tx e)) S.B with _ | b
  · rw [hv] at hp
    refine xi_ne rfl rfl (fun q => absurd rfl q) (fun _ => ?_)
    refine x_goto rfl rfl ?_
    refine x0_ne rfl rfl (fun q => absurd rfl q) (fun _ => ?_)
    refine x_goto rfl rfl ?_
    refine xi_ne rfl rfl (fun q => absurd rfl q) (fun _ => ?_)
    exact x_ret rfl rfl rfl rfl (hp _ D1 ⟨fR.ofT k2, rfl, k1.2.2.1⟩)
  · rw [hv] at hp
    dsimp only at hp ⊢
    intro D2 k3 k4
    have hs2 := sM_T hs1 k4
    have hw2 := wM_T hw1 ⟨h8, h4⟩ k4
    have t2 : fT D D2 := k2.tr k4
    have hb := (tNum_lt hv).1
    rw [rdKn2] at hp
    refine xi_ne rfl rfl (fun _ => ?_) (fun q => absurd q (nI_nm1 (by omega)))
    generalize tE tx (tF tx e) = e1 at k3 hp g2
    have g3 := tF_le g2.2.1
    have g4 := tE_le g3.2
    have e1w := tWm1 (tx := tx) g4.1 g4.2.1 g4.2.2
    refine x_call [xI (nI 1)] rfl rfl rfl rfl rfl rfl rfl (c_words k3 g4.1 g4.2.1 g4.2.2 hT (by omega) (fun hn => ?_) (fun hn D3 k5 k6 => ?_))
    · have ho1 : tOne tx (tF tx e1) (tE tx (tF tx e1)) = none := by
        rcases q : tOne tx (tF tx e1) (tE tx (tF tx e1)) with _ | w
        · rfl
        · rw [q, hn] at e1w
          have := Nat.pow_pos (n := w) (show 0 < 2 by omega)
          dsimp only at e1w
          exact absurd e1w (Nat.ne_of_lt this)
      rw [ho1] at hp
      refine x0_ne rfl rfl (fun q => absurd rfl q) (fun _ => ?_)
      refine x_goto rfl rfl ?_
      refine xi_ne rfl rfl (fun q => absurd rfl q) (fun _ => ?_)
      exact x_ret rfl rfl rfl rfl (hp _ D2 ⟨fR.ofT t2, rfl, k3.2.2.1⟩)
    · rcases q : tOne tx (tF tx e1) (tE tx (tF tx e1)) with _ | w
      · rw [q] at e1w; exact absurd e1w hn
      · rw [q] at e1w hp
        dsimp only at e1w hp
        rw [e1w]
        have hwl : w < 10 := by
          rw [tOne] at q
          split at q
          · exact (tWo_lt q).1
          · cases q
        have hw10 : 2 ^ w < 1024 := Nat.pow_lt_pow_right (n := 10) (by decide) hwl
        have hwp := Nat.pow_pos (n := w) (show 0 < 2 by omega)
        have hs3 := sM_T hs2 k6
        have hw3 := wM_T hw2 ⟨h8, h4⟩ k6
        have t3 : fT D D3 := t2.tr k6
        rw [rdKn3, rdN] at hp
        generalize tE tx (tF tx e1) = e2 at k5 hp g4
        have g5 := tF_le g4.2.1
        have g6 := tE_le g5.2
        refine x0_ne rfl rfl (fun _ => ?_) (fun z => absurd z (nI_ne0 hwp (Nat.lt_trans hw10 (by decide))))
        refine x_call [xI (nI 10)] rfl rfl rfl rfl rfl rfl rfl (c_number k5 g6.1 g6.2.1 g6.2.2 hT (by omega) ?_)
        rcases hu : tNum tx (tF tx e2) (tE tx (tF tx e2)) 10 with _ | v
        · rw [hu] at hp
          refine xi_ne rfl rfl (fun z => absurd rfl z) (fun _ => ?_)
          exact x_ret rfl rfl rfl rfl (hp _ D3 ⟨fR.ofT t3, rfl, k5.2.2.1⟩)
        · rw [hu] at hp
          dsimp only at hp ⊢
          intro D4 k7 k8
          have hvl := (tNum_lt hu).1
          have hs4 := sM_T hs3 k8
          have hw4 := wM_T hw3 ⟨h8, h4⟩ k8
          have f4 : fR d D D4 := fR.ofT (t3.tr k8)
          refine xi_ne rfl rfl (fun _ => ?_) (fun z => absurd z (nI_nm1 (by omega)))
          refine x_to 53 rfl ?_
          have loop : ∀ g i (D5 : xM), i + g = 10 → (∀ a j, ¬ (d = true ∧ a = 112 ∧ 128 + b * 10 ≤ j ∧ j < 128 + b * 10 + 10) → D5 a j = D4 a j) → (d = true → ∀ k, k < 10 → D5 112 (128 + b * 10 + k) = if k = w ∧ k < i then nI v else D4 112 (128 + b * 10 + k)) → (d = false → i = 0) → xW Γ (n + 4) hX9_readsKnows rX9_readsKnows 53 [some (xR 0 9 111), some (xI (nI b)), some (xI (nI (2 ^ w))), some (xI (nI v)), some (xI (nI i))] [] D5 post := by
            have fin : ∀ (i : Nat) (D5 : xM), (∀ a j, ¬ (d = true ∧ a = 112 ∧ 128 + b * 10 ≤ j ∧ j < 128 + b * 10 + 10) → D5 a j = D4 a j) → (d = true → ∀ k, k < 10 → D5 112 (128 + b * 10 + k) = if k = w ∧ k < 10 then nI v else D4 112 (128 + b * 10 + k)) → xW Γ (n + 4) hX9_readsKnows rX9_readsKnows 118 [some (xR 0 9 111), some (xI (nI b)), some (xI (nI (2 ^ w))), some (xI (nI v)), some (xI (nI i))] [] D5 post := by
              intro i D5 z1 z2
              refine x_ret rfl rfl rfl rfl ?_
              have f5 : fR d D D5 := f4.tr (fun a j q1 q2 q3 => z1 a j (fun z => q3 ⟨z.1, z.2.1, by omega, by omega⟩))
              refine hp _ D5 ⟨f5, rfl, ⟨by rw [z1 111 4 (by omega)]; exact k7.1, rL_out k7.2.1 (funext fun j => z1 114 j (by omega)), by rw [z1 111 16 (by omega)]; exact k7.2.2.1, by rw [z1 111 17 (by omega)]; exact k7.2.2.2⟩, ⟨by rw [z1 111 18 (by omega)]; exact hs4.1, by rw [z1 111 19 (by omega)]; exact hs4.2.1, fun m hm => by rw [z1 124 m (by omega)]; exact hs4.2.2 m hm⟩, by rw [z1 111 22 (by omega)]; exact hw4.1, wd_R hw.2.1 f5, fun hd => ?_⟩
              obtain ⟨⟨r1, r2, r3, r4, r5, r6, r7, r8, r9⟩, hz⟩ := hw4.2.2 hd
              have z2 := z2 hd
              refine ⟨⟨by rw [z1 112 _ (by omega)]; exact r1, by rw [z1 112 _ (by omega)]; exact r2, by rw [z1 112 _ (by omega)]; exact r3, by rw [z1 112 _ (by omega)]; exact r4, fun c hc => ?_, fun c hc => ?_, fun c k hc hk => ?_, fun m hm => ?_, fun m hm => ?_⟩, fun c k q1 q2 q3 => ?_⟩
              · have hc : c < S.B := hc
                rw [z1 112 _ (by omega)]; exact r5 c hc
              · have hc : c < S.B := hc
                rw [z1 112 _ (by omega)]; exact r6 c hc
              · have hc : c < S.B := hc
                show _ = nI (wup S.K b w v c k)
                by_cases ec : c = b
                · subst ec
                  have : 108 + 20 + (c * 10 + k) = 128 + c * 10 + k := by omega
                  rw [this, z2 k hk, wup]
                  by_cases ek : k = w
                  · rw [if_pos ⟨ek, hk⟩, if_pos ⟨rfl, ek⟩]
                  · rw [if_neg (fun z => ek z.1), if_neg (fun z => ek z.2), ← this]; exact r7 c k hc hk
                · rw [z1 112 _ (by omega), wup, if_neg (fun z => ec z.1)]; exact r7 c k hc hk
              · have hm : m < S.M := hm
                rw [z1 112 _ (by omega)]; exact r8 m hm
              · have hm : m < S.M := hm
                rw [z1 112 _ (by omega)]; exact r9 m hm
              · have q1 : S.B ≤ c := q1
                rw [z1 112 _ (by omega)]; exact hz c k q1 q2 q3
            intro g
            induction g with
            | zero =>
              intro i D5 hi z1 z2 z3
              obtain rfl : i = 10 := by omega
              refine xi_geN 10 10 rfl rfl rfl rfl (by omega) (by omega) (fun _ => fin 10 D5 z1 z2) (fun h => absurd h (by omega))
            | succ g ih =>
              intro i D5 hi z1 z2 z3
              refine xi_geN i 10 rfl rfl rfl rfl (by omega) (by omega) (fun h => absurd h (by omega)) (fun hi10 => ?_)
              refine x0_eqd (by rw [z1 111 22 (by omega)]; exact hw4.1) rfl rfl (fun hd => fin i D5 z1 (fun z => by rw [hd] at z; cases z)) (fun hd => ?_)
              have z2' := z2 hd
              have ix : xnum 128 + xnum 10 * nI b + nI i = nI (128 + b * 10 + i) := by
                show nI 128 + nI 10 * nI b + nI i = _
                rw [pk_mul, nI_add, nI_add]
                exact congrArg nI (by omega)
              have next : ∀ x : Int32, x = (if i = w then nI v else D4 112 (128 + b * 10 + i)) → xW Γ (n + 4) hX9_readsKnows rX9_readsKnows 112 [some (xR 0 9 111), some (xI (nI b)), some (xI (nI (2 ^ w))), some (xI (nI v)), some (xI (nI i))] [] (xup D5 112 (128 + b * 10 + i) x) post := by
                intro x hx
                have IH := ih (i + 1) (xup D5 112 (128 + b * 10 + i) x) (by omega) (fun a j q => by rw [xup_o (fun z => q ⟨hd, z.1, by omega, by omega⟩)]; exact z1 a j q) (fun _ k hk => by
                  by_cases ek : k = i
                  · subst ek
                    rw [xup_at, hx]
                    by_cases q : k = w
                    · rw [if_pos q, if_pos ⟨q, by omega⟩]
                    · rw [if_neg q, if_neg (fun z => q z.1)]
                  · rw [xup_o (by omega), z2' k hk]
                    by_cases q : k = w ∧ k < i
                    · rw [if_pos q, if_pos ⟨q.1, by omega⟩]
                    · rw [if_neg q, if_neg (fun z => q ⟨z.1, by omega⟩)]) (fun z => by rw [hd] at z; cases z)
                rw [← nI_1] at IH
                exact x_goto rfl rfl IH
              refine x_scall [xI (nI (2 ^ w)), xI (nI i)] rfl rfl rfl rfl rfl rfl rfl (c_has (by omega) (by omega) ?_)
              rw [Nat.testBit_two_pow]
              by_cases q : w = i
              · rw [decide_eq_true q]
                refine x0_eq rfl rfl (fun z => absurd z (by decide)) (fun _ => ?_)
                refine x_goto rfl rfl ?_
                refine x_astN (128 + b * 10 + i) rfl rfl ix (by omega) rfl ?_
                exact next _ (by rw [if_pos q.symm])
              · rw [decide_eq_false q]
                refine x0_eq rfl rfl (fun _ => ?_) (fun z => absurd rfl z)
                refine x_aldN (128 + b * 10 + i) rfl rfl ix (by omega) rfl ?_
                refine x_astN (128 + b * 10 + i) rfl rfl ix (by omega) rfl ?_
                exact next _ (by rw [if_neg (fun z => q z.symm), z2' i hi10, if_neg (by omega)])
          exact loop 10 0 D4 (by omega) (fun _ _ _ => rfl) (fun _ k hk => by rw [if_neg (by omega)]) (fun _ => rfl)
end MS
