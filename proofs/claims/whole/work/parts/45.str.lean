/-! ===== Strings that are constants: length, charAt ===== -/
section ST1
variable {Γ : xG} {n : Nat} {h : xHd} {rows : List xRow} {post : Option Int32 → xM → Prop}
set_option maxHeartbeats 4000000 in
/-- invokevirtual on a String constant -/
theorem x_kcall {pc pc' a b : Nat} {lv lv' : List (Option xV)} {st st' : List xV} {D D' : xM} {idx : Nat} {g : xHd} {k : Nat} (As : List xV) {rest : List xV} (h1 : xrun rows xN 60 pc lv st D = some (pc', lv', st', D')) (hr : xrw rows pc' = some (.invokevirtual idx, 3, a, b)) (hg : xsg[a]? = some g) (hst' : st' = As.reverse ++ .inr (.inr (5, k, 0)) :: rest) (hb2 : As.length = b) (hcls : g.1.cls = "java/lang/String") (hroom : Nat.ble ((rest.map xcat).sum) 8 = true)
    (kk : xRuns Γ n g (.inr (.inr (5, k, 0)) :: As) D' (fun v D2 => xW Γ (n + 1) h rows (pc' + 3) lv' (v.toList.map .inl ++ rest) D2 post)) : xW Γ (n + 1) h rows pc lv st D post := by
  refine x_to xN h1 ?_
  intro p e R s m args below meth c H locs cells slots Q ls C hH hS hl hst hret
  obtain ⟨hx, hb, hml, hrt, hlk, hown, hts, hs, hck, hR⟩ := id C
  have hok := xck_row hck hr
  have hd := xok_dec hok
  have hok2 := (xand hok).2
  subst hst'
  obtain ⟨p1, hp1⟩ := xzip (p := xmlp) xml_len (of_decide_eq_true (xand hok2).1)
  obtain ⟨p2, hp2⟩ := xzip (p := xmvp) xmv_len (of_decide_eq_true (xand hok2).2)
  have c1 := List.all_eq_true.mp xml_ok _ hp1
  have w2 := List.all_eq_true.mp xmv_ok _ hp2
  have c3 := xmapz xmv_c _ hp2
  simp only [xmlB, xmvB, hg] at c1 w2 c3
  have c3 := xcd_in c3
  obtain ⟨q12, q3⟩ := xand w2
  obtain ⟨q01, q2⟩ := xand q12
  obtain ⟨q1, c2⟩ := xand q01
  obtain ⟨c45, c6⟩ := xand q1
  obtain ⟨c4, c5⟩ := xand c45
  have hmx : g.2.2.1 ≤ 40 := of_decide_eq_true c6
  have hvr : xvr 5 k 0 := hst (.inr (.inr (5, k, 0))) (List.mem_append_right _ List.mem_cons_self)
  have hrest : ∀ v ∈ rest, xvv v := fun v hv => hst v (List.mem_append_right _ (List.mem_cons_of_mem _ hv))
  have hAs : ∀ v ∈ As, xvv v := fun v hv => hst v (List.mem_append_left _ (List.mem_reverse.mpr hv))
  have cw : CallW R s args h.1.cls g.1.cls idx g.1 g.2.1 g.2.2.1 g.2.2.2 (xcd g :: xtb) (xrm n) 0 0 b :=
    ⟨callB_of b hts (xcd_good c3) rfl rfl rfl (hts _ (xat_mem c2)) (hts _ (xat_mem c1)) ⟨(of_decide_eq_true c4 : _ ∧ _).1, (of_decide_eq_true c4 : _ ∧ _).2, of_decide_eq_true c5⟩ ⟨by have := hR.1; show n + 1 ≤ R.frames; omega, by have := hR.2.1; show 8 + (g.2.2.1 + 11) + 64 * n ≤ R.locals; omega⟩, hts _ (xat_mem q2), hts _ (xat_mem q3)⟩
  have hrecv := vk_recv hs.2.2.2.2.1 hvr hS
  rw [← hcls] at hrecv
  have hpre : PreV s H g.1.cls (Γ.k k) (xP Γ (.inr (.inr (5, k, 0)) :: As) D') (As.map (xcv Γ)) := ⟨xP_blind, hrecv, fun U hU hW => ⟨rfl, by rw [hU]; exact hH, hs.warm hW (by rw [hU]; exact hS.1) (fun z z1 z2 => by rw [hU]; exact hS.2.1 z z1 z2), fun v hv => by
      rcases List.mem_cons.mp hv with z | z
      · rw [z]; exact hvr
      · exact hAs v z⟩⟩
  have hstk : (As.reverse ++ .inr (.inr (5, k, 0)) :: rest).map (xcv Γ) = (As.map (xcv Γ)).reverse ++ .ref (Γ.k k) :: rest.map (xcv Γ) := by
    rw [List.map_append, List.map_reverse]; rfl
  rw [hstk]
  have hcat : ((rest.map (xcv Γ)).map fun v => v.category).sum ≤ 8 := by
    have := Nat.le_of_ble_eq_true hroom
    rw [List.map_map]
    have e2 : (Value.category ∘ xcv Γ) = xcat := funext (xcat_ok Γ)
    show (List.map (Value.category ∘ xcv Γ) rest).sum ≤ 8
    rw [e2]
    exact this
  exact x_after (va_runV (As := As.map (xcv Γ)) (rest := rest.map (xcv Γ)) ⟨hx, hb, hml, hown, hts⟩ kk cw hpre rfl (by simp [hb2]) hl.1 rfl (by show 2 * 0 + _ ≤ 8; omega) hd ⟨by have := hR.2.2.1; omega, by have := hR.2.2.2; omega⟩) C hS hl hrest hret
set_option maxHeartbeats 4000000 in
/-- a contract over values that are no layout's -/
theorem x_runsV {vs : List Value} {lv : List (Option xV)} {D : xM} (hk : xck h rows = true) (hy : plainName h.1.cls = true) (hlen : (lg_sl vs).length ≤ h.2.2.1) (hll : lv.length ≤ h.2.2.1) (hlv : ∀ i v, lv[i]? = some (some v) → xvv v ∧ (i, xcv Γ v) ∈ lv_args 0 vs) (kk : xW Γ n h rows 0 lv [] D post) : Met Γ.l h.1 (xcd h :: xtb) (xrm n) (va_Pc vs (fun U => xH Γ D U.heap ∧ xS Γ U)) (xQ Γ post) 0 0 (xA Γ) := by
  refine Met.ofW (cc := h.2.1) (maxL := h.2.2.1) (ret := h.2.2.2) hy rfl ?_
  intro p e s m args below meth c s₁ B hml hv
  obtain ⟨rfl, hH, hs⟩ := hv
  have hts := atoms_spec (ws := xcd h :: xtb) B.pre
  have hl := lv_entry vs (n := h.2.2.1) hlen
  rw [lg_entry_eq]
  have hl2 : xlh Γ h ((lg_sl vs ++ List.replicate (h.2.2.1 - (lg_sl vs).length) Slot.unset).toArray) lv := by
    refine ⟨hl.1, hl.2.1, fun i v hi => ⟨(hlv i v hi).1, ?_⟩, hll⟩
    exact hl.2.2 _ (hlv i v hi).2
  exact kk p e (xrm n) s m _ below meth c s.heap [] 0 0 _ _ ⟨B.exec, B.bytes, hml, B.returns, B.notSynchronized, findClass_of_methodNamed B.named, fun w hw => hts w (List.mem_cons_of_mem _ hw), hs, hk, Nat.le_refl _, Nat.le_refl _, Nat.le_refl _, Nat.le_refl _⟩ hH va_S.rf hl2 (fun v hv => by cases hv) (fun v D' H' locs' pc' ls' hp hH' hS' hrt => by
    have hq : ∀ t : State, t.heap = H' → s.WarmedH t.vm → xQ Γ post vs.toArray s (.returned (v.map Value.int)) t := fun t ht _ => ⟨⟨v, D', rfl, hp, by rw [ht]; exact hH'⟩, hS'.F ht⟩
    cases v with
    | none => exact W.vret B.exec B.bytes (B.returns.trans hrt.1) hq hS'.2.2 hrt.2 B.notSynchronized
    | some x =>
      obtain ⟨ty, e1, e2, e3⟩ := hrt
      exact W.zret B.exec B.bytes (B.returns.trans e1) e2 hq hS'.2.2 e3 B.notSynchronized)
end ST1
abbrev hJ0ck : xHd := (yJ0_checkIndex_df160, cJ0_checkIndex_df160, 2, none)
def rJ0ck : List xRow := [(0, .iload_n 0, 1, 0, 0), (1, .iload_n 1, 1, 0, 0), (8, .pop, 1, 0, 0), (9, .return_, 1, 0, 0)]
theorem kJ0ck : xck hJ0ck rJ0ck = true := by decide +kernel
abbrev hJ3ck : xHd := (yJ3_checkIndex_8e157, cJ3_checkIndex_8e157, 3, some .int)
def rJ3ck : List xRow := [(0, .iload_n 0, 1, 0, 0), (1, .ifCond .lt 8, 3, 9, 0), (4, .iload_n 0, 1, 0, 0), (5, .iload_n 1, 1, 0, 0), (6, .if_icmp .lt 10, 3, 16, 0), (16, .iload_n 0, 1, 0, 0), (17, .ireturn, 1, 0, 0)]
theorem kJ3ck : xck hJ3ck rJ3ck = true := by decide +kernel
theorem wJ_f : xat 436 (.fieldLink "java/lang/String" 1053 "jdk/internal/util/Preconditions" "SIOOBE_FORMATTER" "Ljava/util/function/BiFunction;") = true := by decide +kernel
theorem wJ_m : xat 438 (.methodLink "java/lang/String" 1059 yJ3_checkIndex_8e157) = true := by decide +kernel
theorem wJ_s : xat 439 (.static yJ3_checkIndex_8e157) = true := by decide +kernel
theorem wJ_i : xat 92 (.initialized yJ3_checkIndex_8e157.cls) = true := by decide +kernel
theorem wJ_d1 : decode cJ0_checkIndex_df160 2 = .ok (.getstatic 1053, 3) := by decide +kernel
theorem wJ_d2 : decode cJ0_checkIndex_df160 5 = .ok (.invokestatic 1059, 3) := by decide +kernel
set_option maxRecDepth 1000000 in
theorem wJ_c : lw_tbl[440]? = some (xcd hJ3ck) := by rfl
section ST2
variable {Γ : xG} {n : Nat} {D : xM} {post : Option Int32 → xM → Prop}
set_option maxHeartbeats 4000000 in
theorem c_ck {a b : Nat} (hab : a < b) (hb31 : b < 2 ^ 31) (hp : post none D) : xRuns Γ (n + 1) hJ0ck [xI (nI a), xI (nI b)] D post := by
  refine x_runs kJ0ck (by decide +kernel) rfl ?_
  refine x_to 2 rfl ?_
  have kk : xW Γ (n + 1) hJ0ck rJ0ck (2 + 3 + 3) [some (xI (nI a)), some (xI (nI b))] [xI (nI a)] D post := x_vret rfl rfl rfl hp
  intro p e R s m args below meth c H locs cells slots Q ls C hH hS hl hst hret
  obtain ⟨hx, hb, hml, hrt, hlk, hown, hts, hs, hck, hR⟩ := id C
  have hZ : ∃ v : Value, v.category = 1 ∧ va_Z "jdk/internal/util/Preconditions" "SIOOBE_FORMATTER" "Ljava/util/function/BiFunction;" v (xA Γ) s s.heap := by
    rcases hs.2.2.2.2.2.2.2.2.2.2 with q | ⟨t, q⟩
    · exact ⟨_, rfl, q⟩
    · exact ⟨_, rfl, q⟩
  obtain ⟨v, hcv, hz⟩ := hZ
  refine va_gets hx hb hz hS hown (hts _ (xat_mem wJ_f)) (fun _ z => z) wJ_d1 ?_
  have c3 := xcd_in wJ_c
  have met : Met Γ.l hJ3ck.1 (xcd hJ3ck :: xtb) (xrm n) (va_Pc [.int (nI a), .int (nI b), v] (fun U => xH Γ D U.heap ∧ xS Γ U)) (xQ Γ (fun v D2 => xW Γ (n + 1) hJ0ck rJ0ck (2 + 3 + 3) [some (xI (nI a)), some (xI (nI b))] (v.toList.map .inl ++ []) D2 post)) 0 0 (xA Γ) := by
    refine x_runsV (lv := [some (xI (nI a)), some (xI (nI b)), none]) kJ3ck (by decide +kernel) ?_ (Nat.le_refl 3) (fun i u hi => ?_) ?_
    · have : (lg_sl [.int (nI a), .int (nI b), v]).length = 3 := by
        cases v <;> first | rfl | (exfalso; revert hcv; simp [Value.category])
      rw [this]
      exact Nat.le_refl 3
    · match i, hi with
      | 0, hi => cases hi; exact ⟨trivial, List.mem_cons_self⟩
      | 1, hi => cases hi; exact ⟨trivial, List.mem_cons_of_mem _ List.mem_cons_self⟩
      | 2, hi => cases hi
      | i + 3, hi => cases hi
    · refine x0_lt rfl rfl (fun h => absurd h (nI_pos (by omega))) (fun _ => ?_)
      refine xi_ltN a b rfl rfl rfl rfl (by omega) hb31 (fun _ => ?_) (fun h => absurd h (by omega))
      exact x_ret rfl rfl rfl rfl kk
  have cw : CallB R s args hJ0ck.1.cls 1059 hJ3ck.1 hJ3ck.2.1 hJ3ck.2.2.1 hJ3ck.2.2.2 (xcd hJ3ck :: xtb) (xrm n) 0 0 3 ∧ (Cond.static hJ3ck.1).before args s = true :=
    ⟨callB_of 3 hts (xcd_good c3) rfl rfl rfl (hts _ (xat_mem wJ_i)) (hts _ (xat_mem wJ_m)) ⟨by decide, by decide, by decide⟩ ⟨by have := hR.1; show n + 1 ≤ R.frames; omega, by have := hR.2.1; show 8 + (3 + 11) + 64 * n ≤ R.locals; omega⟩, hts _ (xat_mem wJ_s)⟩
  have hpre : PreS s H (va_Pc [.int (nI a), .int (nI b), v] (fun U => xH Γ D U.heap ∧ xS Γ U)) [.int (nI a), .int (nI b), v] := ⟨fun q U g mk hq => by
      obtain ⟨q1, q2, q3⟩ := hq
      exact ⟨q1, q2, xS.same q3 rfl rfl⟩, fun U hU hW => ⟨rfl, by rw [hU]; exact hH, hs.warm hW (by rw [hU]; exact hS.1) (fun z z1 z2 => by rw [hU]; exact hS.2.1 z z1 z2)⟩⟩
  exact x_after (rest := []) (va_runS (As := [.int (nI a), .int (nI b), v]) (rest := []) ⟨hx, hb, hml, hown, hts⟩ met cw hpre rfl rfl hl.1 rfl (by show 2 * 0 + _ ≤ 8; simp) wJ_d2 ⟨by have := hR.2.2.1; omega, by have := hR.2.2.2; omega⟩) C hS hl (fun v hv => by cases hv) hret
theorem c_coder {q : Nat} (hp : post (some 0) D) : xRuns Γ n hJ0_coder_7d493 [xR 5 q 0] D post := by
  refine x_runs kJ0_coder_7d493 (by decide +kernel) rfl ?_
  refine x0_eq rfl rfl (fun h => absurd h (by decide)) (fun _ => ?_)
  exact x_goto rfl rfl (x_ret rfl rfl rfl rfl hp)
theorem c_isLatin {q : Nat} (hp : post (some 1) D) : xRuns Γ n hJ0_isLatin1_aae02 [xR 5 q 0] D post := by
  refine x_runs kJ0_isLatin1_aae02 (by decide +kernel) rfl ?_
  refine x0_eq rfl rfl (fun h => absurd h (by decide)) (fun _ => ?_)
  refine x0_ne rfl rfl (fun h => absurd rfl h) (fun _ => ?_)
  exact x_goto rfl rfl (x_ret rfl rfl rfl rfl hp)
theorem sl_all : ∀ q, q < 10 → xsl.getD q 0 = (tWl.getD q []).length ∧ (tWl.getD q []).length < 10 ∧ Int32.ofNat (xsl.getD q 0) >>> ((0 : Int32) &&& 31) = nI (tWl.getD q []).length := by decide +kernel
theorem c_strlen {q : Nat} (hq : q < 10) (hp : post (some (nI (tWl.getD q []).length)) D) : xRuns Γ (n + 1) hJ0_length_8abf5 [xR 5 q 0] D post := by
  refine x_runs kJ0_length_8abf5 (by decide +kernel) rfl ?_
  refine x_kcall [] rfl rfl rfl rfl rfl rfl rfl (c_coder ?_)
  refine x_ret rfl rfl rfl rfl ?_
  have e : Int32.ofNat (xsl.getD q 0) >>> ((0 : Int32) &&& 31) = nI (tWl.getD q []).length := (sl_all q hq).2.2
  rw [← e] at hp
  exact hp
theorem sb_all : ∀ q, q < 10 → ∀ j, j < 8 → (((xsb.getD q []).getD j 0 &&& xnum 255).toUInt32 % 65536).toInt32 = nI ((tWl.getD q []).getD j 0) ∧ (tWl.getD q []).getD j 0 < 256 := by decide +kernel
theorem c_chAt1 {q j : Nat} (hq : q < 10) (hj : j < (tWl.getD q []).length) (hp : post (some (nI ((tWl.getD q []).getD j 0))) D) : xRuns Γ (n + 2) hJ1_charAt_3b067 [xR 7 q 0, xI (nI j)] D post := by
  obtain ⟨s1, s2, s3⟩ := sl_all q hq
  refine x_runs kJ1_charAt_3b067 (by decide +kernel) rfl ?_
  refine x_scall [xI (nI j), xI (nI (xsl.getD q 0))] rfl rfl rfl rfl rfl rfl rfl (c_ck (by omega) (by omega) ?_)
  refine x_sld rfl rfl (by rw [s1]; exact vp_in_nI hj (by omega)) ?_
  have h8 : ∀ q, q < 10 → (tWl.getD q []).length ≤ 8 := by decide
  have h8 := h8 q hq
  have e := sb_all q hq j (by omega)
  refine x_ret rfl rfl rfl ?_ ?_
  · rw [nI_clamp (by omega)]
    show narrow .char (.int ((((xsb.getD q []).getD j 0 &&& xnum 255).toUInt32 % 65536).toInt32)) = _
    rw [e.1]
    exact (pk_charN (by omega)).1
  · rw [nI_clamp (by omega), e.1]
    exact hp
theorem c_charAt {q j : Nat} (hq : q < 10) (hj : j < (tWl.getD q []).length) (hp : post (some (nI ((tWl.getD q []).getD j 0))) D) : xRuns Γ (n + 3) hJ0_charAt_5068e [xR 5 q 0, xI (nI j)] D post := by
  have e : ∀ q, q < 10 → ∀ j, j < 8 → (tWl.getD q []).getD j 0 < 256 := fun q hq j hj => (sb_all q hq j hj).2
  have h8 : ∀ q, q < 10 → (tWl.getD q []).length ≤ 8 := by decide
  have h8 := h8 q hq
  refine x_runs kJ0_charAt_5068e (by decide +kernel) rfl ?_
  refine x_kcall [] rfl rfl rfl rfl rfl rfl rfl (c_isLatin ?_)
  refine x0_eq rfl rfl (fun h => absurd h (by decide)) (fun _ => ?_)
  refine x_scall [xR 7 q 0, xI (nI j)] rfl rfl rfl rfl rfl rfl rfl (c_chAt1 hq hj ?_)
  refine x_ret rfl rfl rfl ?_ hp
  exact (pk_charN (by have := e q hq j (by omega); omega)).1
end ST2
