/-! THE CLAIM OUT OF ONE WALK OF THE LAW'S BODY. Your part is whole_start (and what it stands on); all else here is the same for every law, but numbers. -/
def R_law : String := "ParrotSpeechLaw"
def lw_P (b : Addr) (xs : List Int32) (args : Array Value) (s : State) : Prop := args = #[.ref b] ∧ s.IntsAt b xs ∧ xs.length ≤ 384 ∧ (Jvm.Cond.and given_1 narrow_1).before args s = true
def lw_Q (_ : Array Value) (s : State) (o : Outcome) (t : State) : Prop := o = .returned (some (.int 1)) ∧ Framed s o t [] 600000 7302250
def lw_Z (below : List Frame) (a : Array Value) (s : State) : State → Prop := fun t => ∃ o, t.status = .running ∧ Ended t below o ∧ lw_Q a s o t
/-- the law's own end, with 1 on the stack, nothing written that was there before, its room as the claim has it -/
theorem lw_ret {p : Program} {l : Launch} {e : Env} {s : State} {m : MethodId} {below : List Frame} {meth : Method} {c : Code} {b : Nat} (hx : p.tables.exec = Jvm.exec) (hb : c.code = code) (hr : meth.sig.returnType = ret) (hlocks : meth.locks = false) {pc : Nat} {H : Heap} {ls : Array Slot} (hdg : decode code pc = .ok (.ireturn, 1)) : W p l e room_1 s m #[Value.ref b] below meth c H [] 600000 7302250 (lw_Z below #[Value.ref b] s) (F0 m pc ls [.int 1]) := by
  intro T hT X
  obtain ⟨fs, hret, hrun, hended, hW, hframe⟩ := X.leave (v := some (.int 1)) (hlocks := hlocks) (fun h => by rw [hr] at h; cases h)
  have hmeth' : T.vm.method? m = some meth := X.method'
  refine ⟨T.setFrames fs, ?_, .returned (some (.int 1)), hrun, hended, rfl, ⟨_, rfl⟩, hW, hframe⟩
  jvm_step X.here [X.here.top, hx, hb, hdg, hmeth', hr, ret, narrow_b1]
  (try refine ⟨rfl, ?_⟩); (try refine ⟨rfl, ?_⟩)
  first | (intro acts; rw [hret _ acts rfl rfl rfl]) | rw [hret _ _ rfl rfl rfl]
  exact Steps.refl _
/-- what holds at the law's entry: the machine, the code, the tables' words (any of lw_tbl by 'hts w (by decide +kernel)'), the script of L ints xs at the cell b, what the Statement gives of the start (any of its parts by flat_of_before) -/
def lw_At (p : Program) (s : State) (m : MethodId) (meth : Method) (c : Code) (b L : Nat) (xs : Nat → Int32) : Prop :=
  p.tables.exec = Jvm.exec ∧ c.code = code ∧ meth.sig.returnType = ret ∧ c.maxLocals = 4 ∧ s.vm.findClass R_law = some m.cls ∧ (∀ w ∈ lw_tbl, w.before #[Value.ref b] s = true) ∧ va_X b L xs s s.heap ∧ b < s.heap.size ∧ meth.locks = false ∧ (Jvm.Cond.and given_1 narrow_1).before #[Value.ref b] s = true
/-- a constructor called from the law -/
theorem k_lcall {Γ : xG} {b0 : Nat} {p : Program} {e : Env} {R : Room} {s : State} {m : MethodId} {args : Array Value} {below : List Frame} {meth : Method} {co : Code} {H : Heap} {locs : List Loc} {Q : State → Prop} {ls : Array Slot} {pc c z nL idx a i : Nat} {own : String} {cc : ByteArray} {g : kQ} {r : Nat → Nat} {M M1 : kM} {rest : List Value}
    (hx : p.tables.exec = Jvm.exec) (hb : co.code = cc) (hml : co.maxLocals = nL) (hown : s.vm.findClass own = some m.cls) (htx : ∀ w ∈ xtb, w.before args s = true) (hs : kS Γ s) (hb0 : b0 ≤ s.heap.size) (hg : kmh[a]? = some g) (hlink : (Cond.methodLink own idx g.1.1).before args s = true) (hinst : (Cond.instanceMethod g.1.1).before args s = true) (hini : (Cond.initialized g.1.1.cls).before args s = true) (hdesc : xcall 0 g.1 = true)
    (hR : g.2.2.2.1 + 1 ≤ R.frames ∧ 8 + (g.1.2.2.1 + 11) + 64 * g.2.2.2.1 ≤ R.locals) (hc : c + g.2.1 ≤ R.cells ∧ z + g.2.2.1 ≤ R.slots) (hm : kMet Γ b0 g [.inr i] M M1) (hH : kH Γ b0 r M H) (hS : va_S (kA b0) s.heap H locs) (hls : ls.size = nL) (hcat : (rest.map fun v => v.category).sum ≤ 8) (hd : decode cc pc = .ok (.invokespecial idx, 3))
    (kk : ∀ (r1 : Nat → Nat) (H1 : Heap) (locs1 : List Loc), (∀ j, j < M.length → r1 j = r j) → kH Γ b0 r1 M1 H1 → va_S (kA b0) s.heap H1 locs1 → W p Γ.l e R s m args below meth co H1 locs1 (c + g.2.1) (z + g.2.2.1) Q (F0 m (pc + 3) ls rest)) : W p Γ.l e R s m args below meth co H locs c z Q (F0 m pc ls (.ref (r i) :: rest)) := by
  obtain ⟨c45, c6⟩ := xand hdesc
  obtain ⟨c4, c5⟩ := xand c45
  obtain ⟨z1, z2, z3, z4⟩ := k_head g (List.mem_of_getElem? hg)
  have hpre : PreS s H (kP Γ b0 r [.inr i] M) (.ref (r i) :: []) := ⟨kP_blind, fun U hU hW => ⟨rfl, by rw [hU]; exact hH, hs.warm hW, by rw [hU]; exact Nat.le_trans hb0 hS.1⟩⟩
  have hd3 : g.1.1.cls ≠ "java/lang/invoke/MethodHandle" ∧ g.1.1.cls ≠ "java/lang/invoke/VarHandle" ∧ (parseMethodDescriptor g.1.1.desc).map (fun d => d.parameters.length) = some 0 := ⟨(of_decide_eq_true c4 : _ ∧ _).1, (of_decide_eq_true c4 : _ ∧ _).2, of_decide_eq_true c5⟩
  have hcc := xcd_good (k_code hg)
  have hcc2 : xcd g.1 = Cond.code g.1.1 g.1.2.1 g.1.2.2.1 none := by rw [xcd, z2]
  have cw := cwI (R := R) (mc := g.2.1) (ms := g.2.2.1) (rm := krm g) (own := own) (index := idx) 0 htx hcc (by rw [hcc2]) rfl rfl hini hlink hinst z4 hd3 hR
  refine va_callv (va_runI (As := []) (rest := rest) ⟨hx, hb, hml, hown, htx⟩ (hm r) cw hpre rfl rfl hls rfl (by show 2 * 0 + _ ≤ 8; omega) hd hc) hS (fun _ _ h => h) (fun _ h => h) (fun r1 t H1 locs1 ht hvm hp hB hz1 hk1 hS1 => ?_)
  rw [ht] at hB
  exact kk r1 H1 locs1 hp hB hS1
theorem lw_d0 : decode code 0 = .ok (.new 7, 3) ∧ decode code 3 = .ok (.dup, 1) ∧ decode code 4 = .ok (.invokespecial 9, 3) ∧ decode code 7 = .ok (.astore_n 1, 1) ∧ decode code 8 = .ok (.new 10, 3) ∧ decode code 11 = .ok (.dup, 1) ∧ decode code 12 = .ok (.invokespecial 12, 3) ∧ decode code 15 = .ok (.astore_n 2, 1) := ⟨by decide +kernel, by decide +kernel, by decide +kernel, by decide +kernel, by decide +kernel, by decide +kernel, by decide +kernel, by decide +kernel⟩
abbrev kq8 : kQ := ((yX8_init, cX8_init, 2, none), 110, 2408, 3, (kmh.getD 8 ((yX8_init, cX8_init, 2, none), 0, 0, 0, 0, 0, 0)).2.2.2.2)
abbrev kq9 : kQ := ((yX9_init, cX9_init, 1, none), 32, 2861, 1, (kmh.getD 9 ((yX8_init, cX8_init, 2, none), 0, 0, 0, 0, 0, 0)).2.2.2.2)
theorem kq8_in : kmh[8]? = some kq8 := rfl
theorem kq9_in : kmh[9]? = some kq9 := rfl
theorem kq_w : xcall 0 kq8.1 = true ∧ xcall 0 kq9.1 = true ∧ xat kq8.2.2.2.2.2.1 (.instanceMethod yX8_init) = true ∧ xat kq9.2.2.2.2.2.1 (.instanceMethod yX9_init) = true := ⟨by decide +kernel, by decide +kernel, by decide +kernel, by decide +kernel⟩
set_option maxHeartbeats 8000000 in
set_option maxRecDepth 100000 in
/-- from the entry, for every script of at most 384 ints, the law comes to its end with true -/
theorem whole_start {p : Program} {e : Env} {s : State} {m : MethodId} {below : List Frame} {meth : Method} {c : Code} (l : Launch) {b L : Nat} {xs : Nat → Int32} (hL : L ≤ 384) (C0 : lw_At p s m meth c b L xs) : W p l e room_1 s m #[Value.ref b] below meth c s.heap [] 0 0 (lw_Z below #[Value.ref b] s) (entryFrame m ([Value.ref b] : List Value).toArray 4) := by
  obtain ⟨hx, hb, hr, hml, hown, hts, hX, hbl, hlocks, hgv0⟩ := id C0
  have hgv : ∀ w ∈ flG, w.before #[Value.ref b] s = true := flat_of_before _ hgv0
  have htx : ∀ w ∈ xtb, w.before #[Value.ref b] s = true := fun w hw => hts w (List.mem_filter.mp hw).1
  have one : ∀ (k : Nat) (q : Nat × Cond), _ → q.2.before #[Value.ref b] s = true := fun k q (h : _ = some q) => hts _ (lwB_m (List.all_eq_true.mp lw_one q (List.mem_of_getElem? (i := k) h)))
  have hA0 : ∀ a : Nat, a < s.heap.size → ¬ kA s.heap.size a := fun a h1 h2 => absurd h2 (Nat.not_le.mpr h1)
  have hA : ∀ q : Nat, s.heap.size ≤ q → kA s.heap.size q := fun _ h => h
  obtain ⟨d, hd⟩ := k_known htx
  obtain ⟨c0, a0⟩ := k_arrI (one 5 _ rfl)
  obtain ⟨c1, a1⟩ := k_arrZ (one 6 _ rfl)
  obtain ⟨c2, a2⟩ := k_arrO (one 7 _ rfl)
  obtain ⟨c3, a3⟩ := k_arrO (one 8 _ rfl)
  obtain ⟨t, ht⟩ := k_stat hts hgv hA0
  obtain ⟨aK, aV, hSt, hRf⟩ := k_str hts hgv hA0
  have hZ1 := va_Zof (one 0 _ rfl) (one 1 _ rfl) (va_eqt (hgv _ fl_one.1)) hA0
  have hZ2 := va_Zqof (one 2 _ rfl) (one 3 _ rfl) (hgv _ fl_one.2) hA0
  have hnf : ∀ q ∈ xnst, va_Nw (.fieldLinkNest "ParrotSpeech$World" q.1 "ParrotSpeech" q.2 "[I" "ParrotSpeech") s := by
    intro q hq
    obtain ⟨k, hk⟩ := List.getElem?_of_mem hq
    have hlt := (List.getElem?_eq_some_iff.mp hk).1
    have h1 := hts _ (lwB_m (lw_nstF k hlt))
    have e1 : xnst.getD k (0, "") = q := by rw [List.getD_eq_getElem?_getD, hk]; rfl
    rw [e1] at h1
    exact va_Nw.of rfl h1
  have hnm : ∀ q ∈ knm, va_Nw (.methodLinkNest q.1 q.2.1 q.2.2 "ParrotSpeech") s := by
    intro q hq
    obtain ⟨k, hk⟩ := List.getElem?_of_mem hq
    have hlt := (List.getElem?_eq_some_iff.mp hk).1
    have h1 := hts _ (lwB_m (lw_nstM k hlt))
    have e1 : knm.getD k ("", 0, x) = q := by rw [List.getD_eq_getElem?_getD, hk]; rfl
    rw [e1] at h1
    exact va_Nw.of rfl h1
  obtain ⟨cs, e0, e1, e2, e3⟩ : ∃ cs : Nat → ClassId, cs 0 = c0 ∧ cs 1 = c1 ∧ cs 2 = c2 ∧ cs 3 = c3 := ⟨fun k => match k with
    | 0 => c0
    | 1 => c1
    | 2 => c2
    | _ => c3, rfl, rfl, rfl, rfl⟩
  rw [← e0] at a0
  rw [← e1] at a1
  rw [← e2] at a2
  rw [← e3] at a3
  have hK : va_K d vwCl [(cs 0, .int), (cs 1, .boolean), (cs 2, .object RX7), (cs 3, .object RX2)] s := ⟨hd, fun k q hq => by
    match k, hq with
    | 0, hq => cases hq; exact a0
    | 1, hq => cases hq; exact a1
    | 2, hq => cases hq; exact a2
    | 3, hq => cases hq; exact a3
    | k + 4, hq => simp at hq⟩
  have hKS : ∀ r : Nat → Nat, kS (l, r, d, cs, t, aK, aV, (b, L, xs)) s := fun r => ⟨hK, hnm, va_AO.of (one 7 _ rfl), va_AO.of (one 8 _ rfl)⟩
  obtain ⟨D0, D3, D4, D7, D8, D11, D12, D15⟩ := lw_d0
  have hl := lv_entry ([.ref b]) (n := 4) (Nat.le_of_ble_eq_true rfl)
  rw [lg_entry_eq]
  generalize (lg_sl ([.ref b]) ++ List.replicate (4 - (lg_sl ([.ref b])).length) Slot.unset).toArray = ls at hl ⊢
  have hl : lv_has ls 4 [(0, .ref b)] := hl
  have m8 : kMet (l, (fun _ => 0), d, cs, t, aK, aV, (b, L, xs)) s.heap.size kq8 [.inr 0] [.inl (8, kdf.getD 8 [])] kM1 := k_met (mi := 8) kq8_in (by decide) (kx_ok 2000 8 0 _ _ _ _ _ kM1 kq8 kq8_in kM1_ok)
  have m9 : kMet (l, (fun _ => 0), d, cs, t, aK, aV, (b, L, xs)) s.heap.size kq9 [.inr 111] (kM1 ++ [.inl (9, kdf.getD 9 [])]) kM2 := k_met (mi := 9) kq9_in (by decide) (kx_ok 2000 9 0 _ _ _ _ _ kM2 kq9 kq9_in kM2_ok)
  have hP0 : va_P d vwCl [] s.heap := fun k q h => by simp at h
  have hD0 : va_D (kA s.heap.size) [] := ⟨fun i j p q h => by simp at h, fun k q h => by simp at h⟩
  refine va_new (Ts := xtb) (ci := 8) (fs := (kdf.getD 8 []).map (kfV (fun _ => 0))) hx hb htx (xcl (ci := 8) rfl).1 tyX8 tyX8_ok hown (one 9 _ rfl) (k_cls htx (ci := 8) rfl).1 (k_cls htx (ci := 8) rfl).2 hK hP0 hD0 va_S.rf hA rfl (kd8 _) (by decide) (by decide) D0 (fun q0 H hP hD hS => ?_)
  have ew : kws (l, (fun _ => 0), d, cs, t, aK, aV, (b, L, xs)) (kup (fun _ => 0) 0 q0) [.inl (8, kdf.getD 8 [])] = [(q0, .inr (8, (kdf.getD 8 []).map (kfV (fun _ => 0))))] := kws_push (M := []) (r := fun _ => 0) rfl rfl
  have hH : kH (l, (fun _ => 0), d, cs, t, aK, aV, (b, L, xs)) s.heap.size (kup (fun _ => 0) 0 q0) [.inl (8, kdf.getD 8 [])] H := ⟨by rw [ew]; exact hP, by rw [ew]; exact hD⟩
  refine lv_dup hx hb D3 rfl ?_
  have eq0 : (Value.ref q0) = Value.ref (kup (fun _ => 0) 0 q0 0) := rfl
  rw [eq0]
  refine k_lcall (Γ := (l, (fun _ => 0), d, cs, t, aK, aV, (b, L, xs))) (g := kq8) hx hb hml hown htx (hKS _) (Nat.le_refl _) kq8_in (one 11 _ rfl) (htx _ (xat_mem kq_w.2.2.1)) (k_cls htx (ci := 8) rfl).2 kq_w.1 ⟨by decide, by decide⟩ ⟨by decide, by decide⟩ m8 hH hS hl.1 (Nat.le_of_ble_eq_true rfl) D4 (fun r1 H1 locs1 g1 hH1 hS1 => ?_)
  have er0 : kup (fun _ => 0) 0 q0 0 = r1 0 := (g1 0 (by decide)).symm
  rw [er0]
  refine lv_astore_n (lv' := [(1, .ref (r1 0)), (0, .ref b)]) hx hb D7 rfl hl (by decide) rfl (fun ls1 hl1 => ?_)
  have f1 : kfit kM1 [] [] = true := by decide +kernel
  refine va_new (Ts := xtb) (ci := 9) (fs := (kdf.getD 9 []).map (kfV r1)) hx hb htx (xcl (ci := 9) rfl).1 tyX9 tyX9_ok hown (one 10 _ rfl) (k_cls htx (ci := 9) rfl).1 (k_cls htx (ci := 9) rfl).2 hK hH1.1 hH1.2 hS1 hA rfl (kd9 _) (by decide) (by decide) D8 (fun q1 H2 hP2 hD2 hS2 => ?_)
  have ew2 : kws (l, (fun _ => 0), d, cs, t, aK, aV, (b, L, xs)) (kup r1 kM1.length q1) (kM1 ++ [.inl (9, kdf.getD 9 [])]) = kws (l, (fun _ => 0), d, cs, t, aK, aV, (b, L, xs)) r1 kM1 ++ [(q1, .inr (9, (kdf.getD 9 []).map (kfV r1)))] := kws_push (xand f1).1 (by decide)
  rw [kM1_len] at ew2
  have hH2 : kH (l, (fun _ => 0), d, cs, t, aK, aV, (b, L, xs)) s.heap.size (kup r1 111 q1) (kM1 ++ [.inl (9, kdf.getD 9 [])]) H2 := ⟨by rw [ew2]; exact hP2, by rw [ew2]; exact hD2⟩
  refine lv_dup hx hb D11 rfl ?_
  have eq1 : (Value.ref q1) = Value.ref (kup r1 111 q1 111) := by rw [kup_at]
  rw [eq1]
  refine k_lcall (Γ := (l, (fun _ => 0), d, cs, t, aK, aV, (b, L, xs))) (g := kq9) hx hb hml hown htx (hKS _) (Nat.le_refl _) kq9_in (one 12 _ rfl) (htx _ (xat_mem kq_w.2.2.2)) (k_cls htx (ci := 9) rfl).2 kq_w.2.1 ⟨by decide, by decide⟩ ⟨by decide, by decide⟩ m9 hH2 hS2 hl1.1 (Nat.le_of_ble_eq_true rfl) D12 (fun r2 H3 locs3 g2 hH3 hS3 => ?_)
  have gl : (kM1 ++ [.inl (9, kdf.getD 9 [])] : kM).length = 112 := by rw [List.length_append, kM1_len]; rfl
  have er1 : kup r1 111 q1 111 = r2 111 := (g2 111 (by rw [gl]; omega)).symm
  have er2 : r1 0 = r2 0 := by rw [g2 0 (by rw [gl]; omega), kup_c 0 (by omega)]
  rw [er1]
  rw [er2] at hl1
  refine lv_astore_n (lv' := [(2, .ref (r2 111)), (1, .ref (r2 0)), (0, .ref b)]) hx hb D15 rfl hl1 (by decide) rfl (fun ls2 hl2 => ?_)
  have hH3 : kH (l, r2, d, cs, t, aK, aV, (b, L, xs)) s.heap.size r2 kM2 H3 := hH3
  have hxA : ∀ q, xA (l, r2, d, cs, t, aK, aV, (b, L, xs)) q → kA s.heap.size q := by
    intro q hq
    obtain ⟨i, hi, rfl⟩ := hq
    obtain ⟨cc, hc⟩ : ∃ cc, kM2[i]? = some cc := ⟨_, List.getElem?_eq_getElem (by rw [kM2_len]; exact hi)⟩
    exact hH3.2.2 i _ (kws_at hc)
  have hxS : xS (l, r2, d, cs, t, aK, aV, (b, L, xs)) s := by
    refine ⟨hK, fun i j hi hj he => ?_, fun k k1 k2 => ⟨(ht k k1 k2).1.narrow hxA, (ht k k1 k2).2.narrow hxA⟩, hRf, hSt.narrow hxA, hZ1.narrow hxA, hX, hbl, fun z => hA0 b hbl (hxA b z), hnf, hZ2.narrow hxA⟩
    obtain ⟨ci, hci⟩ : ∃ cc, kM2[i]? = some cc := ⟨_, List.getElem?_eq_getElem (by rw [kM2_len]; exact hi)⟩
    obtain ⟨cj, hcj⟩ : ∃ cc, kM2[j]? = some cc := ⟨_, List.getElem?_eq_getElem (by rw [kM2_len]; exact hj)⟩
    exact hH3.2.1 i j _ _ (kws_at hci) (kws_at hcj) he
  have hS4 : va_S (xA (l, r2, d, cs, t, aK, aV, (b, L, xs))) s.heap H3 [] := ⟨hS3.1, fun q h1 h2 => hS3.2.1 q h1 (hA0 q h1), fun _ h => by cases h⟩
  refine va_forget (fun q hq => hS3.2.2 q hq) ?_
  have K := law_loop (Γ := (l, r2, d, cs, t, aK, aV, (b, L, xs))) (post := fun v _ => v = some 1) hL (fun _ => rfl) 200 0 (kD kM2) kG0 (by show L + 6 ≤ 0 + 6 * 200; omega) (by omega) k_lI
  have K2 : xW (l, r2, d, cs, t, aK, aV, (b, L, xs)) 40 hL_law rLt 16 [some (xR 8 0 0), some (xR 0 8 0), some (xR 0 9 111), none] [] (kD kM2) (fun v _ => v = some 1) := x_to 18 rfl K
  refine K2 p e room_1 s m #[Value.ref b] below meth c H3 [] _ _ _ ls2 ⟨hx, hb, hml, hr, hlocks, hown, htx, hxS, kLt, by decide, by decide, by decide, by decide⟩ (k_xH hH3) hS4 ⟨hl2.1, hl2.2.1, fun i v hi => ?_, by decide⟩ (fun v hv => by cases hv) (fun v D' H' locs' pc' ls' hv hH' hS' hrt => ?_)
  · match i, hi with
    | 0, hi => cases hi; exact ⟨trivial, lv_at hl2 2 rfl⟩
    | 1, hi => cases hi; exact ⟨⟨by omega, by decide +kernel⟩, lv_at hl2 1 rfl⟩
    | 2, hi => cases hi; exact ⟨⟨by omega, by decide +kernel⟩, lv_at hl2 0 rfl⟩
    | 3, hi => cases hi
    | i + 4, hi => simp at hi
  · subst hv
    obtain ⟨ty, -, -, hdec⟩ := hrt
    refine va_forget (fun q hq => hxA _ (hS'.2.2 q hq)) ?_
    exact W.widen (by decide) (by decide) (lw_ret hx hb hr hlocks hdec)
set_option maxHeartbeats 4000000 in
theorem lw_walk (l : Launch) (b : Addr) (xs : List Int32) : MetFree l x (headSpec (Jvm.Cond.code x code maxLocals ret :: tables_1) room_1) (lw_P b xs) (fun _ _ _ _ _ => True) lw_Q := by
  refine MetFree.of_bodyS (code := code) (maxLocals := maxLocals) (ret := ret) (by decide) ?_ ?_
  · intro args s m h hn
    obtain ⟨meth, c, h1, h2, h3, h4, h5, h6, -, -⟩ := Cond.code_spec hn (atoms_spec (ws := Jvm.Cond.code x code maxLocals ret :: tables_1) h _ List.mem_cons_self)
    exact ⟨meth, c, h1, h2, h3, h4, h5, h6⟩
  · intro p e s m args below meth c s₁ B hml0 hP _
    obtain ⟨rfl, hx, hbd, hgv⟩ := hP
    obtain ⟨scr, harrAt, hlist, hof, hsmall⟩ := hx
    obtain ⟨hcb, hkn, -, -⟩ := State.arrayAt?_spec harrAt
    have hown : s.vm.findClass R_law = some m.cls := findClass_of_methodNamed B.named
    have hts0 : ∀ c ∈ (Jvm.Cond.code x code maxLocals ret :: tables_1), c.before #[Value.ref b] s = true := atoms_spec (ws := Jvm.Cond.code x code maxLocals ret :: tables_1) B.pre
    have hts : ∀ w ∈ lw_tbl, w.before #[Value.ref b] s = true := k2_hts_sels lw_privs (fun w hw => hts0 w (List.mem_cons_of_mem _ hw)) lw_privs_ok
    have hml : c.maxLocals = 4 := B.maxLocals_eq (hts0 _ List.mem_cons_self)
    have X₀ : Stand p l e room_1 s m #[Value.ref b] below meth c s₁ [] 0 0 := Stand.of_body B
    have hh0 : s₁.heap = s.heap := by rw [B.state]; rfl
    have hsz : scr.slots.size = xs.length := by rw [← Array.length_toList, hlist, List.length_map]
    have hval : ∀ j : Nat, j < xs.length → scr.slots[j]? = some (.int (xs.getD j 0)) := fun j hj => by
      rw [← Array.getElem?_toList, hlist]
      simp [hj]
    have hbl : b < s.heap.size := (Array.getElem?_eq_some_iff.mp hcb).1
    have hX : va_X b xs.length (fun j => xs.getD j 0) s s.heap := ⟨scr, hcb, hof, hkn, hsz, hval⟩
    have K : W p l e room_1 s m #[Value.ref b] below meth c s₁.heap [] 0 0 (lw_Z below #[Value.ref b] s) (entryFrame m ([Value.ref b] : List Value).toArray 4) := by
      rw [hh0]
      exact whole_start l hbd ⟨B.exec, B.bytes, B.returns, hml, hown, hts, hX, hbl, B.notSynchronized, hgv⟩
    obtain ⟨t, a1, o, b1, b2, b3⟩ := K s₁ rfl X₀
    exact ⟨t, o, a1, b1, b2, b3⟩
theorem lw_pre_spec {args : Array Value} {s : State} (h : (Jvm.Cond.and given_1 narrow_1).before args s = true) (hr : rest_1_c.before args s = true) : ∃ (b : Addr) (xs : List Int32), lw_P b xs args s := by
  have hs := flat_of_before _ h
  have hq := flat_of_before _ hr
  have hc : (Cond.count 1).before args s = true := hs _ (by decide +kernel)
  have harr : (Cond.arrayOf (.arg 0) .int).before args s = true := hs _ (by decide +kernel)
  have hle : (Cond.le (.length (.arg 0)) (.int 384)).before args s = true := hs _ (by decide +kernel)
  have hlen : (Cond.isInt (.length (.arg 0))).before args s = true := hq _ (by decide +kernel)
  have hall : (Cond.all (.arg 0) (.isInt (.elem (.arg 0) (.index 0)))).before args s = true := hq _ (by decide +kernel)
  obtain ⟨b, xs, hb, hx⟩ := State.ints_of_pre rfl harr hlen hall
  have hsm : xs.length < 2 ^ 31 := hx.choose_spec.2.2.2
  have hev : (Term.length (.arg 0)).eval args s none [] s = some (.int xs.length.toInt32) := hx.length_eval hb
  have hv := Cond.le_ints hev (show (Term.int 384).eval args s none [] s = some (.int 384) from rfl)
  have hd : xs.length.toInt32 ≤ 384 := by
    simpa [Cond.before, Cond.holds, hv] using hle
  have hN : xs.length ≤ 384 := (Int32.ofNat_le_ofNat hsm (by decide)).mp (show Int32.ofNat xs.length ≤ Int32.ofNat 384 from hd)
  exact ⟨b, xs, Cond.one_arg hc (show args[0]? = some (.ref b) from hb), hx, hN, h⟩
theorem lw_comes (l : Launch) : Comes l x (Jvm.Cond.code x code maxLocals ret :: tables_1) room_1 (fun tb e args s => Calls_1 tb e args s ∧ rest_1 tb e args s ∧ Pre_1 tb e args s)
    (fun _ _ args s o t => lw_Q args s o t) := by
  intro p e ha hc hk s m args below hf hfit hheap happ hpre
  obtain ⟨b, xs, hP⟩ := lw_pre_spec hpre.2.2 hpre.2.1
  obtain ⟨k, o, h1, h2, h3, hQ⟩ := lw_walk l b xs p e ha hc hk s m args below hf ((Spec.applies_iff_loose hf).mp happ).1 hP trivial
  exact ⟨k, o, h1, h2, h3, hQ⟩
theorem lw_frame {s t : State} {o : Outcome} {args : Array Value} (h : Framed s o t [] 600000 7302250) :
    Framed s o t (fieldLocs frame_1_writes args s ++ arrayLocs frame_1_arrays args s ++ staticLocs frame_1_statics s) 600000 7302250 := h
theorem lw_limb (L : Cond) (hL : ∀ (args : Array Value) (s t : State), L.after args s (.returned (some (.int 1))) t = true) :
    ArmFor flags0 classFile x code maxLocals ret World_1 tables_1 room_1 Calls_1 rest_1 Pre_1
      (fun tb e a s o t => postC L tb e a s o t ∧ Framed s o t (fieldLocs frame_1_writes a s ++ arrayLocs frame_1_arrays a s ++ staticLocs frame_1_statics s) 600000 7302250) := by
  intro l _ _ _ p e ha hc hk s m args below hf hfit hheap happ hpre
  obtain ⟨k, o, h1, h2, h3, rfl, hF⟩ := lw_comes l p e ha hc hk s m args below hf hfit hheap happ hpre
  exact ⟨k, _, h1, h2, h3, hL args s _, lw_frame hF⟩
theorem i_vc : Claimed_1_1 ∧ Claimed_1_2 := ⟨lw_limb limb_1_1 (fun args s t => by simp [limb_1_1, Cond.after, Cond.holds, Cond.value]), lw_limb limb_1_2 (fun args s t => Cond.after_iff.mpr (by
  first | (rw [show limb_1_2 = Cond.eq .result (.int 1) from rfl, Cond.eq_ints (x := 1) (y := 1) rfl rfl]; simp; done) | (simp [limb_1_2, Cond.value, Term.eval]; done)))⟩
