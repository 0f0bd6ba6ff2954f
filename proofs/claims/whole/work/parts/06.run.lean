theorem xsti_n {p : Program} {l : Launch} {e : Env} {R : Room} {s : State} {m : MethodId} {args : Array Value} {below : List Frame} {meth : Method} {c : Code} {H : Heap} {locs : List Loc} {cells slots : Nat} {Q : State → Prop} {cc : ByteArray} {pc : Nat} {ls ls' : Array Slot} {rest : List Value} (hexec : p.tables.exec = Jvm.exec) (hb : c.code = cc) {k : Fin 4} {x : Int32} (hdg : decode cc pc = .ok (.istore_n k, 1)) (e' : storeLocals ls k.val (.int x) = some ls')
    (kk : W p l e R s m args below meth c H locs cells slots Q (F0 m (pc + 1) ls' rest)) : W p l e R s m args below meth c H locs cells slots Q (F0 m pc ls (.int x :: rest)) := by
  intro T hT X
  obtain ⟨t, a, b⟩ := kk T hT X
  refine ⟨t, ?_, b⟩
  jvm_step X.here [X.here.top, ↓top_set X.here.top, hexec, hb, hdg, e']
  exact a
theorem xsta_n {p : Program} {l : Launch} {e : Env} {R : Room} {s : State} {m : MethodId} {args : Array Value} {below : List Frame} {meth : Method} {c : Code} {H : Heap} {locs : List Loc} {cells slots : Nat} {Q : State → Prop} {cc : ByteArray} {pc : Nat} {ls ls' : Array Slot} {rest : List Value} (hexec : p.tables.exec = Jvm.exec) (hb : c.code = cc) {k : Fin 4} {x : Nat} (hdg : decode cc pc = .ok (.astore_n k, 1)) (e' : storeLocals ls k.val (.ref x) = some ls')
    (kk : W p l e R s m args below meth c H locs cells slots Q (F0 m (pc + 1) ls' rest)) : W p l e R s m args below meth c H locs cells slots Q (F0 m pc ls (.ref x :: rest)) := by
  intro T hT X
  obtain ⟨t, a, b⟩ := kk T hT X
  refine ⟨t, ?_, b⟩
  jvm_step X.here [X.here.top, ↓top_set X.here.top, hexec, hb, hdg, e', Value.isRef]
  exact a
theorem xsta {p : Program} {l : Launch} {e : Env} {R : Room} {s : State} {m : MethodId} {args : Array Value} {below : List Frame} {meth : Method} {c : Code} {H : Heap} {locs : List Loc} {cells slots : Nat} {Q : State → Prop} {cc : ByteArray} {pc : Nat} {ls ls' : Array Slot} {rest : List Value} (hexec : p.tables.exec = Jvm.exec) (hb : c.code = cc) {i : Nat} {x : Nat} (hdg : decode cc pc = .ok (.astore i, 2)) (e' : storeLocals ls i (.ref x) = some ls')
    (kk : W p l e R s m args below meth c H locs cells slots Q (F0 m (pc + 2) ls' rest)) : W p l e R s m args below meth c H locs cells slots Q (F0 m pc ls (.ref x :: rest)) := by
  intro T hT X
  obtain ⟨t, a, b⟩ := kk T hT X
  refine ⟨t, ?_, b⟩
  jvm_step X.here [X.here.top, ↓top_set X.here.top, hexec, hb, hdg, e', Value.isRef]
  exact a
theorem xsinc {p : Program} {l : Launch} {e : Env} {R : Room} {s : State} {m : MethodId} {args : Array Value} {below : List Frame} {meth : Method} {c : Code} {H : Heap} {locs : List Loc} {cells slots : Nat} {Q : State → Prop} {cc : ByteArray} {pc : Nat} {ls ls' : Array Slot} {rest : List Value} (hexec : p.tables.exec = Jvm.exec) (hb : c.code = cc) {i : Nat} {n : Int} {x : Int32} (hdg : decode cc pc = .ok (.iinc i n, 3)) (hg : ls[i]? = some (.val (.int x))) (e' : storeLocals ls i (.int (x + Int32.ofInt n)) = some ls')
    (kk : W p l e R s m args below meth c H locs cells slots Q (F0 m (pc + 3) ls' rest)) : W p l e R s m args below meth c H locs cells slots Q (F0 m pc ls rest) := by
  intro T hT X
  obtain ⟨t, a, b⟩ := kk T hT X
  refine ⟨t, ?_, b⟩
  jvm_step X.here [X.here.top, ↓top_set X.here.top, hexec, hb, hdg, hg, e']
  exact a
section XS2
variable {Γ : xG} {n : Nat} {h : xHd} {rows : List xRow} {post : Option Int32 → xM → Prop}
theorem xinc_ok {k : Nat} {n0 : Int} {a b pc : Nat} {lv : List (Option xV)} {x : Int32} {st : List xV} {D : xM} (hr : xrw rows pc = some (.iinc k n0, 3, a, b)) (e0 : lv[k]? = some (some (.inl x))) (e1 : xnl lv = true) (e2 : k < lv.length) (kk : xW Γ n h rows (pc + 3) (lv.set k (some (.inl (x + xnum n0)))) st D post) : xW Γ n h rows pc lv st D post := by
  intro p e R s m args below meth c H locs cells slots Q ls C hH hS hl hst hret
  obtain ⟨hx, hb, hml, hrt, hlk, hown, hts, hs, hck, hR⟩ := id C
  have hok := xck_row hck hr
  have hd := xok_dec hok
  have e3 : Int32.ofInt n0 = xnum n0 := of_decide_eq_true (xand hok).2
  obtain ⟨ls', q1, q2⟩ := xlh_sto (v := .inl (x + xnum n0)) hl e1 e2 trivial rfl
  have q1 : storeLocals ls k (.int (x + xnum n0)) = some ls' := q1
  rw [← e3] at q1
  exact xsinc hx hb hd (hl.2.2.1 _ _ e0).2 q1 (kk p e R s m args below meth c H locs cells slots Q ls' C hH hS q2 hst hret)
set_option maxHeartbeats 8000000 in
/-- one simple step -/
theorem xs1_ok {i : Instr} {len a b pc pc' : Nat} {lv lv' : List (Option xV)} {st st' : List xV} {D D' : xM} (hr : xrw rows pc = some (i, len, a, b)) (h1 : xs1 i len a b pc lv st D = some (pc', lv', st', D')) (kk : xW Γ n h rows pc' lv' st' D' post) : xW Γ n h rows pc lv st D post := by
  intro p e R s m args below meth c H locs cells slots Q ls C hH hS hl hst hret
  obtain ⟨hx, hb, hml, hrt, hlk, hown, hts, hs, hck, hR⟩ := id C
  have hok := xck_row hck hr
  have hd := xok_dec hok
  have hok2 := (xand hok).2
  unfold xs1 at h1
  split at h1
  · cases h1; exact lv_iconst hx hb hd (of_decide_eq_true hok2) (kk p e R s m args below meth c H locs cells slots Q ls C hH hS hl (xfc trivial hst) hret)
  · cases h1; exact lv_bipush hx hb hd (of_decide_eq_true hok2) (kk p e R s m args below meth c H locs cells slots Q ls C hH hS hl (xfc trivial hst) hret)
  · cases h1; exact lv_sipush hx hb hd (of_decide_eq_true hok2) (kk p e R s m args below meth c H locs cells slots Q ls C hH hS hl (xfc trivial hst) hret)
  · cases h1; exact lv_lconst hx hb hd rfl (kk p e R s m args below meth c H locs cells slots Q ls C hH hS hl (xfc trivial hst) hret)
  · obtain ⟨x, e1, rfl, rfl, rfl, rfl⟩ := xldi_ok h1
    exact lv_iload_n hx hb hd rfl (hl.2.2.1 _ _ e1).2 (kk p e R s m args below meth c H locs cells slots Q ls C hH hS hl (xfc trivial hst) hret)
  · obtain ⟨x, e1, rfl, rfl, rfl, rfl⟩ := xldi_ok h1
    exact lv_iload hx hb hd (hl.2.2.1 _ _ e1).2 (kk p e R s m args below meth c H locs cells slots Q ls C hH hS hl (xfc trivial hst) hret)
  · obtain ⟨x, e1, rfl, rfl, rfl, rfl⟩ := xlda_ok h1
    exact lv_aload_n hx hb hd rfl (hl.2.2.1 _ _ e1).2 (kk p e R s m args below meth c H locs cells slots Q ls C hH hS hl (xfc (hl.2.2.1 _ _ e1).1 hst) hret)
  · obtain ⟨x, e1, rfl, rfl, rfl, rfl⟩ := xlda_ok h1
    exact lv_aload hx hb hd (hl.2.2.1 _ _ e1).2 (kk p e R s m args below meth c H locs cells slots Q ls C hH hS hl (xfc (hl.2.2.1 _ _ e1).1 hst) hret)
  · obtain ⟨x, e1, rfl, rfl, rfl, rfl⟩ := xldl_ok h1
    exact lv_lload_n hx hb hd rfl (hl.2.2.1 _ _ e1).2 (kk p e R s m args below meth c H locs cells slots Q ls C hH hS hl (xfc trivial hst) hret)
  · obtain ⟨x, e1, rfl, rfl, rfl, rfl⟩ := xldl_ok h1
    exact lv_lload hx hb hd (hl.2.2.1 _ _ e1).2 (kk p e R s m args below meth c H locs cells slots Q ls C hH hS hl (xfc trivial hst) hret)
  · obtain ⟨e1, e2, rfl, rfl, rfl, rfl⟩ := xsto_ok h1
    obtain ⟨ls', q1, q2⟩ := xlh_sto hl e1 e2 (v := .inl _) trivial rfl
    exact xsti_n hx hb hd q1 (kk p e R s m args below meth c H locs cells slots Q ls' C hH hS q2 (xft hst) hret)
  · obtain ⟨e1, e2, rfl, rfl, rfl, rfl⟩ := xsto_ok h1
    obtain ⟨ls', q1, q2⟩ := xlh_sto hl e1 e2 (v := .inl _) trivial rfl
    exact xsti hx hb hd q1 (kk p e R s m args below meth c H locs cells slots Q ls' C hH hS q2 (xft hst) hret)
  · obtain ⟨e1, e2, rfl, rfl, rfl, rfl⟩ := xsto_ok h1
    obtain ⟨ls', q1, q2⟩ := xlh_sto hl e1 e2 (xfh hst) rfl
    exact xsta_n hx hb hd q1 (kk p e R s m args below meth c H locs cells slots Q ls' C hH hS q2 (xft hst) hret)
  · obtain ⟨e1, e2, rfl, rfl, rfl, rfl⟩ := xsto_ok h1
    obtain ⟨ls', q1, q2⟩ := xlh_sto hl e1 e2 (xfh hst) rfl
    exact xsta hx hb hd q1 (kk p e R s m args below meth c H locs cells slots Q ls' C hH hS q2 (xft hst) hret)
  · split at h1
    · rename_i x e0
      obtain ⟨e1, e2, rfl, rfl, rfl, rfl⟩ := xsto_ok h1
      exact xinc_ok hr e0 e1 e2 kk p e R s m args below meth c H locs cells slots Q ls C hH hS hl hst hret
    · cases h1
  · cases h1; exact lv_iadd hx hb hd (kk p e R s m args below meth c H locs cells slots Q ls C hH hS hl (xfc trivial (xft (xft hst))) hret)
  · cases h1; exact lv_isub hx hb hd (kk p e R s m args below meth c H locs cells slots Q ls C hH hS hl (xfc trivial (xft (xft hst))) hret)
  · cases h1; exact lv_imul hx hb hd (kk p e R s m args below meth c H locs cells slots Q ls C hH hS hl (xfc trivial (xft (xft hst))) hret)
  · cases h1; exact lv_iand hx hb hd (kk p e R s m args below meth c H locs cells slots Q ls C hH hS hl (xfc trivial (xft (xft hst))) hret)
  · cases h1; exact lv_ior hx hb hd (kk p e R s m args below meth c H locs cells slots Q ls C hH hS hl (xfc trivial (xft (xft hst))) hret)
  · cases h1; exact lv_ixor hx hb hd (kk p e R s m args below meth c H locs cells slots Q ls C hH hS hl (xfc trivial (xft (xft hst))) hret)
  · cases h1; exact lv_ishl hx hb hd (kk p e R s m args below meth c H locs cells slots Q ls C hH hS hl (xfc trivial (xft (xft hst))) hret)
  · cases h1; exact lv_ishr hx hb hd (kk p e R s m args below meth c H locs cells slots Q ls C hH hS hl (xfc trivial (xft (xft hst))) hret)
  · cases h1; exact lv_iushr hx hb hd rfl (kk p e R s m args below meth c H locs cells slots Q ls C hH hS hl (xfc trivial (xft (xft hst))) hret)
  · cases h1; exact lv_ineg hx hb hd (kk p e R s m args below meth c H locs cells slots Q ls C hH hS hl (xfc trivial (xft hst)) hret)
  · cases h1; exact lv_i2l hx hb hd rfl (kk p e R s m args below meth c H locs cells slots Q ls C hH hS hl (xfc trivial (xft hst)) hret)
  · cases h1; exact lv_i2b hx hb hd rfl (kk p e R s m args below meth c H locs cells slots Q ls C hH hS hl (xfc trivial (xft hst)) hret)
  · cases h1; exact lv_i2s hx hb hd rfl (kk p e R s m args below meth c H locs cells slots Q ls C hH hS hl (xfc trivial (xft hst)) hret)
  · cases h1; exact lv_i2c hx hb hd rfl (kk p e R s m args below meth c H locs cells slots Q ls C hH hS hl (xfc trivial (xft hst)) hret)
  · cases h1; exact lv_ladd hx hb hd (kk p e R s m args below meth c H locs cells slots Q ls C hH hS hl (xfc trivial (xft (xft hst))) hret)
  · cases h1; exact W.lcmp hx hb hd (kk p e R s m args below meth c H locs cells slots Q ls C hH hS hl (xfc trivial (xft (xft hst))) hret)
  · cases h1; exact lv_dup hx hb hd rfl (kk p e R s m args below meth c H locs cells slots Q ls C hH hS hl (xfc trivial hst) hret)
  · cases h1; exact lv_dup hx hb hd rfl (kk p e R s m args below meth c H locs cells slots Q ls C hH hS hl (xfc (xfh hst) hst) hret)
  · cases h1; exact lv_dup2_11 hx hb hd rfl rfl (kk p e R s m args below meth c H locs cells slots Q ls C hH hS hl (xfc trivial (xfc (xfh (xft hst)) hst)) hret)
  · cases h1; exact lv_dup2_11 hx hb hd rfl rfl (kk p e R s m args below meth c H locs cells slots Q ls C hH hS hl (xfc trivial (xfc trivial hst)) hret)
  · cases h1; exact lv_pop hx hb hd rfl (kk p e R s m args below meth c H locs cells slots Q ls C hH hS hl (xft hst) hret)
  · exact xgf_ok hr h1 kk p e R s m args below meth c H locs cells slots Q ls C hH hS hl hst hret
  · exact xpf_ok hr h1 kk p e R s m args below meth c H locs cells slots Q ls C hH hS hl hst hret
  · split at h1
    · cases h1
      simp only [if_true] at hok2
      exact va_gets hx hb hs.2.2.2.2.2.1 hS hown (hts _ (xin_mem hok2)) (fun _ z => z) hd (kk p e R s m args below meth c H locs cells slots Q ls C hH hS hl (xfc trivial hst) hret)
    · rename_i a0
      cases h1
      simp only [if_neg (Nat.succ_ne_zero a0)] at hok2
      obtain ⟨q1, q2⟩ := xand hok2
      have ha : a0 + 1 ≤ 5 := of_decide_eq_true q1
      have hz := (hs.2.2.1 (a0 + 1) (by omega) ha).1
      by_cases hb0 : b = 0
      · rw [if_pos hb0] at q2
        exact va_gets hx hb hz hS hown (hts _ (xin_mem q2)) (fun _ z => z) hd (kk p e R s m args below meth c H locs cells slots Q ls C hH hS hl (xfc (by exact ⟨by omega, ha⟩) hst) hret)
      · rw [if_neg hb0] at q2
        obtain ⟨q3, q4⟩ := xand q2
        have q5 := hs.2.2.2.2.2.2.2.2.2.1 _ (of_decide_eq_true q4)
        rw [← (of_decide_eq_true q3 : h.1.cls = _)] at q5
        exact va_getsN hx hb hz hS hown (va_Nw.use rfl q5) (fun _ z => z) hd (kk p e R s m args below meth c H locs cells slots Q ls C hH hS hl (xfc (by exact ⟨by omega, ha⟩) hst) hret)
  · split at h1
    · cases h1
      simp only [if_true] at hok2
      exact lv_ldc hx hb hown (by obtain ⟨pz, hpz⟩ := xzip (p := xcnp) rfl (of_decide_eq_true hok2); exact hts _ (xat_mem (List.all_eq_true.mp xcn_ok _ hpz))) hd (kk p e R s m args below meth c H locs cells slots Q ls C hH hS hl (xfc trivial hst) hret)
    · rename_i b0 hb0
      cases h1
      have hb1 : ¬ b = 0 := fun z => hb0 z
      simp only [if_neg hb1] at hok2
      obtain ⟨q12, q3⟩ := xand hok2
      obtain ⟨q1, q2⟩ := xand q12
      have ha : a < 10 := of_decide_eq_true q1
      have hz := hs.2.2.2.1 a ha
      rw [← (of_decide_eq_true q2 : h.1.cls = _), (of_decide_eq_true q3 : xsp a = _)] at hz
      exact va_ldcS hx hb hown hz hd (kk p e R s m args below meth c H locs cells slots Q ls C hH hS hl (xfc ha hst) hret)
  · cases h1; exact lv_ldcw hx hb hown (by obtain ⟨pz, hpz⟩ := xzip (p := xcnp) rfl (of_decide_eq_true hok2); exact hts _ (xat_mem (List.all_eq_true.mp xcn_ok _ hpz))) hd (kk p e R s m args below meth c H locs cells slots Q ls C hH hS hl (xfc trivial hst) hret)
  · cases h1; exact lv_ldc2 hx hb hown (by obtain ⟨pz, hpz⟩ := xzip (p := xcgp) rfl (of_decide_eq_true hok2); exact hts _ (xat_mem (List.all_eq_true.mp xcg_ok _ hpz))) hd (kk p e R s m args below meth c H locs cells slots Q ls C hH hS hl (xfc trivial hst) hret)
  · exact xal_ok hr h1 kk p e R s m args below meth c H locs cells slots Q ls C hH hS hl hst hret
  · cases h1
theorem xrun_ok {stop : Nat} : ∀ (f : Nat) (pc : Nat) (lv : List (Option xV)) (st : List xV) (D : xM) (pc' : Nat) (lv' : List (Option xV)) (st' : List xV) (D' : xM), xrun rows stop f pc lv st D = some (pc', lv', st', D') → xW Γ n h rows pc' lv' st' D' post → xW Γ n h rows pc lv st D post
  | 0, _, _, _, _, _, _, _, _, e, k => by cases e; exact k
  | f + 1, pc, lv, st, D, pc', lv', st', D', e, k => by
    cases hb : Nat.beq pc stop with
    | true =>
      simp only [xrun, hb] at e
      cases e
      exact k
    | false =>
      cases hrow : xrw rows pc with
      | none =>
        simp only [xrun, hb, hrow] at e
        cases e
        exact k
      | some q =>
        obtain ⟨i, len, a, b⟩ := q
        cases hs1 : xs1 i len a b pc lv st D with
        | none =>
          simp only [xrun, hb, hrow, hs1] at e
          cases e
          exact k
        | some σ' =>
          obtain ⟨pc1, lv1, st1, D1⟩ := σ'
          simp only [xrun, hb, hrow, hs1] at e
          exact xs1_ok hrow hs1 (xrun_ok f pc1 lv1 st1 D1 pc' lv' st' D' e k)
abbrev xN : Nat := 1000000
/-- a stretch of simple steps -/
theorem x_to (stop : Nat) {pc pc' : Nat} {lv lv' : List (Option xV)} {st st' : List xV} {D D' : xM} (h1 : xrun rows stop 60 pc lv st D = some (pc', lv', st', D')) (kk : xW Γ n h rows pc' lv' st' D' post) : xW Γ n h rows pc lv st D post := xrun_ok (stop := stop) 60 pc lv st D _ _ _ _ h1 kk
end XS2
