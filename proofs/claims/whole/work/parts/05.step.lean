section XS1
variable {Γ : xG} {n : Nat} {h : xHd} {rows : List xRow} {post : Option Int32 → xM → Prop}
set_option maxHeartbeats 4000000 in
/-- a getfield step -/
theorem xgf_ok {idx a b pc pc' : Nat} {lv lv' : List (Option xV)} {s0 k i : Nat} {st st' : List xV} {D D' : xM} (hr : xrw rows pc = some (.getfield idx, 3, a, b)) (h1 : xgf a b (pc + 3) lv s0 k i st D = some (pc', lv', st', D')) (kk : xW Γ n h rows pc' lv' st' D' post) : xW Γ n h rows pc lv (.inr (.inr (s0, k, i)) :: st) D post := by
  intro p e R s m args below meth c H locs cells slots Q ls C hH hS hl hst hret
  obtain ⟨hx, hb, hml, hrt, hlk, hown, hts, hs, hck, hR⟩ := id C
  have hok := xck_row hck hr
  have hd := xok_dec hok
  have hok2 := (xand hok).2
  unfold xgf at h1
  split at h1
  · split at h1
    · rename_i e1 e2 e3
      have ek : k = a := Nat.eq_of_beq_eq_true e1
      subst ek
      have ha : ¬ k = 10 := fun z => by subst z; cases e2
      have hbn : b < xnf k := by simpa using e3
      simp only [if_neg ha] at hok2
      have hcell : xkd[i]? = some (0, k) := xcell (xfh hst) (Or.inl (Nat.zero_le _))
      obtain ⟨pz, hpz⟩ := xzip (p := xflp) rfl (of_decide_eq_true hok2)
      have hok3 := List.all_eq_true.mp xfl_ok _ hpz
      unfold xflB at hok3
      split at hok3
      · rename_i C0 T N hcl
        obtain ⟨q12, q3⟩ := xand hok3
        obtain ⟨q1, q2⟩ := xand q12
        have hN : N = xnf k := of_decide_eq_true q1
        have hbN : b < N := of_decide_eq_true q2
        have hget : ((List.range (xnf k)).map (fun j => xcv Γ (xfv D k i j)))[b]? = some (xcv Γ (xfv D k i b)) := by
          rw [List.getElem?_map, List.getElem?_range hbn]; rfl
        split at h1
        · rename_i q hq
          cases h1
          have hv : xfv D k i b = .inr (.inr q) := by rw [xfv, hq]
          rw [hv] at hget
          exact va_get (Ts := xtb) hx hb hts (xcl hcl).1 hown hs.1 hH i (xws_at hcell) hcl b hbN (hts _ (xat_mem q3)) (fun _ z => z) hget hd (kk p e R s m args below meth c H locs cells slots Q ls C hH hS hl (xfc (xvr_fld hcell hbn hq) (xft hst)) hret)
        · rename_i hq
          cases h1
          have hv : xfv D k i b = .inl (D i b) := by rw [xfv, hq]
          rw [hv] at hget
          exact va_get (Ts := xtb) hx hb hts (xcl hcl).1 hown hs.1 hH i (xws_at hcell) hcl b hbN (hts _ (xat_mem q3)) (fun _ z => z) hget hd (kk p e R s m args below meth c H locs cells slots Q ls C hH hS hl (xfc trivial (xft hst)) hret)
      · cases hok3
    · cases h1
  · have hk : k < 10 := xfh hst
    obtain ⟨-, -, -, -, hs5, -⟩ := id hs
    obtain ⟨-, v2, v3, -⟩ := hs5.1 k hk
    split at h1
    · rename_i e1
      have ea : a = 10 := Nat.eq_of_beq_eq_true e1
      subst ea
      cases h1
      simp only [if_true] at hok2
      exact vk_getf hx hb v3 hS hown (hts _ (xin_mem hok2)) (fun _ z => z) hd (kk p e R s m args below meth c H locs cells slots Q ls C hH hS hl (xfc hk (xft hst)) hret)
    · rename_i e1
      have ea : a = 10 := Nat.eq_of_beq_eq_true e1
      subst ea
      cases h1
      simp only [if_true, if_neg (by decide : ¬ (1 : Nat) = 0)] at hok2
      exact vk_getf hx hb v2 hS hown (hts _ (xin_mem (xand hok2).2)) (fun _ z => z) hd (kk p e R s m args below meth c H locs cells slots Q ls C hH hS hl (xfc trivial (xft hst)) hret)
    · cases h1
  · cases h1
set_option maxHeartbeats 4000000 in
/-- a putfield step, of an int -/
theorem xpf_ok {idx a b pc pc' : Nat} {lv lv' : List (Option xV)} {s0 k i : Nat} {x : Int32} {st st' : List xV} {D D' : xM} (hr : xrw rows pc = some (.putfield idx, 3, a, b)) (h1 : xpf a b (pc + 3) lv s0 k i x st D = some (pc', lv', st', D')) (kk : xW Γ n h rows pc' lv' st' D' post) : xW Γ n h rows pc lv (.inl x :: .inr (.inr (s0, k, i)) :: st) D post := by
  intro p e R s m args below meth c H locs cells slots Q ls C hH hS hl hst hret
  obtain ⟨hx, hb, hml, hrt, hlk, hown, hts, hs, hck, hR⟩ := id C
  have hok := xck_row hck hr
  have hd := xok_dec hok
  have hok2 := (xand hok).2
  unfold xpf at h1
  split at h1
  · split at h1
    · rename_i e1 e2 e3 e4
      have ek : k = a := Nat.eq_of_beq_eq_true e1
      subst ek
      have hb100 : b < 100 := by simpa using e2
      have hbn : b < xnf k := by simpa using e3
      have hcell : xkd[i]? = some (0, k) := xcell (xfh (xft hst)) (Or.inl (Nat.zero_le _))
      cases h1
      obtain ⟨pz, hpz⟩ := xzip (p := xplp) rfl (of_decide_eq_true hok2)
      have hok3 := List.all_eq_true.mp xpl_ok _ hpz
      unfold xplB at hok3
      split at hok3
      · rename_i C0 T N hcl
        rw [if_pos hb100] at hok3
        obtain ⟨q1234, q5⟩ := xand hok3
        obtain ⟨q123, q4⟩ := xand q1234
        obtain ⟨q12, q3⟩ := xand q123
        obtain ⟨q1, q2⟩ := xand q12
        have hbN : b < N := of_decide_eq_true q2
        obtain ⟨hin, ty0, hty, hnm⟩ := xcl hcl
        refine va_put (Ts := xtb) hx hb hts hin ty0 hty hnm hown hs.1 hH (xws_D hs D) hS i (xws_at hcell) hcl b hbN (hts _ (xat_mem q5)) (fun _ z => z) (of_decide_eq_true q3) (of_decide_eq_true q4) (v := .int x) rfl rfl (by simp; exact hbn) hd (fun H1 locs1 hP1 hD1 hS1 => ?_)
        have e5 : (xws Γ D).set i (Γ.r i, .inr (k, ((List.range (xnf k)).map (fun j => xcv Γ (xfv D k i j))).set b (.int x))) = xws Γ (xup D i b x) := by
          rw [xup_obj e4]
          exact xws_set (q := (0, k)) hcell xup_ne
        rw [e5] at hP1
        exact kk p e R s m args below meth c H1 locs1 cells slots Q ls C hP1 hS1 hl (xft (xft hst)) hret
      · cases hok3
    · cases h1
  · cases h1
set_option maxHeartbeats 4000000 in
theorem xal_ok {pc pc' : Nat} {lv lv' : List (Option xV)} {a b s0 k i : Nat} {st st' : List xV} {D D' : xM} (hr : xrw rows pc = some (.arraylength, 1, a, b)) (h1 : xal (pc + 1) lv s0 k st D = some (pc', lv', st', D')) (kk : xW Γ n h rows pc' lv' st' D' post) : xW Γ n h rows pc lv (.inr (.inr (s0, k, i)) :: st) D post := by
  intro p e R s m args below meth c H locs cells slots Q ls C hH hS hl hst hret
  obtain ⟨hx, hb, hml, hrt, hlk, hown, hts, hs, hck, hR⟩ := id C
  have hd := xok_dec (xck_row hck hr)
  unfold xal at h1
  split at h1
  · cases h1
    have hcell : xkd[i]? = some (1, k) := xcell (xfh hst) (Or.inl (by decide))
    exact va_alen (x := (k, .inl (D i))) hx hb hs.1 hH i 0 (xws_at hcell) rfl rfl hd (kk p e R s m args below meth c H locs cells slots Q ls C hH hS hl (xfc trivial (xft hst)) hret)
  · cases h1
    have hk : k < 10 := xfh hst
    obtain ⟨-, -, -, v4⟩ := hs.2.2.2.2.1.1 k hk
    obtain ⟨cell, c1, c2, c3, c4, c5, c6, c7⟩ := v4.kept hS.2.1
    exact W.alen (n := Int32.ofNat (xsl.getD k 0)) hx hb c1 c2 c5 rfl rfl hd (kk p e R s m args below meth c H locs cells slots Q ls C hH hS hl (xfc trivial (xft hst)) hret)
  · cases h1
theorem xldi_ok {lv lv' : List (Option xV)} {i pc pc' : Nat} {st st' : List xV} {D D' : xM} (h1 : xldi lv i pc st D = some (pc', lv', st', D')) : ∃ x, lv[i]? = some (some (.inl x)) ∧ pc' = pc ∧ lv' = lv ∧ st' = .inl x :: st ∧ D' = D := by
  unfold xldi at h1
  split at h1
  · rename_i x hx
    cases h1
    exact ⟨x, hx, rfl, rfl, rfl, rfl⟩
  · cases h1
theorem xldl_ok {lv lv' : List (Option xV)} {i pc pc' : Nat} {st st' : List xV} {D D' : xM} (h1 : xldl lv i pc st D = some (pc', lv', st', D')) : ∃ x, lv[i]? = some (some (.inr (.inl x))) ∧ pc' = pc ∧ lv' = lv ∧ st' = .inr (.inl x) :: st ∧ D' = D := by
  unfold xldl at h1
  split at h1
  · rename_i x hx
    cases h1
    exact ⟨x, hx, rfl, rfl, rfl, rfl⟩
  · cases h1
theorem xlda_ok {lv lv' : List (Option xV)} {i pc pc' : Nat} {st st' : List xV} {D D' : xM} (h1 : xlda lv i pc st D = some (pc', lv', st', D')) : ∃ x, lv[i]? = some (some (.inr (.inr x))) ∧ pc' = pc ∧ lv' = lv ∧ st' = .inr (.inr x) :: st ∧ D' = D := by
  unfold xlda at h1
  split at h1
  · rename_i x hx
    cases h1
    exact ⟨x, hx, rfl, rfl, rfl, rfl⟩
  · cases h1
theorem xsto_ok {lv lv' : List (Option xV)} {i pc pc' : Nat} {v : xV} {st st' : List xV} {D D' : xM} (h1 : xsto lv i pc v st D = some (pc', lv', st', D')) : xnl lv = true ∧ i < lv.length ∧ pc' = pc ∧ lv' = lv.set i (some v) ∧ st' = st ∧ D' = D := by
  unfold xsto at h1
  split at h1
  · rename_i e1 e2
    cases h1
    exact ⟨e1, by simpa using e2, rfl, rfl, rfl, rfl⟩
  · cases h1
/-- the step behind a store, by the machine -/
theorem xsti {p : Program} {l : Launch} {e : Env} {R : Room} {s : State} {m : MethodId} {args : Array Value} {below : List Frame} {meth : Method} {c : Code} {H : Heap} {locs : List Loc} {cells slots : Nat} {Q : State → Prop} {cc : ByteArray} {pc : Nat} {ls ls' : Array Slot} {rest : List Value} (hexec : p.tables.exec = Jvm.exec) (hb : c.code = cc) {i : Nat} {x : Int32} (hdg : decode cc pc = .ok (.istore i, 2)) (e' : storeLocals ls i (.int x) = some ls')
    (kk : W p l e R s m args below meth c H locs cells slots Q (F0 m (pc + 2) ls' rest)) : W p l e R s m args below meth c H locs cells slots Q (F0 m pc ls (.int x :: rest)) := by
  intro T hT X
  obtain ⟨t, a, b⟩ := kk T hT X
  refine ⟨t, ?_, b⟩
  jvm_step X.here [X.here.top, ↓top_set X.here.top, hexec, hb, hdg, e']
  exact a
end XS1
