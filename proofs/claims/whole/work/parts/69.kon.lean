/-! ===== the constructors: cells that come, one after the other; a run in numbers ===== -/
def kfV (r : Nat → Nat) (v : kF) : Value := match v with
  | .inl y => .int y
  | .inr none => .null
  | .inr (some q) => .ref (r q)
def kiF : List (Nat × Int32) → Nat → Int32
  | [], _ => 0
  | q :: l, j => if j = q.1 then q.2 else kiF l j
def krF (r : Nat → Nat) : List (Nat × Nat) → Nat → Option Nat
  | [], _ => none
  | q :: l, j => if j = q.1 then some (r q.2) else krF r l j
def kE (Γ : xG) (r : Nat → Nat) (c : kC) : va_E := match c with
  | .inl (ci, fs) => .inr (ci, fs.map (kfV r))
  | .inr (0, n, ps, _) => .inl (Γ.c 0, n, .inl (kiF ps))
  | .inr (1, n, ps, _) => .inl (Γ.c 1, n, .inl (kiF ps))
  | .inr (2, n, _, qs) => .inl (Γ.c 2, n, .inr (.inr (.inr (.inr (krF r qs)))))
  | .inr (_, n, _, qs) => .inl (Γ.c 3, n, .inr (.inr (.inr (.inr (krF r qs)))))
def kws (Γ : xG) (r : Nat → Nat) (M : kM) : va_W := M.mapIdx (fun i c => (r i, kE Γ r c))
def kvV (r : Nat → Nat) (v : kV) : Value := match v with
  | .inl x => .int x
  | .inr i => .ref (r i)
def kA (b0 : Nat) : Nat → Prop := fun q => b0 ≤ q
def kH (Γ : xG) (b0 : Nat) (r : Nat → Nat) (M : kM) (H : Heap) : Prop := va_P Γ.d vwCl (kws Γ r M) H ∧ va_D (kA b0) (kws Γ r M)
def kS (Γ : xG) (s : State) : Prop := va_K Γ.d vwCl (xty Γ) s ∧ (∀ q ∈ knm, va_Nw (.methodLinkNest q.1 q.2.1 q.2.2 "ParrotSpeech") s) ∧ va_AO RX7 s ∧ va_AO RX2 s
theorem kS.warm {Γ : xG} {s U : State} (h : kS Γ s) (hW : s.WarmedH U.vm) : kS Γ U := ⟨va_K.moved hW.alike h.1, fun q m => va_Nw.warmM hW (h.2.1 q m), va_AO.moved hW.alike h.2.2.1, va_AO.moved hW.alike h.2.2.2⟩
theorem kS.same {Γ : xG} {s U : State} (h : kS Γ s) (hv : U.vm = s.vm) : kS Γ U := by
  have ha : s.vm.Alike U.vm := by rw [hv]; exact Vm.Alike.refl _
  exact ⟨va_K.moved ha h.1, fun q m => va_Nw.same rfl hv.symm (h.2.1 q m), va_AO.moved ha h.2.2.1, va_AO.moved ha h.2.2.2⟩
def kfF (n : Nat) (v : kF) : Bool := match v with
  | .inr (some q) => Nat.blt q n
  | _ => true
def kfC (n : Nat) (c : kC) : Bool := match c with
  | .inl (_, fs) => fs.all (kfF n)
  | .inr (_, _, _, qs) => qs.all (fun q => Nat.blt q.2 n)
def kfK (n : Nat) (v : kV) : Bool := match v with
  | .inr q => Nat.blt q n
  | .inl _ => true
def kfO (n : Nat) (o : Option kV) : Bool := match o with
  | some v => kfK n v
  | none => true
def kfit (M : kM) (lv : List (Option kV)) (st : List kV) : Bool := M.all (kfC M.length) && (lv.all (kfO M.length) && st.all (kfK M.length))
theorem kfV_c {r r' : Nat → Nat} {n : Nat} (h : ∀ i, i < n → r' i = r i) {v : kF} (hv : kfF n v = true) : kfV r' v = kfV r v := by
  rcases v with x | _ | q
  · rfl
  · rfl
  · have : q < n := by simpa [kfF] using hv
    show Value.ref (r' q) = Value.ref (r q)
    rw [h q this]
theorem kvV_c {r r' : Nat → Nat} {n : Nat} (h : ∀ i, i < n → r' i = r i) {v : kV} (hv : kfK n v = true) : kvV r' v = kvV r v := by
  rcases v with x | q
  · rfl
  · have : q < n := by simpa [kfK] using hv
    show Value.ref (r' q) = Value.ref (r q)
    rw [h q this]
theorem krF_c {r r' : Nat → Nat} {n : Nat} (h : ∀ i, i < n → r' i = r i) : ∀ {qs : List (Nat × Nat)}, qs.all (fun q => Nat.blt q.2 n) = true → krF r' qs = krF r qs
  | [], _ => rfl
  | q :: l, hq => by
    rw [List.all_cons, Bool.and_eq_true] at hq
    have h1 : q.2 < n := by simpa using hq.1
    funext j
    rw [krF, krF, h _ h1, krF_c h hq.2]
theorem kE_c {Γ : xG} {r r' : Nat → Nat} {n : Nat} (h : ∀ i, i < n → r' i = r i) {c : kC} (hc : kfC n c = true) : kE Γ r' c = kE Γ r c := by
  rcases c with ⟨ci, fs⟩ | ⟨t, m, ps, qs⟩
  · have e : fs.map (kfV r') = fs.map (kfV r) := List.map_congr_left (fun v hv => kfV_c h (List.all_eq_true.mp hc v hv))
    show (.inr (ci, fs.map (kfV r')) : va_E) = .inr (ci, fs.map (kfV r))
    rw [e]
  · have e : krF r' qs = krF r qs := krF_c h hc
    match t with
    | 0 => rfl
    | 1 => rfl
    | 2 => show (.inl (Γ.c 2, m, .inr (.inr (.inr (.inr (krF r' qs))))) : va_E) = _; rw [e]; rfl
    | t + 3 => show (.inl (Γ.c 3, m, .inr (.inr (.inr (.inr (krF r' qs))))) : va_E) = _; rw [e]; rfl
theorem kws_len {Γ : xG} {r : Nat → Nat} {M : kM} : (kws Γ r M).length = M.length := List.length_mapIdx
theorem kws_at {Γ : xG} {r : Nat → Nat} {M : kM} {i : Nat} {c : kC} (h : M[i]? = some c) : (kws Γ r M)[i]? = some (r i, kE Γ r c) := by
  rw [kws, List.getElem?_mapIdx, h]; rfl
theorem kws_set {Γ : xG} {r : Nat → Nat} {M : kM} {i : Nat} {c0 c : kC} (h : M[i]? = some c0) : (kws Γ r M).set i (r i, kE Γ r c) = kws Γ r (M.set i c) := by
  have hi : i < M.length := (List.getElem?_eq_some_iff.mp h).1
  apply List.ext_getElem?
  intro j
  by_cases e : j = i
  · subst e
    rw [List.getElem?_set_self (by rw [kws_len]; exact hi), kws_at (List.getElem?_set_self hi)]
  · rw [List.getElem?_set_ne (Ne.symm e), kws, kws, List.getElem?_mapIdx, List.getElem?_mapIdx, List.getElem?_set_ne (Ne.symm e)]
def kup (r : Nat → Nat) (n q : Nat) : Nat → Nat := fun i => if i = n then q else r i
theorem kup_c {r : Nat → Nat} {n q : Nat} : ∀ i, i < n → kup r n q i = r i := fun i hi => if_neg (by omega)
theorem kws_push {Γ : xG} {r : Nat → Nat} {M : kM} {q : Nat} {c : kC} (hf : M.all (kfC M.length) = true) (hc : kfC M.length c = true) : kws Γ (kup r M.length q) (M ++ [c]) = kws Γ r M ++ [(q, kE Γ r c)] := by
  apply List.ext_getElem?
  intro j
  by_cases h1 : j < M.length
  · rw [List.getElem?_append_left (by rw [kws_len]; exact h1), kws, kws, List.getElem?_mapIdx, List.getElem?_mapIdx, List.getElem?_append_left h1, List.getElem?_eq_getElem h1]
    show some (kup r M.length q j, kE Γ (kup r M.length q) M[j]) = some (r j, kE Γ r M[j])
    rw [kup_c j h1, kE_c kup_c (List.all_eq_true.mp hf _ (List.getElem_mem h1))]
  · by_cases h2 : j = M.length
    · subst h2
      rw [List.getElem?_append_right (by rw [kws_len]; exact Nat.le_refl _), kws_len, Nat.sub_self, kws, List.getElem?_mapIdx, List.getElem?_append_right (Nat.le_refl _), Nat.sub_self]
      show some (kup r M.length q M.length, kE Γ (kup r M.length q) c) = some (q, kE Γ r c)
      rw [kE_c kup_c hc, kup, if_pos rfl]
    · rw [List.getElem?_eq_none (by rw [kws_len, List.length_append]; simp; omega), List.getElem?_eq_none (by rw [List.length_append, kws_len]; simp; omega)]
def klh (n : Nat) (r : Nat → Nat) (ls : Array Slot) (lv : List (Option kV)) : Prop := ls.size = n ∧ lv_wf ls ∧ (∀ (i : Nat) (v : kV), lv[i]? = some (some v) → ls[i]? = some (.val (kvV r v))) ∧ lv.length ≤ n
theorem kvV_1 (r : Nat → Nat) (v : kV) : (kvV r v).category = 1 := by
  rcases v with x | q <;> rfl
theorem klh_c {n m : Nat} {r r' : Nat → Nat} {ls : Array Slot} {lv : List (Option kV)} (h : klh n r ls lv) (hr : ∀ i, i < m → r' i = r i) (hf : lv.all (kfO m) = true) : klh n r' ls lv := ⟨h.1, h.2.1, fun i v hi => by
  rw [kvV_c hr (v := v) (List.all_eq_true.mp hf _ (List.mem_of_getElem? hi))]
  exact h.2.2.1 i v hi, h.2.2.2⟩
theorem klh_sto {n : Nat} {r : Nat → Nat} {ls : Array Slot} {lv : List (Option kV)} (hl : klh n r ls lv) {i : Nat} (hi : i < lv.length) {v : kV} : ∃ ls', storeLocals ls i (kvV r v) = some ls' ∧ klh n r ls' (lv.set i (some v)) := by
  obtain ⟨h1, h2, h3, h4⟩ := hl
  let l : List (Nat × Value) := (List.range lv.length).filterMap (fun j => match lv[j]? with | some (some u) => some (j, kvV r u) | _ => none)
  have hl0 : lv_has ls n l := by
    refine ⟨h1, h2, fun q hq => ?_⟩
    obtain ⟨j, -, hj⟩ := List.mem_filterMap.mp hq
    split at hj
    · rename_i u hu
      cases hj
      exact h3 j u hu
    · cases hj
  obtain ⟨ls', e', h'⟩ := lv_store1 (v := kvV r v) hl0 (Nat.lt_of_lt_of_le hi h4) (kvV_1 r v)
  refine ⟨ls', e', h'.1, h'.2.1, fun j u hj => ?_, by rw [List.length_set]; exact h4⟩
  by_cases hji : j = i
  · subst hji
    rw [List.getElem?_set_self hi] at hj
    cases hj
    exact h'.2.2 _ List.mem_cons_self
  · rw [List.getElem?_set_ne (Ne.symm hji)] at hj
    refine h'.2.2 (j, kvV r u) (List.mem_cons_of_mem _ (List.mem_filter.mpr ⟨List.mem_filterMap.mpr ⟨j, List.mem_range.mpr (List.getElem?_eq_some_iff.mp hj).1, by rw [hj]⟩, ?_⟩))
    have hcu := kvV_1 r u
    simp [hji, hcu]
/-- one step that is no call and no end -/
def kst (mc ms : Nat) (i : Instr) (len a b pc : Nat) (lv : List (Option kV)) (st : List kV) (M : kM) (c z : Nat) : Option (Nat × List (Option kV) × List kV × kM × Nat × Nat) := match i, len, st with
  | .aload_n k, 1, st => match lv[k.val]? with
    | some (some (.inr q)) => some (pc + 1, lv, .inr q :: st, M, c, z)
    | _ => none
  | .iload_n k, 1, st => match lv[k.val]? with
    | some (some (.inl x)) => some (pc + 1, lv, .inl x :: st, M, c, z)
    | _ => none
  | .iconst n, 1, st => some (pc + 1, lv, .inl (xnum n) :: st, M, c, z)
  | .bipush n, 2, st => some (pc + 2, lv, .inl (xnum n) :: st, M, c, z)
  | .sipush n, 3, st => some (pc + 3, lv, .inl (xnum n) :: st, M, c, z)
  | .istore_n k, 1, .inl x :: st => if k.val < lv.length then some (pc + 1, lv.set k.val (some (.inl x)), st, M, c, z) else none
  | .iinc k n, 3, st => match lv[k]? with
    | some (some (.inl x)) => some (pc + 3, lv.set k (some (.inl (x + xnum n))), st, M, c, z)
    | _ => none
  | .dup, 1, .inr q :: st => some (pc + 1, lv, .inr q :: .inr q :: st, M, c, z)
  | .goto _, 3, st => some (a, lv, st, M, c, z)
  | .if_icmp .ge _, 3, .inl y :: .inl x :: st => if y ≤ x then some (a, lv, st, M, c, z) else some (pc + 3, lv, st, M, c, z)
  | .new _, 3, st => if c + 1 ≤ mc ∧ z + (kdf.getD a []).length ≤ ms ∧ kfit M lv st = true ∧ kfC M.length (.inl (a, kdf.getD a [])) = true then some (pc + 3, lv, .inr M.length :: st, M ++ [.inl (a, kdf.getD a [])], c + 1, z + (kdf.getD a []).length) else none
  | .newarray _, 2, .inl x :: st => if ¬ x < 0 ∧ x.toNatClampNeg ≤ 2000 ∧ c + 1 ≤ mc ∧ z + x.toNatClampNeg ≤ ms ∧ kfit M lv st = true ∧ a < 2 then some (pc + 2, lv, .inr M.length :: st, M ++ [.inr (a, x.toNatClampNeg, [], [])], c + 1, z + x.toNatClampNeg) else none
  | .anewarray _, 3, .inl x :: st => if ¬ x < 0 ∧ x.toNatClampNeg ≤ 2000 ∧ c + 1 ≤ mc ∧ z + x.toNatClampNeg ≤ ms ∧ kfit M lv st = true ∧ (a = 2 ∨ a = 3) then some (pc + 3, lv, .inr M.length :: st, M ++ [.inr (a, x.toNatClampNeg, [], [])], c + 1, z + x.toNatClampNeg) else none
  | .putfield _, 3, .inr q :: .inr i :: st => match M[i]? with
    | some (.inl (ci, fs)) => if ci = a ∧ b < fs.length then some (pc + 3, lv, st, M.set i (.inl (ci, fs.set b (.inr (some q)))), c, z) else none
    | _ => none
  | .getfield _, 3, .inr i :: st => match M[i]? with
    | some (.inl (ci, fs)) => match fs[b]? with
      | some (.inr (some q)) => if ci = a then some (pc + 3, lv, .inr q :: st, M, c, z) else none
      | _ => none
    | _ => none
  | .iastore, 1, .inl x :: .inl j :: .inr i :: st => match M[i]? with
    | some (.inr (0, n, ps, qs)) => if ¬ j < 0 ∧ j.toNatClampNeg < n then some (pc + 1, lv, st, M.set i (.inr (0, n, (j.toNatClampNeg, x) :: ps, qs)), c, z) else none
    | _ => none
  | .aastore, 1, .inr v :: .inl j :: .inr i :: st => match M[i]?, M[v]? with
    | some (.inr (2, n, ps, qs)), some (.inl (7, vs)) => if ¬ j < 0 ∧ j.toNatClampNeg < n then some (pc + 1, lv, st, M.set i (.inr (2, n, ps, (j.toNatClampNeg, v) :: qs)), c, z) else none
    | some (.inr (3, n, ps, qs)), some (.inl (2, vs)) => if ¬ j < 0 ∧ j.toNatClampNeg < n then some (pc + 1, lv, st, M.set i (.inr (3, n, ps, (j.toNatClampNeg, v) :: qs)), c, z) else none
    | _, _ => none
  | _, _, _ => none
def krw : List kRow → Nat → Option (Instr × Nat × Nat × Nat × Nat)
  | [], _ => none
  | r :: rs, pc => match Nat.beq r.1 pc with
    | true => some r.2
    | false => krw rs pc
def kargs (b : Nat) (st : List kV) : Option (List kV × List kV) := match b, st with
  | 0, .inr i :: rest => some ([.inr i], rest)
  | 1, v :: .inr i :: rest => some ([.inr i, v], rest)
  | _, _ => none
def kpad (av : List kV) (n : Nat) : List (Option kV) := av.map some ++ List.replicate (n - av.length) none
/-- a constructor's run -/
def kx : Nat → Nat → Nat → List (Option kV) → List kV → kM → Nat → Nat → Option kM
  | 0, _, _, _, _, _, _, _ => none
  | f + 1, mi, pc, lv, st, M, c, z => match kmh[mi]? with
    | none => none
    | some q => match krw (krs.getD mi []) pc with
      | none => none
      | some (i, len, a, b, _) => match kst q.2.1 q.2.2.1 i len a b pc lv st M c z with
        | some (pc', lv', st', M', c', z') => if M.length ≤ M'.length then kx f mi pc' lv' st' M' c' z' else none
        | none => match i, st with
          | .return_, [] => if len = 1 ∧ c ≤ q.2.1 ∧ z ≤ q.2.2.1 then some M else none
          | .invokespecial _, st => if len = 3 then (if a = 1001 then (match st with
              | .inr _ :: rest => if rest.length ≤ 8 then kx f mi (pc + 3) lv rest M c z else none
              | _ => none)
            else match kmh[a]?, kargs (b % 100) st with
              | some g, some (av, rest) => if c + g.2.1 ≤ q.2.1 ∧ z + g.2.2.1 ≤ q.2.2.1 ∧ g.2.2.2.1 + 1 ≤ q.2.2.2.1 ∧ kfit M lv st = true ∧ rest.length ≤ 8 ∧ av.length ≤ g.1.2.2.1 then (match kx f a 0 (kpad av g.1.2.2.1) [] M 0 0 with
                | some M' => if M.length ≤ M'.length then kx f mi (pc + 3) lv rest M' (c + g.2.1) (z + g.2.2.1) else none
                | none => none) else none
              | _, _ => none) else none
          | _, _ => none
/-- what a row must be -/
def kref (o : Option FieldType) : Bool := match o with
  | some (.object _) => true
  | some (.array _) => true
  | _ => false
def krok (h : xHd) (r : kRow) : Bool := decide (decode h.2.1 r.1 = .ok (r.2.1, r.2.2.1)) && match r.2.1 with
  | .iconst n => decide (Int32.ofInt n = xnum n)
  | .bipush n => decide ((Int8.ofInt n).toInt32 = xnum n)
  | .sipush n => decide ((Int16.ofInt n).toInt32 = xnum n)
  | .iinc _ n => decide (Int32.ofInt n = xnum n)
  | .goto off => decide ((r.1 : Int) + off = (r.2.2.2.1 : Int))
  | .if_icmp _ off => decide ((r.1 : Int) + off = (r.2.2.2.1 : Int))
  | .new idx => match vwCl[r.2.2.2.1]?, kclp[r.2.2.2.1]? with
    | some (C, _, N), some (p1, p2) => decide ((kdf.getD r.2.2.2.1 []).length = N) && (xat r.2.2.2.2.2 (.classLink h.1.cls idx C) && (xat p1 (.instantiable C N) && xat p2 (.initialized C)))
    | _, _ => false
  | .newarray ty => decide ((r.2.2.2.1 = 0 ∧ newarray.typeOf ty = .int) ∨ (r.2.2.2.1 = 1 ∧ newarray.typeOf ty = .boolean)) && xat r.2.2.2.2.2 (.arrayClass (newarray.typeOf ty))
  | .anewarray idx => if r.2.2.2.1 = 2 then xat r.2.2.2.2.2 (.classLink h.1.cls idx RX7) else decide (r.2.2.2.1 = 3) && xat r.2.2.2.2.2 (.classLink h.1.cls idx RX2)
  | .putfield idx => match vwCl[r.2.2.2.1]? with
    | some (_, T, N) => decide (r.2.2.2.2.1 < N) && (xat r.2.2.2.2.2 (.fieldLink h.1.cls idx (T r.2.2.2.2.1).1 (T r.2.2.2.2.1).2.1 (T r.2.2.2.2.1).2.2.1) && (decide ((T r.2.2.2.2.1).2.2.2 = true) && (decide ((T r.2.2.2.2.1).1 = h.1.cls) && kref (parseFieldDescriptor (T r.2.2.2.2.1).2.2.1))))
    | none => false
  | .getfield idx => match vwCl[r.2.2.2.1]? with
    | some (_, T, N) => decide (r.2.2.2.2.1 < N) && xat r.2.2.2.2.2 (.fieldLink h.1.cls idx (T r.2.2.2.2.1).1 (T r.2.2.2.2.1).2.1 (T r.2.2.2.2.1).2.2.1)
    | none => false
  | .invokespecial idx => if r.2.2.2.1 = 1001 then xat r.2.2.2.2.2 (.methodLink h.1.cls idx objectInit) else match kmh[r.2.2.2.1]? with
    | some g => xcall (r.2.2.2.2.1 % 100) g.1 && (decide (g.1.1.name = "<init>") && (xat g.2.2.2.2.2.1 (.instanceMethod g.1.1) && (xat g.2.2.2.2.2.2 (.initialized g.1.1.cls) && (if r.2.2.2.2.1 < 100 then xat r.2.2.2.2.2 (.methodLink h.1.cls idx g.1.1) else decide ((h.1.cls, idx, g.1.1) ∈ knm)))))
    | none => false
  | _ => true
theorem kall : (kmh.zip krs).all (fun q => q.2.all (krok q.1.1)) = true := by decide +kernel
set_option maxRecDepth 1000000 in
theorem kmc : (kmh.map fun g => lw_tbl[g.2.2.2.2.1]?) = kmh.map fun g => some (xcd g.1) := by rfl
theorem kin1 : xat kpc.1 (.instanceMethod objectInit) = true := by decide +kernel
theorem kin2 : lw_tbl[kpc.2]? = some (Cond.code objectInit ⟨#[0xb1]⟩ 1 none) := by rfl
