/-! ===== the engine: a method's walk over the layout, as a weakest precondition ===== -/
/-- launch, addresses of the cells, classes and slots, array classes, static rows, String constants and their bytes, the script -/
abbrev xG : Type := Launch × (Nat → Nat) × va_G × (Nat → ClassId) × (Nat → Nat) × (Nat → Nat) × (Nat → Nat) × (Nat × Nat × (Nat → Int32))
abbrev xG.l (Γ : xG) : Launch := Γ.1
abbrev xG.r (Γ : xG) : Nat → Nat := Γ.2.1
abbrev xG.d (Γ : xG) : va_G := Γ.2.2.1
abbrev xG.c (Γ : xG) : Nat → ClassId := Γ.2.2.2.1
abbrev xG.t (Γ : xG) : Nat → Nat := Γ.2.2.2.2.1
abbrev xG.k (Γ : xG) : Nat → Nat := Γ.2.2.2.2.2.1
abbrev xG.v (Γ : xG) : Nat → Nat := Γ.2.2.2.2.2.2.1
abbrev xG.s (Γ : xG) : Nat × Nat × (Nat → Int32) := Γ.2.2.2.2.2.2.2
def xfR (c j w : Nat) : Option (Nat × Nat × Nat) := match (xfr.getD c []).getD j none with
  | none => none
  | some (s, k, o, true) => some (s, k, w + o)
  | some (s, k, o, false) => some (s, k, o)
def xnf (c : Nat) : Nat := (xfr.getD c []).length
def xup (D : xM) (i j : Nat) (v : Int32) : xM := fun a b => if a = i ∧ b = j then v else D a b
def xad (Γ : xG) (s k i : Nat) : Nat := match s with
  | 4 => Γ.t k
  | 5 => Γ.k k
  | 7 => Γ.v k
  | 8 => Γ.s.1
  | _ => Γ.r i
def xcv (Γ : xG) (v : xV) : Value := match v with
  | .inl x => .int x
  | .inr (.inl x) => .long x
  | .inr (.inr (s, k, i)) => .ref (xad Γ s k i)
/-- a reference that is one -/
def xvr (s k i : Nat) : Prop := match s with
  | 4 => 1 ≤ k ∧ k ≤ 5
  | 5 => k < 10
  | 7 => k < 10
  | 8 => True
  | s => s ≤ 6 ∧ xkd[i]? = some (s, k)
def xvv (v : xV) : Prop := match v with
  | .inr (.inr (s, k, i)) => xvr s k i
  | _ => True
def xfv (D : xM) (c i j : Nat) : xV := match xfR c j i with
  | some (s, k, w) => .inr (.inr (s, k, w))
  | none => .inl (D i j)
def xelB (k j : Nat) : Nat := match k with
  | 8 => xB0 + 6 * j
  | _ => xK0 + 6 * j
def xce (Γ : xG) (D : xM) (i : Nat) (q : Nat × Nat) : va_E := match q.1 with
  | 0 => .inr (q.2, (List.range (xnf q.2)).map (fun j => xcv Γ (xfv D q.2 i j)))
  | 1 => .inl (Γ.c 0, q.2, .inl (D i))
  | 2 => .inl (Γ.c 1, q.2, .inl (D i))
  | 3 => .inl (Γ.c 2, q.2, .inr (.inr (.inr (.inr (fun j => some (Γ.r (xelB q.2 j)))))))
  | _ => .inl (Γ.c 3, q.2, .inr (.inr (.inr (.inr (fun j => some (Γ.r (xR0 + 2 * j)))))))
def xws (Γ : xG) (D : xM) : va_W := (List.range xNC).map (fun i => (Γ.r i, xce Γ D i (xkd.getD i (0, 0))))
def xA (Γ : xG) : Nat → Prop := fun q => ∃ i, i < xNC ∧ q = Γ.r i
def xH (Γ : xG) (D : xM) (H : Heap) : Prop := va_P Γ.d vwCl (xws Γ D) H
abbrev xty (Γ : xG) : List (ClassId × FieldType) := [(Γ.c 0, .int), (Γ.c 1, .boolean), (Γ.c 2, .object RX7), (Γ.c 3, .object RX2)]
/-- what holds of a state, beside the cells -/
def xS (Γ : xG) (s : State) : Prop := va_K Γ.d vwCl (xty Γ) s ∧ (∀ i j, i < xNC → j < xNC → Γ.r i = Γ.r j → i = j) ∧
  (∀ k, 1 ≤ k → k ≤ 5 → va_Z "ParrotSpeech" (xsn k) "[I" (.ref (Γ.t k)) (xA Γ) s s.heap ∧ va_T .int (Γ.t k) 5 (fun j => .int (xtv k j)) (xA Γ) s s.heap) ∧
  (∀ k, k < 10 → vk_R "ParrotSpeech$HarbourReader" (xsp k) (xsx k) (Γ.k k) s) ∧ vk_S 10 xsl xsb Γ.k Γ.v (xA Γ) s s.heap ∧
  va_Z "java/lang/String" "COMPACT_STRINGS" "Z" (.int 1) (xA Γ) s s.heap ∧ (va_X Γ.s.1 Γ.s.2.1 Γ.s.2.2 s s.heap ∧ Γ.s.1 < s.heap.size ∧ ¬ xA Γ Γ.s.1 ∧ (∀ q ∈ xnst, va_Nw (.fieldLinkNest "ParrotSpeech$World" q.1 "ParrotSpeech" q.2 "[I" "ParrotSpeech") s) ∧ va_Zq "jdk/internal/util/Preconditions" "SIOOBE_FORMATTER" "Ljava/util/function/BiFunction;" (xA Γ) s s.heap)
theorem xS.warm {Γ : xG} {s U : State} (h : xS Γ s) (hW : s.WarmedH U.vm) (hz : s.heap.size ≤ U.heap.size) (hq : ∀ a : Nat, a < s.heap.size → ¬ xA Γ a → U.heap[a]? = s.heap[a]?) : xS Γ U := by
  obtain ⟨h1, h2, h3, h4, h5, h6, h7, h8, h9, h10, h11⟩ := h
  have hv := hW.alike
  exact ⟨va_K.moved hv h1, h2, fun k a b => ⟨va_Z.moved hv ((h3 k a b).1.kept hq), va_T.moved hv ((h3 k a b).2.kept hq)⟩, fun k a => (h4 k a).warm hW, vk_S.moved hv (h5.kept hq), va_Z.moved hv (h6.kept hq), va_X.moved hv (h7.kept (hq _ h8 h9)), Nat.lt_of_lt_of_le h8 hz, h9, fun q m => va_Nw.warmF hW (h10 q m), va_Zq.moved hv (h11.kept hq)⟩
theorem xS.same {Γ : xG} {s U : State} (h : xS Γ s) (hv : U.vm = s.vm) (hh : U.heap = s.heap) : xS Γ U := by
  obtain ⟨h1, h2, h3, h4, h5, h6, h7, h8, h9, h10, h11⟩ := h
  have ha : s.vm.Alike U.vm := by rw [hv]; exact Vm.Alike.refl _
  rw [xS, hh]
  exact ⟨va_K.moved ha h1, h2, fun k a b => ⟨va_Z.moved ha (h3 k a b).1, va_T.moved ha (h3 k a b).2⟩, fun k a => (h4 k a).same hv, vk_S.moved ha h5, va_Z.moved ha h6, va_X.moved ha h7, h8, h9, fun q m => va_Nw.same rfl hv.symm (h10 q m), va_Zq.moved ha h11⟩
/-- the tables' words that travel to a callee -/
def xtb : List Cond := lw_tbl.filter goodWord
theorem xtb_good {w : Cond} (h : w ∈ xtb) : (w.onTables && w.keeps) = true ∨ ∃ ty, w = .arrayClass ty := good_of_word (List.mem_filter.mp h).2
def xin (w : Cond) : Bool := decide (w ∈ lw_tbl) && goodWord w
theorem xin_mem {w : Cond} (h : xin w = true) : w ∈ xtb := by
  rw [xin, Bool.and_eq_true, decide_eq_true_eq] at h
  exact List.mem_filter.mpr h
def xnum (n : Int) : Int32 := match n with
  | .ofNat k => Int32.ofNat k
  | .negSucc k => -(Int32.ofNat (k + 1))
/-- the word of a method's code, as a caller needs it -/
def xcd (h : xHd) : Cond := .code h.1 h.2.1 h.2.2.1 h.2.2.2
/-- a word of the tables, by its place -/
def xat (p : Nat) (w : Cond) : Bool := (match lw_tbl[p]? with
  | some v => decide (v = w)
  | none => false) && goodWord w
theorem xat_mem {p : Nat} {w : Cond} (h : xat p w = true) : w ∈ xtb := by
  rw [xat, Bool.and_eq_true] at h
  obtain ⟨h1, h2⟩ := h
  split at h1
  · rename_i v hv
    have e : v = w := of_decide_eq_true h1
    subst e
    exact List.mem_filter.mpr ⟨List.mem_of_getElem? hv, h2⟩
  · cases h1
theorem xzip {α β : Type} : ∀ {l : List α} {p : List β} {q : α}, Nat.ble l.length p.length = true → q ∈ l → ∃ r, (q, r) ∈ l.zip p
  | [], _, _, _, h => by cases h
  | _ :: _, [], _, hl, _ => by cases hl
  | a :: l, b :: p, q, hl, h => by
    rcases List.mem_cons.mp h with e | e
    · subst e; exact ⟨b, List.mem_cons_self⟩
    · have hl2 : Nat.ble l.length p.length = true := hl
      obtain ⟨r, hr⟩ := xzip hl2 e
      exact ⟨r, List.mem_cons_of_mem _ hr⟩
def xflB (z : (Nat × String × Nat × Nat) × Nat) : Bool := match vwCl[z.1.2.2.1]? with
  | some (_, T, N) => decide (N = xnf z.1.2.2.1) && decide (z.1.2.2.2 < N) && xat z.2 (.fieldLink z.1.2.1 z.1.1 (T z.1.2.2.2).1 (T z.1.2.2.2).2.1 (T z.1.2.2.2).2.2.1)
  | none => false
theorem xfl_ok : (xfl.zip xflp).all xflB = true := by decide +kernel
def xplB (z : (Nat × String × Nat × Nat) × Nat) : Bool := match vwCl[z.1.2.2.1]? with
  | some (_, T, N) => (if z.1.2.2.2 < 100 then decide (N = xnf z.1.2.2.1) && decide (z.1.2.2.2 < N) && decide ((T z.1.2.2.2).2.2.2 = false) && decide (parseFieldDescriptor (T z.1.2.2.2).2.2.1 = some .int) && xat z.2 (.fieldLink z.1.2.1 z.1.1 (T z.1.2.2.2).1 (T z.1.2.2.2).2.1 (T z.1.2.2.2).2.2.1) else decide (N = xnf z.1.2.2.1) && decide (z.1.2.2.2 - 100 < N) && decide ((T (z.1.2.2.2 - 100)).2.2.2 = false) && decide (parseFieldDescriptor (T (z.1.2.2.2 - 100)).2.2.1 = some .boolean) && xat z.2 (.fieldLink z.1.2.1 z.1.1 (T (z.1.2.2.2 - 100)).1 (T (z.1.2.2.2 - 100)).2.1 (T (z.1.2.2.2 - 100)).2.2.1))
  | none => false
theorem xpl_ok : (xpl.zip xplp).all xplB = true := by decide +kernel
def xmlB (z : (Nat × String × Nat) × Nat) : Bool := match xsg[z.1.2.2]? with
  | some g => xat z.2 (.methodLink z.1.2.1 z.1.1 g.1)
  | none => false
theorem xml_ok : (xml.zip xmlp).all xmlB = true := by decide +kernel
def xcall (b : Nat) (h : xHd) : Bool :=
  decide (h.1.cls ≠ "java/lang/invoke/MethodHandle" ∧ h.1.cls ≠ "java/lang/invoke/VarHandle") && decide ((parseMethodDescriptor h.1.desc).map (fun d => d.parameters.length) = some b) && decide (h.2.2.1 ≤ 40)
def xmvB (z : (Nat × Nat) × (Nat × Nat × Nat × Nat)) : Bool := match xsg[z.1.1]? with
  | some g => xcall z.1.2 g && xat z.2.1 (.initialized g.1.cls) && xat z.2.2.2.1 (.instanceMethod g.1) && xat z.2.2.2.2 (.selects g.1.cls g.1 g.1)
  | none => false
theorem xmv_ok : (xmv.zip xmvp).all xmvB = true := by decide +kernel
set_option maxRecDepth 1000000 in
theorem xmv_c : ((xmv.zip xmvp).map fun z => lw_tbl[z.2.2.1]?) = ((xmv.zip xmvp).map fun z => (xsg[z.1.1]?).map xcd) := by rfl
def xmsB (z : (Nat × Nat) × (Nat × Nat × Nat)) : Bool := match xsg[z.1.1]? with
  | some g => xcall z.1.2 g && xat z.2.1 (.initialized g.1.cls) && xat z.2.2.2 (.static g.1)
  | none => false
theorem xms_ok : (xms.zip xmsp).all xmsB = true := by decide +kernel
set_option maxRecDepth 1000000 in
theorem xms_c : ((xms.zip xmsp).map fun z => lw_tbl[z.2.2.1]?) = ((xms.zip xmsp).map fun z => (xsg[z.1.1]?).map xcd) := by rfl
theorem xcn_ok : (xcn.zip xcnp).all (fun z => xat z.2 (.constant z.1.2.1 z.1.1 (Int32.ofNat z.1.2.2))) = true := by decide +kernel
theorem xcg_ok : (xcg.zip xcgp).all (fun z => xat z.2 (.constantLong z.1.2.1 z.1.1 (Int64.ofNat z.1.2.2))) = true := by decide +kernel
theorem xcd_in {g : xHd} {p : Nat} (h : lw_tbl[p]? = some (xcd g)) : xcd g ∈ xtb := List.mem_filter.mpr ⟨List.mem_of_getElem? h, rfl⟩
theorem xmapz {α β γ : Type} {l : List (α × β)} {f g : α × β → γ} (h : l.map f = l.map g) : ∀ z ∈ l, f z = g z := by
  intro z hz
  induction l with
  | nil => cases hz
  | cons a l ih =>
    rw [List.map_cons, List.map_cons, List.cons.injEq] at h
    rcases List.mem_cons.mp hz with e | e
    · rw [e]; exact h.1
    · exact ih h.2 e
/-- what a row must be for its step -/
def xok (h : xHd) (r : xRow) : Bool := decide (decode h.2.1 r.1 = .ok (r.2.1, r.2.2.1)) && match r.2.1 with
  | .iconst n => decide (Int32.ofInt n = xnum n)
  | .bipush n => decide ((Int8.ofInt n).toInt32 = xnum n)
  | .sipush n => decide ((Int16.ofInt n).toInt32 = xnum n)
  | .iinc _ n => decide (Int32.ofInt n = xnum n)
  | .goto off => decide ((r.1 : Int) + off = (r.2.2.2.1 : Int))
  | .if_icmp _ off => decide ((r.1 : Int) + off = (r.2.2.2.1 : Int))
  | .ifCond _ off => decide ((r.1 : Int) + off = (r.2.2.2.1 : Int))
  | .getfield idx => if r.2.2.2.1 = 10 then (if r.2.2.2.2 = 0 then xin (.fieldLink h.1.cls idx "java/lang/String" "value" "[B") else decide (r.2.2.2.2 = 1) && xin (.fieldLink h.1.cls idx "java/lang/String" "coder" "B")) else decide ((idx, h.1.cls, r.2.2.2.1, r.2.2.2.2) ∈ xfl)
  | .putfield idx => decide ((idx, h.1.cls, r.2.2.2.1, r.2.2.2.2) ∈ xpl)
  | .getstatic idx => if r.2.2.2.1 = 0 then xin (.fieldLink h.1.cls idx "java/lang/String" "COMPACT_STRINGS" "Z") else decide (r.2.2.2.1 ≤ 5) && (if r.2.2.2.2 = 0 then xin (.fieldLink h.1.cls idx "ParrotSpeech" (xsn r.2.2.2.1) "[I") else decide (h.1.cls = "ParrotSpeech$World") && decide ((idx, xsn r.2.2.2.1) ∈ xnst))
  | .ldc idx => if r.2.2.2.2 = 0 then decide ((idx, h.1.cls, r.2.2.2.1) ∈ xcn) else decide (r.2.2.2.1 < 10) && decide (h.1.cls = "ParrotSpeech$HarbourReader") && decide (xsp r.2.2.2.1 = idx)
  | .ldc_w idx => decide ((idx, h.1.cls, r.2.2.2.1) ∈ xcn)
  | .ldc2_w idx => decide ((idx, h.1.cls, r.2.2.2.1) ∈ xcg)
  | .invokevirtual idx => decide ((idx, h.1.cls, r.2.2.2.1) ∈ xml) && decide ((r.2.2.2.1, r.2.2.2.2) ∈ xmv)
  | .invokestatic idx => if r.2.2.2.1 = 1000 then xin (.methodLink h.1.cls idx arraycopyName) && xin (.native arraycopyName) && xin (.static arraycopyName) && xin (.initialized "java/lang/System") else decide ((idx, h.1.cls, r.2.2.2.1) ∈ xml) && decide ((r.2.2.2.1, r.2.2.2.2) ∈ xms)
  | _ => true
def xck (h : xHd) (rows : List xRow) : Bool := decide (h.2.2.1 ≤ 40) && rows.all (xok h)
abbrev xSt : Type := Nat × List (Option xV) × List xV × xM
/-- locals without longs: a store there takes nothing else away -/
def xnl : List (Option xV) → Bool
  | [] => true
  | some (.inr (.inl _)) :: _ => false
  | _ :: r => xnl r
def xldi (lv : List (Option xV)) (i pc : Nat) (st : List xV) (D : xM) : Option xSt := match lv[i]? with
  | some (some (.inl x)) => some (pc, lv, .inl x :: st, D)
  | _ => none
def xldl (lv : List (Option xV)) (i pc : Nat) (st : List xV) (D : xM) : Option xSt := match lv[i]? with
  | some (some (.inr (.inl x))) => some (pc, lv, .inr (.inl x) :: st, D)
  | _ => none
def xlda (lv : List (Option xV)) (i pc : Nat) (st : List xV) (D : xM) : Option xSt := match lv[i]? with
  | some (some (.inr (.inr q))) => some (pc, lv, .inr (.inr q) :: st, D)
  | _ => none
def xsto (lv : List (Option xV)) (i pc : Nat) (v : xV) (st : List xV) (D : xM) : Option xSt := match xnl lv, Nat.blt i lv.length with
  | true, true => some (pc, lv.set i (some v), st, D)
  | _, _ => none
def xgf (a b pc : Nat) (lv : List (Option xV)) (s k i : Nat) (st : List xV) (D : xM) : Option xSt := match s with
  | 0 => match Nat.beq k a, Nat.beq a 10, Nat.blt b (xnf k) with
    | true, false, true => match xfR k b i with
      | some q => some (pc, lv, .inr (.inr q) :: st, D)
      | none => some (pc, lv, .inl (D i b) :: st, D)
    | _, _, _ => none
  | 5 => match Nat.beq a 10, b with
    | true, 0 => some (pc, lv, .inr (.inr (7, k, 0)) :: st, D)
    | true, 1 => some (pc, lv, .inl 0 :: st, D)
    | _, _ => none
  | _ => none
def xpf (a b pc : Nat) (lv : List (Option xV)) (s k i : Nat) (x : Int32) (st : List xV) (D : xM) : Option xSt := match s with
  | 0 => match Nat.beq k a, Nat.blt b 100, Nat.blt b (xnf k), xfR k b i with
    | true, true, true, none => some (pc, lv, st, xup D i b x)
    | _, _, _, _ => none
  | _ => none
def xal (pc : Nat) (lv : List (Option xV)) (s k : Nat) (st : List xV) (D : xM) : Option xSt := match s with
  | 1 => some (pc, lv, .inl (Int32.ofNat k) :: st, D)
  | 7 => some (pc, lv, .inl (Int32.ofNat (xsl.getD k 0)) :: st, D)
  | _ => none
/-- one simple step -/
def xs1 (i : Instr) (len a b pc : Nat) (lv : List (Option xV)) (st : List xV) (D : xM) : Option xSt := match i, len, st with
  | .iconst n, 1, st => some (pc + 1, lv, .inl (xnum n) :: st, D)
  | .bipush n, 2, st => some (pc + 2, lv, .inl (xnum n) :: st, D)
  | .sipush n, 3, st => some (pc + 3, lv, .inl (xnum n) :: st, D)
  | .lconst k, 1, st => some (pc + 1, lv, .inr (.inl (Int64.ofNat k.val)) :: st, D)
  | .iload_n k, 1, st => xldi lv k.val (pc + 1) st D
  | .iload k, 2, st => xldi lv k (pc + 2) st D
  | .aload_n k, 1, st => xlda lv k.val (pc + 1) st D
  | .aload k, 2, st => xlda lv k (pc + 2) st D
  | .lload_n k, 1, st => xldl lv k.val (pc + 1) st D
  | .lload k, 2, st => xldl lv k (pc + 2) st D
  | .istore_n k, 1, .inl x :: st => xsto lv k.val (pc + 1) (.inl x) st D
  | .istore k, 2, .inl x :: st => xsto lv k (pc + 2) (.inl x) st D
  | .astore_n k, 1, .inr (.inr q) :: st => xsto lv k.val (pc + 1) (.inr (.inr q)) st D
  | .astore k, 2, .inr (.inr q) :: st => xsto lv k (pc + 2) (.inr (.inr q)) st D
  | .iinc k n, 3, st => match lv[k]? with
    | some (some (.inl x)) => xsto lv k (pc + 3) (.inl (x + xnum n)) st D
    | _ => none
  | .iadd, 1, .inl y :: .inl x :: st => some (pc + 1, lv, .inl (x + y) :: st, D)
  | .isub, 1, .inl y :: .inl x :: st => some (pc + 1, lv, .inl (x - y) :: st, D)
  | .imul, 1, .inl y :: .inl x :: st => some (pc + 1, lv, .inl (x * y) :: st, D)
  | .iand, 1, .inl y :: .inl x :: st => some (pc + 1, lv, .inl (x &&& y) :: st, D)
  | .ior, 1, .inl y :: .inl x :: st => some (pc + 1, lv, .inl (x ||| y) :: st, D)
  | .ixor, 1, .inl y :: .inl x :: st => some (pc + 1, lv, .inl (x ^^^ y) :: st, D)
  | .ishl, 1, .inl y :: .inl x :: st => some (pc + 1, lv, .inl (x <<< (y &&& 31)) :: st, D)
  | .ishr, 1, .inl y :: .inl x :: st => some (pc + 1, lv, .inl (x >>> (y &&& 31)) :: st, D)
  | .iushr, 1, .inl y :: .inl x :: st => some (pc + 1, lv, .inl ((x.toUInt32 >>> (y.toUInt32 &&& Int32.toUInt32 31)).toInt32) :: st, D)
  | .ineg, 1, .inl x :: st => some (pc + 1, lv, .inl (-x) :: st, D)
  | .i2l, 1, .inl x :: st => some (pc + 1, lv, .inr (.inl x.toInt64) :: st, D)
  | .i2b, 1, .inl x :: st => some (pc + 1, lv, .inl x.toInt8.toInt32 :: st, D)
  | .i2s, 1, .inl x :: st => some (pc + 1, lv, .inl x.toInt16.toInt32 :: st, D)
  | .i2c, 1, .inl x :: st => some (pc + 1, lv, .inl (x.toUInt32 % 65536).toInt32 :: st, D)
  | .ladd, 1, .inr (.inl y) :: .inr (.inl x) :: st => some (pc + 1, lv, .inr (.inl (x + y)) :: st, D)
  | .lcmp, 1, .inr (.inl y) :: .inr (.inl x) :: st => some (pc + 1, lv, .inl (lg_cmp x y) :: st, D)
  | .dup, 1, .inl x :: st => some (pc + 1, lv, .inl x :: .inl x :: st, D)
  | .dup, 1, .inr (.inr x) :: st => some (pc + 1, lv, .inr (.inr x) :: .inr (.inr x) :: st, D)
  | .dup2, 1, .inl y :: .inr (.inr x) :: st => some (pc + 1, lv, .inl y :: .inr (.inr x) :: .inl y :: .inr (.inr x) :: st, D)
  | .dup2, 1, .inl y :: .inl x :: st => some (pc + 1, lv, .inl y :: .inl x :: .inl y :: .inl x :: st, D)
  | .pop, 1, .inl _ :: st => some (pc + 1, lv, st, D)
  | .getfield _, 3, .inr (.inr (s, k, i)) :: st => xgf a b (pc + 3) lv s k i st D
  | .putfield _, 3, .inl x :: .inr (.inr (s, k, i)) :: st => xpf a b (pc + 3) lv s k i x st D
  | .getstatic _, 3, st => match a with
    | 0 => some (pc + 3, lv, .inl 1 :: st, D)
    | a + 1 => some (pc + 3, lv, .inr (.inr (4, a + 1, 0)) :: st, D)
  | .ldc _, 2, st => match b with
    | 0 => some (pc + 2, lv, .inl (Int32.ofNat a) :: st, D)
    | _ => some (pc + 2, lv, .inr (.inr (5, a, 0)) :: st, D)
  | .ldc_w _, 3, st => some (pc + 3, lv, .inl (Int32.ofNat a) :: st, D)
  | .ldc2_w _, 3, st => some (pc + 3, lv, .inr (.inl (Int64.ofNat a)) :: st, D)
  | .arraylength, 1, .inr (.inr (s, k, _)) :: st => xal (pc + 1) lv s k st D
  | _, _, _ => none
def xrw : List xRow → Nat → Option (Instr × Nat × Nat × Nat)
  | [], _ => none
  | r :: rs, pc => match Nat.beq r.1 pc with
    | true => some r.2
    | false => xrw rs pc
/-- simple steps, until one isn't, or the place is come to -/
def xrun (rows : List xRow) (stop : Nat) : Nat → Nat → List (Option xV) → List xV → xM → Option xSt
  | 0, pc, lv, st, D => some (pc, lv, st, D)
  | f + 1, pc, lv, st, D => match Nat.beq pc stop with
    | true => some (pc, lv, st, D)
    | false => match xrw rows pc with
      | some (i, len, a, b) => match xs1 i len a b pc lv st D with
        | some (pc', lv', st', D') => xrun rows stop f pc' lv' st' D'
        | none => some (pc, lv, st, D)
      | none => some (pc, lv, st, D)
/-- how a method may end -/
def xrt (h : xHd) (pc : Nat) (v : Option Int32) : Prop := match v with
  | none => h.2.2.2 = none ∧ decode h.2.1 pc = .ok (.return_, 1)
  | some x => ∃ ty, h.2.2.2 = some ty ∧ narrow ty (.int x) = .int x ∧ decode h.2.1 pc = .ok (.ireturn, 1)
def xC (Γ : xG) (n : Nat) (h : xHd) (rows : List xRow) (p : Program) (R : Room) (s : State) (m : MethodId) (args : Array Value) (meth : Method) (c : Code) (cells slots : Nat) : Prop :=
  p.tables.exec = Jvm.exec ∧ c.code = h.2.1 ∧ c.maxLocals = h.2.2.1 ∧ meth.sig.returnType = h.2.2.2 ∧ meth.locks = false ∧ s.vm.findClass h.1.cls = some m.cls ∧ (∀ w ∈ xtb, w.before args s = true) ∧ xS Γ s ∧ xck h rows = true ∧ n ≤ R.frames ∧ 64 * n ≤ R.locals ∧ cells ≤ R.cells ∧ slots ≤ R.slots
def xlh (Γ : xG) (h : xHd) (ls : Array Slot) (lv : List (Option xV)) : Prop := ls.size = h.2.2.1 ∧ lv_wf ls ∧ (∀ (i : Nat) (v : xV), lv[i]? = some (some v) → xvv v ∧ ls[i]? = some (.val (xcv Γ v))) ∧ lv.length ≤ h.2.2.1
/-- the walk: from here on the method comes to its end with post -/
def xW (Γ : xG) (n : Nat) (h : xHd) (rows : List xRow) (pc : Nat) (lv : List (Option xV)) (st : List xV) (D : xM) (post : Option Int32 → xM → Prop) : Prop :=
  ∀ (p : Program) (e : Env) (R : Room) (s : State) (m : MethodId) (args : Array Value) (below : List Frame) (meth : Method) (c : Code) (H : Heap) (locs : List Loc) (cells slots : Nat) (Q : State → Prop) (ls : Array Slot),
    xC Γ n h rows p R s m args meth c cells slots → xH Γ D H → va_S (xA Γ) s.heap H locs → xlh Γ h ls lv → (∀ v ∈ st, xvv v) →
    (∀ (v : Option Int32) (D' : xM) (H' : Heap) (locs' : List Loc) (pc' : Nat) (ls' : Array Slot), post v D' → xH Γ D' H' → va_S (xA Γ) s.heap H' locs' → xrt h pc' v → W p Γ.l e R s m args below meth c H' locs' cells slots Q (F0 m pc' ls' (v.toList.map Value.int))) →
    W p Γ.l e R s m args below meth c H locs cells slots Q (F0 m pc ls (st.map (xcv Γ)))
theorem xrw_mem : ∀ {rows : List xRow} {pc : Nat} {q : Instr × Nat × Nat × Nat}, xrw rows pc = some q → (pc, q) ∈ rows
  | [], _, _, h => by cases h
  | r :: rs, pc, q, h => by
    rw [xrw] at h
    split at h
    · rename_i hb
      have e : r.1 = pc := Nat.eq_of_beq_eq_true hb
      have e2 : r.2 = q := Option.some.inj h
      have : r = (pc, q) := by rw [← e, ← e2]
      rw [← this]
      exact List.mem_cons_self
    · exact List.mem_cons_of_mem _ (xrw_mem h)
theorem xck_row {h : xHd} {rows : List xRow} (hk : xck h rows = true) {pc : Nat} {i : Instr} {len a b : Nat} (hr : xrw rows pc = some (i, len, a, b)) : xok h (pc, i, len, a, b) = true := by
  rw [xck, Bool.and_eq_true] at hk
  exact List.all_eq_true.mp hk.2 _ (xrw_mem hr)
theorem xok_dec {h : xHd} {r : xRow} (hk : xok h r = true) : decode h.2.1 r.1 = .ok (r.2.1, r.2.2.1) := by
  rw [xok, Bool.and_eq_true, decide_eq_true_eq] at hk
  exact hk.1
