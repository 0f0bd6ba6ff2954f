/-! ===== what holds at the law's entry ===== -/
def lwB (q : Nat × Cond) : Bool := match lw_tbl[q.1]? with
  | some v => decide (v = q.2)
  | none => false
theorem lwB_m {q : Nat × Cond} (h : lwB q = true) : q.2 ∈ lw_tbl := by
  unfold lwB at h
  split at h
  · rename_i v hv
    have e : v = q.2 := of_decide_eq_true h
    rw [← e]
    exact List.mem_of_getElem? hv
  · cases h
theorem lw_lays : ∀ k, k < 5 → lwB ([655, 611, 641, 661, 671].getD k 0, .laysStatic "ParrotSpeech" (xsn (k + 1)) "[I") = true := by decide +kernel
theorem lw_sref : ∀ k, k < 10 → lwB ([407, 460, 461, 462, 463, 480, 485, 501, 510, 524].getD k 0, .stringRef "ParrotSpeech$HarbourReader" (xsp k) (xsx k)) = true := by decide +kernel
theorem lw_nstF : ∀ k, k < xnst.length → lwB ([610, 640, 654, 660].getD k 0, .fieldLinkNest "ParrotSpeech$World" (xnst.getD k (0, "")).1 "ParrotSpeech" (xnst.getD k (0, "")).2 "[I" "ParrotSpeech") = true := by decide +kernel
theorem lw_nstM : ∀ k, k < knm.length → lwB ([105, 136, 194, 223, 226, 247, 267, 288].getD k 0, .methodLinkNest (knm.getD k ("", 0, x)).1 (knm.getD k ("", 0, x)).2.1 (knm.getD k ("", 0, x)).2.2 "ParrotSpeech") = true := by decide +kernel
theorem lw_one : ([(421, .laysStatic "java/lang/String" "COMPACT_STRINGS" "Z"), (90, .initialized "java/lang/String"), (437, .laysStatic "jdk/internal/util/Preconditions" "SIOOBE_FORMATTER" "Ljava/util/function/BiFunction;"), (92, .initialized "jdk/internal/util/Preconditions"), (78, .initialized "ParrotSpeech"), (127, .arrayClass .int), (1062, .arrayClass .boolean), (246, .arrayOver (.object RX7)), (286, .arrayOver (.object RX2)), (95, .classLink "ParrotSpeechLaw" 7 RX8), (929, .classLink "ParrotSpeechLaw" 10 RX9), (97, .methodLink "ParrotSpeechLaw" 9 yX8_init), (931, .methodLink "ParrotSpeechLaw" 12 yX9_init)] : List (Nat × Cond)).all lwB = true := by decide +kernel
def flG : List Cond := flatC (Jvm.Cond.and given_1 narrow_1)
abbrev tmS (k : Nat) : Term := .static "ParrotSpeech" (xsn k) "[I"
abbrev tmK (k : Nat) : Term := .string "ParrotSpeech$HarbourReader" (xsp k)
abbrev tmV (k : Nat) : Term := .field (tmK k) "java/lang/String" "value" "[B"
theorem fl_tab : ∀ k, k < 5 → (Cond.arrayOf (tmS (k + 1)) .int ∈ flG ∧ Cond.eq (.length (tmS (k + 1))) (.int 5) ∈ flG) ∧ ∀ j, j < 5 → Cond.eq (.elem (tmS (k + 1)) (.int (Int32.ofNat j))) (.int (xtv (k + 1) j)) ∈ flG := by decide +kernel
theorem fl_str : ∀ k, k < 10 → (Cond.exactly (tmK k) "java/lang/String" ∈ flG ∧ Cond.eq (.field (tmK k) "java/lang/String" "coder" "B") (.int 0) ∈ flG) ∧ (Cond.arrayOf (tmV k) .byte ∈ flG ∧ Cond.eq (.length (tmV k)) (.int (Int32.ofNat (xsl.getD k 0))) ∈ flG) := by decide +kernel
theorem fl_byt : ∀ k, k < 10 → ∀ j, j < xsl.getD k 0 → Cond.eq (.elem (tmV k) (.int (Int32.ofNat j))) (.int ((xsb.getD k []).getD j 0)) ∈ flG := by decide +kernel
theorem fl_ne : ∀ i, i < 10 → ∀ j, j < 10 → i ≠ j → (Cond.not (Cond.eq (tmK i) (tmK j)) ∈ flG ∨ Cond.not (Cond.eq (tmK j) (tmK i)) ∈ flG) := by decide +kernel
theorem fl_one : Cond.eq (.static "java/lang/String" "COMPACT_STRINGS" "Z") (.int 1) ∈ flG ∧ Cond.isRef (.static "jdk/internal/util/Preconditions" "SIOOBE_FORMATTER" "Ljava/util/function/BiFunction;") ∈ flG := by decide +kernel
theorem kci : ∀ ci, ci < 10 → (match vwCl[ci]?, kclp[ci]? with
    | some (C, _, N), some (p1, p2) => xat p1 (.instantiable C N) && xat p2 (.initialized C)
    | _, _ => false) = true := by decide +kernel
section ENT
variable {args : Array Value} {s : State}
theorem k_cls (htx : ∀ w ∈ xtb, w.before args s = true) {ci : Nat} {C : String} {T : u_T} {N : Nat} (h : vwCl[ci]? = some (C, T, N)) : (Cond.instantiable C N).before args s = true ∧ (Cond.initialized C).before args s = true := by
  have hi : ci < 10 := (List.getElem?_eq_some_iff.mp h).1
  have h1 := kci ci hi
  rw [h] at h1
  split at h1
  · rename_i e1 e2
    cases e1
    obtain ⟨q1, q2⟩ := xand h1
    exact ⟨htx _ (xat_mem q1), htx _ (xat_mem q2)⟩
  · cases h1
theorem k_known (htx : ∀ w ∈ xtb, w.before args s = true) : ∃ d : va_G, ∀ (k : Nat) (q : vw_C), vwCl[k]? = some q → u_Kn s q.1 q.2.1 q.2.2 (d.1 k) (d.2 k) := by
  have h0 : ∀ k : Nat, ∃ q : ClassId × (Nat → Nat), ∀ c : vw_C, vwCl[k]? = some c → u_Kn s c.1 c.2.1 c.2.2 q.1 q.2 := by
    intro k
    cases hk : vwCl[k]? with
    | none => exact ⟨(0, fun _ => 0), fun c h => by cases h⟩
    | some c =>
      obtain ⟨C, T, N⟩ := c
      obtain ⟨cC, iS, h1⟩ := u_known (C := C) (T := T) (N := N) (n := N) htx (xcl hk).1 (k_cls htx hk).1
      exact ⟨(cC, iS), fun c h => by cases h; exact h1⟩
  obtain ⟨d, hd⟩ := Classical.axiomOfChoice h0
  exact ⟨(fun k => (d k).1, fun k => (d k).2), fun k q hq => hd k q hq⟩
theorem k_arrI (h : (Cond.arrayClass .int).before args s = true) : ∃ cA, ArrOfT s cA .int ∧ va_RA s cA .int := by
  obtain ⟨cA, kA, comp, hf, hk, hkind⟩ := Cond.arrayClass_spec h
  exact ⟨cA, fun n z => ⟨fun k h => (by cases h), kA, hk, comp, hkind⟩, hf⟩
theorem k_arrZ (h : (Cond.arrayClass .boolean).before args s = true) : ∃ cA, ArrOfT s cA .boolean ∧ va_RA s cA .boolean := by
  obtain ⟨cA, kA, comp, hf, hk, hkind⟩ := Cond.arrayClass_spec h
  exact ⟨cA, fun n z => ⟨fun k h => (by cases h), kA, hk, comp, hkind⟩, hf⟩
theorem k_arrO {C : String} (h : (Cond.arrayOver (.object C)).before args s = true) : ∃ cA, ArrOfT s cA (.object C) ∧ va_RA s cA (.object C) := by
  obtain ⟨comp, cA, kA, h1, -, h2, h3, h4⟩ := Cond.arrayOver_spec h
  exact ⟨cA, fun n z => ⟨fun k h => (by cases h), kA, h2, comp, h3⟩, kA, comp, h2, h3, h1, h4⟩
theorem k_stat {A : Nat → Prop} (hts : ∀ w ∈ lw_tbl, w.before args s = true) (hgv : ∀ w ∈ flG, w.before args s = true) (hA : ∀ a : Nat, a < s.heap.size → ¬ A a) : ∃ t : Nat → Nat, ∀ k, 1 ≤ k → k ≤ 5 → va_Z "ParrotSpeech" (xsn k) "[I" (.ref (t k)) A s s.heap ∧ va_T .int (t k) 5 (fun j => .int (xtv k j)) A s s.heap := by
  have h0 : ∀ k : Nat, ∃ t : Nat, 1 ≤ k → k ≤ 5 → va_Z "ParrotSpeech" (xsn k) "[I" (.ref t) A s s.heap ∧ va_T .int t 5 (fun j => .int (xtv k j)) A s s.heap := by
    intro k
    by_cases hk : 1 ≤ k ∧ k ≤ 5
    · obtain ⟨k, rfl⟩ : ∃ k', k = k' + 1 := ⟨k - 1, by omega⟩
      obtain ⟨⟨f1, f2⟩, f3⟩ := fl_tab k (by omega)
      obtain ⟨t, ht, hT⟩ := va_Tof (tm := tmS (k + 1)) (N := 5) (f := fun j => .int (xtv (k + 1) j)) (by omega) (hgv _ f1) (va_eqt (hgv _ f2)) (fun j hj => va_eqt (hgv _ (f3 j hj))) hA
      exact ⟨t, fun _ _ => ⟨va_Zof (hts _ (lwB_m (lw_lays k (by omega)))) (hts _ (lwB_m (List.all_eq_true.mp lw_one _ (List.mem_of_getElem? (i := 4) rfl)))) ht hA, hT⟩⟩
    · exact ⟨0, fun h1 h2 => absurd ⟨h1, h2⟩ hk⟩
  exact Classical.axiomOfChoice (fun k => by
    obtain ⟨t, ht⟩ := h0 k
    exact ⟨t, ht⟩)
theorem k_str {A : Nat → Prop} (hts : ∀ w ∈ lw_tbl, w.before args s = true) (hgv : ∀ w ∈ flG, w.before args s = true) (hA : ∀ a : Nat, a < s.heap.size → ¬ A a) : ∃ adK adV : Nat → Nat, vk_S 10 xsl xsb adK adV A s s.heap ∧ ∀ k, k < 10 → vk_R "ParrotSpeech$HarbourReader" (xsp k) (xsx k) (adK k) s := by
  have hN : ∀ i : Nat, i < 10 → xsl.getD i 0 < 2 ^ 31 := by decide
  obtain ⟨adK, adV, h1, h2⟩ := vk_Sof (tm := tmK) (N := 10) (len := xsl) (byt := xsb) hN (fun i hi => hgv _ (fl_str i hi).1.1) (fun i hi => hgv _ (fl_str i hi).1.2) (fun i hi => hgv _ (fl_str i hi).2.1) (fun i hi => hgv _ (fl_str i hi).2.2) (fun i hi j hj => hgv _ (fl_byt i hi j hj)) (fun i j hi hj hij => (fl_ne i hi j hj hij).elim (fun z => Or.inl (hgv _ z)) (fun z => Or.inr (hgv _ z))) hA
  exact ⟨adK, adV, h1, fun k hk => vk_R.of (hts _ (lwB_m (lw_sref k hk))) (h2 k hk)⟩
end ENT
