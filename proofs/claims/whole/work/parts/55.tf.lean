/-! ===== the tongue's faults ===== -/
def tgStep (c d : Nat) (nd my : Bool) : Option (Nat × Bool × Bool) :=
  if (97 ≤ c ∧ c < 107) ∨ c = 46 then some (d, false, true)
  else if c = 40 ∧ d < 6 then some (d + 1, true, false)
  else if c = 41 ∧ 0 < d ∧ nd = false then some (d - 1, false, true)
  else if c = 124 ∧ nd = false then some (d, true, false)
  else if c = 42 ∧ my = true then some (d, false, false)
  else none
def tgF (tx : List Nat) : Nat → Nat → Nat → Bool → Bool → Option Nat
  | 0, _, d, nd, _ => if nd = true ∨ 0 < d then some tx.length else none
  | g + 1, i, d, nd, my => if tc tx i = 32 then tgF tx g (i + 1) d nd my else match tgStep (tc tx i) d nd my with
    | none => some i
    | some (d', nd', my') => tgF tx g (i + 1) d' nd' my'
theorem tgF_sk (tx : List Nat) : ∀ g i d nd my, i + g = tx.length → tgF tx g i d nd my = tgF tx (tx.length - tSk tx g i) (tSk tx g i) d nd my ∧ (tSk tx g i < tx.length → tc tx (tSk tx g i) ≠ 32)
  | 0, i, d, nd, my, h => by
    rw [tSk, show tx.length - i = 0 by omega]
    exact ⟨rfl, fun z => absurd z (by omega)⟩
  | g + 1, i, d, nd, my, h => by
    rw [tSk]
    by_cases c : tc tx i = 32
    · rw [if_pos c, tgF, if_pos c]
      exact tgF_sk tx g (i + 1) d nd my (by omega)
    · rw [if_neg c, show tx.length - i = g + 1 by omega]
      exact ⟨rfl, fun _ => c⟩
theorem tgF_le (tx : List Nat) : ∀ g i d nd my p, i + g = tx.length → tgF tx g i d nd my = some p → p ≤ tx.length
  | 0, i, d, nd, my, p, h, e => by
    rw [tgF] at e
    split at e
    · cases e; omega
    · cases e
  | g + 1, i, d, nd, my, p, h, e => by
    rw [tgF] at e
    split at e
    · exact tgF_le tx g (i + 1) d nd my p (by omega) e
    · split at e
      · cases e; omega
      · exact tgF_le tx g (i + 1) _ _ _ p (by omega) e
theorem nI_le0 {d : Nat} (h : d < 2 ^ 31) : nI d ≤ 0 ↔ d = 0 := by
  rw [Int32.le_iff_toInt_le, nI_toInt h]
  have : (0 : Int32).toInt = 0 := rfl
  omega
theorem nI_gt0 {d : Nat} (h : d < 2 ^ 31) : 0 < nI d ↔ 0 < d := by
  rw [Int32.lt_iff_toInt_lt, nI_toInt h]
  have : (0 : Int32).toInt = 0 := rfl
  omega
theorem nI_d1 {d : Nat} (h : 0 < d) : nI d + xnum (-1) = nI (d - 1) := by
  have := pk_m1 (d - 1)
  rw [show d - 1 + 1 = d by omega] at this
  exact this
theorem bI_0 {b : Bool} (h : (if b = true then (1 : Int32) else 0) = 0) : b = false := by
  cases b
  · rfl
  · exact absurd h (by decide)
theorem bI_1 {b : Bool} (h : ¬ (if b = true then (1 : Int32) else 0) = 0) : b = true := by
  cases b
  · exact absurd rfl h
  · rfl
section TF
variable {Γ : xG} {n : Nat} {D : xM} {post : Option Int32 → xM → Prop} {tx : List Nat}
theorem c_faultIn (h : cTx D tx) (hT : tx.length ≤ 200 ∧ ∀ c ∈ tx, c < 256) (hp : ∀ D', D' 1 1 = nI tx.length → rL D' 2 tx → (∀ a, a ≠ 1 → D' a = D a) → post (some (xby (tgF tx tx.length 0 0 true false))) D') : xRuns Γ (n + 2) hX6_faultIn [xR 0 5 1] D post := by
  have hL := hT.1
  generalize hR0 : tgF tx tx.length 0 0 true false = R0 at hp
  refine x_runs kX6_faultIn (by decide +kernel) rfl ?_
  refine x_call [] rfl rfl rfl rfl rfl rfl rfl ?_
  refine x_runs kX5_begin (by decide +kernel) rfl ?_
  refine x_vret rfl rfl rfl ?_
  have tx0 : TXc (xup (xup D 1 2 (xnum 0)) 1 3 (xnum 0)) tx 0 0 := ⟨by rw [xup_o (by omega), xup_o (by omega)]; exact h.1, rL_out h.2 (by rw [xup_ne 2 (by omega), xup_ne 2 (by omega)]), by rw [xup_o (by omega), xup_at]; rfl, by rw [xup_at]; rfl⟩
  refine x_call [] rfl rfl rfl rfl rfl rfl rfl (c_readLetter tx0 (Nat.zero_le _) hT (fun D1 k1 k2 => ?_))
  refine x_to 17 rfl ?_
  have fin : ∀ k d (nd my : Bool) (D2 : xM), (R0 = if nd = true ∨ 0 < d then some tx.length else none) → d ≤ 6 → D2 1 1 = nI tx.length → rL D2 2 tx → (∀ a, a ≠ 1 → D2 a = D a) → xW Γ (n + 2) hX6_faultIn rX6_faultIn 159 [some (xR 0 5 1), some (xI (nI d)), some (xI (if nd then 1 else 0)), some (xI (if my then 1 else 0)), some (xI (nI k))] [] D2 post := by
    intro k d nd my D2 he hd q1 q2 q3
    have R := hp D2 q1 q2 q3
    have no : (nd = true ∨ 0 < d) → xW Γ (n + 2) hX6_faultIn rX6_faultIn 167 [some (xR 0 5 1), some (xI (nI d)), some (xI (if nd then 1 else 0)), some (xI (if my then 1 else 0)), some (xI (nI k))] [] D2 post := by
      intro hn
      rw [he, if_pos hn] at R
      refine x_goto rfl rfl (x_ret rfl rfl rfl rfl ?_)
      rw [q1]
      exact R
    refine x0_ne rfl rfl (fun q => no (Or.inl (bI_1 q))) (fun q => ?_)
    refine x0_le rfl rfl (fun w => ?_) (fun w => no (Or.inr ?_))
    · have w := (nI_le0 (by omega)).mp w
      rw [he, if_neg (fun z => z.elim (fun z => by rw [bI_0 q] at z; cases z) (fun z => by omega))] at R
      exact x_ret rfl rfl rfl rfl R
    · have w : ¬ d = 0 := fun z => w ((nI_le0 (by omega)).mpr z)
      omega
  have loop : ∀ g f k d (nd my : Bool) (D2 : xM), tx.length - f ≤ g → f ≤ tx.length → k ≤ f → (f < tx.length → tc tx f ≠ 32) → (my = true → nd = false) → R0 = tgF tx (tx.length - f) f d nd my → d ≤ 6 → TXc D2 tx f (min (f + 1) tx.length) → (∀ a, a ≠ 1 → D2 a = D a) → xW Γ (n + 2) hX6_faultIn rX6_faultIn 17 [some (xR 0 5 1), some (xI (nI d)), some (xI (if nd then 1 else 0)), some (xI (if my then 1 else 0)), some (xI (nI k))] [] D2 post := by
    intro g
    induction g with
    | zero =>
      intro f k d nd my D2 hg hf hk hc hi he hd q1 q2
      rw [show tx.length - f = 0 by omega, tgF] at he
      refine xi_geN k 200 rfl rfl rfl rfl (by omega) (by omega) (fun _ => fin k d nd my D2 he hd q1.1 q1.2.1 q2) (fun _ => ?_)
      refine x_call [] rfl rfl rfl rfl rfl rfl rfl (c_isOver q1 hf hL ?_)
      rw [if_pos (show tx.length ≤ f by omega)]
      exact x0_ne rfl rfl (fun _ => fin k d nd my D2 he hd q1.1 q1.2.1 q2) (fun q => absurd q (by decide))
    | succ g ih =>
      intro f k d nd my D2 hg hf hk hc hi he hd q1 q2
      by_cases hfl : tx.length ≤ f
      · rw [show tx.length - f = 0 by omega, tgF] at he
        refine xi_geN k 200 rfl rfl rfl rfl (by omega) (by omega) (fun _ => fin k d nd my D2 he hd q1.1 q1.2.1 q2) (fun _ => ?_)
        refine x_call [] rfl rfl rfl rfl rfl rfl rfl (c_isOver q1 hf hL ?_)
        rw [if_pos (show tx.length ≤ f by omega)]
        exact x0_ne rfl rfl (fun _ => fin k d nd my D2 he hd q1.1 q1.2.1 q2) (fun q => absurd q (by decide))
      · have hc := hc (by omega)
        have hc2 := tx_lt hT.2 f
        rw [show min (f + 1) tx.length = f + 1 by omega] at q1
        rw [show tx.length - f = tx.length - (f + 1) + 1 by omega, tgF, if_neg hc] at he
        generalize hcc : tc tx f = c at he hc hc2
        have go : ∀ d' (nd' my' : Bool), tgStep c d nd my = some (d', nd', my') → (my' = true → nd' = false) → d' ≤ 6 → xW Γ (n + 2) hX6_faultIn rX6_faultIn 149 [some (xR 0 5 1), some (xI (nI d')), some (xI (if nd' then 1 else 0)), some (xI (if my' then 1 else 0)), some (xI (nI k))] [] D2 post := by
          intro d' nd' my' hs hi' hd'
          rw [hs] at he
          have he : R0 = tgF tx (tx.length - (f + 1)) (f + 1) d' nd' my' := he
          have sk := tgF_sk tx (tx.length - (f + 1)) (f + 1) d' nd' my' (by omega)
          have fl := tF_le (tx := tx) (i := f + 1) (by omega)
          refine x_call [] rfl rfl rfl rfl rfl rfl rfl (c_readLetter q1 (by omega) hT (fun D3 k3 k4 => ?_))
          have IH := ih (tF tx (f + 1)) (k + 1) d' nd' my' D3 (by omega) fl.2 (by omega) sk.2 hi' (by rw [he]; exact sk.1) hd' k3 (fun a qa => by rw [k4 a qa]; exact q2 a qa)
          rw [← nI_1 k] at IH
          exact x_goto rfl rfl IH
        have sgn : ∀ sg, sg < 256 → (post2 : Option Int32 → xM → Prop) → post2 (some (if c = sg then 1 else 0)) D2 → xRuns Γ (n + 1) hX5_isSign [xR 0 5 1, xI (nI sg)] D2 post2 := by
          intro sg hsg post2 hp2
          refine c_isSign q1 (by omega) (by omega) hT hsg ?_
          rw [hcc]
          by_cases w : c = sg
          · rw [if_pos ⟨rfl, w⟩]; rw [if_pos w] at hp2; exact hp2
          · rw [if_neg (fun z => w z.2)]; rw [if_neg w] at hp2; exact hp2
        have bad : tgStep c d nd my = none → xW Γ (n + 2) hX6_faultIn rX6_faultIn 144 [some (xR 0 5 1), some (xI (nI d)), some (xI (if nd then 1 else 0)), some (xI (if my then 1 else 0)), some (xI (nI k))] [] D2 post := by
          intro hs
          rw [hs] at he
          refine x_ret rfl rfl rfl rfl ?_
          rw [q1.2.2.1]
          have R := hp D2 q1.1 q1.2.1 q2
          rw [he] at R
          exact R
        rw [tgStep] at go bad
        have one : ((97 ≤ c ∧ c < 107) ∨ c = 46) → xW Γ (n + 2) hX6_faultIn rX6_faultIn 49 [some (xR 0 5 1), some (xI (nI d)), some (xI (if nd then 1 else 0)), some (xI (if my then 1 else 0)), some (xI (nI k))] [] D2 post := by
          intro w
          exact x_goto rfl rfl (go d false true (by rw [if_pos w]) (fun _ => rfl) hd)
        refine xi_geN k 200 rfl rfl rfl rfl (by omega) (by omega) (fun h => absurd h (by omega)) (fun _ => ?_)
        refine x_call [] rfl rfl rfl rfl rfl rfl rfl (c_isOver q1 hf hL ?_)
        rw [if_neg (show ¬ tx.length ≤ f by omega)]
        refine x0_ne rfl rfl (fun q => absurd rfl q) (fun _ => ?_)
        refine x_call [] rfl rfl rfl rfl rfl rfl rfl (c_oneWord q1 (by omega) (by omega) hT ?_)
        rw [tOne, if_pos rfl, hcc, tWo]
        by_cases w1 : 97 ≤ c ∧ c < 107
        · rw [if_pos w1]
          exact xi_ne rfl rfl (fun _ => one (Or.inl w1)) (fun q => absurd q (nI_nm1 (by omega)))
        · rw [if_neg w1]
          refine xi_ne rfl rfl (fun q => absurd rfl q) (fun _ => ?_)
          refine x_call [xI (nI 46)] rfl rfl rfl rfl rfl rfl rfl (sgn 46 (by omega) _ ?_)
          by_cases w2 : c = 46
          · rw [if_pos w2]
            exact x0_eq rfl rfl (fun q => absurd q (by decide)) (fun _ => one (Or.inr w2))
          · rw [if_neg w2]
            refine x0_eq rfl rfl (fun _ => ?_) (fun q => absurd rfl q)
            have n1 : ¬ ((97 ≤ c ∧ c < 107) ∨ c = 46) := fun z => z.elim w1 w2
            rw [if_neg n1] at go bad
            have at126 : ¬ (c = 40 ∧ d < 6) → ¬ (c = 41 ∧ 0 < d ∧ nd = false) → ¬ (c = 124 ∧ nd = false) → xW Γ (n + 2) hX6_faultIn rX6_faultIn 126 [some (xR 0 5 1), some (xI (nI d)), some (xI (if nd then 1 else 0)), some (xI (if my then 1 else 0)), some (xI (nI k))] [] D2 post := by
              intro z1 z2 z3
              rw [if_neg z1, if_neg z2, if_neg z3] at go bad
              refine x_call [xI (nI 42)] rfl rfl rfl rfl rfl rfl rfl (sgn 42 (by omega) _ ?_)
              by_cases w3 : c = 42
              · rw [if_pos w3]
                refine x0_eq rfl rfl (fun q => absurd q (by decide)) (fun _ => ?_)
                refine x0_eq rfl rfl (fun q => bad (by rw [if_neg (by rw [bI_0 q]; simp)])) (fun q => ?_)
                have e1 := bI_1 q
                have e2 := hi e1
                have G := go d false false (by rw [if_pos ⟨w3, e1⟩]) (fun _ => rfl) hd
                rw [e2]
                exact x_goto rfl rfl G
              · rw [if_neg w3]
                exact x0_eq rfl rfl (fun _ => bad (by rw [if_neg (fun z => w3 z.1)])) (fun q => absurd rfl q)
            have at106 : ¬ (c = 40 ∧ d < 6) → ¬ (c = 41 ∧ 0 < d ∧ nd = false) → xW Γ (n + 2) hX6_faultIn rX6_faultIn 106 [some (xR 0 5 1), some (xI (nI d)), some (xI (if nd then 1 else 0)), some (xI (if my then 1 else 0)), some (xI (nI k))] [] D2 post := by
              intro z1 z2
              refine x_call [xI (nI 124)] rfl rfl rfl rfl rfl rfl rfl (sgn 124 (by omega) _ ?_)
              by_cases w3 : c = 124
              · rw [if_pos w3]
                refine x0_eq rfl rfl (fun q => absurd q (by decide)) (fun _ => ?_)
                refine x0_ne rfl rfl (fun q => at126 z1 z2 (by rw [bI_1 q]; simp)) (fun q => ?_)
                exact x_goto rfl rfl (go d true false (by rw [if_neg z1, if_neg z2, if_pos ⟨w3, bI_0 q⟩]) (fun z => by cases z) hd)
              · rw [if_neg w3]
                exact x0_eq rfl rfl (fun _ => at126 z1 z2 (fun z => w3 z.1)) (fun q => absurd rfl q)
            have at81 : ¬ (c = 40 ∧ d < 6) → xW Γ (n + 2) hX6_faultIn rX6_faultIn 81 [some (xR 0 5 1), some (xI (nI d)), some (xI (if nd then 1 else 0)), some (xI (if my then 1 else 0)), some (xI (nI k))] [] D2 post := by
              intro z1
              refine x_call [xI (nI 41)] rfl rfl rfl rfl rfl rfl rfl (sgn 41 (by omega) _ ?_)
              by_cases w3 : c = 41
              · rw [if_pos w3]
                refine x0_eq rfl rfl (fun q => absurd q (by decide)) (fun _ => ?_)
                refine x0_le rfl rfl (fun q => at106 z1 (by have := (nI_le0 (by omega)).mp q; omega)) (fun q => ?_)
                have hd0 : 0 < d := by
                  have : ¬ d = 0 := fun z => q ((nI_le0 (by omega)).mpr z)
                  omega
                refine x0_ne rfl rfl (fun q => at106 z1 (by rw [bI_1 q]; simp)) (fun q => ?_)
                have e2 := bI_0 q
                have G := go (d - 1) false true (by rw [if_neg z1, if_pos ⟨w3, hd0, e2⟩]) (fun _ => rfl) (by omega)
                rw [← nI_d1 hd0] at G
                rw [e2]
                exact x_goto rfl rfl G
              · rw [if_neg w3]
                exact x0_eq rfl rfl (fun _ => at106 z1 (fun z => w3 z.1)) (fun q => absurd rfl q)
            refine x_call [xI (nI 40)] rfl rfl rfl rfl rfl rfl rfl (sgn 40 (by omega) _ ?_)
            by_cases w3 : c = 40
            · rw [if_pos w3]
              refine x0_eq rfl rfl (fun q => absurd q (by decide)) (fun _ => ?_)
              refine xi_geN d 6 rfl rfl rfl rfl (by omega) (by omega) (fun q => at81 (by omega)) (fun q => ?_)
              have G := go (d + 1) true false (by rw [if_pos ⟨w3, q⟩]) (fun z => by cases z) (by omega)
              rw [← nI_1 d] at G
              exact x_goto rfl rfl G
            · rw [if_neg w3]
              exact x0_eq rfl rfl (fun _ => at81 (fun z => w3 z.1)) (fun q => absurd rfl q)
  have sk := tgF_sk tx tx.length 0 0 true false (by omega)
  exact loop tx.length (tF tx 0) 0 0 true false D1 (by omega) (tF_le (Nat.zero_le _)).2 (Nat.zero_le _) sk.2 (fun z => by cases z) (by rw [← hR0]; exact sk.1) (by omega) k1 (fun a qa => by rw [k2 a qa, xup_ne a qa, xup_ne a qa])
end TF
