def xcp (D : xM) (i : Nat) (f : Nat → Int32) : xM := fun a => if a = i then f else D a
section XCP
variable {Γ : xG} {n : Nat} {h : xHd} {rows : List xRow} {post : Option Int32 → xM → Prop}
set_option maxHeartbeats 4000000 in
/-- System.arraycopy of int rows -/
theorem x_copy {pc pc' b : Nat} {lv lv' : List (Option xV)} {st st' : List xV} {D D' : xM} {idx k0 i0 k1 i1 : Nat} {sp dp z : Int32} {rest : List xV} (h1 : xrun rows xN 60 pc lv st D = some (pc', lv', .inl z :: .inl dp :: .inr (.inr (1, k1, i1)) :: .inl sp :: .inr (.inr (1, k0, i0)) :: rest, D')) (hr : xrw rows pc' = some (.invokestatic idx, 3, 1000, b)) (g1 : ¬ sp < 0) (g2 : ¬ dp < 0) (g3 : ¬ z < 0) (g4 : sp.toNatClampNeg + z.toNatClampNeg ≤ k0) (g5 : dp.toNatClampNeg + z.toNatClampNeg ≤ k1) (hroom : Nat.ble ((rest.map xcat).sum) 8 = true)
    (kk : xW Γ (n + 1) h rows (pc' + 3) lv' rest (xcp D' i1 (va_cpy (D' i0) (D' i1) sp.toNatClampNeg dp.toNatClampNeg z.toNatClampNeg)) post) : xW Γ (n + 1) h rows pc lv st D post := by
  refine x_to xN h1 ?_
  intro p e R s m args below meth c H locs cells slots Q ls C hH hS hl hst hret
  obtain ⟨hx, hb, hml, hrt, hlk, hown, hts, hs, hck, hR⟩ := id C
  have hok := xck_row hck hr
  have hd := xok_dec hok
  have hok2 := (xand hok).2
  simp only [if_true] at hok2
  obtain ⟨q123, q4⟩ := xand hok2
  obtain ⟨q12, q3⟩ := xand q123
  obtain ⟨q1, q2⟩ := xand q12
  have hc1 : xkd[i1]? = some (1, k1) := xcell (xfh (xft (xft hst))) (Or.inl (by decide))
  have hc0 : xkd[i0]? = some (1, k0) := xcell (xfh (xft (xft (xft (xft hst))))) (Or.inl (by decide))
  have hcat : ((rest.map (xcv Γ)).map fun v => v.category).sum ≤ 8 := by
    have := Nat.le_of_ble_eq_true hroom
    rw [List.map_map]
    have e2 : (Value.category ∘ xcv Γ) = xcat := funext (xcat_ok Γ)
    show (List.map (Value.category ∘ xcv Γ) rest).sum ≤ 8
    rw [e2]
    exact this
  have hnw : nativeFrameWords "java/lang/System" "arraycopy" 5 = 7 := by decide +kernel
  refine va_copyi hx hb (hml.trans hl.1.symm) hown (hts _ (xin_mem q1)) (hts _ (xin_mem q2)) (hts _ (xin_mem q3)) (hts _ (xin_mem q4)) hs.1 hH (xws_D hs D') hS i0 i1 0 0 (xws_at hc0) (xws_at hc1) rfl rfl rfl g1 g2 g3 g4 g5 (fun _ _ => rfl) (by have := hR.1; omega) (by rw [hnw]; have := hR.2.1; omega) hd (fun H1 locs1 hP1 hD1 hS1 => ?_)
  have e5 : (xws Γ D').set i1 (Γ.r i1, .inl (Γ.c 0, k1, .inl (va_cpy (D' i0) (D' i1) sp.toNatClampNeg dp.toNatClampNeg z.toNatClampNeg))) = xws Γ (xcp D' i1 (va_cpy (D' i0) (D' i1) sp.toNatClampNeg dp.toNatClampNeg z.toNatClampNeg)) := by
    have e6 : xce Γ (xcp D' i1 (va_cpy (D' i0) (D' i1) sp.toNatClampNeg dp.toNatClampNeg z.toNatClampNeg)) i1 (1, k1) = .inl (Γ.c 0, k1, .inl (va_cpy (D' i0) (D' i1) sp.toNatClampNeg dp.toNatClampNeg z.toNatClampNeg)) := by
      simp [xce, xcp]
    rw [← e6]
    exact xws_set (q := (1, k1)) hc1 (fun a ha => by simp [xcp, ha])
  rw [e5] at hP1
  exact kk p e R s m args below meth c H1 locs1 cells slots Q ls C hP1 hS1 hl (xft (xft (xft (xft (xft hst))))) hret
end XCP
