section XR
variable {Γ : xG} {n : Nat} {h : xHd} {rows : List xRow} {post : Option Int32 → xM → Prop}
theorem x_goto {pc pc' a b : Nat} {lv lv' : List (Option xV)} {st st' : List xV} {D D' : xM} {off : Int} (h1 : xrun rows xN 60 pc lv st D = some (pc', lv', st', D')) (hr : xrw rows pc' = some (.goto off, 3, a, b)) (kk : xW Γ n h rows a lv' st' D' post) : xW Γ n h rows pc lv st D post := by
  refine x_to xN h1 ?_
  intro p e R s m args below meth c H locs cells slots Q ls C hH hS hl hst hret
  obtain ⟨hx, hb, hml, hrt, hlk, hown, hts, hs, hck, hR⟩ := id C
  have hok := xck_row hck hr
  have hd := xok_dec hok
  have hok2 := (xand hok).2
  exact lv_goto hx hb hd (of_decide_eq_true hok2) (kk p e R s m args below meth c H locs cells slots Q ls C hH hS hl hst hret)
theorem xi_eq {pc pc' a b : Nat} {lv lv' : List (Option xV)} {st st' : List xV} {D D' : xM} {x y : Int32} {off : Int} (h1 : xrun rows xN 60 pc lv st D = some (pc', lv', .inl y :: .inl x :: st', D')) (hr : xrw rows pc' = some (.if_icmp .eq off, 3, a, b)) (kt : x = y → xW Γ n h rows a lv' st' D' post) (kf : ¬ x = y → xW Γ n h rows (pc' + 3) lv' st' D' post) : xW Γ n h rows pc lv st D post := by
  refine x_to xN h1 ?_
  intro p e R s m args below meth c H locs cells slots Q ls C hH hS hl hst hret
  obtain ⟨hx, hb, hml, hrt, hlk, hown, hts, hs, hck, hR⟩ := id C
  have hok := xck_row hck hr
  have hd := xok_dec hok
  have hok2 := (xand hok).2
  exact lv_icmp_eq hx hb hd (of_decide_eq_true hok2) (fun z => kt z p e R s m args below meth c H locs cells slots Q ls C hH hS hl (xft (xft hst)) hret) (fun z => kf z p e R s m args below meth c H locs cells slots Q ls C hH hS hl (xft (xft hst)) hret)
theorem x0_eq {pc pc' a b : Nat} {lv lv' : List (Option xV)} {st st' : List xV} {D D' : xM} {x : Int32} {off : Int} (h1 : xrun rows xN 60 pc lv st D = some (pc', lv', .inl x :: st', D')) (hr : xrw rows pc' = some (.ifCond .eq off, 3, a, b)) (kt : x = 0 → xW Γ n h rows a lv' st' D' post) (kf : ¬ x = 0 → xW Γ n h rows (pc' + 3) lv' st' D' post) : xW Γ n h rows pc lv st D post := by
  refine x_to xN h1 ?_
  intro p e R s m args below meth c H locs cells slots Q ls C hH hS hl hst hret
  obtain ⟨hx, hb, hml, hrt, hlk, hown, hts, hs, hck, hR⟩ := id C
  have hok := xck_row hck hr
  have hd := xok_dec hok
  have hok2 := (xand hok).2
  exact lv_if_eq hx hb hd (of_decide_eq_true hok2) (fun z => kt z p e R s m args below meth c H locs cells slots Q ls C hH hS hl (xft hst) hret) (fun z => kf z p e R s m args below meth c H locs cells slots Q ls C hH hS hl (xft hst) hret)
theorem xi_ne {pc pc' a b : Nat} {lv lv' : List (Option xV)} {st st' : List xV} {D D' : xM} {x y : Int32} {off : Int} (h1 : xrun rows xN 60 pc lv st D = some (pc', lv', .inl y :: .inl x :: st', D')) (hr : xrw rows pc' = some (.if_icmp .ne off, 3, a, b)) (kt : ¬ x = y → xW Γ n h rows a lv' st' D' post) (kf : x = y → xW Γ n h rows (pc' + 3) lv' st' D' post) : xW Γ n h rows pc lv st D post := by
  refine x_to xN h1 ?_
  intro p e R s m args below meth c H locs cells slots Q ls C hH hS hl hst hret
  obtain ⟨hx, hb, hml, hrt, hlk, hown, hts, hs, hck, hR⟩ := id C
  have hok := xck_row hck hr
  have hd := xok_dec hok
  have hok2 := (xand hok).2
  exact lv_icmp_ne hx hb hd (of_decide_eq_true hok2) (fun z => kt z p e R s m args below meth c H locs cells slots Q ls C hH hS hl (xft (xft hst)) hret) (fun z => kf z p e R s m args below meth c H locs cells slots Q ls C hH hS hl (xft (xft hst)) hret)
theorem x0_ne {pc pc' a b : Nat} {lv lv' : List (Option xV)} {st st' : List xV} {D D' : xM} {x : Int32} {off : Int} (h1 : xrun rows xN 60 pc lv st D = some (pc', lv', .inl x :: st', D')) (hr : xrw rows pc' = some (.ifCond .ne off, 3, a, b)) (kt : ¬ x = 0 → xW Γ n h rows a lv' st' D' post) (kf : x = 0 → xW Γ n h rows (pc' + 3) lv' st' D' post) : xW Γ n h rows pc lv st D post := by
  refine x_to xN h1 ?_
  intro p e R s m args below meth c H locs cells slots Q ls C hH hS hl hst hret
  obtain ⟨hx, hb, hml, hrt, hlk, hown, hts, hs, hck, hR⟩ := id C
  have hok := xck_row hck hr
  have hd := xok_dec hok
  have hok2 := (xand hok).2
  exact lv_if_ne hx hb hd (of_decide_eq_true hok2) (fun z => kt z p e R s m args below meth c H locs cells slots Q ls C hH hS hl (xft hst) hret) (fun z => kf z p e R s m args below meth c H locs cells slots Q ls C hH hS hl (xft hst) hret)
theorem xi_lt {pc pc' a b : Nat} {lv lv' : List (Option xV)} {st st' : List xV} {D D' : xM} {x y : Int32} {off : Int} (h1 : xrun rows xN 60 pc lv st D = some (pc', lv', .inl y :: .inl x :: st', D')) (hr : xrw rows pc' = some (.if_icmp .lt off, 3, a, b)) (kt : x < y → xW Γ n h rows a lv' st' D' post) (kf : ¬ x < y → xW Γ n h rows (pc' + 3) lv' st' D' post) : xW Γ n h rows pc lv st D post := by
  refine x_to xN h1 ?_
  intro p e R s m args below meth c H locs cells slots Q ls C hH hS hl hst hret
  obtain ⟨hx, hb, hml, hrt, hlk, hown, hts, hs, hck, hR⟩ := id C
  have hok := xck_row hck hr
  have hd := xok_dec hok
  have hok2 := (xand hok).2
  exact lv_icmp_lt hx hb hd (of_decide_eq_true hok2) (fun z => kt z p e R s m args below meth c H locs cells slots Q ls C hH hS hl (xft (xft hst)) hret) (fun z => kf z p e R s m args below meth c H locs cells slots Q ls C hH hS hl (xft (xft hst)) hret)
theorem x0_lt {pc pc' a b : Nat} {lv lv' : List (Option xV)} {st st' : List xV} {D D' : xM} {x : Int32} {off : Int} (h1 : xrun rows xN 60 pc lv st D = some (pc', lv', .inl x :: st', D')) (hr : xrw rows pc' = some (.ifCond .lt off, 3, a, b)) (kt : x < 0 → xW Γ n h rows a lv' st' D' post) (kf : ¬ x < 0 → xW Γ n h rows (pc' + 3) lv' st' D' post) : xW Γ n h rows pc lv st D post := by
  refine x_to xN h1 ?_
  intro p e R s m args below meth c H locs cells slots Q ls C hH hS hl hst hret
  obtain ⟨hx, hb, hml, hrt, hlk, hown, hts, hs, hck, hR⟩ := id C
  have hok := xck_row hck hr
  have hd := xok_dec hok
  have hok2 := (xand hok).2
  exact lv_if_lt hx hb hd (of_decide_eq_true hok2) (fun z => kt z p e R s m args below meth c H locs cells slots Q ls C hH hS hl (xft hst) hret) (fun z => kf z p e R s m args below meth c H locs cells slots Q ls C hH hS hl (xft hst) hret)
theorem xi_ge {pc pc' a b : Nat} {lv lv' : List (Option xV)} {st st' : List xV} {D D' : xM} {x y : Int32} {off : Int} (h1 : xrun rows xN 60 pc lv st D = some (pc', lv', .inl y :: .inl x :: st', D')) (hr : xrw rows pc' = some (.if_icmp .ge off, 3, a, b)) (kt : y ≤ x → xW Γ n h rows a lv' st' D' post) (kf : ¬ y ≤ x → xW Γ n h rows (pc' + 3) lv' st' D' post) : xW Γ n h rows pc lv st D post := by
  refine x_to xN h1 ?_
  intro p e R s m args below meth c H locs cells slots Q ls C hH hS hl hst hret
  obtain ⟨hx, hb, hml, hrt, hlk, hown, hts, hs, hck, hR⟩ := id C
  have hok := xck_row hck hr
  have hd := xok_dec hok
  have hok2 := (xand hok).2
  exact lv_icmp_ge hx hb hd (of_decide_eq_true hok2) (fun z => kt z p e R s m args below meth c H locs cells slots Q ls C hH hS hl (xft (xft hst)) hret) (fun z => kf z p e R s m args below meth c H locs cells slots Q ls C hH hS hl (xft (xft hst)) hret)
theorem x0_ge {pc pc' a b : Nat} {lv lv' : List (Option xV)} {st st' : List xV} {D D' : xM} {x : Int32} {off : Int} (h1 : xrun rows xN 60 pc lv st D = some (pc', lv', .inl x :: st', D')) (hr : xrw rows pc' = some (.ifCond .ge off, 3, a, b)) (kt : 0 ≤ x → xW Γ n h rows a lv' st' D' post) (kf : ¬ 0 ≤ x → xW Γ n h rows (pc' + 3) lv' st' D' post) : xW Γ n h rows pc lv st D post := by
  refine x_to xN h1 ?_
  intro p e R s m args below meth c H locs cells slots Q ls C hH hS hl hst hret
  obtain ⟨hx, hb, hml, hrt, hlk, hown, hts, hs, hck, hR⟩ := id C
  have hok := xck_row hck hr
  have hd := xok_dec hok
  have hok2 := (xand hok).2
  exact lv_if_ge hx hb hd (of_decide_eq_true hok2) (fun z => kt z p e R s m args below meth c H locs cells slots Q ls C hH hS hl (xft hst) hret) (fun z => kf z p e R s m args below meth c H locs cells slots Q ls C hH hS hl (xft hst) hret)
theorem xi_gt {pc pc' a b : Nat} {lv lv' : List (Option xV)} {st st' : List xV} {D D' : xM} {x y : Int32} {off : Int} (h1 : xrun rows xN 60 pc lv st D = some (pc', lv', .inl y :: .inl x :: st', D')) (hr : xrw rows pc' = some (.if_icmp .gt off, 3, a, b)) (kt : y < x → xW Γ n h rows a lv' st' D' post) (kf : ¬ y < x → xW Γ n h rows (pc' + 3) lv' st' D' post) : xW Γ n h rows pc lv st D post := by
  refine x_to xN h1 ?_
  intro p e R s m args below meth c H locs cells slots Q ls C hH hS hl hst hret
  obtain ⟨hx, hb, hml, hrt, hlk, hown, hts, hs, hck, hR⟩ := id C
  have hok := xck_row hck hr
  have hd := xok_dec hok
  have hok2 := (xand hok).2
  exact lv_icmp_gt hx hb hd (of_decide_eq_true hok2) (fun z => kt z p e R s m args below meth c H locs cells slots Q ls C hH hS hl (xft (xft hst)) hret) (fun z => kf z p e R s m args below meth c H locs cells slots Q ls C hH hS hl (xft (xft hst)) hret)
theorem x0_gt {pc pc' a b : Nat} {lv lv' : List (Option xV)} {st st' : List xV} {D D' : xM} {x : Int32} {off : Int} (h1 : xrun rows xN 60 pc lv st D = some (pc', lv', .inl x :: st', D')) (hr : xrw rows pc' = some (.ifCond .gt off, 3, a, b)) (kt : 0 < x → xW Γ n h rows a lv' st' D' post) (kf : ¬ 0 < x → xW Γ n h rows (pc' + 3) lv' st' D' post) : xW Γ n h rows pc lv st D post := by
  refine x_to xN h1 ?_
  intro p e R s m args below meth c H locs cells slots Q ls C hH hS hl hst hret
  obtain ⟨hx, hb, hml, hrt, hlk, hown, hts, hs, hck, hR⟩ := id C
  have hok := xck_row hck hr
  have hd := xok_dec hok
  have hok2 := (xand hok).2
  exact lv_if_gt hx hb hd (of_decide_eq_true hok2) (fun z => kt z p e R s m args below meth c H locs cells slots Q ls C hH hS hl (xft hst) hret) (fun z => kf z p e R s m args below meth c H locs cells slots Q ls C hH hS hl (xft hst) hret)
theorem xi_le {pc pc' a b : Nat} {lv lv' : List (Option xV)} {st st' : List xV} {D D' : xM} {x y : Int32} {off : Int} (h1 : xrun rows xN 60 pc lv st D = some (pc', lv', .inl y :: .inl x :: st', D')) (hr : xrw rows pc' = some (.if_icmp .le off, 3, a, b)) (kt : x ≤ y → xW Γ n h rows a lv' st' D' post) (kf : ¬ x ≤ y → xW Γ n h rows (pc' + 3) lv' st' D' post) : xW Γ n h rows pc lv st D post := by
  refine x_to xN h1 ?_
  intro p e R s m args below meth c H locs cells slots Q ls C hH hS hl hst hret
  obtain ⟨hx, hb, hml, hrt, hlk, hown, hts, hs, hck, hR⟩ := id C
  have hok := xck_row hck hr
  have hd := xok_dec hok
  have hok2 := (xand hok).2
  exact lv_icmp_le hx hb hd (of_decide_eq_true hok2) (fun z => kt z p e R s m args below meth c H locs cells slots Q ls C hH hS hl (xft (xft hst)) hret) (fun z => kf z p e R s m args below meth c H locs cells slots Q ls C hH hS hl (xft (xft hst)) hret)
theorem x0_le {pc pc' a b : Nat} {lv lv' : List (Option xV)} {st st' : List xV} {D D' : xM} {x : Int32} {off : Int} (h1 : xrun rows xN 60 pc lv st D = some (pc', lv', .inl x :: st', D')) (hr : xrw rows pc' = some (.ifCond .le off, 3, a, b)) (kt : x ≤ 0 → xW Γ n h rows a lv' st' D' post) (kf : ¬ x ≤ 0 → xW Γ n h rows (pc' + 3) lv' st' D' post) : xW Γ n h rows pc lv st D post := by
  refine x_to xN h1 ?_
  intro p e R s m args below meth c H locs cells slots Q ls C hH hS hl hst hret
  obtain ⟨hx, hb, hml, hrt, hlk, hown, hts, hs, hck, hR⟩ := id C
  have hok := xck_row hck hr
  have hd := xok_dec hok
  have hok2 := (xand hok).2
  exact lv_if_le hx hb hd (of_decide_eq_true hok2) (fun z => kt z p e R s m args below meth c H locs cells slots Q ls C hH hS hl (xft hst) hret) (fun z => kf z p e R s m args below meth c H locs cells slots Q ls C hH hS hl (xft hst) hret)
/-- int rows: read -/
theorem x_ald {pc pc' a b : Nat} {lv lv' : List (Option xV)} {st st' : List xV} {D D' : xM} {k i : Nat} {j : Int32} (h1 : xrun rows xN 60 pc lv st D = some (pc', lv', .inl j :: .inr (.inr (1, k, i)) :: st', D')) (hr : xrw rows pc' = some (.iaload, 1, a, b)) (hin : vp_in j k) (kk : xW Γ n h rows (pc' + 1) lv' (.inl (D' i j.toNatClampNeg) :: st') D' post) : xW Γ n h rows pc lv st D post := by
  refine x_to xN h1 ?_
  intro p e R s m args below meth c H locs cells slots Q ls C hH hS hl hst hret
  obtain ⟨hx, hb, hml, hrt, hlk, hown, hts, hs, hck, hR⟩ := id C
  have hok := xck_row hck hr
  have hd := xok_dec hok
  have hok2 := (xand hok).2
  have hcell : xkd[i]? = some (1, k) := xcell (xfh (xft hst)) (Or.inl (by decide))
  exact va_iald hx hb hs.1 hH i 0 (xws_at hcell) rfl hin hd (kk p e R s m args below meth c H locs cells slots Q ls C hH hS hl (xfc trivial (xft (xft hst))) hret)
/-- boolean rows: read -/
theorem x_bld {pc pc' a b : Nat} {lv lv' : List (Option xV)} {st st' : List xV} {D D' : xM} {k i : Nat} {j : Int32} (h1 : xrun rows xN 60 pc lv st D = some (pc', lv', .inl j :: .inr (.inr (2, k, i)) :: st', D')) (hr : xrw rows pc' = some (.baload, 1, a, b)) (hin : vp_in j k) (kk : xW Γ n h rows (pc' + 1) lv' (.inl (D' i j.toNatClampNeg) :: st') D' post) : xW Γ n h rows pc lv st D post := by
  refine x_to xN h1 ?_
  intro p e R s m args below meth c H locs cells slots Q ls C hH hS hl hst hret
  obtain ⟨hx, hb, hml, hrt, hlk, hown, hts, hs, hck, hR⟩ := id C
  have hok := xck_row hck hr
  have hd := xok_dec hok
  have hok2 := (xand hok).2
  have hcell : xkd[i]? = some (2, k) := xcell (xfh (xft hst)) (Or.inl (by decide))
  exact va_zald hx hb hs.1 hH i 1 (xws_at hcell) rfl hin hd (kk p e R s m args below meth c H locs cells slots Q ls C hH hS hl (xfc trivial (xft (xft hst))) hret)
/-- the static rows: read -/
theorem x_tld {pc pc' a b : Nat} {lv lv' : List (Option xV)} {st st' : List xV} {D D' : xM} {k i : Nat} {j : Int32} (h1 : xrun rows xN 60 pc lv st D = some (pc', lv', .inl j :: .inr (.inr (4, k, i)) :: st', D')) (hr : xrw rows pc' = some (.iaload, 1, a, b)) (hin : vp_in j 5) (kk : xW Γ n h rows (pc' + 1) lv' (.inl (xtv k j.toNatClampNeg) :: st') D' post) : xW Γ n h rows pc lv st D post := by
  refine x_to xN h1 ?_
  intro p e R s m args below meth c H locs cells slots Q ls C hH hS hl hst hret
  obtain ⟨hx, hb, hml, hrt, hlk, hown, hts, hs, hck, hR⟩ := id C
  have hok := xck_row hck hr
  have hd := xok_dec hok
  have hok2 := (xand hok).2
  have hk : 1 ≤ k ∧ k ≤ 5 := xfh (xft hst)
  obtain ⟨cell, c1, c2, c3, c4, c5, c6, c7⟩ := (hs.2.2.1 k hk.1 hk.2).2.kept hS.2.1
  have hlt : j.toNatClampNeg < 5 := Nat.not_le.mp fun q => hin (Or.inr q)
  have hnn : ¬ j < 0 := fun q => hin (Or.inl q)
  exact W.iald (v := .int (xtv k j.toNatClampNeg)) hx hb c1 c2 c3 (fun q => q.elim hnn (fun q => by omega)) (c6 _ hlt) rfl rfl hd (kk p e R s m args below meth c H locs cells slots Q ls C hH hS hl (xfc trivial (xft (xft hst))) hret)
/-- a String constant's bytes: read -/
theorem x_sld {pc pc' a b : Nat} {lv lv' : List (Option xV)} {st st' : List xV} {D D' : xM} {k i : Nat} {j : Int32} (h1 : xrun rows xN 60 pc lv st D = some (pc', lv', .inl j :: .inr (.inr (7, k, i)) :: st', D')) (hr : xrw rows pc' = some (.baload, 1, a, b)) (hin : vp_in j (xsl.getD k 0)) (kk : xW Γ n h rows (pc' + 1) lv' (.inl ((xsb.getD k []).getD j.toNatClampNeg 0) :: st') D' post) : xW Γ n h rows pc lv st D post := by
  refine x_to xN h1 ?_
  intro p e R s m args below meth c H locs cells slots Q ls C hH hS hl hst hret
  obtain ⟨hx, hb, hml, hrt, hlk, hown, hts, hs, hck, hR⟩ := id C
  have hok := xck_row hck hr
  have hd := xok_dec hok
  have hok2 := (xand hok).2
  have hk : k < 10 := xfh (xft hst)
  obtain ⟨-, -, -, v4⟩ := hs.2.2.2.2.1.1 k hk
  obtain ⟨cell, c1, c2, c3, c4, c5, c6, c7⟩ := v4.kept hS.2.1
  have hlt : j.toNatClampNeg < xsl.getD k 0 := Nat.not_le.mp fun q => hin (Or.inr q)
  have hnn : ¬ j < 0 := fun q => hin (Or.inl q)
  exact W.bald (v := .int ((xsb.getD k []).getD j.toNatClampNeg 0)) hx hb c1 c2 c3 (fun q => q.elim hnn (fun q => by omega)) (c6 _ hlt) rfl rfl hd (kk p e R s m args below meth c H locs cells slots Q ls C hH hS hl (xfc trivial (xft (xft hst))) hret)
/-- the script: read, and its length -/
theorem x_xld {pc pc' a b : Nat} {lv lv' : List (Option xV)} {st st' : List xV} {D D' : xM} {k i : Nat} {j : Int32} (h1 : xrun rows xN 60 pc lv st D = some (pc', lv', .inl j :: .inr (.inr (8, k, i)) :: st', D')) (hr : xrw rows pc' = some (.iaload, 1, a, b)) (hin : vp_in j Γ.s.2.1) (kk : xW Γ n h rows (pc' + 1) lv' (.inl (Γ.s.2.2 j.toNatClampNeg) :: st') D' post) : xW Γ n h rows pc lv st D post := by
  refine x_to xN h1 ?_
  intro p e R s m args below meth c H locs cells slots Q ls C hH hS hl hst hret
  obtain ⟨hx, hb, hml, hrt, hlk, hown, hts, hs, hck, hR⟩ := id C
  have hok := xck_row hck hr
  have hd := xok_dec hok
  have hok2 := (xand hok).2
  obtain ⟨v1, v2, v3, -⟩ := hs.2.2.2.2.2.2
  exact va_sld hx hb v1 v2 v3 hS hin hd (kk p e R s m args below meth c H locs cells slots Q ls C hH hS hl (xfc trivial (xft (xft hst))) hret)
theorem x_xln {pc pc' a b : Nat} {lv lv' : List (Option xV)} {st st' : List xV} {D D' : xM} {k i : Nat} (h1 : xrun rows xN 60 pc lv st D = some (pc', lv', .inr (.inr (8, k, i)) :: st', D')) (hr : xrw rows pc' = some (.arraylength, 1, a, b)) (kk : xW Γ n h rows (pc' + 1) lv' (.inl (Int32.ofNat Γ.s.2.1) :: st') D' post) : xW Γ n h rows pc lv st D post := by
  refine x_to xN h1 ?_
  intro p e R s m args below meth c H locs cells slots Q ls C hH hS hl hst hret
  obtain ⟨hx, hb, hml, hrt, hlk, hown, hts, hs, hck, hR⟩ := id C
  have hok := xck_row hck hr
  have hd := xok_dec hok
  have hok2 := (xand hok).2
  obtain ⟨v1, v2, v3, -⟩ := hs.2.2.2.2.2.2
  exact va_slen hx hb v1 v2 v3 hS hd (kk p e R s m args below meth c H locs cells slots Q ls C hH hS hl (xfc trivial (xft hst)) hret)
/-- int rows: written -/
theorem x_ast {pc pc' a b : Nat} {lv lv' : List (Option xV)} {st st' : List xV} {D D' : xM} {k i : Nat} {j x : Int32} (h1 : xrun rows xN 60 pc lv st D = some (pc', lv', .inl x :: .inl j :: .inr (.inr (1, k, i)) :: st', D')) (hr : xrw rows pc' = some (.iastore, 1, a, b)) (hin : vp_in j k) (kk : xW Γ n h rows (pc' + 1) lv' st' (xup D' i j.toNatClampNeg x) post) : xW Γ n h rows pc lv st D post := by
  refine x_to xN h1 ?_
  intro p e R s m args below meth c H locs cells slots Q ls C hH hS hl hst hret
  obtain ⟨hx, hb, hml, hrt, hlk, hown, hts, hs, hck, hR⟩ := id C
  have hok := xck_row hck hr
  have hd := xok_dec hok
  have hok2 := (xand hok).2
  have hcell : xkd[i]? = some (1, k) := xcell (xfh (xft (xft hst))) (Or.inl (by decide))
  refine va_iast hx hb hs.1 hH (xws_D hs D') hS i 0 (xws_at hcell) rfl hin hd (fun H1 locs1 hP1 hD1 hS1 => ?_)
  have e5 : (xws Γ D').set i (Γ.r i, .inl (Γ.c 0, k, .inl (upd (D' i) j.toNatClampNeg x))) = xws Γ (xup D' i j.toNatClampNeg x) := by
    rw [← xup_arr]
    exact xws_set (q := (1, k)) hcell xup_ne
  rw [e5] at hP1
  exact kk p e R s m args below meth c H1 locs1 cells slots Q ls C hP1 hS1 hl (xft (xft (xft hst))) hret
/-- boolean rows: written -/
theorem x_bst {pc pc' a b : Nat} {lv lv' : List (Option xV)} {st st' : List xV} {D D' : xM} {k i : Nat} {j x : Int32} (h1 : xrun rows xN 60 pc lv st D = some (pc', lv', .inl x :: .inl j :: .inr (.inr (2, k, i)) :: st', D')) (hr : xrw rows pc' = some (.bastore, 1, a, b)) (hin : vp_in j k) (kk : xW Γ n h rows (pc' + 1) lv' st' (xup D' i j.toNatClampNeg (vp_nar .boolean x)) post) : xW Γ n h rows pc lv st D post := by
  refine x_to xN h1 ?_
  intro p e R s m args below meth c H locs cells slots Q ls C hH hS hl hst hret
  obtain ⟨hx, hb, hml, hrt, hlk, hown, hts, hs, hck, hR⟩ := id C
  have hok := xck_row hck hr
  have hd := xok_dec hok
  have hok2 := (xand hok).2
  have hcell : xkd[i]? = some (2, k) := xcell (xfh (xft (xft hst))) (Or.inl (by decide))
  refine va_zast hx hb hs.1 hH (xws_D hs D') hS i 1 (xws_at hcell) rfl hin hd (fun H1 locs1 hP1 hD1 hS1 => ?_)
  have e5 : (xws Γ D').set i (Γ.r i, .inl (Γ.c 1, k, .inl (upd (D' i) j.toNatClampNeg (vp_nar .boolean x)))) = xws Γ (xup D' i j.toNatClampNeg (vp_nar .boolean x)) := by
    rw [← xup_arr]
    exact xws_set (q := (2, k)) hcell xup_ne
  rw [e5] at hP1
  exact kk p e R s m args below meth c H1 locs1 cells slots Q ls C hP1 hS1 hl (xft (xft (xft hst))) hret
theorem xB_ok : ∀ k j : Nat, (k = 8 ∨ k = 2) → j < k → xkd[xelB k j]? = some (0, 7) := by
  intro k j hk hj
  rcases hk with rfl | rfl
  · have : ∀ j, j < 8 → xkd[xelB 8 j]? = some (0, 7) := by decide +kernel
    exact this j hj
  · have : ∀ j, j < 2 → xkd[xelB 2 j]? = some (0, 7) := by decide +kernel
    exact this j hj
theorem xB_len (i k : Nat) (hi : xkd[i]? = some (3, k)) : k = 8 ∨ k = 2 := by
  have H : ∀ i : Nat, i < xNC → (xkd.getD i (0, 0)).1 = 3 → (xkd.getD i (0, 0)).2 = 8 ∨ (xkd.getD i (0, 0)).2 = 2 := by decide +kernel
  have e : xkd.getD i (0, 0) = (3, k) := by rw [List.getD_eq_getElem?_getD, hi]; rfl
  have := H i (by rw [← xkd_len]; exact (List.getElem?_eq_some_iff.mp hi).1)
  rw [e] at this
  exact this rfl
theorem xR_len (i k : Nat) (hi : xkd[i]? = some (6, k)) : k = 3 := by
  have H : ∀ i : Nat, i < xNC → (xkd.getD i (0, 0)).1 = 6 → (xkd.getD i (0, 0)).2 = 3 := by decide +kernel
  have e : xkd.getD i (0, 0) = (6, k) := by rw [List.getD_eq_getElem?_getD, hi]; rfl
  have := H i (by rw [← xkd_len]; exact (List.getElem?_eq_some_iff.mp hi).1)
  rw [e] at this
  exact this rfl
theorem xR_ok : ∀ j, j < 3 → xkd[xR0 + 2 * j]? = some (0, 2) := by decide +kernel
/-- a world out of a row of worlds; a reel out of the row of reels -/
theorem x_wld {pc pc' a b : Nat} {lv lv' : List (Option xV)} {st st' : List xV} {D D' : xM} {k i : Nat} {j : Int32} (h1 : xrun rows xN 60 pc lv st D = some (pc', lv', .inl j :: .inr (.inr (3, k, i)) :: st', D')) (hr : xrw rows pc' = some (.aaload, 1, a, b)) (hin : vp_in j k) (kk : xW Γ n h rows (pc' + 1) lv' (.inr (.inr (0, 7, xelB k j.toNatClampNeg)) :: st') D' post) : xW Γ n h rows pc lv st D post := by
  refine x_to xN h1 ?_
  intro p e R s m args below meth c H locs cells slots Q ls C hH hS hl hst hret
  obtain ⟨hx, hb, hml, hrt, hlk, hown, hts, hs, hck, hR⟩ := id C
  have hok := xck_row hck hr
  have hd := xok_dec hok
  have hok2 := (xand hok).2
  have hcell : xkd[i]? = some (3, k) := xcell (xfh (xft hst)) (Or.inl (by decide))
  have hlt : j.toNatClampNeg < k := Nat.not_le.mp fun q => hin (Or.inr q)
  exact va_aldq hx hb hs.1 hH i 2 (xws_at hcell) rfl hin hd (kk p e R s m args below meth c H locs cells slots Q ls C hH hS hl (xfc (v := .inr (.inr (0, 7, xelB k j.toNatClampNeg))) (xvr_cell (Or.inl (by decide)) (xB_ok k _ (xB_len i k hcell) hlt)) (xft (xft hst))) hret)
theorem x_rld {pc pc' a b : Nat} {lv lv' : List (Option xV)} {st st' : List xV} {D D' : xM} {k i : Nat} {j : Int32} (h1 : xrun rows xN 60 pc lv st D = some (pc', lv', .inl j :: .inr (.inr (6, k, i)) :: st', D')) (hr : xrw rows pc' = some (.aaload, 1, a, b)) (hin : vp_in j k) (kk : xW Γ n h rows (pc' + 1) lv' (.inr (.inr (0, 2, xR0 + 2 * j.toNatClampNeg)) :: st') D' post) : xW Γ n h rows pc lv st D post := by
  refine x_to xN h1 ?_
  intro p e R s m args below meth c H locs cells slots Q ls C hH hS hl hst hret
  obtain ⟨hx, hb, hml, hrt, hlk, hown, hts, hs, hck, hR⟩ := id C
  have hok := xck_row hck hr
  have hd := xok_dec hok
  have hok2 := (xand hok).2
  have hcell : xkd[i]? = some (6, k) := xcell (xfh (xft hst)) (Or.inr rfl)
  have hlt : j.toNatClampNeg < k := Nat.not_le.mp fun q => hin (Or.inr q)
  exact va_aldq hx hb hs.1 hH i 3 (xws_at hcell) rfl hin hd (kk p e R s m args below meth c H locs cells slots Q ls C hH hS hl (xfc (v := .inr (.inr (0, 2, xR0 + 2 * j.toNatClampNeg))) (xvr_cell (Or.inl (by decide)) (xR_ok _ (by rw [xR_len i k hcell] at hlt; exact hlt))) (xft (xft hst))) hret)
theorem x_div {pc pc' a b : Nat} {lv lv' : List (Option xV)} {st st' : List xV} {D D' : xM} {x y : Int32} (h1 : xrun rows xN 60 pc lv st D = some (pc', lv', .inl y :: .inl x :: st', D')) (hr : xrw rows pc' = some (.idiv, 1, a, b)) (hne : ¬ y = 0) (kk : xW Γ n h rows (pc' + 1) lv' (.inl (x / y) :: st') D' post) : xW Γ n h rows pc lv st D post := by
  refine x_to xN h1 ?_
  intro p e R s m args below meth c H locs cells slots Q ls C hH hS hl hst hret
  obtain ⟨hx, hb, hml, hrt, hlk, hown, hts, hs, hck, hR⟩ := id C
  have hok := xck_row hck hr
  have hd := xok_dec hok
  have hok2 := (xand hok).2
  exact lv_idiv hx hb hd hne (kk p e R s m args below meth c H locs cells slots Q ls C hH hS hl (xfc trivial (xft (xft hst))) hret)
theorem x_rem {pc pc' a b : Nat} {lv lv' : List (Option xV)} {st st' : List xV} {D D' : xM} {x y : Int32} (h1 : xrun rows xN 60 pc lv st D = some (pc', lv', .inl y :: .inl x :: st', D')) (hr : xrw rows pc' = some (.irem, 1, a, b)) (hne : ¬ y = 0) (kk : xW Γ n h rows (pc' + 1) lv' (.inl (x - x / y * y) :: st') D' post) : xW Γ n h rows pc lv st D post := by
  refine x_to xN h1 ?_
  intro p e R s m args below meth c H locs cells slots Q ls C hH hS hl hst hret
  obtain ⟨hx, hb, hml, hrt, hlk, hown, hts, hs, hck, hR⟩ := id C
  have hok := xck_row hck hr
  have hd := xok_dec hok
  have hok2 := (xand hok).2
  exact lv_irem hx hb hd hne (kk p e R s m args below meth c H locs cells slots Q ls C hH hS hl (xfc trivial (xft (xft hst))) hret)
theorem x_tin {pc pc' a b : Nat} {lv lv' : List (Option xV)} {st st' : List xV} {D D' : xM} {x : Int32} {dflt lo hi : Int} {offs : Array Int} {len : Nat} {off : Int} {tgt : Nat} (h1 : xrun rows xN 60 pc lv st D = some (pc', lv', .inl x :: st', D')) (hr : xrw rows pc' = some (.tableswitch dflt lo hi offs, len, a, b)) (h2 : ¬ x.toInt < lo) (h3 : ¬ hi < x.toInt) (ho : offs[(x.toInt - lo).toNat]? = some off) (ht : (pc' : Int) + off = (tgt : Int)) (kk : xW Γ n h rows tgt lv' st' D' post) : xW Γ n h rows pc lv st D post := by
  refine x_to xN h1 ?_
  intro p e R s m args below meth c H locs cells slots Q ls C hH hS hl hst hret
  obtain ⟨hx, hb, hml, hrt, hlk, hown, hts, hs, hck, hR⟩ := id C
  have hok := xck_row hck hr
  have hd := xok_dec hok
  have hok2 := (xand hok).2
  exact lv_tableIn hx hb hd h2 h3 ho ht (kk p e R s m args below meth c H locs cells slots Q ls C hH hS hl (xft hst) hret)
theorem x_tout {pc pc' a b : Nat} {lv lv' : List (Option xV)} {st st' : List xV} {D D' : xM} {x : Int32} {dflt lo hi : Int} {offs : Array Int} {len : Nat} {tgt : Nat} (h1 : xrun rows xN 60 pc lv st D = some (pc', lv', .inl x :: st', D')) (hr : xrw rows pc' = some (.tableswitch dflt lo hi offs, len, a, b)) (h2 : x.toInt < lo ∨ hi < x.toInt) (ht : (pc' : Int) + dflt = (tgt : Int)) (kk : xW Γ n h rows tgt lv' st' D' post) : xW Γ n h rows pc lv st D post := by
  refine x_to xN h1 ?_
  intro p e R s m args below meth c H locs cells slots Q ls C hH hS hl hst hret
  obtain ⟨hx, hb, hml, hrt, hlk, hown, hts, hs, hck, hR⟩ := id C
  have hok := xck_row hck hr
  have hd := xok_dec hok
  have hok2 := (xand hok).2
  exact lv_tableOut hx hb hd h2 ht (kk p e R s m args below meth c H locs cells slots Q ls C hH hS hl (xft hst) hret)
/-- a boolean field is written -/
theorem x_pfz {pc pc' a b : Nat} {lv lv' : List (Option xV)} {st st' : List xV} {D D' : xM} {idx k i : Nat} {x : Int32} (h1 : xrun rows xN 60 pc lv st D = some (pc', lv', .inl x :: .inr (.inr (0, k, i)) :: st', D')) (hr : xrw rows pc' = some (.putfield idx, 3, k, b + 100)) (hbn : b < xnf k) (hf : xfR k b i = none) (hv : x = 0 ∨ x = 1) (kk : xW Γ n h rows (pc' + 3) lv' st' (xup D' i b x) post) : xW Γ n h rows pc lv st D post := by
  refine x_to xN h1 ?_
  intro p e R s m args below meth c H locs cells slots Q ls C hH hS hl hst hret
  obtain ⟨hx, hb, hml, hrt, hlk, hown, hts, hs, hck, hR⟩ := id C
  have hok := xck_row hck hr
  have hd := xok_dec hok
  have hok2 := (xand hok).2
  have hcell : xkd[i]? = some (0, k) := xcell (xfh (xft hst)) (Or.inl (Nat.zero_le _))
  obtain ⟨pz, hpz⟩ := xzip (p := xplp) rfl (of_decide_eq_true hok2)
  have hok3 := List.all_eq_true.mp xpl_ok _ hpz
  unfold xplB at hok3
  split at hok3
  · rename_i C0 T N hcl
    have hb100 : ¬ b + 100 < 100 := by omega
    simp only [if_neg hb100] at hok3
    obtain ⟨q1234, q5⟩ := xand hok3
    obtain ⟨q123, q4⟩ := xand q1234
    obtain ⟨q12, q3⟩ := xand q123
    obtain ⟨q1, q2⟩ := xand q12
    rw [Nat.add_sub_cancel] at q2 q3 q4 q5
    have hbN : b < N := of_decide_eq_true q2
    obtain ⟨hin, ty0, hty, hnm⟩ := xcl hcl
    refine va_put (Ts := xtb) hx hb hts hin ty0 hty hnm hown hs.1 hH (xws_D hs D') hS i (xws_at hcell) hcl b hbN (hts _ (xat_mem q5)) (fun _ z => z) (of_decide_eq_true q3) (of_decide_eq_true q4) (v := .int x) (by rcases hv with rfl | rfl <;> rfl) (by rcases hv with rfl | rfl <;> rfl) (by simp; exact hbn) hd (fun H1 locs1 hP1 hD1 hS1 => ?_)
    have e5 : (xws Γ D').set i (Γ.r i, .inr (k, ((List.range (xnf k)).map (fun j => xcv Γ (xfv D' k i j))).set b (.int x))) = xws Γ (xup D' i b x) := by
      rw [xup_obj hf]
      exact xws_set (q := (0, k)) hcell xup_ne
    rw [e5] at hP1
    exact kk p e R s m args below meth c H1 locs1 cells slots Q ls C hP1 hS1 hl (xft (xft hst)) hret
  · cases hok3
/-- the ends -/
theorem x_ret {pc pc' a b : Nat} {lv lv' : List (Option xV)} {st : List xV} {D D' : xM} {x : Int32} (h1 : xrun rows xN 60 pc lv st D = some (pc', lv', [.inl x], D')) (hr : xrw rows pc' = some (.ireturn, 1, a, b)) {ty : FieldType} (hty : h.2.2.2 = some ty) (hn : narrow ty (.int x) = .int x) (hp : post (some x) D') : xW Γ n h rows pc lv st D post := by
  refine x_to xN h1 ?_
  intro p e R s m args below meth c H locs cells slots Q ls C hH hS hl hst hret
  obtain ⟨hx, hb, hml, hrt, hlk, hown, hts, hs, hck, hR⟩ := id C
  have hok := xck_row hck hr
  have hd := xok_dec hok
  have hok2 := (xand hok).2
  exact hret (some x) D' H locs pc' ls hp hH hS ⟨ty, hty, hn, hd⟩
theorem x_vret {pc pc' a b : Nat} {lv lv' : List (Option xV)} {st : List xV} {D D' : xM} (h1 : xrun rows xN 60 pc lv st D = some (pc', lv', [], D')) (hr : xrw rows pc' = some (.return_, 1, a, b)) (hty : h.2.2.2 = none) (hp : post none D') : xW Γ n h rows pc lv st D post := by
  refine x_to xN h1 ?_
  intro p e R s m args below meth c H locs cells slots Q ls C hH hS hl hst hret
  obtain ⟨hx, hb, hml, hrt, hlk, hown, hts, hs, hck, hR⟩ := id C
  have hok := xck_row hck hr
  have hd := xok_dec hok
  have hok2 := (xand hok).2
  exact hret none D' H locs pc' ls hp hH hS ⟨hty, hd⟩
end XR
