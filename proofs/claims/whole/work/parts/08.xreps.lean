/-! the component's repetitions -/
theorem xa_ls {post : Int32 → Prop} {a r : Nat} (ha : a < 2 ^ 40) (hr : 0 < r) (h8 : r ≤ 8) (h : post (nI (sd_sc a r))) : ∀ n s, r < n + s → 0 < s → s ≤ sd_sc a r → wX_leastScale_2 post (lN a) (nI r) n (nI s) := by
  intro n
  induction n with
  | zero =>
    intro s h1 h2 h3
    have := sd_sc_le a r
    omega
  | succ n ih =>
    intro s h1 h2 h3
    have hle := sd_sc_le a r
    have hm : a * s ≤ a * 8 := Nat.mul_le_mul_left _ (by omega)
    refine pk_le r s (fun hrs => ?_) (fun hrs => ⟨?_, ?_⟩)
    · have e : sd_sc a r = r := by omega
      rw [e] at h
      exact h
    · rw [nI_l (by omega), sd_leq0 (by omega)]
      omega
    · rw [nI_l (n := s) (by omega), nI_l (n := r) (by omega), lN_mul, pk_lRem (by omega) hr (by omega), sd_leq0 (by have := Nat.mod_lt (a * s) hr; omega)]
      refine br_c (fun hz => ?_) (fun hz => nm_r (nI_1 s) (ih (s + 1) (by omega) (by omega) ?_))
      · have := sd_sc_min hr h2 hz
        have e : s = sd_sc a r := by omega
        rw [e]
        exact h
      · have : s ≠ sd_sc a r := fun e => hz (e ▸ sd_sc_ok a r)
        omega
theorem xa_least {post : Int32 → Prop} {a r : Nat} (ha : a < 2 ^ 40) (hr : 0 < r) (h8 : r ≤ 8) (h : post (nI (sd_sc a r))) : wpX_leastScale post (lN a) (nI r) :=
  ⟨9, xa_ls ha hr h8 h 9 1 (by omega) (by omega) (sd_sc_pos a hr)⟩
def sd_XR (na : Nat) (z : sd_Z) (xq : Nat → Int64) (xc : Nat → Int32) : Prop := ∀ j, j < na → xq j = lN (z.1 j) ∧ (z.1 j ≠ 0 → xc j = nI (z.2 j))
section
variable {XA : Int32} {XM : Int32} {xn : Int32} {xm : Int32} {xv : Int32} {xe : Int32} {xp : Int32} {xd : Int32} {gS : Nat → Int32} {gD : Nat → Int32} {gP : Nat → Int32} {gK : Nat → Int32} {gI : Nat → Int32} {gC : Nat → Int32} {xq : Nat → Int64} {xc : Nat → Int32} {xs : Nat → Int32} {xb : Nat → Int32} {xt : Nat → Int32} {xf : Nat → Int32} {xw : Nat → Int32} {xh : Nat → Int32} {xl : Nat → Int32} {xg : Nat → Int32}
theorem xa_jp24 {post : SX → Prop} {na r fr rr sc am : Nat} {z : sd_Z} (hna : na ≤ 10) (hr : r < na) (hf : fr < na) (h0 : 0 < rr) (h8 : rr ≤ 8) (hs : sc ≤ 8) (ham : am < 2 ^ 40) (hb : ∀ i, i < na → z.1 i ≤ 134217728) (hR : sd_Rt na z) (hxc : ∀ i, i < na → z.1 i ≠ 0 → xc i = nI (z.2 i))
    (K : ∀ xq' : Nat → Int64, (∀ i, i < na → xq' i = lN (if i = fr then am * sc / rr else if z.1 i ≠ 0 ∧ z.2 i = r then z.1 i * sc else z.1 i)) → post (XA, XM, nI na, xm, xv, xe, xp, xd, gS, gD, gP, gK, gI, gC, xq', upd xc fr (nI r), xs, xb, xt, xf, xw, xh, xl, xg)) :
    ∀ (n j : Nat) (xq : Nat → Int64), na < n + j → j ≤ na → (∀ i, i < na → xq i = lN (if i < j ∧ z.1 i ≠ 0 ∧ z.2 i = r then z.1 i * sc else z.1 i)) → wX_joinPart_24 post (nI r) (nI fr) (nI rr) (lN am) (nI sc) XA XM (nI na) xm xv xe xp xd n (nI j) gS gD gP gK gI gC xq xc xs xb xt xf xw xh xl xg := by
  intro n
  induction n with
  | zero =>
    intro j xq h1 hj2 h2
    omega
  | succ n ih =>
    intro j xq h1 hj2 h2
    have hm : am * sc ≤ am * 8 := Nat.mul_le_mul_left _ hs
    refine pk_le na j (fun hj => ?_) (fun hj => ?_)
    · refine ⟨?_, vp_in_nI (by omega) (by decide), nm_r (e' := vp_updL xq fr (lN (am * sc / rr))) ?_ ⟨vp_in_nI (by omega) (by decide), nm_r (e' := upd xc fr (nI r)) ?_ (K _ ?_)⟩⟩
      · rw [nI_l (by omega), sd_leq0 (by omega)]
        omega
      · rw [nI_clamp (by omega), nI_l (n := sc) (by omega), nI_l (n := rr) (by omega), lN_mul, pk_lDiv (by omega) h0 (by omega)]
      · rw [nI_clamp (by omega)]
      · intro i hi
        by_cases e : i = fr
        · rw [if_pos e, e, pk_uLs]
        · rw [if_neg e, pk_uLn e, h2 i hi]
          by_cases q : z.1 i ≠ 0 ∧ z.2 i = r
          · rw [if_pos q, if_pos ⟨by omega, q⟩]
          · rw [if_neg q, if_neg (fun y => q y.2)]
    · have hc : (nI j).toNatClampNeg = j := nI_clamp (by omega)
      have hqj : xq j = lN (z.1 j) := by rw [h2 j hj, if_neg (fun y => Nat.lt_irrefl j y.1)]
      have hbj := hb j hj
      have skip : ¬ (z.1 j ≠ 0 ∧ z.2 j = r) → ∀ i, i < na → xq i = lN (if i < j + 1 ∧ z.1 i ≠ 0 ∧ z.2 i = r then z.1 i * sc else z.1 i) := fun hn i hi => by
        rw [h2 i hi]
        by_cases q : i < j ∧ z.1 i ≠ 0 ∧ z.2 i = r
        · rw [if_pos q, if_pos ⟨by omega, q.2⟩]
        · rw [if_neg q, if_neg (fun y => by
            by_cases e : i = j
            · exact hn (e ▸ y.2)
            · exact q ⟨by omega, y.2⟩)]
      refine ⟨vp_in_nI (by omega) (by decide), ?_⟩
      rw [hc, hqj, sd_leq0 (by omega)]
      refine br_c (fun hz => nm_r (nI_1 j) (ih (j + 1) xq (by omega) (by omega) (skip (fun y => y.1 hz)))) (fun hz => ⟨vp_in_nI (by omega) (by decide), ?_⟩)
      have hR1 := hR j hj hz
      rw [hxc j hj hz, nI_eq (by omega) (by omega)]
      refine br_c (fun hz2 => ⟨vp_in_nI (by omega) (by decide), vp_in_nI (by omega) (by decide), nm_r (e' := vp_updL xq j (lN (z.1 j * sc))) ?_ (nm_r (nI_1 j) (ih (j + 1) _ (by omega) (by omega) ?_))⟩) (fun hz2 => nm_r (nI_1 j) (ih (j + 1) xq (by omega) (by omega) (skip (fun y => hz2 y.2))))
      · rw [nI_l (by omega), lN_mul]
      · intro i hi
        by_cases e : i = j
        · rw [e, pk_uLs, if_pos ⟨by omega, hz, hz2⟩]
        · rw [pk_uLn e, h2 i hi]
          by_cases q : i < j ∧ z.1 i ≠ 0 ∧ z.2 i = r
          · rw [if_pos q, if_pos ⟨by omega, q.2⟩]
          · rw [if_neg q, if_neg (fun y => q ⟨by omega, y.2⟩)]
theorem xa_jp {post : SX → Prop} {na r kn fr kr rr : Nat} {z : sd_Z} (hna : na ≤ 10) (hr : r < na) (hk : kn < na) (hf : fr < na) (hk8 : kr ≤ 8) (h0 : 0 < rr) (h8 : rr ≤ 8) (hb : ∀ i, i < na → z.1 i ≤ 134217728) (hR : sd_Rt na z) (hx : sd_XR na z xq xc)
    (K : ∀ (xq' : Nat → Int64) (xc' : Nat → Int32), sd_XR na (sd_jQ r kn fr kr rr z.1 z.2, sd_jM r fr z.2) xq' xc' → post (XA, XM, nI na, xm, xv, xe, xp, xd, gS, gD, gP, gK, gI, gC, xq', xc', xs, xb, xt, xf, xw, xh, xl, xg)) :
    wpX_joinPart post (XA, XM, nI na, xm, xv, xe, xp, xd, gS, gD, gP, gK, gI, gC, xq, xc, xs, xb, xt, xf, xw, xh, xl, xg) (nI r) (nI kn) (nI fr) (nI kr) (nI rr) := by
  have hm : z.1 kn * kr ≤ z.1 kn * 8 := Nat.mul_le_mul_left _ hk8
  have hbk := hb kn hk
  refine ⟨vp_in_nI (by omega) (by decide), nm_r (e' := lN (z.1 kn * kr)) ?_ (xa_least (by omega) h0 h8 ⟨na + 1, ?_⟩)⟩
  · rw [nI_clamp (by omega), (hx kn hk).1, nI_l (by omega), lN_mul]
  · refine xa_jp24 (z := z) hna hr hf h0 h8 (Nat.le_trans (sd_sc_le _ _) h8) (by omega) hb hR (fun i hi => (hx i hi).2) (fun xq' hq => K xq' _ (fun j hj => ⟨hq j hj, fun hz => ?_⟩)) (na + 1) 0 xq (by omega) (Nat.zero_le _) (fun i hi => ?_)
    · show upd xc fr (nI r) j = nI (sd_jM r fr z.2 j)
      by_cases e : j = fr
      · rw [e, pk_us, sd_jM_f]
      · rw [pk_un e, sd_jM_o e]
        exact (hx j hj).2 (fun y => hz ((sd_jQ_z h0 e).mpr y))
    · rw [if_neg (fun y => Nat.not_lt_zero i y.1)]
      exact (hx i hi).1
theorem sd_n10 : ¬ (1 : Int32) = 0 := by decide
theorem xa_sp26 {post : SX → Prop} {J16 : Int32 → Int32 → Int32 → Int32 → Int32 → Int32 → Int32 → Int32 → Int32 → (Nat → Int32) → (Nat → Int32) → (Nat → Int32) → (Nat → Int32) → (Nat → Int32) → (Nat → Int32) → (Nat → Int64) → (Nat → Int32) → (Nat → Int32) → (Nat → Int32) → (Nat → Int32) → (Nat → Int32) → (Nat → Int32) → (Nat → Int32) → (Nat → Int32) → (Nat → Int32) → Prop} {na nc r ps : Nat} {s d p k i0 cp : Nat → Nat} {z : sd_Z} (hna : na ≤ 10) (hnc : nc ≤ 24) (hr : r < na)
    (hG : sd_Gr na nc s d p k i0 cp gS gD gP gK gI gC) (hI : sd_Inv na nc s d r z)
    (K : ∀ (xq' : Nat → Int64) (xc' : Nat → Int32), sd_XR na (sd_row s d p k r nc z) xq' xc' → J16 (nI (ps + 1)) XA XM (nI na) (nI nc) xv xe xp xd gS gD gP gK gI gC xq' xc' xs xb xt xf xw xh xl xg) :
    ∀ (n c : Nat) (xq : Nat → Int64) (xc : Nat → Int32), nc < n + c → c ≤ nc → sd_XR na (sd_row s d p k r c z) xq xc → wX_solvePart_26 post J16 (nI r) (nI ps) n (nI c) XA XM (nI na) (nI nc) xv xe xp xd gS gD gP gK gI gC xq xc xs xb xt xf xw xh xl xg := by
  intro n
  induction n with
  | zero => intro c xq xc h1 h2 h3; omega
  | succ n ih =>
    intro c xq xc h1 h2 hx
    have G := sd_Gr_G hG
    refine pk_le nc c (fun hj => ?_) (fun hj => ?_)
    · have e : c = nc := by omega
      subst e
      exact nm_r (nI_1 ps) (K xq xc hx)
    · have hc : (nI c).toNatClampNeg = c := nI_clamp (by omega)
      obtain ⟨⟨eS, eD, eP, eK, _, _⟩, ⟨g1, g2, g3, g4, g5, g6⟩, _, _⟩ := hG c hj
      obtain ⟨I1, _, _⟩ := sd_row_inv (p := p) (k := k) G hr hI c h2
      have hb : ∀ i, i < na → (sd_row s d p k r c z).1 i ≤ 134217728 := fun i hi => sd_bd9 hna I1.2.1 hi
      have hR := I1.2.2.1
      have bs := hb (s c) g1
      have bd := hb (d c) g2
      have v24 : vp_in (nI c) 24 := vp_in_nI (by omega) (by decide)
      have eS' : gS (nI c).toNatClampNeg = nI (s c) := by rw [hc]; exact eS
      have eD' : gD (nI c).toNatClampNeg = nI (d c) := by rw [hc]; exact eD
      have eP' : gP (nI c).toNatClampNeg = nI (p c) := by rw [hc]; exact eP
      have eK' : gK (nI c).toNatClampNeg = nI (k c) := by rw [hc]; exact eK
      have eQs : xq (gS (nI c).toNatClampNeg).toNatClampNeg = lN ((sd_row s d p k r c z).1 (s c)) := by rw [eS', nI_clamp (by omega)]; exact (hx (s c) g1).1
      have eQd : xq (gD (nI c).toNatClampNeg).toNatClampNeg = lN ((sd_row s d p k r c z).1 (d c)) := by rw [eD', nI_clamp (by omega)]; exact (hx (d c) g2).1
      have vs : vp_in (gS (nI c).toNatClampNeg) 10 := by rw [eS']; exact vp_in_nI (by omega) (by decide)
      have vd : vp_in (gD (nI c).toNatClampNeg) 10 := by rw [eD']; exact vp_in_nI (by omega) (by decide)
      have ns0 : (sd_row s d p k r c z).1 (s c) = 0 → xq (gS (nI c).toNatClampNeg).toNatClampNeg = 0 := fun h => by rw [eQs, h]; rfl
      have nd0 : (sd_row s d p k r c z).1 (d c) = 0 → xq (gD (nI c).toNatClampNeg).toNatClampNeg = 0 := fun h => by rw [eQd, h]; rfl
      have ns1 : (sd_row s d p k r c z).1 (s c) ≠ 0 → ¬ xq (gS (nI c).toNatClampNeg).toNatClampNeg = 0 := fun h => by rw [eQs, sd_leq0 (by omega)]; exact h
      have nd1 : (sd_row s d p k r c z).1 (d c) ≠ 0 → ¬ xq (gD (nI c).toNatClampNeg).toNatClampNeg = 0 := fun h => by rw [eQd, sd_leq0 (by omega)]; exact h
      have er : sd_row s d p k r (c + 1) z = sd_link s d p k r c (sd_row s d p k r c z) := rfl
      by_cases hs : (sd_row s d p k r c z).1 (s c) = 0
      · by_cases hd : (sd_row s d p k r c z).1 (d c) = 0
        · have K2 := ih (c + 1) xq xc (by omega) (by omega) (by rw [er, sd_link_3 ⟨fun _ => hd, fun _ => hs⟩]; exact hx)
          exact ⟨v24, vs, br_t (ns0 hs) ⟨v24, vd, br_t (nd0 hd) (br_t rfl (br_t rfl (nm_r (nI_1 c) K2)))⟩⟩
        · refine ⟨v24, vs, br_t (ns0 hs) ⟨v24, vd, br_f (nd1 hd) (br_t rfl (br_f sd_n10 (br_t rfl ⟨v24, v24, v24, v24, ?_⟩)))⟩⟩
          rw [eS', eD', eP', eK']
          exact xa_jp hna hr g2 g1 g6 g3 g4 hb hR hx (fun xq' xc' hx' => nm_r (nI_1 c) (ih (c + 1) xq' xc' (by omega) (by omega) (by rw [er, sd_link_2 hd hs]; exact hx')))
      · by_cases hd : (sd_row s d p k r c z).1 (d c) = 0
        · refine ⟨v24, vs, br_f (ns1 hs) ⟨v24, vd, br_t (nd0 hd) (br_f sd_n10 (br_t rfl ⟨v24, v24, v24, v24, ?_⟩))⟩⟩
          rw [eS', eD', eP', eK']
          exact xa_jp hna hr g1 g2 g4 g5 g6 hb hR hx (fun xq' xc' hx' => nm_r (nI_1 c) (ih (c + 1) xq' xc' (by omega) (by omega) (by rw [er, sd_link_1 hs hd]; exact hx')))
        · have K2 := ih (c + 1) xq xc (by omega) (by omega) (by rw [er, sd_link_3 ⟨fun e => absurd e hs, fun e => absurd e hd⟩]; exact hx)
          exact ⟨v24, vs, br_f (ns1 hs) ⟨v24, vd, br_f (nd1 hd) (br_f sd_n10 (br_f sd_n10 (br_f sd_n10 (br_f sd_n10 (nm_r (nI_1 c) K2)))))⟩⟩
theorem xa_sp16 {post : SX → Prop} {na nc r : Nat} {s d p k i0 cp : Nat → Nat} {z : sd_Z} (hna : na ≤ 10) (hnc : nc ≤ 24) (hr : r < na)
    (hG : sd_Gr na nc s d p k i0 cp gS gD gP gK gI gC) (hI : sd_Inv na nc s d r z)
    (K : ∀ (xq' : Nat → Int64) (xc' : Nat → Int32), sd_XR na (sd_pass nc s d p k r (na - 1) z) xq' xc' → post (XA, XM, nI na, nI nc, xv, xe, xp, xd, gS, gD, gP, gK, gI, gC, xq', xc', xs, xb, xt, xf, xw, xh, xl, xg)) :
    ∀ (n t : Nat) (xq : Nat → Int64) (xc : Nat → Int32), na < n + t + 1 → t + 1 ≤ na → sd_XR na (sd_pass nc s d p k r t z) xq xc → wX_solvePart_16 post (nI r) n (nI (t + 1)) XA XM (nI na) (nI nc) xv xe xp xd gS gD gP gK gI gC xq xc xs xb xt xf xw xh xl xg := by
  intro n
  induction n with
  | zero => intro t xq xc h1 h2 h3; omega
  | succ n ih =>
    intro t xq xc h1 h2 hx
    refine pk_le na (t + 1) (fun hj => ?_) (fun hj => ⟨nc + 1, ?_⟩)
    · have e : t = na - 1 := by omega
      subst e
      exact K xq xc hx
    · exact xa_sp26 hna hnc hr hG (sd_pass_inv (p := p) (k := k) (sd_Gr_G hG) hr hI t).1 (fun xq' xc' hx' => ih (t + 1) xq' xc' (by omega) (by omega) hx') (nc + 1) 0 xq xc (by omega) (Nat.zero_le _) hx
theorem xa_sp {post : SX → Prop} {na nc r : Nat} {s d p k i0 cp : Nat → Nat} {z : sd_Z} (hna : na ≤ 10) (hnc : nc ≤ 24) (hr : r < na)
    (hG : sd_Gr na nc s d p k i0 cp gS gD gP gK gI gC) (hO : sd_Out na nc s d r z) (h0 : z.1 r = 0) (hx : sd_XR na z xq xc)
    (K : ∀ (xq' : Nat → Int64) (xc' : Nat → Int32), sd_XR na (sd_root na nc s d p k r z) xq' xc' → post (XA, XM, nI na, nI nc, xv, xe, xp, xd, gS, gD, gP, gK, gI, gC, xq', xc', xs, xb, xt, xf, xw, xh, xl, xg)) :
    wpX_solvePart post (XA, XM, nI na, nI nc, xv, xe, xp, xd, gS, gD, gP, gK, gI, gC, xq, xc, xs, xb, xt, xf, xw, xh, xl, xg) (nI r) := by
  have hI := (sd_st_inv hr hO h0).1
  have er : sd_root na nc s d p k r z = sd_pass nc s d p k r (na - 1) (sd_st r z) := if_pos h0
  rw [er] at K
  have hc : (nI r).toNatClampNeg = r := nI_clamp (by omega)
  refine ⟨vp_in_nI (by omega) (by decide), nm_r (e' := vp_updL xq r 1) (by rw [hc]) ⟨vp_in_nI (by omega) (by decide), nm_r (e' := upd xc r (nI r)) (by rw [hc]) ⟨na + 1, ?_⟩⟩⟩
  refine xa_sp16 hna hnc hr hG hI K (na + 1) 0 _ _ (by omega) (by omega) (fun j hj => ?_)
  show vp_updL xq r 1 j = lN ((sd_st r z).1 j) ∧ ((sd_st r z).1 j ≠ 0 → upd xc r (nI r) j = nI ((sd_st r z).2 j))
  by_cases e : j = r
  · rw [e, pk_uLs, pk_us, sd_st_r, sd_st_mr]
    exact ⟨rfl, fun _ => rfl⟩
  · rw [pk_uLn e, pk_un e, sd_st_o e, sd_st_mo e]
    exact hx j hj
theorem xa_fr25 {post : SX → Prop} {na nc : Nat} {s d p k i0 cp : Nat → Nat} (hna : na ≤ 10) (hnc : nc ≤ 24)
    (hG : sd_Gr na nc s d p k i0 cp gS gD gP gK gI gC)
    (K : ∀ (xq' : Nat → Int64) (xc' : Nat → Int32), (∀ j, j < na → xq' j = lN (sd_Q na nc s d p k j)) → post (XA, XM, nI na, nI nc, xv, xe, xp, xd, gS, gD, gP, gK, gI, gC, xq', xc', xs, xb, xt, xf, xw, xh, xl, xg)) :
    ∀ (n r : Nat) (xq : Nat → Int64) (xc : Nat → Int32), na < n + r → r ≤ na → sd_XR na (sd_roots na nc s d p k r) xq xc → wX_findRepetitions_25 post n (nI r) XA XM (nI na) (nI nc) xv xe xp xd gS gD gP gK gI gC xq xc xs xb xt xf xw xh xl xg := by
  intro n
  induction n with
  | zero => intro r xq xc h1 h2 h3; omega
  | succ n ih =>
    intro r xq xc h1 h2 hx
    have hO := sd_roots_out (p := p) (k := k) (sd_Gr_G hG) r h2
    refine pk_le na r (fun hj => ?_) (fun hj => ?_)
    · have e : r = na := by omega
      subst e
      exact K xq xc (fun j hj => (hx j hj).1)
    · have hc : (nI r).toNatClampNeg = r := nI_clamp (by omega)
      have hq : xq (nI r).toNatClampNeg = lN ((sd_roots na nc s d p k r).1 r) := by rw [hc]; exact (hx r hj).1
      have hb := sd_bd9 hna hO.2.2.1 hj
      by_cases h0 : (sd_roots na nc s d p k r).1 r = 0
      · exact ⟨vp_in_nI (by omega) (by decide), br_t (by rw [hq, h0]; rfl) (xa_sp hna hnc hj hG hO h0 hx (fun xq' xc' hx' => nm_r (nI_1 r) (ih (r + 1) xq' xc' (by omega) (by omega) hx')))⟩
      · have er : sd_roots na nc s d p k (r + 1) = sd_roots na nc s d p k r := if_neg h0
        exact ⟨vp_in_nI (by omega) (by decide), br_f (by rw [hq, sd_leq0 (by omega)]; exact h0) (nm_r (nI_1 r) (ih (r + 1) xq xc (by omega) (by omega) (by rw [er]; exact hx)))⟩
theorem xa_fr2 {post : SX → Prop} {na nc : Nat} {s d p k i0 cp : Nat → Nat} (hna : na ≤ 10) (hnc : nc ≤ 24)
    (hG : sd_Gr na nc s d p k i0 cp gS gD gP gK gI gC)
    (K : ∀ (xq' : Nat → Int64) (xc' : Nat → Int32), (∀ j, j < na → xq' j = lN (sd_Q na nc s d p k j)) → post (XA, XM, nI na, nI nc, xv, xe, xp, xd, gS, gD, gP, gK, gI, gC, xq', xc', xs, xb, xt, xf, xw, xh, xl, xg)) :
    ∀ (n j : Nat) (xq : Nat → Int64), na < n + j → j ≤ na → (∀ i, i < j → xq i = 0) → wX_findRepetitions_2 post XA XM (nI na) (nI nc) xv xe xp xd n (nI j) gS gD gP gK gI gC xq xc xs xb xt xf xw xh xl xg := by
  intro n
  induction n with
  | zero => intro j xq h1 h2 h3; omega
  | succ n ih =>
    intro j xq h1 h2 hx
    refine pk_le na j (fun hj => ⟨na + 1, ?_⟩) (fun hj => ⟨vp_in_nI (by omega) (by decide), nm_r (e' := vp_updL xq j 0) (by rw [nI_clamp (by omega)]) (nm_r (nI_1 j) (ih (j + 1) _ (by omega) (by omega) (fun i hi => ?_)))⟩)
    · exact xa_fr25 hna hnc hG K (na + 1) 0 xq xc (by omega) (Nat.zero_le _) (fun i hi => ⟨hx i (by omega), fun h => absurd rfl h⟩)
    · by_cases e : i = j
      · rw [e, pk_uLs]
      · rw [pk_uLn e]
        exact hx i (by omega)
theorem xa_fr {post : SX → Prop} {na nc : Nat} {s d p k i0 cp : Nat → Nat} (hna : na ≤ 10) (hnc : nc ≤ 24)
    (hG : sd_Gr na nc s d p k i0 cp gS gD gP gK gI gC)
    (K : ∀ (xq' : Nat → Int64) (xc' : Nat → Int32), (∀ j, j < na → xq' j = lN (sd_Q na nc s d p k j)) → post (XA, XM, nI na, nI nc, xv, xe, xp, xd, gS, gD, gP, gK, gI, gC, xq', xc', xs, xb, xt, xf, xw, xh, xl, xg)) : wpX_findRepetitions post (XA, XM, nI na, nI nc, xv, xe, xp, xd, gS, gD, gP, gK, gI, gC, xq, xc, xs, xb, xt, xf, xw, xh, xl, xg) :=
  ⟨na + 1, xa_fr2 hna hnc hG K (na + 1) 0 xq (by omega) (Nat.zero_le _) (fun i hi => absurd hi (Nat.not_lt_zero i))⟩
end
