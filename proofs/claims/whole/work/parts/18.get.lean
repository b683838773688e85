/-! the getters -/
theorem sd_VC_1 {na nc : Nat} {s d p k i0 : Nat → Nat} {w xe xp xd : Int32} {xq : Nat → Int64} {xs xb xw xh xl xg : Nat → Int32} {ye yp yd : Int32} {yq : Nat → Int64} {ys yb yw yl yg : Nat → Int32} (h : sd_VC na nc s d p k i0 w xe xp xd xq xs xb xw xh xl xg ye yp yd yq ys yb yw yl yg) (hw : w = 1 ∨ w = 4 ∨ w = 5 ∨ w = 6) : sd_V1 na xq yq := by
  rcases h with rfl | rfl | rfl | ⟨rfl, h⟩ | ⟨rfl, h, _⟩ | ⟨rfl, h, _⟩ | ⟨rfl, h, _⟩
  · exact absurd hw (by decide)
  · exact absurd hw (by decide)
  · exact absurd hw (by decide)
  · exact h
  · exact h
  · exact h
  · exact h
theorem sd_VC_2 {na nc : Nat} {s d p k i0 : Nat → Nat} {w xe xp xd : Int32} {xq : Nat → Int64} {xs xb xw xh xl xg : Nat → Int32} {ye yp yd : Int32} {yq : Nat → Int64} {ys yb yw yl yg : Nat → Int32} (h : sd_VC na nc s d p k i0 w xe xp xd xq xs xb xw xh xl xg ye yp yd yq ys yb yw yl yg) (hw : w = 1 ∨ w = 5 ∨ w = 6) : sd_V2 nc xe ye xs ys xb yb := by
  rcases h with rfl | rfl | rfl | ⟨rfl, h⟩ | ⟨rfl, _, h⟩ | ⟨rfl, _, h⟩ | ⟨rfl, _, h, _⟩
  · exact absurd hw (by decide)
  · exact absurd hw (by decide)
  · exact absurd hw (by decide)
  · exact absurd hw (by decide)
  · exact h
  · exact h
  · exact h
theorem sd_VC_3 {na nc : Nat} {s d p k i0 : Nat → Nat} {w xe xp xd : Int32} {xq : Nat → Int64} {xs xb xw xh xl xg : Nat → Int32} {ye yp yd : Int32} {yq : Nat → Int64} {ys yb yw yl yg : Nat → Int32} (h : sd_VC na nc s d p k i0 w xe xp xd xq xs xb xw xh xl xg ye yp yd yq ys yb yw yl yg) (hw : w = 1) : sd_V3 na nc s d p k i0 xe xp xd xs xw xh xl xg ye yp yd ys yw yl yg := by
  rcases h with rfl | rfl | rfl | ⟨rfl, h⟩ | ⟨rfl, _, h⟩ | ⟨rfl, _, h⟩ | ⟨rfl, _, _, h⟩
  · exact absurd hw (by decide)
  · exact absurd hw (by decide)
  · exact absurd hw (by decide)
  · exact absurd hw (by decide)
  · exact absurd hw (by decide)
  · exact absurd hw (by decide)
  · exact h
theorem i_vc_verdict {k : Nat} {u : SX} {v : SY} (I : i_Rel k u v) (hk : k + 5 ≤ 2562) : wpX_verdict (fun r => wpY_verdict (fun r' => r' = r ∧ i_Rel (k + 5) u v) v) u := by
  have I0 := I
  obtain ⟨ma, mc, na, nc, s, d, p, kk, i0, cp, gS, gD, gP, gK, gI, gC, w, xe, xp, xd, xq, xc, xs, xb, xt, xf, xw, xh, xl, xg, ye, yp, yd, yq, yc, yf, yt, ys, yb, yw, yl, yg, rfl, rfl, hN, hG, hV⟩ := I
  obtain ⟨n1, n2, n3, n4, n5, n6⟩ := hN
  exact ⟨rfl, I0⟩
section
variable {XA : Int32} {XM : Int32} {xn : Int32} {xm : Int32} {xv : Int32} {xe : Int32} {xp : Int32} {xd : Int32} {gS : Nat → Int32} {gD : Nat → Int32} {gP : Nat → Int32} {gK : Nat → Int32} {gI : Nat → Int32} {gC : Nat → Int32} {xq : Nat → Int64} {xc : Nat → Int32} {xs : Nat → Int32} {xb : Nat → Int32} {xt : Nat → Int32} {xf : Nat → Int32} {xw : Nat → Int32} {xh : Nat → Int32} {xl : Nat → Int32} {xg : Nat → Int32}
theorem xf_hs1 {post : Int32 → Prop} (h : xv = 1 ∨ xv = 5 ∨ xv = 6) (K : post 1) : wpX_hasSchedule post (XA, XM, xn, xm, xv, xe, xp, xd, gS, gD, gP, gK, gI, gC, xq, xc, xs, xb, xt, xf, xw, xh, xl, xg) :=
  br_c (fun _ => K) (fun h1 => br_c (fun _ => K) (fun h2 => br_c (fun _ => K) (fun h3 => absurd h (fun q => q.elim h1 (fun q => q.elim h2 h3)))))
theorem xf_hs0 {post : Int32 → Prop} (h : ¬ (xv = 1 ∨ xv = 5 ∨ xv = 6)) (K : post 0) : wpX_hasSchedule post (XA, XM, xn, xm, xv, xe, xp, xd, gS, gD, gP, gK, gI, gC, xq, xc, xs, xb, xt, xf, xw, xh, xl, xg) :=
  br_f (fun e => h (Or.inl e)) (br_f (fun e => h (Or.inr (Or.inl e))) (br_f (fun e => h (Or.inr (Or.inr e))) K))
theorem xf_rp1 {post : Int64 → Prop} {x : Int32} (h : xv = 1 ∨ xv = 4 ∨ xv = 5 ∨ xv = 6) (K : wX_repetitions_20 post x 1 XA XM xn xm xv xe xp xd gS gD gP gK gI gC xq xc xs xb xt xf xw xh xl xg) : wpX_repetitions post (XA, XM, xn, xm, xv, xe, xp, xd, gS, gD, gP, gK, gI, gC, xq, xc, xs, xb, xt, xf, xw, xh, xl, xg) x :=
  br_c (fun _ => K) (fun h4 => xf_hs1 (by
    rcases h with h | h | h | h
    · exact Or.inl h
    · exact absurd h h4
    · exact Or.inr (Or.inl h)
    · exact Or.inr (Or.inr h)) (br_f sd_n10 K))
theorem xf_rp0 {post : Int64 → Prop} {x : Int32} (h : ¬ (xv = 1 ∨ xv = 4 ∨ xv = 5 ∨ xv = 6)) (K : post 0) : wpX_repetitions post (XA, XM, xn, xm, xv, xe, xp, xd, gS, gD, gP, gK, gI, gC, xq, xc, xs, xb, xt, xf, xw, xh, xl, xg) x :=
  br_f (fun e => h (Or.inr (Or.inl e))) (xf_hs0 (fun q => h (by
    rcases q with q | q | q
    · exact Or.inl q
    · exact Or.inr (Or.inr (Or.inl q))
    · exact Or.inr (Or.inr (Or.inr q)))) (br_t rfl (br_t rfl K)))
theorem xf_sl1 {post : Int32 → Prop} (h : xv = 1 ∨ xv = 5 ∨ xv = 6) (K : post xe) : wpX_scheduleLength post (XA, XM, xn, xm, xv, xe, xp, xd, gS, gD, gP, gK, gI, gC, xq, xc, xs, xb, xt, xf, xw, xh, xl, xg) := by
  unfold wpX_scheduleLength
  exact xf_hs1 h (br_f sd_n10 K)
theorem xf_sl0 {post : Int32 → Prop} (h : ¬ (xv = 1 ∨ xv = 5 ∨ xv = 6)) (K : post 0) : wpX_scheduleLength post (XA, XM, xn, xm, xv, xe, xp, xd, gS, gD, gP, gK, gI, gC, xq, xc, xs, xb, xt, xf, xw, xh, xl, xg) := by
  unfold wpX_scheduleLength
  exact xf_hs0 h (br_t rfl K)
end
section
variable {YA : Int32} {YM : Int32} {yn : Int32} {ym : Int32} {yv : Int32} {ye : Int32} {yp : Int32} {yd : Int32} {gS : Nat → Int32} {gD : Nat → Int32} {gP : Nat → Int32} {gK : Nat → Int32} {gI : Nat → Int32} {gC : Nat → Int32} {yq : Nat → Int64} {yc : Nat → Int32} {yf : Nat → Int32} {yt : Nat → Int32} {ys : Nat → Int32} {yb : Nat → Int32} {yw : Nat → Int32} {yl : Nat → Int32} {yg : Nat → Int32}
theorem yf_rp1 {post : Int64 → Prop} {x : Int32} (h : yv = 1 ∨ yv = 4 ∨ yv = 5 ∨ yv = 6) (K : wY_repetitions_35 post x YA YM yn ym yv ye yp yd gS gD gP gK gI gC yq yc yf yt ys yb yw yl yg) : wpY_repetitions post (YA, YM, yn, ym, yv, ye, yp, yd, gS, gD, gP, gK, gI, gC, yq, yc, yf, yt, ys, yb, yw, yl, yg) x :=
  br_c (fun _ => K) (fun h1 => br_c (fun _ => K) (fun h2 => br_c (fun _ => K) (fun h3 => br_c (fun _ => K) (fun h4 => absurd h (fun q => q.elim h1 (fun q => q.elim h2 (fun q => q.elim h3 h4)))))))
theorem yf_rp0 {post : Int64 → Prop} {x : Int32} (h : ¬ (yv = 1 ∨ yv = 4 ∨ yv = 5 ∨ yv = 6)) (K : post 0) : wpY_repetitions post (YA, YM, yn, ym, yv, ye, yp, yd, gS, gD, gP, gK, gI, gC, yq, yc, yf, yt, ys, yb, yw, yl, yg) x :=
  br_f (fun e => h (Or.inl e)) (br_f (fun e => h (Or.inr (Or.inl e))) (br_f (fun e => h (Or.inr (Or.inr (Or.inl e)))) (br_f (fun e => h (Or.inr (Or.inr (Or.inr e)))) K)))
theorem yf_sl1 {post : Int32 → Prop} (h : yv = 1 ∨ yv = 5 ∨ yv = 6) (K : post ye) : wpY_scheduleLength post (YA, YM, yn, ym, yv, ye, yp, yd, gS, gD, gP, gK, gI, gC, yq, yc, yf, yt, ys, yb, yw, yl, yg) :=
  br_c (fun _ => K) (fun h1 => br_c (fun _ => K) (fun h2 => br_c (fun _ => K) (fun h3 => absurd h (fun q => q.elim h1 (fun q => q.elim h2 h3)))))
theorem yf_sl0 {post : Int32 → Prop} (h : ¬ (yv = 1 ∨ yv = 5 ∨ yv = 6)) (K : post 0) : wpY_scheduleLength post (YA, YM, yn, ym, yv, ye, yp, yd, gS, gD, gP, gK, gI, gC, yq, yc, yf, yt, ys, yb, yw, yl, yg) :=
  br_f (fun e => h (Or.inl e)) (br_f (fun e => h (Or.inr (Or.inl e))) (br_f (fun e => h (Or.inr (Or.inr e))) K))
theorem yf_bd1 {post : Int32 → Prop} {x : Int32} (h : yv = 1 ∨ yv = 5 ∨ yv = 6) (K : wY_bound_27 post x YA YM yn ym yv ye yp yd gS gD gP gK gI gC yq yc yf yt ys yb yw yl yg) : wpY_bound post (YA, YM, yn, ym, yv, ye, yp, yd, gS, gD, gP, gK, gI, gC, yq, yc, yf, yt, ys, yb, yw, yl, yg) x :=
  br_c (fun _ => K) (fun h1 => br_c (fun _ => K) (fun h2 => br_c (fun _ => K) (fun h3 => absurd h (fun q => q.elim h1 (fun q => q.elim h2 h3)))))
theorem yf_bd0 {post : Int32 → Prop} {x : Int32} (h : ¬ (yv = 1 ∨ yv = 5 ∨ yv = 6)) (K : post (-1)) : wpY_bound post (YA, YM, yn, ym, yv, ye, yp, yd, gS, gD, gP, gK, gI, gC, yq, yc, yf, yt, ys, yb, yw, yl, yg) x :=
  br_f (fun e => h (Or.inl e)) (br_f (fun e => h (Or.inr (Or.inl e))) (br_f (fun e => h (Or.inr (Or.inr e))) K))
end
theorem i_vc_repetitions {k : Nat} {u : SX} {v : SY} (I : i_Rel k u v) (hk : k + 5 ≤ 2562) (v1 : Int32) : wpX_repetitions (fun r => wpY_repetitions (fun r' => r' = r ∧ i_Rel (k + 5) u v) v v1) u v1 := by
  have I0 := I
  obtain ⟨ma, mc, na, nc, s, d, p, kk, i0, cp, gS, gD, gP, gK, gI, gC, w, xe, xp, xd, xq, xc, xs, xb, xt, xf, xw, xh, xl, xg, ye, yp, yd, yq, yc, yf, yt, ys, yb, yw, yl, yg, rfl, rfl, hN, hG, hV⟩ := I
  obtain ⟨n1, n2, n3, n4, n5, n6⟩ := hN
  by_cases hw : w = 1 ∨ w = 4 ∨ w = 5 ∨ w = 6
  · refine xf_rp1 hw (br_f sd_n10 ?_)
    rcases sd_ix v1 (n := na) (by omega) with a | ⟨a, a', a''⟩ | ⟨j, hj, rfl⟩
    · exact xe_ia0 (Or.inl a) (br_t rfl (yf_rp1 hw (br_t a ⟨rfl, I0⟩)))
    · exact xe_ia0 (Or.inr ⟨a, a'⟩) (br_t rfl (yf_rp1 hw (br_f a (br_f a'' ⟨rfl, I0⟩))))
    · have v10 : vp_in (nI j) 10 := vp_in_nI (by omega) (by decide)
      refine xe_ia1 (by omega) hj (br_f sd_n10 ⟨v10, yf_rp1 hw (br_f (nI_pos (by omega)) (br_t (nI_lt hj (by omega)) ⟨v10, ?_, I0⟩))⟩)
      rw [nI_clamp (by omega)]
      exact sd_VC_1 hV hw j hj
  · exact xf_rp0 hw (yf_rp0 hw ⟨rfl, I0⟩)
theorem i_vc_scheduleLength {k : Nat} {u : SX} {v : SY} (I : i_Rel k u v) (hk : k + 5 ≤ 2562) : wpX_scheduleLength (fun r => wpY_scheduleLength (fun r' => r' = r ∧ i_Rel (k + 5) u v) v) u := by
  have I0 := I
  obtain ⟨ma, mc, na, nc, s, d, p, kk, i0, cp, gS, gD, gP, gK, gI, gC, w, xe, xp, xd, xq, xc, xs, xb, xt, xf, xw, xh, xl, xg, ye, yp, yd, yq, yc, yf, yt, ys, yb, yw, yl, yg, rfl, rfl, hN, hG, hV⟩ := I
  obtain ⟨n1, n2, n3, n4, n5, n6⟩ := hN
  by_cases hw : w = 1 ∨ w = 5 ∨ w = 6
  · obtain ⟨L, _, h1, h2, _⟩ := sd_VC_2 hV hw
    exact xf_sl1 hw (yf_sl1 hw ⟨h2.trans h1.symm, I0⟩)
  · exact xf_sl0 hw (yf_sl0 hw ⟨rfl, I0⟩)
theorem i_vc_scheduleAt {k : Nat} {u : SX} {v : SY} (I : i_Rel k u v) (hk : k + 5 ≤ 2562) (v1 : Int32) : wpX_scheduleAt (fun r => wpY_scheduleAt (fun r' => r' = r ∧ i_Rel (k + 5) u v) v v1) u v1 := by
  have I0 := I
  obtain ⟨ma, mc, na, nc, s, d, p, kk, i0, cp, gS, gD, gP, gK, gI, gC, w, xe, xp, xd, xq, xc, xs, xb, xt, xf, xw, xh, xl, xg, ye, yp, yd, yq, yc, yf, yt, ys, yb, yw, yl, yg, rfl, rfl, hN, hG, hV⟩ := I
  obtain ⟨n1, n2, n3, n4, n5, n6⟩ := hN
  unfold wpX_scheduleAt wpY_scheduleAt
  by_cases hw : w = 1 ∨ w = 5 ∨ w = 6
  · obtain ⟨L, hL, h1, h2, h3, _⟩ := sd_VC_2 hV hw
    subst h1 h2
    rcases sd_ix v1 (n := L) (by omega) with a | ⟨a, a', a''⟩ | ⟨j, hj, rfl⟩
    · exact br_t a (yf_sl1 hw (br_t a ⟨rfl, I0⟩))
    · exact br_f a (xf_sl1 hw (br_t a' (yf_sl1 hw (br_f a (br_t a' ⟨rfl, I0⟩)))))
    · have v256 : vp_in (nI j) 256 := vp_in_nI (by omega) (by decide)
      have s0 : ¬ nI j < 0 := nI_pos (by omega)
      have s1 : ¬ nI L ≤ nI j := nI_ge hj (by omega)
      refine br_f s0 (xf_sl1 hw (br_f s1 ⟨v256, yf_sl1 hw (br_f s0 (br_f s1 (br_t (nI_lt (b := 256) (by omega) (by decide)) ⟨v256, ?_, I0⟩)))⟩))
      rw [nI_clamp (by omega)]
      exact h3 j hj
  · by_cases a : v1 < 0
    · exact br_t a (yf_sl0 hw (br_t a ⟨rfl, I0⟩))
    · have a' : (0 : Int32) ≤ v1 := Int32.not_lt.mp a
      exact br_f a (xf_sl0 hw (br_t a' (yf_sl0 hw (br_f a (br_t a' ⟨rfl, I0⟩)))))
theorem i_vc_bound {k : Nat} {u : SX} {v : SY} (I : i_Rel k u v) (hk : k + 5 ≤ 2562) (v1 : Int32) : wpX_bound (fun r => wpY_bound (fun r' => r' = r ∧ i_Rel (k + 5) u v) v v1) u v1 := by
  have I0 := I
  obtain ⟨ma, mc, na, nc, s, d, p, kk, i0, cp, gS, gD, gP, gK, gI, gC, w, xe, xp, xd, xq, xc, xs, xb, xt, xf, xw, xh, xl, xg, ye, yp, yd, yq, yc, yf, yt, ys, yb, yw, yl, yg, rfl, rfl, hN, hG, hV⟩ := I
  obtain ⟨n1, n2, n3, n4, n5, n6⟩ := hN
  unfold wpX_bound
  by_cases hw : w = 1 ∨ w = 5 ∨ w = 6
  · obtain ⟨L, hL, _, _, _, h3⟩ := sd_VC_2 hV hw
    refine xf_hs1 hw (br_f sd_n10 ?_)
    rcases sd_ix v1 (n := nc) (by omega) with a | ⟨a, a', a''⟩ | ⟨j, hj, rfl⟩
    · exact xe_ic0 (Or.inl a) (br_t rfl (yf_bd1 hw (br_t a ⟨rfl, I0⟩)))
    · exact xe_ic0 (Or.inr ⟨a, a'⟩) (br_t rfl (yf_bd1 hw (br_f a (br_f a'' ⟨rfl, I0⟩))))
    · have v24 : vp_in (nI j) 24 := vp_in_nI (by omega) (by decide)
      refine xe_ic1 (by omega) hj (br_f sd_n10 ⟨v24, yf_bd1 hw (br_f (nI_pos (by omega)) (br_t (nI_lt hj (by omega)) ⟨v24, ?_, I0⟩))⟩)
      rw [nI_clamp (by omega)]
      exact h3 j hj
  · exact xf_hs0 hw (br_t rfl (yf_bd0 hw ⟨rfl, I0⟩))
theorem i_vc_position {k : Nat} {u : SX} {v : SY} (I : i_Rel k u v) (hk : k + 5 ≤ 2562) : wpX_position (fun r => wpY_position (fun r' => r' = r ∧ i_Rel (k + 5) u v) v) u := by
  have I0 := I
  obtain ⟨ma, mc, na, nc, s, d, p, kk, i0, cp, gS, gD, gP, gK, gI, gC, w, xe, xp, xd, xq, xc, xs, xb, xt, xf, xw, xh, xl, xg, ye, yp, yd, yq, yc, yf, yt, ys, yb, yw, yl, yg, rfl, rfl, hN, hG, hV⟩ := I
  obtain ⟨n1, n2, n3, n4, n5, n6⟩ := hN
  by_cases hw : w = 1
  · obtain ⟨L, pos, sch, hd, B, T, V, _, _, _, ⟨_, h1, h2, _⟩, _⟩ := sd_VC_3 hV hw
    exact br_t hw (br_t hw ⟨h2.trans h1.symm, I0⟩)
  · exact br_f hw (br_f hw ⟨rfl, I0⟩)
theorem i_vc_fired {k : Nat} {u : SX} {v : SY} (I : i_Rel k u v) (hk : k + 5 ≤ 2562) (v1 : Int32) : wpX_fired (fun r => wpY_fired (fun r' => r' = r ∧ i_Rel (k + 5) u v) v v1) u v1 := by
  have I0 := I
  obtain ⟨ma, mc, na, nc, s, d, p, kk, i0, cp, gS, gD, gP, gK, gI, gC, w, xe, xp, xd, xq, xc, xs, xb, xt, xf, xw, xh, xl, xg, ye, yp, yd, yq, yc, yf, yt, ys, yb, yw, yl, yg, rfl, rfl, hN, hG, hV⟩ := I
  obtain ⟨n1, n2, n3, n4, n5, n6⟩ := hN
  by_cases hw : w = 1
  · obtain ⟨L, pos, sch, hd, B, T, V, _, _, _, _, h5, _⟩ := sd_VC_3 hV hw
    refine br_t hw ?_
    rcases sd_ix v1 (n := na) (by omega) with a | ⟨a, a', a''⟩ | ⟨j, hj, rfl⟩
    · exact xe_ia0 (Or.inl a) (br_t rfl (br_t hw (br_t a ⟨rfl, I0⟩)))
    · exact xe_ia0 (Or.inr ⟨a, a'⟩) (br_t rfl (br_t hw (br_f a (br_f a'' ⟨rfl, I0⟩))))
    · have v10 : vp_in (nI j) 10 := vp_in_nI (by omega) (by decide)
      refine xe_ia1 (by omega) hj (br_f sd_n10 ⟨v10, br_t hw (br_f (nI_pos (by omega)) (br_t (nI_lt hj (by omega)) ⟨v10, ?_, I0⟩))⟩)
      rw [nI_clamp (by omega)]
      exact h5 j hj
  · exact br_f hw (br_f hw ⟨rfl, I0⟩)
theorem i_vc_tokenCount {k : Nat} {u : SX} {v : SY} (I : i_Rel k u v) (hk : k + 5 ≤ 2562) (v1 : Int32) : wpX_tokenCount (fun r => wpY_tokenCount (fun r' => r' = r ∧ i_Rel (k + 5) u v) v v1) u v1 := by
  have I0 := I
  obtain ⟨ma, mc, na, nc, s, d, p, kk, i0, cp, gS, gD, gP, gK, gI, gC, w, xe, xp, xd, xq, xc, xs, xb, xt, xf, xw, xh, xl, xg, ye, yp, yd, yq, yc, yf, yt, ys, yb, yw, yl, yg, rfl, rfl, hN, hG, hV⟩ := I
  obtain ⟨n1, n2, n3, n4, n5, n6⟩ := hN
  by_cases hw : w = 1
  · obtain ⟨L, pos, sch, hd, B, T, V, _, _, _, _, _, h6, _⟩ := sd_VC_3 hV hw
    refine br_t hw ?_
    rcases sd_ix v1 (n := nc) (by omega) with a | ⟨a, a', a''⟩ | ⟨j, hj, rfl⟩
    · exact xe_ic0 (Or.inl a) (br_t rfl (br_t hw (br_t a ⟨rfl, I0⟩)))
    · exact xe_ic0 (Or.inr ⟨a, a'⟩) (br_t rfl (br_t hw (br_f a (br_f a'' ⟨rfl, I0⟩))))
    · have v24 : vp_in (nI j) 24 := vp_in_nI (by omega) (by decide)
      refine xe_ic1 (by omega) hj (br_f sd_n10 ⟨v24, br_t hw (br_f (nI_pos (by omega)) (br_t (nI_lt hj (by omega)) ⟨v24, ?_, I0⟩))⟩)
      rw [nI_clamp (by omega)]
      exact (h6 j hj).2.1.trans (h6 j hj).1.symm
  · exact br_f hw (br_f hw ⟨rfl, I0⟩)
section
variable {XA : Int32} {XM : Int32} {xn : Int32} {xm : Int32} {xv : Int32} {xe : Int32} {xp : Int32} {xd : Int32} {gS : Nat → Int32} {gD : Nat → Int32} {gP : Nat → Int32} {gK : Nat → Int32} {gI : Nat → Int32} {gC : Nat → Int32} {xq : Nat → Int64} {xc : Nat → Int32} {xs : Nat → Int32} {xb : Nat → Int32} {xt : Nat → Int32} {xf : Nat → Int32} {xw : Nat → Int32} {xh : Nat → Int32} {xl : Nat → Int32} {xg : Nat → Int32}
theorem xf_tc1 {post : Int32 → Prop} {nc j q : Nat} (hw : xv = 1) (hn : nc ≤ 24) (hj : j < nc) (hl : xl j = nI q) (K : post (nI q)) : wpX_tokenCount post (XA, XM, xn, nI nc, xv, xe, xp, xd, gS, gD, gP, gK, gI, gC, xq, xc, xs, xb, xt, xf, xw, xh, xl, xg) (nI j) :=
  br_t hw (xe_ic1 hn hj (br_f sd_n10 ⟨vp_in_nI (by omega) (by decide), by rw [nI_clamp (by omega), hl]; exact K⟩))
theorem xf_tc0 {post : Int32 → Prop} {nc : Nat} {x : Int32} (h : x < 0 ∨ (¬ x < 0 ∧ nI nc ≤ x)) (K : post (-1)) : wpX_tokenCount post (XA, XM, xn, nI nc, xv, xe, xp, xd, gS, gD, gP, gK, gI, gC, xq, xc, xs, xb, xt, xf, xw, xh, xl, xg) x :=
  br_c (fun _ => xe_ic0 h (br_t rfl K)) (fun _ => K)
theorem xf_tcn {post : Int32 → Prop} {x : Int32} (hw : ¬ xv = 1) (K : post (-1)) : wpX_tokenCount post (XA, XM, xn, xm, xv, xe, xp, xd, gS, gD, gP, gK, gI, gC, xq, xc, xs, xb, xt, xf, xw, xh, xl, xg) x := br_f hw K
end
theorem sd_m1le {x : Int32} (h : ¬ x < 0) : (-1 : Int32) ≤ x := Int32.le_trans (by decide) (Int32.not_lt.mp h)
theorem i_vc_tokenValue {k : Nat} {u : SX} {v : SY} (I : i_Rel k u v) (hk : k + 5 ≤ 2562) (v1 : Int32) (v2 : Int32) : wpX_tokenValue (fun r => wpY_tokenValue (fun r' => r' = r ∧ i_Rel (k + 5) u v) v v1 v2) u v1 v2 := by
  have I0 := I
  obtain ⟨ma, mc, na, nc, s, d, p, kk, i0, cp, gS, gD, gP, gK, gI, gC, w, xe, xp, xd, xq, xc, xs, xb, xt, xf, xw, xh, xl, xg, ye, yp, yd, yq, yc, yf, yt, ys, yb, yw, yl, yg, rfl, rfl, hN, hG, hV⟩ := I
  obtain ⟨n1, n2, n3, n4, n5, n6⟩ := hN
  by_cases hw : w = 1
  · obtain ⟨L, pos, sch, hd, B, T, V, hE, _, _, ⟨hp, _⟩, _, h6, h7, h8⟩ := sd_VC_3 hV hw
    obtain ⟨⟨_, hL⟩, _, _, hB, hS⟩ := hE
    rcases sd_ix v1 (n := nc) (by omega) with a | ⟨a, a', a''⟩ | ⟨c, hc, rfl⟩
    · by_cases h0 : v2 < 0
      · exact br_t h0 (br_t hw (br_t a ⟨rfl, I0⟩))
      · exact br_f h0 (xf_tc0 (Or.inl a) (br_t (sd_m1le h0) (br_t hw (br_t a ⟨rfl, I0⟩))))
    · by_cases h0 : v2 < 0
      · exact br_t h0 (br_t hw (br_f a (br_f a'' ⟨rfl, I0⟩)))
      · exact br_f h0 (xf_tc0 (Or.inr ⟨a, a'⟩) (br_t (sd_m1le h0) (br_t hw (br_f a (br_f a'' ⟨rfl, I0⟩)))))
    · have sa : ¬ nI c < 0 := nI_pos (by omega)
      have ta : nI c < nI nc := nI_lt hc (by omega)
      have v24 : vp_in (nI c) 24 := vp_in_nI (by omega) (by decide)
      have hcl : (nI c).toNatClampNeg = c := nI_clamp (by omega)
      obtain ⟨e1, e2, e3, e4⟩ := h6 c hc
      have hT : sd_sum (T pos) nc ≤ 512 := Nat.le_trans (sd_sum_le nc (fun j hj => hB pos (by omega) j hj)) hS
      have hat := sd_sum_at (f := T pos) hc
      have e2' : yl (nI c).toNatClampNeg = nI (T pos c) := by rw [hcl]; exact e2
      rcases sd_ix v2 (n := T pos c) (by omega) with b | ⟨b, b', b''⟩ | ⟨i, hi, rfl⟩
      · exact br_t b (br_t hw (br_f sa (br_t ta (br_t b ⟨rfl, I0⟩))))
      · refine br_f b (xf_tc1 hw (by omega) hc e1 (br_t b' (br_t hw (br_f sa (br_t ta (br_f b ⟨v24, ?_⟩))))))
        exact br_f (by rw [e2']; exact b'') ⟨rfl, I0⟩
      · have sb : ¬ nI i < 0 := nI_pos (by omega)
        have hlt := Nat.mod_lt (hd c + i) (show 0 < 512 by decide)
        refine br_f sb (xf_tc1 hw (by omega) hc e1 (br_f (nI_ge hi (by omega)) (xd_cell (by omega) e4 (by omega) ⟨vp_in_nI (by omega) (by decide), br_t hw (br_f sa (br_t ta (br_f sb ⟨v24, ?_⟩)))⟩)))
        refine br_t (by rw [e2']; exact nI_lt hi (by omega)) (yd_so (N := T pos) (by omega) (by omega) (fun x hx => (h6 x hx).2.1) (nm_r (nI_add _ _) (br_f (nI_pos (by omega)) (br_t (nI_lt (b := 512) (by omega) (by decide)) ⟨vp_in_nI (by omega) (by decide), ?_, I0⟩))))
        rw [nI_clamp (by omega), nI_clamp (by omega), h7 c hc i hi, h8 c hc i hi]
  · by_cases h0 : v2 < 0
    · exact br_t h0 (br_f hw ⟨rfl, I0⟩)
    · exact br_f h0 (xf_tcn hw (br_t (sd_m1le h0) (br_f hw ⟨rfl, I0⟩)))
