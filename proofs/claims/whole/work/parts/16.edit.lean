/-! the constructors, the edits, the getters -/
theorem sd_ix (x : Int32) {n : Nat} (hn : n < 2 ^ 31) : x < 0 ∨ (¬ x < 0 ∧ nI n ≤ x ∧ ¬ x < nI n) ∨ ∃ j : Nat, j < n ∧ x = nI j := by
  by_cases h : x < 0
  · exact Or.inl h
  · obtain ⟨j, hj, rfl⟩ := nI_of h
    by_cases h2 : j < n
    · exact Or.inr (Or.inr ⟨j, h2, rfl⟩)
    · exact Or.inr (Or.inl ⟨h, nI_le (by omega) hj, nI_nlt (by omega) hj⟩)
theorem sd_rt (x : Int32) : x < 1 ∨ (¬ x < 1 ∧ 8 < x ∧ ¬ x ≤ 8) ∨ ∃ q : Nat, 0 < q ∧ q ≤ 8 ∧ x = nI q := by
  by_cases h : x < 1
  · exact Or.inl h
  · have h0 : ¬ x < 0 := fun z => h (Int32.lt_trans z (by decide))
    obtain ⟨j, hj, rfl⟩ := nI_of h0
    have h1 : 0 < j := by
      apply Nat.pos_of_ne_zero
      intro e
      subst e
      exact h (by decide)
    by_cases h2 : j ≤ 8
    · exact Or.inr (Or.inr ⟨j, h1, h2, rfl⟩)
    · exact Or.inr (Or.inl ⟨h, nI_lt (a := 8) (by omega) hj, nI_ge (a := 8) (by omega) hj⟩)
/-- a value within 0 .. M -/
theorem sd_rg (x : Int32) {M : Nat} (hM : M < 2 ^ 31) : x < 0 ∨ (¬ x < 0 ∧ ¬ x ≤ nI M) ∨ ∃ q : Nat, q ≤ M ∧ x = nI q := by
  by_cases h : x < 0
  · exact Or.inl h
  · obtain ⟨j, hj, rfl⟩ := nI_of h
    by_cases h2 : j ≤ M
    · exact Or.inr (Or.inr ⟨j, h2, rfl⟩)
    · exact Or.inr (Or.inl ⟨h, nI_ge (by omega) hj⟩)
def sd_cp (x : Int32) (lo hi m : Nat) : Prop := (¬ nI lo ≤ x ∧ m = lo) ∨ (nI lo ≤ x ∧ ¬ x ≤ nI hi ∧ m = hi) ∨ (nI lo ≤ x ∧ x ≤ nI hi ∧ x = nI m)
theorem sd_cp_ex (x : Int32) {lo hi : Nat} (h : lo ≤ hi) (hb : hi < 2 ^ 31) : ∃ m, sd_cp x lo hi m ∧ lo ≤ m ∧ m ≤ hi := by
  by_cases h1 : nI lo ≤ x
  · by_cases h2 : x ≤ nI hi
    · have h0 : ¬ x < 0 := fun z => Int32.not_le.mpr z (Int32.le_trans (nI_pos' (by omega)) h1)
      obtain ⟨j, hj, rfl⟩ := nI_of h0
      rw [nI_leI (by omega) hj] at h1
      rw [nI_leI hj hb] at h2
      exact ⟨j, Or.inr (Or.inr ⟨(nI_leI (by omega) hj).mpr h1, (nI_leI hj hb).mpr h2, rfl⟩), h1, h2⟩
    · exact ⟨hi, Or.inr (Or.inl ⟨h1, h2, rfl⟩), h, Nat.le_refl _⟩
  · exact ⟨lo, Or.inl ⟨h1, rfl⟩, Nat.le_refl _, h⟩
theorem xe_cl {post : Int32 → Prop} {x : Int32} {lo hi m : Nat} (h : sd_cp x lo hi m) (K : post (nI m)) : wpX_clamp post x (nI lo) (nI hi) := by
  rcases h with ⟨h1, rfl⟩ | ⟨h1, h2, rfl⟩ | ⟨h1, h2, rfl⟩
  · exact br_f h1 K
  · exact br_t h1 (br_f h2 K)
  · exact br_t h1 (br_t h2 K)
theorem sd_mk {k0 ma mc na nc : Nat} {s d p k i0 cp : Nat → Nat} {gS gD gP gK gI gC : Nat → Int32} {w xe xp xd : Int32} {xq : Nat → Int64} {xc xs xb xt xf xw xh xl xg : Nat → Int32} {ye yp yd : Int32} {yq : Nat → Int64} {yc yf yt ys yb yw yl yg : Nat → Int32}
    (hN : sd_Nm ma mc na nc) (hG : sd_Gr na nc s d p k i0 cp gS gD gP gK gI gC) (hV : sd_VC na nc s d p k i0 w xe xp xd xq xs xb xw xh xl xg ye yp yd yq ys yb yw yl yg) :
    i_Rel k0 (nI ma, nI mc, nI na, nI nc, w, xe, xp, xd, gS, gD, gP, gK, gI, gC, xq, xc, xs, xb, xt, xf, xw, xh, xl, xg) (nI ma, nI mc, nI na, nI nc, w, ye, yp, yd, gS, gD, gP, gK, gI, gC, yq, yc, yf, yt, ys, yb, yw, yl, yg) :=
  ⟨ma, mc, na, nc, s, d, p, k, i0, cp, gS, gD, gP, gK, gI, gC, w, xe, xp, xd, xq, xc, xs, xb, xt, xf, xw, xh, xl, xg, ye, yp, yd, yq, yc, yf, yt, ys, yb, yw, yl, yg, rfl, rfl, hN, hG, hV⟩
theorem i_up {k : Nat} {u : SX} {v : SY} (h : i_Rel k u v) : i_Rel (k + 5) u v := h
theorem ye_148 {post : SY → Prop} {x : Int32} {ma mc : Nat} (h : sd_cp x 1 24 mc) (K : post (nI ma, nI mc, 0, 0, 0, 0, 0, 0, fun _ => 0, fun _ => 0, fun _ => 0, fun _ => 0, fun _ => 0, fun _ => 0, fun _ => 0, fun _ => 0, fun _ => 0, fun _ => 0, fun _ => 0, fun _ => 0, fun _ => 0, fun _ => 0, fun _ => 0)) :
    wY_init_148 post x (nI ma) 0 0 0 0 0 0 0 0 (fun _ => 0) (fun _ => 0) (fun _ => 0) (fun _ => 0) (fun _ => 0) (fun _ => 0) (fun _ => 0) (fun _ => 0) (fun _ => 0) (fun _ => 0) (fun _ => 0) (fun _ => 0) (fun _ => 0) (fun _ => 0) (fun _ => 0) := by
  rcases h with ⟨h1, rfl⟩ | ⟨h1, h2, rfl⟩ | ⟨h1, h2, rfl⟩
  · exact br_f h1 K
  · exact br_t h1 (br_f h2 K)
  · exact br_t h1 (br_t h2 K)
theorem ye_init {post : SY → Prop} {x y : Int32} {ma mc : Nat} (h : sd_cp x 2 10 ma) (h' : sd_cp y 1 24 mc) (K : post (nI ma, nI mc, 0, 0, 0, 0, 0, 0, fun _ => 0, fun _ => 0, fun _ => 0, fun _ => 0, fun _ => 0, fun _ => 0, fun _ => 0, fun _ => 0, fun _ => 0, fun _ => 0, fun _ => 0, fun _ => 0, fun _ => 0, fun _ => 0, fun _ => 0)) : wpY_init post x y := by
  have K2 := ye_148 h' K
  rcases h with ⟨h1, rfl⟩ | ⟨h1, h2, rfl⟩ | ⟨h1, h2, rfl⟩
  · exact br_f h1 K2
  · exact br_t h1 (br_f h2 K2)
  · exact br_t h1 (br_t h2 K2)
theorem i_vc0 (k0 : Int32) (k1 : Int32) : wpX_init (fun u => wpY_init (fun v => i_Rel 2 u v) k0 k1) k0 k1 := by
  obtain ⟨ma, h1, h2, h3⟩ := sd_cp_ex k0 (lo := 2) (hi := 10) (by decide) (by decide)
  obtain ⟨mc, h4, h5, h6⟩ := sd_cp_ex k1 (lo := 1) (hi := 24) (by decide) (by decide)
  refine xe_cl h1 (xe_cl h4 (ye_init h1 h4 ?_))
  exact sd_mk (na := 0) (nc := 0) (s := fun _ => 0) (d := fun _ => 0) (p := fun _ => 0) (k := fun _ => 0) (i0 := fun _ => 0) (cp := fun _ => 0) ⟨h2, h3, h5, h6, Nat.zero_le _, Nat.zero_le _⟩ (fun c hc => absurd hc (Nat.not_lt_zero c)) (Or.inl rfl)
theorem i_vc_clear {k : Nat} {u : SX} {v : SY} (I : i_Rel k u v) (hk : k + 5 ≤ 2562) : wpX_clear (fun u' => wpY_clear (fun v' => i_Rel (k + 5) u' v') v) u := by
  have I0 := I
  obtain ⟨ma, mc, na, nc, s, d, p, kk, i0, cp, gS, gD, gP, gK, gI, gC, w, xe, xp, xd, xq, xc, xs, xb, xt, xf, xw, xh, xl, xg, ye, yp, yd, yq, yc, yf, yt, ys, yb, yw, yl, yg, rfl, rfl, hN, hG, hV⟩ := I
  obtain ⟨n1, n2, n3, n4, n5, n6⟩ := hN
  exact sd_mk (k0 := k + 5) (na := 0) (nc := 0) (s := s) (d := d) (p := p) (k := kk) (i0 := i0) (cp := cp) ⟨n1, n2, n3, n4, Nat.zero_le _, Nat.zero_le _⟩ (fun c hc => absurd hc (Nat.not_lt_zero c)) (Or.inl rfl)
theorem sd_Gr_up {na nc : Nat} {s d p k i0 cp : Nat → Nat} {gS gD gP gK gI gC : Nat → Int32} (h : sd_Gr na nc s d p k i0 cp gS gD gP gK gI gC) : sd_Gr (na + 1) nc s d p k i0 cp gS gD gP gK gI gC := fun c hc => by
  obtain ⟨h1, ⟨g1, g2, g3⟩, h3⟩ := h c hc
  exact ⟨h1, ⟨by omega, by omega, g3⟩, h3⟩
theorem i_vc_addActor {k : Nat} {u : SX} {v : SY} (I : i_Rel k u v) (hk : k + 5 ≤ 2562) : wpX_addActor (fun r u' => wpY_addActor (fun r' v' => r' = r ∧ i_Rel (k + 5) u' v') v) u := by
  have I0 := I
  obtain ⟨ma, mc, na, nc, s, d, p, kk, i0, cp, gS, gD, gP, gK, gI, gC, w, xe, xp, xd, xq, xc, xs, xb, xt, xf, xw, xh, xl, xg, ye, yp, yd, yq, yc, yf, yt, ys, yb, yw, yl, yg, rfl, rfl, hN, hG, hV⟩ := I
  obtain ⟨n1, n2, n3, n4, n5, n6⟩ := hN
  refine pk_lt na ma (fun h => nm_r (nI_1 na) (br_t (nI_lt h (by omega)) (nm_r (nI_1 na) ⟨nI_pred na, ?_⟩))) (fun h => br_f (nI_nlt h (by omega)) ⟨rfl, I0⟩)
  exact sd_mk ⟨n1, n2, n3, n4, h, n6⟩ (sd_Gr_up hG) (Or.inl rfl)
section
variable {XA : Int32} {XM : Int32} {xn : Int32} {xm : Int32} {xv : Int32} {xe : Int32} {xp : Int32} {xd : Int32} {gS : Nat → Int32} {gD : Nat → Int32} {gP : Nat → Int32} {gK : Nat → Int32} {gI : Nat → Int32} {gC : Nat → Int32} {xq : Nat → Int64} {xc : Nat → Int32} {xs : Nat → Int32} {xb : Nat → Int32} {xt : Nat → Int32} {xf : Nat → Int32} {xw : Nat → Int32} {xh : Nat → Int32} {xl : Nat → Int32} {xg : Nat → Int32}
theorem xe_ia1 {post : Int32 → Prop} {na j : Nat} (hn : na ≤ 10) (h : j < na) (K : post 1) : wpX_isActor post (XA, XM, nI na, xm, xv, xe, xp, xd, gS, gD, gP, gK, gI, gC, xq, xc, xs, xb, xt, xf, xw, xh, xl, xg) (nI j) := br_f (nI_pos (by omega)) (br_f (nI_ge h (by omega)) K)
theorem xe_ia0 {post : Int32 → Prop} {na : Nat} {x : Int32} (h : x < 0 ∨ (¬ x < 0 ∧ nI na ≤ x)) (K : post 0) : wpX_isActor post (XA, XM, nI na, xm, xv, xe, xp, xd, gS, gD, gP, gK, gI, gC, xq, xc, xs, xb, xt, xf, xw, xh, xl, xg) x := by
  rcases h with h | ⟨h1, h2⟩
  · exact br_t h K
  · exact br_f h1 (br_t h2 K)
theorem xe_ic1 {post : Int32 → Prop} {nc j : Nat} (hn : nc ≤ 24) (h : j < nc) (K : post 1) : wpX_isChannel post (XA, XM, xn, nI nc, xv, xe, xp, xd, gS, gD, gP, gK, gI, gC, xq, xc, xs, xb, xt, xf, xw, xh, xl, xg) (nI j) := br_f (nI_pos (by omega)) (br_f (nI_ge h (by omega)) K)
theorem xe_ic0 {post : Int32 → Prop} {nc : Nat} {x : Int32} (h : x < 0 ∨ (¬ x < 0 ∧ nI nc ≤ x)) (K : post 0) : wpX_isChannel post (XA, XM, xn, nI nc, xv, xe, xp, xd, gS, gD, gP, gK, gI, gC, xq, xc, xs, xb, xt, xf, xw, xh, xl, xg) x := by
  rcases h with h | ⟨h1, h2⟩
  · exact br_t h K
  · exact br_f h1 (br_t h2 K)
end
theorem xe_ir1 {post : Int32 → Prop} {q : Nat} (h0 : 0 < q) (h8 : q ≤ 8) (K : post 1) : wpX_isRate post (nI q) := br_f (nI_nlt (b := 1) h0 (by omega)) (br_f (nI_nlt (a := 8) h8 (by omega)) K)
theorem xe_ir0 {post : Int32 → Prop} {x : Int32} (h : x < 1 ∨ (¬ x < 1 ∧ 8 < x)) (K : post 0) : wpX_isRate post x := by
  rcases h with h | ⟨h1, h2⟩
  · exact br_t h K
  · exact br_f h1 (br_t h2 K)
theorem sd_Gr_add {na nc a b q r : Nat} {s d p k i0 cp : Nat → Nat} {gS gD gP gK gI gC : Nat → Int32} (h : sd_Gr na nc s d p k i0 cp gS gD gP gK gI gC) (ha : a < na) (hb : b < na) (hq : 0 < q) (hq8 : q ≤ 8) (hr : 0 < r) (hr8 : r ≤ 8) :
    sd_Gr na (nc + 1) (sd_uN s nc a) (sd_uN d nc b) (sd_uN p nc q) (sd_uN k nc r) (sd_uN i0 nc 0) (sd_uN cp nc 0) (upd gS nc (nI a)) (upd gD nc (nI b)) (upd gP nc (nI q)) (upd gK nc (nI r)) (upd gI nc 0) (upd gC nc 0) := fun c hc => by
  by_cases e : c = nc
  · subst e
    simp only [pk_us, sd_uN_s]
    exact ⟨⟨by first | rfl | trivial, by first | rfl | trivial, by first | rfl | trivial, by first | rfl | trivial, by first | rfl | trivial, by first | rfl | trivial⟩, ⟨ha, hb, hq, hq8, hr, hr8⟩, by omega, by omega⟩
  · simp only [pk_un e, sd_uN_o e]
    exact h c (by omega)
theorem i_vc_addChannel {k : Nat} {u : SX} {v : SY} (I : i_Rel k u v) (hk : k + 5 ≤ 2562) (v1 : Int32) (v2 : Int32) (v3 : Int32) (v4 : Int32) : wpX_addChannel (fun r u' => wpY_addChannel (fun r' v' => r' = r ∧ i_Rel (k + 5) u' v') v v1 v2 v3 v4) u v1 v2 v3 v4 := by
  have I0 := I
  obtain ⟨ma, mc, na, nc, s, d, p, kk, i0, cp, gS, gD, gP, gK, gI, gC, w, xe, xp, xd, xq, xc, xs, xb, xt, xf, xw, xh, xl, xg, ye, yp, yd, yq, yc, yf, yt, ys, yb, yw, yl, yg, rfl, rfl, hN, hG, hV⟩ := I
  obtain ⟨n1, n2, n3, n4, n5, n6⟩ := hN
  refine pk_le mc nc (fun h => br_f (nI_nlt h (by omega)) ⟨rfl, I0⟩) (fun h => ?_)
  have hlt : nI nc < nI mc := nI_lt h (by omega)
  rcases sd_ix v1 (n := na) (by omega) with a | ⟨a, a', a''⟩ | ⟨ja, hja, rfl⟩
  · exact xe_ia0 (Or.inl a) (br_t rfl (br_t hlt (br_t a ⟨rfl, I0⟩)))
  · exact xe_ia0 (Or.inr ⟨a, a'⟩) (br_t rfl (br_t hlt (br_f a (br_f a'' ⟨rfl, I0⟩))))
  have sa : ¬ nI ja < 0 := nI_pos (by omega)
  have ta : nI ja < nI na := nI_lt hja (by omega)
  refine xe_ia1 (by omega) hja (br_f sd_n10 ?_)
  rcases sd_ix v2 (n := na) (by omega) with a | ⟨a, a', a''⟩ | ⟨jb, hjb, rfl⟩
  · exact xe_ia0 (Or.inl a) (br_t rfl (br_t hlt (br_f sa (br_t ta (br_t a ⟨rfl, I0⟩)))))
  · exact xe_ia0 (Or.inr ⟨a, a'⟩) (br_t rfl (br_t hlt (br_f sa (br_t ta (br_f a (br_f a'' ⟨rfl, I0⟩))))))
  have sb : ¬ nI jb < 0 := nI_pos (by omega)
  have tb : nI jb < nI na := nI_lt hjb (by omega)
  refine xe_ia1 (by omega) hjb (br_f sd_n10 ?_)
  rcases sd_rt v3 with a | ⟨a, a', a''⟩ | ⟨q, hq, hq8, rfl⟩
  · exact xe_ir0 (Or.inl a) (br_t rfl (br_t hlt (br_f sa (br_t ta (br_f sb (br_t tb (br_t a ⟨rfl, I0⟩)))))))
  · exact xe_ir0 (Or.inr ⟨a, a'⟩) (br_t rfl (br_t hlt (br_f sa (br_t ta (br_f sb (br_t tb (br_f a (br_f a'' ⟨rfl, I0⟩))))))))
  have sc : ¬ nI q < 1 := nI_nlt (b := 1) hq (by omega)
  have tc : nI q ≤ 8 := nI_le (b := 8) hq8 (by decide)
  refine xe_ir1 hq hq8 (br_f sd_n10 ?_)
  rcases sd_rt v4 with a | ⟨a, a', a''⟩ | ⟨r, hr, hr8, rfl⟩
  · exact xe_ir0 (Or.inl a) (br_t rfl (br_t hlt (br_f sa (br_t ta (br_f sb (br_t tb (br_f sc (br_t tc (br_t a ⟨rfl, I0⟩)))))))))
  · exact xe_ir0 (Or.inr ⟨a, a'⟩) (br_t rfl (br_t hlt (br_f sa (br_t ta (br_f sb (br_t tb (br_f sc (br_t tc (br_f a (br_f a'' ⟨rfl, I0⟩))))))))))
  have sd : ¬ nI r < 1 := nI_nlt (b := 1) hr (by omega)
  have td : nI r ≤ 8 := nI_le (b := 8) hr8 (by decide)
  have hcl : (nI nc).toNatClampNeg = nc := nI_clamp (by omega)
  have v24 : vp_in (nI nc) 24 := vp_in_nI (by omega) (by decide)
  refine xe_ir1 hr hr8 (br_f sd_n10 ⟨v24, nm_r (e' := upd gS nc (nI ja)) (by rw [hcl]) ⟨v24, nm_r (e' := upd gD nc (nI jb)) (by rw [hcl]) ⟨v24, nm_r (e' := upd gP nc (nI q)) (by rw [hcl]) ⟨v24, nm_r (e' := upd gK nc (nI r)) (by rw [hcl]) ⟨v24, nm_r (e' := upd gI nc 0) (by rw [hcl]) ⟨v24, nm_r (e' := upd gC nc 0) (by rw [hcl]) (nm_r (nI_1 nc) ?_)⟩⟩⟩⟩⟩⟩)
  refine br_t hlt (br_f sa (br_t ta (br_f sb (br_t tb (br_f sc (br_t tc (br_f sd (br_t td ⟨v24, nm_r (e' := upd gS nc (nI ja)) (by rw [hcl]) ⟨v24, nm_r (e' := upd gD nc (nI jb)) (by rw [hcl]) ⟨v24, nm_r (e' := upd gP nc (nI q)) (by rw [hcl]) ⟨v24, nm_r (e' := upd gK nc (nI r)) (by rw [hcl]) ⟨v24, nm_r (e' := upd gI nc 0) (by rw [hcl]) ⟨v24, nm_r (e' := upd gC nc 0) (by rw [hcl]) (nm_r (nI_1 nc) ⟨nI_pred nc, ?_⟩)⟩⟩⟩⟩⟩⟩))))))))
  exact sd_mk ⟨n1, n2, n3, n4, n5, h⟩ (sd_Gr_add hG hja hjb hq hq8 hr hr8) (Or.inl rfl)
