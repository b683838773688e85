/-! setTokens, setCapacity -/
theorem sd_Gr_i {na nc c q : Nat} {s d p k i0 cp : Nat → Nat} {gS gD gP gK gI gC : Nat → Int32} (h : sd_Gr na nc s d p k i0 cp gS gD gP gK gI gC) (hq : q ≤ 32) : sd_Gr na nc s d p k (sd_uN i0 c q) cp gS gD gP gK (upd gI c (nI q)) gC := fun x hx => by
  obtain ⟨⟨a1, a2, a3, a4, a5, a6⟩, b, b1, b2⟩ := h x hx
  by_cases e : x = c
  · subst e
    rw [pk_us, sd_uN_s]
    exact ⟨⟨a1, a2, a3, a4, rfl, a6⟩, b, hq, b2⟩
  · rw [pk_un e, sd_uN_o e]
    exact ⟨⟨a1, a2, a3, a4, a5, a6⟩, b, b1, b2⟩
theorem sd_Gr_c {na nc c q : Nat} {s d p k i0 cp : Nat → Nat} {gS gD gP gK gI gC : Nat → Int32} (h : sd_Gr na nc s d p k i0 cp gS gD gP gK gI gC) (hq : q ≤ 64) : sd_Gr na nc s d p k i0 (sd_uN cp c q) gS gD gP gK gI (upd gC c (nI q)) := fun x hx => by
  obtain ⟨⟨a1, a2, a3, a4, a5, a6⟩, b, b1, b2⟩ := h x hx
  by_cases e : x = c
  · subst e
    rw [pk_us, sd_uN_s]
    exact ⟨⟨a1, a2, a3, a4, a5, rfl⟩, b, b1, hq⟩
  · rw [pk_un e, sd_uN_o e]
    exact ⟨⟨a1, a2, a3, a4, a5, a6⟩, b, b1, b2⟩
theorem i_vc_setTokens {k : Nat} {u : SX} {v : SY} (I : i_Rel k u v) (hk : k + 5 ≤ 2562) (v1 : Int32) (v2 : Int32) : wpX_setTokens (fun r u' => wpY_setTokens (fun r' v' => r' = r ∧ i_Rel (k + 5) u' v') v v1 v2) u v1 v2 := by
  have I0 := I
  obtain ⟨ma, mc, na, nc, s, d, p, kk, i0, cp, gS, gD, gP, gK, gI, gC, w, xe, xp, xd, xq, xc, xs, xb, xt, xf, xw, xh, xl, xg, ye, yp, yd, yq, yc, yf, yt, ys, yb, yw, yl, yg, rfl, rfl, hN, hG, hV⟩ := I
  obtain ⟨n1, n2, n3, n4, n5, n6⟩ := hN
  unfold wpX_setTokens
  dsimp only
  rcases sd_ix v1 (n := nc) (by omega) with a | ⟨a, a', a''⟩ | ⟨c, hc, rfl⟩
  · exact xe_ic0 (Or.inl a) (br_t rfl (br_t a ⟨rfl, I0⟩))
  · exact xe_ic0 (Or.inr ⟨a, a'⟩) (br_t rfl (br_f a (br_f a'' ⟨rfl, I0⟩)))
  have sa : ¬ nI c < 0 := nI_pos (by omega)
  have ta : nI c < nI nc := nI_lt hc (by omega)
  refine xe_ic1 (by omega) hc (br_f sd_n10 ?_)
  rcases sd_rg v2 (M := 32) (by decide) with a | ⟨a, a'⟩ | ⟨q, hq, rfl⟩
  · exact br_t a (br_f sa (br_t ta (br_t a ⟨rfl, I0⟩)))
  · exact br_f a (br_f a' (br_f sa (br_t ta (br_f a (br_f a' ⟨rfl, I0⟩)))))
  have sb : ¬ nI q < 0 := nI_pos (by omega)
  have tb : nI q ≤ 32 := nI_le (b := 32) hq (by decide)
  have hcl : (nI c).toNatClampNeg = c := nI_clamp (by omega)
  have v24 : vp_in (nI c) 24 := vp_in_nI (by omega) (by decide)
  obtain ⟨⟨_, _, _, _, _, eC⟩, _, _, g8⟩ := hG c hc
  have eC' : gC (nI c).toNatClampNeg = nI (cp c) := by rw [hcl]; exact eC
  have z0 : gC (nI c).toNatClampNeg = 0 ↔ cp c = 0 := by rw [eC', sd_eq0 (by omega)]
  have z1 : nI q ≤ gC (nI c).toNatClampNeg ↔ q ≤ cp c := by rw [eC', nI_leI (by omega) (by omega)]
  have KK := sd_mk (k0 := k + 5) (w := 0) (xe := xe) (xp := xp) (xd := xd) (xq := xq) (xc := xc) (xs := xs) (xb := xb) (xt := xt) (xf := xf) (xw := xw) (xh := xh) (xl := xl) (xg := xg) (ye := ye) (yp := yp) (yd := yd) (yq := yq) (yc := yc) (yf := yf) (yt := yt) (ys := ys) (yb := yb) (yw := yw) (yl := yl) (yg := yg) ⟨n1, n2, n3, n4, n5, n6⟩ (sd_Gr_i (c := c) hG hq) (Or.inl rfl)
  refine br_f sb (br_t tb ⟨v24, ?_⟩)
  by_cases h0 : cp c = 0
  · exact br_t (z0.mpr h0) ⟨v24, nm_r (e' := upd gI c (nI q)) (by rw [hcl]) (br_f sa (br_t ta (br_f sb (br_t tb ⟨v24, br_t (z0.mpr h0) ⟨v24, nm_r (e' := upd gI c (nI q)) (by rw [hcl]) ⟨rfl, KK⟩⟩⟩))))⟩
  · have nz : ¬ gC (nI c).toNatClampNeg = 0 := fun e => h0 (z0.mp e)
    refine br_f nz ⟨v24, ?_⟩
    by_cases h1 : q ≤ cp c
    · exact br_t (z1.mpr h1) ⟨v24, nm_r (e' := upd gI c (nI q)) (by rw [hcl]) (br_f sa (br_t ta (br_f sb (br_t tb ⟨v24, br_f nz ⟨v24, br_t (z1.mpr h1) ⟨v24, nm_r (e' := upd gI c (nI q)) (by rw [hcl]) ⟨rfl, KK⟩⟩⟩⟩))))⟩
    · have nz1 : ¬ nI q ≤ gC (nI c).toNatClampNeg := fun e => h1 (z1.mp e)
      exact br_f nz1 (br_f sa (br_t ta (br_f sb (br_t tb ⟨v24, br_f nz ⟨v24, br_f nz1 ⟨rfl, I0⟩⟩⟩))))
theorem i_vc_setCapacity {k : Nat} {u : SX} {v : SY} (I : i_Rel k u v) (hk : k + 5 ≤ 2562) (v1 : Int32) (v2 : Int32) : wpX_setCapacity (fun r u' => wpY_setCapacity (fun r' v' => r' = r ∧ i_Rel (k + 5) u' v') v v1 v2) u v1 v2 := by
  have I0 := I
  obtain ⟨ma, mc, na, nc, s, d, p, kk, i0, cp, gS, gD, gP, gK, gI, gC, w, xe, xp, xd, xq, xc, xs, xb, xt, xf, xw, xh, xl, xg, ye, yp, yd, yq, yc, yf, yt, ys, yb, yw, yl, yg, rfl, rfl, hN, hG, hV⟩ := I
  obtain ⟨n1, n2, n3, n4, n5, n6⟩ := hN
  unfold wpX_setCapacity
  dsimp only
  rcases sd_ix v1 (n := nc) (by omega) with a | ⟨a, a', a''⟩ | ⟨c, hc, rfl⟩
  · exact xe_ic0 (Or.inl a) (br_t rfl (br_t a ⟨rfl, I0⟩))
  · exact xe_ic0 (Or.inr ⟨a, a'⟩) (br_t rfl (br_f a (br_f a'' ⟨rfl, I0⟩)))
  have sa : ¬ nI c < 0 := nI_pos (by omega)
  have ta : nI c < nI nc := nI_lt hc (by omega)
  refine xe_ic1 (by omega) hc (br_f sd_n10 ?_)
  rcases sd_rg v2 (M := 64) (by decide) with a | ⟨a, a'⟩ | ⟨q, hq, rfl⟩
  · exact br_t a (br_f sa (br_t ta (br_t a ⟨rfl, I0⟩)))
  · exact br_f a (br_f a' (br_f sa (br_t ta (br_f a (br_f a' ⟨rfl, I0⟩)))))
  have sb : ¬ nI q < 0 := nI_pos (by omega)
  have tb : nI q ≤ 64 := nI_le (b := 64) hq (by decide)
  have hcl : (nI c).toNatClampNeg = c := nI_clamp (by omega)
  have v24 : vp_in (nI c) 24 := vp_in_nI (by omega) (by decide)
  obtain ⟨⟨_, _, _, _, eI, _⟩, _, g7, _⟩ := hG c hc
  have eI' : gI (nI c).toNatClampNeg = nI (i0 c) := by rw [hcl]; exact eI
  have z0 : nI q = 0 ↔ q = 0 := sd_eq0 (by omega)
  have z1 : gI (nI c).toNatClampNeg ≤ nI q ↔ i0 c ≤ q := by rw [eI', nI_leI (by omega) (by omega)]
  have KK := sd_mk (k0 := k + 5) (w := 0) (xe := xe) (xp := xp) (xd := xd) (xq := xq) (xc := xc) (xs := xs) (xb := xb) (xt := xt) (xf := xf) (xw := xw) (xh := xh) (xl := xl) (xg := xg) (ye := ye) (yp := yp) (yd := yd) (yq := yq) (yc := yc) (yf := yf) (yt := yt) (ys := ys) (yb := yb) (yw := yw) (yl := yl) (yg := yg) ⟨n1, n2, n3, n4, n5, n6⟩ (sd_Gr_c (c := c) hG hq) (Or.inl rfl)
  refine br_f sb (br_t tb ?_)
  by_cases h0 : q = 0
  · exact br_t (z0.mpr h0) ⟨v24, nm_r (e' := upd gC c (nI q)) (by rw [hcl]) (br_f sa (br_t ta (br_f sb (br_t tb (br_t (z0.mpr h0) ⟨v24, nm_r (e' := upd gC c (nI q)) (by rw [hcl]) ⟨rfl, KK⟩⟩)))))⟩
  · have nz : ¬ nI q = 0 := fun e => h0 (z0.mp e)
    refine br_f nz ⟨v24, ?_⟩
    by_cases h1 : i0 c ≤ q
    · exact br_t (z1.mpr h1) ⟨v24, nm_r (e' := upd gC c (nI q)) (by rw [hcl]) (br_f sa (br_t ta (br_f sb (br_t tb (br_f nz ⟨v24, br_t (z1.mpr h1) ⟨v24, nm_r (e' := upd gC c (nI q)) (by rw [hcl]) ⟨rfl, KK⟩⟩⟩)))))⟩
    · have nz1 : ¬ gI (nI c).toNatClampNeg ≤ nI q := fun e => h1 (z1.mp e)
      exact br_f nz1 (br_f sa (br_t ta (br_f sb (br_t tb (br_f nz ⟨v24, br_f nz1 ⟨rfl, I0⟩⟩)))))
