/-! analyze -/
theorem sd_w2 : ¬ (2 : Int32) = 1 := by decide
theorem sd_w3 : ¬ (3 : Int32) = 1 := by decide
theorem sd_w4 : ¬ (4 : Int32) = 1 := by decide
theorem sd_w5 : ¬ (5 : Int32) = 1 := by decide
theorem sd_w6 : ¬ (6 : Int32) = 1 := by decide
theorem sd_V1_of {na : Nat} {Q : Nat → Nat} {xq yq : Nat → Int64} (h1 : sd_AL na Q xq) (h2 : sd_AL na Q yq) : sd_V1 na xq yq := fun j hj => (h2 j hj).trans (h1 j hj).symm
theorem sd_V2_of {nc L : Nat} {f B : Nat → Nat} {xs ys xb yb : Nat → Int32} (hL : L ≤ 256) (h1 : ∀ j, j < L → xs j = nI (f j)) (h2 : ∀ j, j < L → ys j = nI (f j)) (h3 : sd_Ar nc B xb) (h4 : sd_Ar nc B yb) : sd_V2 nc (nI L) (nI L) xs ys xb yb :=
  ⟨L, hL, rfl, rfl, fun i hi => (h2 i hi).trans (h1 i hi).symm, fun c hc => (h4 c hc).trans (h3 c hc).symm⟩
theorem sd_V3_of {na nc L : Nat} {s d p k i0 B sch : Nat → Nat} {T : Nat → Nat → Nat} {xs xw xh xl xg ys yw yl yg : Nat → Int32} (hE : sd_Ex na nc s d p k i0 B L sch T) (hT : T 0 = i0) (h1 : ∀ j, j < L → xs j = nI (sch j)) (h2 : ∀ j, j < L → ys j = nI (sch j)) (hl : sd_HL nc i0 (fun _ => 0) xh xl) (hx : sd_XS nc i0 (fun _ => 0) (fun _ _ => 0) xw) (hg : ∀ j, j < na → xg j = 0) (hw : ∀ j, j < 512 → yw j = 0) (hyl : sd_Ar nc i0 yl) (hyg : ∀ j, j < na → yg j = 0) :
    sd_V3 na nc s d p k i0 (nI L) 0 0 xs xw xh xl xg (nI L) 0 0 ys yw yl yg := by
  refine ⟨L, 0, sch, (fun _ => 0), B, T, (fun _ _ => 0), hE, ⟨rfl, rfl⟩, fun i hi => ⟨h1 i hi, h2 i hi⟩, ⟨hE.1.1, rfl, rfl, rfl⟩, fun j hj => (hyg j hj).trans (hg j hj).symm, fun c hc => ?_, ?_, fun c hc i hi => ?_⟩
  · rw [hT]
    exact ⟨(hl c hc).1, hyl c hc, (hl c hc).2.1, (hl c hc).2.2⟩
  · rw [hT]
    exact hx
  · rw [hT] at hi ⊢
    have h3 := sd_sum_at (f := i0) hc
    have h4 : sd_sum i0 nc ≤ sd_sum B nc := sd_sum_le nc (fun j hj => by
      have := hE.2.2.2.1 0 (Nat.zero_le _) j hj
      rw [hT] at this
      exact this)
    have h5 := hE.2.2.2.2
    exact hw _ (by omega)
theorem i_vc_analyze {k : Nat} {u : SX} {v : SY} (I : i_Rel k u v) (hk : k + 5 ≤ 2562) : wpX_analyze (fun r u' => wpY_analyze (fun r' v' => r' = r ∧ i_Rel (k + 5) u' v') v) u := by
  have I0 := I
  obtain ⟨ma, mc, na, nc, s, d, p, kk, i0, cp, gS, gD, gP, gK, gI, gC, w, xe, xp, xd, xq, xc, xs, xb, xt, xf, xw, xh, xl, xg, ye, yp, yd, yq, yc, yf, yt, ys, yb, yw, yl, yg, rfl, rfl, hN, hG, hV⟩ := I
  obtain ⟨n1, n2, n3, n4, n5, n6⟩ := hN
  have hna : na ≤ 10 := by omega
  have hnc : nc ≤ 24 := by omega
  have G := sd_Gr_G hG
  have hQ : ∀ j, j < na → sd_Q na nc s d p kk j ≤ 134217728 := fun j hj => (sd_Q_bd G hna hj).2
  obtain ⟨L, hL, hg, hn⟩ := sd_len (cp := cp) (Q := sd_Q na nc s d p kk) G (sd_Gr_32 hG)
  have nm : sd_Nm ma mc na nc := ⟨n1, n2, n3, n4, n5, n6⟩
  have I' := sd_I_sim (cp := cp) (Q := sd_Q na nc s d p kk) G (sd_Gr_32 hG) L hg
  unfold wpX_analyze
  refine xa_fr hna hnc hG (fun xq' xc' hq => ?_)
  refine xb_jr hna hnc hG hQ hq (fun h0 => ?_) (fun h0 hb => ?_) (fun h0 hb h4 => ?_) (fun h0 hb h1 => ?_)
  · refine br_f sd_w2 (br_f sd_w2 ?_)
    subst h0
    exact br_t rfl ⟨rfl, sd_mk nm hG (Or.inr (Or.inl rfl))⟩
  · refine br_f sd_w3 (br_f sd_w3 ?_)
    exact yc_an h0 hna hnc hG hL hg hn (fun _ yq' yc' => ⟨rfl, sd_mk nm hG (Or.inr (Or.inr (Or.inl rfl)))⟩) (fun h => absurd h hb) (fun h => absurd h hb) (fun h => absurd h hb) (fun h => absurd h hb)
  · refine br_f sd_w4 (br_f sd_w4 ?_)
    exact yc_an h0 hna hnc hG hL hg hn (fun h => absurd hb h) (fun _ _ yq' yc' hq' => ⟨rfl, sd_mk nm hG (Or.inr (Or.inr (Or.inr (Or.inl ⟨rfl, sd_V1_of hq hq'⟩))))⟩) (fun _ h => absurd h (by omega)) (fun _ h => absurd h (by omega)) (fun _ h => absurd h (by omega))
  · refine br_t rfl (xb_bs hna hnc hG hq hQ (by omega) hg hn (fun xs' xb' xt' xf' hs' hb' => ?_))
    refine xb_js hna hnc hq h1 (by omega) hb' (fun c hc => (sd_BT (by omega) I' c hc).2) (fun h5 => ?_) (fun h5 h6 => ?_) (fun h5 h6 => ?_)
    · refine br_f sd_w5 ?_
      exact yc_an h0 hna hnc hG hL hg hn (fun h => absurd hb h) (fun _ h => absurd h (by omega)) (fun _ _ _ yq' yc' ys' yb' yt' yf' hq' hs2 hb2 => ⟨rfl, sd_mk nm hG (Or.inr (Or.inr (Or.inr (Or.inr (Or.inl ⟨rfl, sd_V1_of hq hq', sd_V2_of (by omega) hs' hs2 hb' hb2⟩)))))⟩) (fun _ _ h => absurd h (by omega)) (fun _ _ h => absurd h (by omega))
    · refine br_t rfl (xd_re hna hnc hG (fun xw' xh' xl' xg' hl' hx' hg' => ?_))
      have hpos : 0 < L := by
        have h7 := sd_sum_at (f := sd_Q na nc s d p kk) (c := 0) (n := na) h0
        have h8 := (sd_Q_bd G hna h0).1
        have h9 : sd_sum (sd_Q na nc s d p kk) 0 = 0 := rfl
        omega
      have hE := sd_ex G (sd_Gr_32 hG) (by omega) hpos (by omega) hg hb h6
      exact yc_an h0 hna hnc hG hL hg hn (fun h => absurd hb h) (fun _ h => absurd h (by omega)) (fun _ _ h => absurd h (by omega)) (fun _ _ _ h => absurd h (by omega)) (fun _ _ _ _ yq' yc' ys' yb' yt' yf' yw' yl' yg' hq' hs2 hb2 hw2 hl2 hg2 => ⟨rfl, sd_mk nm hG (Or.inr (Or.inr (Or.inr (Or.inr (Or.inr (Or.inr ⟨rfl, sd_V1_of hq hq', sd_V2_of (by omega) hs' hs2 hb' hb2, sd_V3_of hE rfl hs' hs2 hl' hx' hg' hw2 hl2 hg2⟩))))))⟩)
    · refine br_f sd_w6 ?_
      exact yc_an h0 hna hnc hG hL hg hn (fun h => absurd hb h) (fun _ h => absurd h (by omega)) (fun _ _ h => absurd h (by omega)) (fun _ _ _ _ yq' yc' ys' yb' yt' yf' hq' hs2 hb2 => ⟨rfl, sd_mk nm hG (Or.inr (Or.inr (Or.inr (Or.inr (Or.inr (Or.inl ⟨rfl, sd_V1_of hq hq', sd_V2_of (by omega) hs' hs2 hb' hb2⟩))))))⟩) (fun _ _ _ h => absurd h (by omega))
