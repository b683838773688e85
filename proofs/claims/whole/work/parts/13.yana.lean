/-! the reference's analyze, its end and its whole -/
section
variable {YA : Int32} {YM : Int32} {yn : Int32} {ym : Int32} {yv : Int32} {ye : Int32} {yp : Int32} {yd : Int32} {gS : Nat → Int32} {gD : Nat → Int32} {gP : Nat → Int32} {gK : Nat → Int32} {gI : Nat → Int32} {gC : Nat → Int32} {yq : Nat → Int64} {yc : Nat → Int32} {yf : Nat → Int32} {yt : Nat → Int32} {ys : Nat → Int32} {yb : Nat → Int32} {yw : Nat → Int32} {yl : Nat → Int32} {yg : Nat → Int32}
theorem yc_541 {post : Int32 → SY → Prop} {na : Nat} (hna : na ≤ 10) (K : ∀ yg : Nat → Int32, (∀ j, j < na → yg j = 0) → post yv (YA, YM, nI na, ym, yv, ye, 0, 0, gS, gD, gP, gK, gI, gC, yq, yc, yf, yt, ys, yb, yw, yl, yg)) :
    ∀ (n j : Nat) (yg : Nat → Int32), na < n + j → j ≤ na → (∀ i, i < j → yg i = 0) → wY_analyze_541 post YA YM (nI na) ym yv ye yp yd n (nI j) gS gD gP gK gI gC yq yc yf yt ys yb yw yl yg := by
  intro n
  induction n with
  | zero => intro j yg h1 h2; omega
  | succ n ih =>
    intro j yg h1 h2 hf
    refine pk_le na j (fun hj => K yg (fun i hi => hf i (by omega))) (fun hj => ⟨vp_in_nI (by omega) (by decide), nm_r (e' := upd yg j 0) (by rw [nI_clamp (by omega)]) (nm_r (nI_1 j) (ih (j + 1) _ (by omega) (by omega) (fun i hi => ?_)))⟩)
    by_cases e : i = j
    · rw [e, pk_us]
    · rw [pk_un e]
      exact hf i (by omega)
theorem yc_509 {post : Int32 → SY → Prop} {na nc : Nat} {s d p k i0 cp : Nat → Nat} (hna : na ≤ 10) (hnc : nc ≤ 24) (hG : sd_Gr na nc s d p k i0 cp gS gD gP gK gI gC)
    (K : ∀ yl : Nat → Int32, sd_Ar nc i0 yl → ∃ n541 : Nat, wY_analyze_541 post YA YM (nI na) (nI nc) yv ye yp yd n541 0 gS gD gP gK gI gC yq yc yf yt ys yb yw yl yg) :
    ∀ (n c : Nat) (yl : Nat → Int32), nc < n + c → c ≤ nc → sd_Ar c i0 yl → wY_analyze_509 post YA YM (nI na) (nI nc) yv ye yp yd n (nI c) gS gD gP gK gI gC yq yc yf yt ys yb yw yl yg := by
  intro n
  induction n with
  | zero => intro c yl h1 h2; omega
  | succ n ih =>
    intro c yl h1 h2 hl
    refine pk_le nc c (fun hj => ?_) (fun hj => ?_)
    · have e : c = nc := by omega
      subst e
      exact K yl hl
    · have hc : (nI c).toNatClampNeg = c := nI_clamp (by omega)
      have v24 : vp_in (nI c) 24 := vp_in_nI (by omega) (by decide)
      have eI := (hG c hj).1.2.2.2.2.1
      refine ⟨v24, v24, nm_r (e' := upd yl c (nI (i0 c))) (by rw [hc, eI]) (nm_r (nI_1 c) (ih (c + 1) _ (by omega) (by omega) (fun i hi => ?_)))⟩
      by_cases e : i = c
      · rw [e, pk_us]
      · rw [pk_un e]
        exact hl i (by omega)
theorem yc_484 {post : Int32 → SY → Prop}
    (K : ∀ yw : Nat → Int32, (∀ j, j < 512 → yw j = 0) → ∃ n509 : Nat, wY_analyze_509 post YA YM yn ym yv ye yp yd n509 0 gS gD gP gK gI gC yq yc yf yt ys yb yw yl yg) :
    ∀ (n j : Nat) (yw : Nat → Int32), 512 < n + j → j ≤ 512 → (∀ i, i < j → yw i = 0) → wY_analyze_484 post YA YM yn ym yv ye yp yd n (nI j) gS gD gP gK gI gC yq yc yf yt ys yb yw yl yg := by
  intro n
  induction n with
  | zero => intro j yw h1 h2; omega
  | succ n ih =>
    intro j yw h1 h2 hf
    refine pk_le 512 j (fun hj => K yw (fun i hi => hf i (by omega))) (fun hj => ⟨vp_in_nI (by omega) (by decide), nm_r (e' := upd yw j 0) (by rw [nI_clamp (by omega)]) (nm_r (nI_1 j) (ih (j + 1) _ (by omega) (by omega) (fun i hi => ?_)))⟩)
    by_cases e : i = j
    · rw [e, pk_us]
    · rw [pk_un e]
      exact hf i (by omega)
theorem yc_430 {post : Int32 → SY → Prop} {na nc : Nat} {s d p k i0 cp B : Nat → Nat} (hna : na ≤ 10) (hnc : nc ≤ 24) (hG : sd_Gr na nc s d p k i0 cp gS gD gP gK gI gC) (hb : sd_Ar nc B yb) (hB : ∀ c, c < nc → B c ≤ 2080)
    (K6 : 512 < sd_sum B nc → post 6 (YA, YM, nI na, nI nc, 6, ye, yp, yd, gS, gD, gP, gK, gI, gC, yq, yc, yf, yt, ys, yb, yw, yl, yg))
    (K1 : sd_sum B nc ≤ 512 → ∀ yw yl yg : Nat → Int32, (∀ j, j < 512 → yw j = 0) → sd_Ar nc i0 yl → (∀ j, j < na → yg j = 0) → post 1 (YA, YM, nI na, nI nc, 1, ye, 0, 0, gS, gD, gP, gK, gI, gC, yq, yc, yf, yt, ys, yb, yw, yl, yg)) :
    ∀ n c, nc < n + c → c ≤ nc → wY_analyze_430 post YA YM (nI na) (nI nc) yv ye yp yd gS gD gP gK gI gC yq yc yf yt ys yb yw yl yg n (nI (sd_sum B c)) (nI c) := by
  intro n
  induction n with
  | zero => intro c h1 h2; omega
  | succ n ih =>
    intro c h1 h2
    have hs := sd_sum_bd c (fun j hj => hB j (by omega))
    refine pk_le nc c (fun hj => ?_) (fun hj => ⟨vp_in_nI (by omega) (by decide), nm_r (e' := nI (sd_sum B (c + 1))) (by rw [nI_clamp (by omega), hb c hj, nI_add]; rfl) (nm_r (nI_1 c) (ih (c + 1) (by omega) (by omega)))⟩)
    have e : c = nc := by omega
    subst e
    refine pk_le (sd_sum B c) 512 (fun h => ⟨513, ?_⟩) K6
    refine yc_484 (fun yw hw => ⟨c + 1, ?_⟩) 513 0 yw (by omega) (Nat.zero_le _) (fun i hi => absurd hi (Nat.not_lt_zero i))
    refine yc_509 hna hnc hG (fun yl hl => ⟨na + 1, ?_⟩) (c + 1) 0 yl (by omega) (Nat.zero_le _) (fun i hi => absurd hi (Nat.not_lt_zero i))
    exact yc_541 hna (fun yg hg => K1 h yw yl yg hw hl hg) (na + 1) 0 yg (by omega) (Nat.zero_le _) (fun i hi => absurd hi (Nat.not_lt_zero i))
theorem yc_406 {post : Int32 → SY → Prop} {na nc L t : Nat} {s d p k i0 cp B : Nat → Nat} (hna : na ≤ 10) (hnc : nc ≤ 24) (hG : sd_Gr na nc s d p k i0 cp gS gD gP gK gI gC) (hb : sd_Ar nc B yb) (hB : ∀ c, c < nc → B c ≤ 2080) (hL : L ≤ 256) (ht : t ≤ 256)
    (K5 : L < t → post 5 (YA, YM, nI na, nI nc, 5, nI L, yp, yd, gS, gD, gP, gK, gI, gC, yq, yc, yf, yt, ys, yb, yw, yl, yg))
    (K6 : t ≤ L → 512 < sd_sum B nc → post 6 (YA, YM, nI na, nI nc, 6, nI L, yp, yd, gS, gD, gP, gK, gI, gC, yq, yc, yf, yt, ys, yb, yw, yl, yg))
    (K1 : t ≤ L → sd_sum B nc ≤ 512 → ∀ yw yl yg : Nat → Int32, (∀ j, j < 512 → yw j = 0) → sd_Ar nc i0 yl → (∀ j, j < na → yg j = 0) → post 1 (YA, YM, nI na, nI nc, 1, nI L, 0, 0, gS, gD, gP, gK, gI, gC, yq, yc, yf, yt, ys, yb, yw, yl, yg)) :
    wY_analyze_406 post (nI t) YA YM (nI na) (nI nc) yv (nI L) yp yd gS gD gP gK gI gC yq yc yf yt ys yb yw yl yg :=
  pk_le t L (fun h => ⟨nc + 1, yc_430 hna hnc hG hb hB (K6 h) (K1 h) (nc + 1) 0 (by omega) (Nat.zero_le _)⟩) K5
theorem yc_174 {post : Int32 → SY → Prop} {na : Nat} {Q : Nat → Nat} (hna : na ≤ 10) (hx : sd_AL na Q yq) (hQ : ∀ j, j < na → Q j ≤ 134217728)
    (K4 : 256 < sd_sum Q na → post 4 (YA, YM, nI na, ym, 4, ye, yp, yd, gS, gD, gP, gK, gI, gC, yq, yc, yf, yt, ys, yb, yw, yl, yg))
    (K : sd_sum Q na ≤ 256 → ∃ n221 : Nat, wY_analyze_221 post (nI (sd_sum Q na)) YA YM (nI na) ym yv ye yp yd n221 0 gS gD gP gK gI gC yq yc yf yt ys yb yw yl yg) :
    ∀ n j, na < n + j → j ≤ na → wY_analyze_174 post YA YM (nI na) ym yv ye yp yd gS gD gP gK gI gC yq yc yf yt ys yb yw yl yg n (lN (sd_sum Q j)) (nI j) := by
  intro n
  induction n with
  | zero => intro j h1 h2; omega
  | succ n ih =>
    intro j h1 h2
    refine pk_le na j (fun hj => ?_) (fun hj => ⟨vp_in_nI (by omega) (by decide), nm_r (e' := lN (sd_sum Q (j + 1))) ?_ (nm_r (nI_1 j) (ih (j + 1) (by omega) (by omega)))⟩)
    · have e : j = na := by omega
      subst e
      have hs := sd_sumQ hna hQ
      have e : (lN (sd_sum Q j) ≤ 256) ↔ sd_sum Q j ≤ 256 := pk_lLE (b := 256) (by omega) (by decide)
      rw [e, lN_i]
      exact br_c K (fun q => K4 (by omega))
    · rw [nI_clamp (by omega), hx j hj, lN_add]
      rfl
theorem yc_104 {post : Int32 → SY → Prop} {na nc : Nat} {s d p k i0 cp Q : Nat → Nat} (hna : na ≤ 10) (hnc : nc ≤ 24) (hG : sd_Gr na nc s d p k i0 cp gS gD gP gK gI gC) (hQ : ∀ j, j < na → Q j ≤ 134217728) (hx : sd_AL na Q yq)
    (K1 : sd_bal nc s d p k Q → ∃ n174 : Nat, wY_analyze_174 post YA YM (nI na) (nI nc) yv ye yp yd gS gD gP gK gI gC yq yc yf yt ys yb yw yl yg n174 0 0) (K0 : ¬ sd_bal nc s d p k Q → post 3 (YA, YM, nI na, nI nc, 3, ye, yp, yd, gS, gD, gP, gK, gI, gC, yq, yc, yf, yt, ys, yb, yw, yl, yg)) :
    ∀ n c, nc < n + c → c ≤ nc → (∀ i, i < c → Q (s i) * p i = Q (d i) * k i) → wY_analyze_104 post YA YM (nI na) (nI nc) yv ye yp yd gS gD gP gK gI gC yq yc yf yt ys yb yw yl yg n (nI c) := by
  intro n
  induction n with
  | zero => intro c h1 h2; omega
  | succ n ih =>
    intro c h1 h2 hb
    refine pk_le nc c (fun hj => K1 (fun i hi => hb i (by omega))) (fun hj => ?_)
    have hc : (nI c).toNatClampNeg = c := nI_clamp (by omega)
    obtain ⟨⟨eS, eD, eP, eK, _, _⟩, ⟨g1, g2, g3, g4, g5, g6⟩, _, _⟩ := hG c hj
    have v24 : vp_in (nI c) 24 := vp_in_nI (by omega) (by decide)
    have vs : vp_in (nI (s c)) 10 := vp_in_nI (by omega) (by decide)
    have vd : vp_in (nI (d c)) 10 := vp_in_nI (by omega) (by decide)
    have bs := hQ (s c) g1
    have bd := hQ (d c) g2
    have m1 : Q (s c) * p c ≤ Q (s c) * 8 := Nat.mul_le_mul_left _ g4
    have m2 : Q (d c) * k c ≤ Q (d c) * 8 := Nat.mul_le_mul_left _ g6
    have e1 : ((yq (gS (nI c).toNatClampNeg).toNatClampNeg) * ((gP (nI c).toNatClampNeg).toInt64) = (yq (gD (nI c).toNatClampNeg).toNatClampNeg) * ((gK (nI c).toNatClampNeg).toInt64)) ↔ Q (s c) * p c = Q (d c) * k c := by
      rw [hc, eS, eD, eP, eK, nI_clamp (n := s c) (by omega), nI_clamp (n := d c) (by omega), hx _ g1, hx _ g2, nI_l (n := p c) (by omega), nI_l (n := k c) (by omega), lN_mul, lN_mul, pk_lEQ (by omega) (by omega)]
    refine ⟨v24, by rw [hc, eS]; exact vs, v24, v24, by rw [hc, eD]; exact vd, v24, br_c (fun h => nm_r (nI_1 c) (ih (c + 1) (by omega) (by omega) (fun i hi => ?_))) (fun h => K0 (fun q => h (e1.mpr (q c hj))))⟩
    by_cases e : i = c
    · rw [e]
      exact e1.mp h
    · exact hb i (by omega)
/-- the reference's analyze on a graph with an actor -/
theorem yc_an {post : Int32 → SY → Prop} {na nc L : Nat} {s d p k i0 cp : Nat → Nat} (h0 : 0 < na) (hna : na ≤ 10) (hnc : nc ≤ 24) (hG : sd_Gr na nc s d p k i0 cp gS gD gP gK gI gC)
    (hL : L ≤ sd_sum (sd_Q na nc s d p k) na) (hg : ∀ j, j < L → sd_sch na nc s d p k cp i0 (sd_Q na nc s d p k) j < na) (hn : ¬ sd_sch na nc s d p k cp i0 (sd_Q na nc s d p k) L < na)
    (K3 : ¬ sd_bal nc s d p k (sd_Q na nc s d p k) → ∀ (yq : Nat → Int64) (yc : Nat → Int32), post 3 (YA, YM, nI na, nI nc, 3, 0, yp, yd, gS, gD, gP, gK, gI, gC, yq, yc, yf, yt, ys, yb, yw, yl, yg))
    (K4 : sd_bal nc s d p k (sd_Q na nc s d p k) → 256 < sd_sum (sd_Q na nc s d p k) na → ∀ (yq : Nat → Int64) (yc : Nat → Int32), sd_AL na (sd_Q na nc s d p k) yq → post 4 (YA, YM, nI na, nI nc, 4, 0, yp, yd, gS, gD, gP, gK, gI, gC, yq, yc, yf, yt, ys, yb, yw, yl, yg))
    (K5 : sd_bal nc s d p k (sd_Q na nc s d p k) → sd_sum (sd_Q na nc s d p k) na ≤ 256 → L < sd_sum (sd_Q na nc s d p k) na → ∀ (yq : Nat → Int64) (yc ys yb yt yf : Nat → Int32), sd_AL na (sd_Q na nc s d p k) yq → (∀ j, j < L → ys j = nI (sd_sch na nc s d p k cp i0 (sd_Q na nc s d p k) j)) → sd_Ar nc (sd_sim na nc s d p k cp i0 (sd_Q na nc s d p k) L).2.2 yb → post 5 (YA, YM, nI na, nI nc, 5, nI L, yp, yd, gS, gD, gP, gK, gI, gC, yq, yc, yf, yt, ys, yb, yw, yl, yg))
    (K6 : sd_bal nc s d p k (sd_Q na nc s d p k) → sd_sum (sd_Q na nc s d p k) na ≤ 256 → sd_sum (sd_Q na nc s d p k) na ≤ L → 512 < sd_sum (sd_sim na nc s d p k cp i0 (sd_Q na nc s d p k) L).2.2 nc → ∀ (yq : Nat → Int64) (yc ys yb yt yf : Nat → Int32), sd_AL na (sd_Q na nc s d p k) yq → (∀ j, j < L → ys j = nI (sd_sch na nc s d p k cp i0 (sd_Q na nc s d p k) j)) → sd_Ar nc (sd_sim na nc s d p k cp i0 (sd_Q na nc s d p k) L).2.2 yb → post 6 (YA, YM, nI na, nI nc, 6, nI L, yp, yd, gS, gD, gP, gK, gI, gC, yq, yc, yf, yt, ys, yb, yw, yl, yg))
    (K1 : sd_bal nc s d p k (sd_Q na nc s d p k) → sd_sum (sd_Q na nc s d p k) na ≤ 256 → sd_sum (sd_Q na nc s d p k) na ≤ L → sd_sum (sd_sim na nc s d p k cp i0 (sd_Q na nc s d p k) L).2.2 nc ≤ 512 → ∀ (yq : Nat → Int64) (yc ys yb yt yf yw yl yg : Nat → Int32), sd_AL na (sd_Q na nc s d p k) yq → (∀ j, j < L → ys j = nI (sd_sch na nc s d p k cp i0 (sd_Q na nc s d p k) j)) → sd_Ar nc (sd_sim na nc s d p k cp i0 (sd_Q na nc s d p k) L).2.2 yb → (∀ j, j < 512 → yw j = 0) → sd_Ar nc i0 yl → (∀ j, j < na → yg j = 0) → post 1 (YA, YM, nI na, nI nc, 1, nI L, 0, 0, gS, gD, gP, gK, gI, gC, yq, yc, yf, yt, ys, yb, yw, yl, yg)) :
    wpY_analyze post (YA, YM, nI na, nI nc, yv, ye, yp, yd, gS, gD, gP, gK, gI, gC, yq, yc, yf, yt, ys, yb, yw, yl, yg) := by
  have G := sd_Gr_G hG
  have hQ : ∀ j, j < na → sd_Q na nc s d p k j ≤ 134217728 := fun j hj => (sd_Q_bd G hna hj).2
  refine br_f (nI_ne0 h0 (by omega)) ⟨na + 1, ?_⟩
  refine ya_a24 hna hnc hG (fun yq yc hq => ⟨nc + 1, ?_⟩) (na + 1) 0 yq yc (by omega) (Nat.zero_le _) (fun i hi => absurd hi (Nat.not_lt_zero i))
  refine yc_104 hna hnc hG hQ hq (fun hb => ⟨na + 1, ?_⟩) (fun hb => K3 hb yq yc) (nc + 1) 0 (by omega) (Nat.zero_le _) (fun i hi => absurd hi (Nat.not_lt_zero i))
  refine yc_174 hna hq hQ (fun h4 => K4 hb h4 yq yc hq) (fun ht => ⟨nc + 1, ?_⟩) (na + 1) 0 (by omega) (Nat.zero_le _)
  refine yb_a221 hna hnc hG (fun yb yt kb kt => ⟨na + 1, ?_⟩) (nc + 1) 0 yb yt (by omega) (Nat.zero_le _) (fun i hi => absurd hi (Nat.not_lt_zero i)) (fun i hi => absurd hi (Nat.not_lt_zero i))
  refine yb_a267 hna (fun yf kf => ⟨257, ?_⟩) (na + 1) 0 yf (by omega) (Nat.zero_le _) (fun i hi => absurd hi (Nat.not_lt_zero i))
  refine yb_a293 hna hnc hG hq hQ ht hL hg hn (fun ys' yb' yt' yf' hs' hb' => ?_) 257 0 ys yb yt yf (by omega) (Nat.zero_le _) (fun i hi => absurd hi (Nat.not_lt_zero i)) kb kt kf
  have I := sd_I_sim (cp := cp) (Q := sd_Q na nc s d p k) G (sd_Gr_32 hG) L hg
  exact yc_406 hna hnc hG hb' (fun c hc => (sd_BT (by omega) I c hc).2) (by omega) ht (fun h5 => K5 hb ht h5 yq yc ys' yb' yt' yf' hq hs' hb') (fun h6 h7 => K6 hb ht h6 h7 yq yc ys' yb' yt' yf' hq hs' hb') (fun h6 h7 yw yl yg hw hl hg => K1 hb ht h6 h7 yq yc ys' yb' yt' yf' yw yl yg hq hs' hb' hw hl hg)
end
