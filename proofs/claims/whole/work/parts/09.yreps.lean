/-! the reference's repetitions -/
def sd_YR (na : Nat) (z : sd_Z) (yq : Nat → Int64) (yc : Nat → Int32) : Prop := ∀ j, j < na → yq j = lN (z.1 j) ∧ yc j = (if z.1 j = 0 then -1 else nI (z.2 j))
theorem sd_yc_m {q m : Nat} {y : Int32} (h : y = (if q = 0 then -1 else nI m)) (hq : q = 0) : y = -1 := by
  rw [h, if_pos hq]
theorem sd_yc_n {q m : Nat} {y : Int32} (h : y = (if q = 0 then -1 else nI m)) (hq : q ≠ 0) (hm : m < 100) : ¬ y = -1 := by
  rw [h, if_neg hq]
  exact sd_ne1 (by omega)
theorem sd_yc_r {q m r : Nat} {y : Int32} (h : y = (if q = 0 then -1 else nI m)) (hm : q ≠ 0 → m < 100) (hr : r < 100) : y = nI r ↔ (q ≠ 0 ∧ m = r) := by
  rw [h]
  by_cases e : q = 0
  · rw [if_pos e]
    exact ⟨fun z => absurd z.symm (sd_ne1 (by omega)), fun z => absurd e z.1⟩
  · have := hm e
    rw [if_neg e, nI_eq (by omega) (by omega)]
    exact ⟨fun z => ⟨e, z⟩, fun z => z.2⟩
section
variable {YA : Int32} {YM : Int32} {yn : Int32} {ym : Int32} {yv : Int32} {ye : Int32} {yp : Int32} {yd : Int32} {gS : Nat → Int32} {gD : Nat → Int32} {gP : Nat → Int32} {gK : Nat → Int32} {gI : Nat → Int32} {gC : Nat → Int32} {yq : Nat → Int64} {yc : Nat → Int32} {yf : Nat → Int32} {yt : Nat → Int32} {ys : Nat → Int32} {yb : Nat → Int32} {yw : Nat → Int32} {yl : Nat → Int32} {yg : Nat → Int32}
theorem ya_g36 {post : Int64 → Prop} {a : Nat} (ha : a < 2 ^ 62) (h0 : 0 < a) (h : post (lN a)) : wY_gcd_36 post (lN a) YA YM yn ym yv ye yp yd gS gD gP gK gI gC yq yc yf yt ys yb yw yl yg := by
  refine br_t ?_ (br_t ?_ h)
  · rw [sd_l0, pk_lLE (by decide) (by omega)]
    omega
  · rw [sd_l0, pk_lLT (by decide) (by omega)]
    exact h0
theorem ya_g0 {post : Int64 → Prop} {a : Nat} (ha : a < 2 ^ 62) (h0 : 0 < a) (h : post (lN a)) {i : Nat} (hi : i ≤ 200) (n : Nat) : wY_gcd_3 post YA YM yn ym yv ye yp yd gS gD gP gK gI gC yq yc yf yt ys yb yw yl yg (n + 1) (lN a) (lN 0) (nI i) :=
  pk_le 200 i (fun _ => ya_g36 ha h0 h) (fun _ => br_t rfl (ya_g36 ha h0 h))
theorem ya_gs {post : Int64 → Prop} {a b i n : Nat} (ha : a < 2 ^ 62) (hb : b < 2 ^ 62) (h0 : 0 < b) (hi : i < 200) (h : wY_gcd_3 post YA YM yn ym yv ye yp yd gS gD gP gK gI gC yq yc yf yt ys yb yw yl yg n (lN b) (lN (a % b)) (nI (i + 1))) : wY_gcd_3 post YA YM yn ym yv ye yp yd gS gD gP gK gI gC yq yc yf yt ys yb yw yl yg (n + 1) (lN a) (lN b) (nI i) := by
  have hn : ¬ lN b = 0 := by
    rw [sd_leq0 (by omega)]
    omega
  exact pk_le 200 i (fun z => absurd z (by omega)) (fun _ => br_f hn ⟨hn, nm_r (pk_lRem (by omega) h0 (by omega)) (nm_r (nI_1 i) h)⟩)
theorem ya_g3 {post : Int64 → Prop} : ∀ m a b i n, a < 2 ^ 62 → b < 2 ^ 62 → b < 2 ^ m → i + 2 * m ≤ 200 → 201 ≤ n + i → 0 < Nat.gcd a b → post (lN (Nat.gcd a b)) → wY_gcd_3 post YA YM yn ym yv ye yp yd gS gD gP gK gI gC yq yc yf yt ys yb yw yl yg n (lN a) (lN b) (nI i) := by
  intro m
  induction m with
  | zero =>
    intro a b i n ha hb hm hi hn h0 h
    have e : b = 0 := by
      have : (2 : Nat) ^ 0 = 1 := rfl
      omega
    subst e
    obtain ⟨n, rfl⟩ : ∃ m, n = m + 1 := ⟨n - 1, by omega⟩
    rw [Nat.gcd_zero_right] at h0 h
    exact ya_g0 ha h0 h (by omega) n
  | succ m ih =>
    intro a b i n ha hb hm hi hn h0 h
    obtain ⟨n, rfl⟩ : ∃ m, n = m + 1 := ⟨n - 1, by omega⟩
    by_cases e : b = 0
    · subst e
      rw [Nat.gcd_zero_right] at h0 h
      exact ya_g0 ha h0 h (by omega) n
    · have hl := Nat.mod_lt a (Nat.pos_of_ne_zero e)
      refine ya_gs ha hb (by omega) (by omega) ?_
      obtain ⟨n, rfl⟩ : ∃ m, n = m + 1 := ⟨n - 1, by omega⟩
      rw [← sd_gcd_step] at h0 h
      by_cases e2 : a % b = 0
      · rw [e2] at h0 h ⊢
        rw [Nat.gcd_zero_right] at h0 h
        exact ya_g0 hb h0 h (by omega) n
      · have hl2 := Nat.mod_lt b (Nat.pos_of_ne_zero e2)
        refine ya_gs hb (by omega) (by omega) (by omega) ?_
        rw [← sd_gcd_step] at h0 h
        exact ih (a % b) (b % (a % b)) (i + 1 + 1) n (by omega) (by omega) (sd_half (by omega) hl hm) (by omega) (by omega) h0 h
theorem ya_gcd {post : Int64 → Prop} {a b : Nat} (ha : a < 2 ^ 40) (hb : b < 2 ^ 40) (h0 : 0 < Nat.gcd a b) (h : post (lN (Nat.gcd a b))) : wpY_gcd post (YA, YM, yn, ym, yv, ye, yp, yd, gS, gD, gP, gK, gI, gC, yq, yc, yf, yt, ys, yb, yw, yl, yg) (lN a) (lN b) :=
  ⟨201, ya_g3 40 a b 0 201 (by omega) (by omega) hb (by omega) (by omega) h0 h⟩
theorem ya_sc3 {post : SY → Prop} {na r sc : Nat} {z : sd_Z} (hna : na ≤ 10) (hr : r < na) (hR : sd_Rt na z) (hyc : ∀ i, i < na → yc i = (if z.1 i = 0 then -1 else nI (z.2 i)))
    (K : ∀ yq' : Nat → Int64, (∀ i, i < na → yq' i = lN (if z.1 i ≠ 0 ∧ z.2 i = r then z.1 i * sc else z.1 i)) → post (YA, YM, nI na, ym, yv, ye, yp, yd, gS, gD, gP, gK, gI, gC, yq', yc, yf, yt, ys, yb, yw, yl, yg)) :
    ∀ (n j : Nat) (yq : Nat → Int64), na < n + j → j ≤ na → (∀ i, i < na → yq i = lN (if i < j ∧ z.1 i ≠ 0 ∧ z.2 i = r then z.1 i * sc else z.1 i)) → wY_scale_3 post (nI r) (lN sc) YA YM (nI na) ym yv ye yp yd n (nI j) gS gD gP gK gI gC yq yc yf yt ys yb yw yl yg := by
  intro n
  induction n with
  | zero => intro j yq h1 h2 h3; omega
  | succ n ih =>
    intro j yq h1 hj2 h2
    refine pk_le na j (fun hj => K yq (fun i hi => ?_)) (fun hj => ?_)
    · rw [h2 i hi]
      by_cases q : z.1 i ≠ 0 ∧ z.2 i = r
      · rw [if_pos q, if_pos ⟨by omega, q⟩]
      · rw [if_neg q, if_neg (fun y => q y.2)]
    · have hc : (nI j).toNatClampNeg = j := nI_clamp (by omega)
      have hqj : yq j = lN (z.1 j) := by rw [h2 j hj, if_neg (fun y => Nat.lt_irrefl j y.1)]
      have hy := sd_yc_r (r := r) (hyc j hj) (fun e => by have := hR j hj e; omega) (by omega)
      refine ⟨vp_in_nI (by omega) (by decide), ?_⟩
      rw [hc, hy]
      refine br_c (fun hz => ⟨vp_in_nI (by omega) (by decide), vp_in_nI (by omega) (by decide), nm_r (e' := vp_updL yq j (lN (z.1 j * sc))) ?_ (nm_r (nI_1 j) (ih (j + 1) _ (by omega) (by omega) ?_))⟩) (fun hz => nm_r (nI_1 j) (ih (j + 1) yq (by omega) (by omega) ?_))
      · rw [hqj, lN_mul]
      · intro i hi
        by_cases e : i = j
        · rw [e, pk_uLs, if_pos ⟨by omega, hz⟩]
        · rw [pk_uLn e, h2 i hi]
          by_cases q : i < j ∧ z.1 i ≠ 0 ∧ z.2 i = r
          · rw [if_pos q, if_pos ⟨by omega, q.2⟩]
          · rw [if_neg q, if_neg (fun y => q ⟨by omega, y.2⟩)]
      · intro i hi
        rw [h2 i hi]
        by_cases q : i < j ∧ z.1 i ≠ 0 ∧ z.2 i = r
        · rw [if_pos q, if_pos ⟨by omega, q.2⟩]
        · rw [if_neg q, if_neg (fun y => by
            by_cases e : i = j
            · exact hz (e ▸ y.2)
            · exact q ⟨by omega, y.2⟩)]
theorem ya_sc {post : SY → Prop} {na r sc : Nat} {z : sd_Z} (hna : na ≤ 10) (hr : r < na) (hR : sd_Rt na z) (hy : sd_YR na z yq yc)
    (K : ∀ yq' : Nat → Int64, (∀ i, i < na → yq' i = lN (if z.1 i ≠ 0 ∧ z.2 i = r then z.1 i * sc else z.1 i)) → post (YA, YM, nI na, ym, yv, ye, yp, yd, gS, gD, gP, gK, gI, gC, yq', yc, yf, yt, ys, yb, yw, yl, yg)) : wpY_scale post (YA, YM, nI na, ym, yv, ye, yp, yd, gS, gD, gP, gK, gI, gC, yq, yc, yf, yt, ys, yb, yw, yl, yg) (nI r) (lN sc) :=
  ⟨na + 1, ya_sc3 hna hr hR (fun i hi => (hy i hi).2) K (na + 1) 0 yq (by omega) (Nat.zero_le _) (fun i hi => by
    rw [if_neg (fun y => Nat.not_lt_zero i y.1)]
    exact (hy i hi).1)⟩
/-- after the scaling: the fresh actor's count -/
theorem sd_jn {na r kn fr kr rr : Nat} {z : sd_Z} {yq yq' : Nat → Int64} {yc : Nat → Int32} (hk : kn < na) (hf : fr < na) (k0 : 0 < kr) (hk8 : kr ≤ 8) (h0 : 0 < rr) (h8 : rr ≤ 8) (hb : ∀ i, i < na → z.1 i ≤ 134217728) (hy : sd_YR na z yq yc) (h1 : z.1 kn ≠ 0) (hm : z.2 kn = r)
    (hq : ∀ i, i < na → yq' i = lN (if z.1 i ≠ 0 ∧ z.2 i = r then z.1 i * sd_sc (z.1 kn * kr) rr else z.1 i)) :
    sd_YR na (sd_jQ r kn fr kr rr z.1 z.2, sd_jM r fr z.2) (vp_updL yq' fr (yq' kn * lN kr / lN rr)) (upd yc fr (nI r)) := by
  have hb1 := hb kn hk
  have hs : sd_sc (z.1 kn * kr) rr ≤ 8 := Nat.le_trans (sd_sc_le _ _) h8
  have m1 : z.1 kn * kr ≤ z.1 kn * 8 := Nat.mul_le_mul_left _ hk8
  have m2 : z.1 kn * kr * sd_sc (z.1 kn * kr) rr ≤ z.1 kn * kr * 8 := Nat.mul_le_mul_left _ hs
  have e1 : yq' kn * lN kr / lN rr = lN (z.1 kn * kr * sd_sc (z.1 kn * kr) rr / rr) := by
    rw [hq kn hk, if_pos ⟨h1, hm⟩, lN_mul, Nat.mul_right_comm, pk_lDiv (by omega) h0 (by omega)]
  intro j hj
  show vp_updL yq' fr (yq' kn * lN kr / lN rr) j = lN (sd_jQ r kn fr kr rr z.1 z.2 j) ∧ upd yc fr (nI r) j = (if sd_jQ r kn fr kr rr z.1 z.2 j = 0 then -1 else nI (sd_jM r fr z.2 j))
  by_cases e : j = fr
  · rw [e, pk_uLs, pk_us, sd_jM_f, e1]
    refine ⟨by rw [sd_jQ_f], ?_⟩
    rw [if_neg (sd_jQ_p k0 h0 h1)]
  · rw [pk_uLn e, pk_un e, sd_jM_o e, hq j hj]
    refine ⟨by unfold sd_jQ; rw [if_neg e], ?_⟩
    rw [(hy j hj).2]
    by_cases q : z.1 j = 0
    · rw [if_pos q, if_pos ((sd_jQ_z h0 e).mpr q)]
    · rw [if_neg q, if_neg (fun y => q ((sd_jQ_z h0 e).mp y))]
theorem ya_lk {post : SY → Prop} {na nc r c : Nat} {s d p k i0 cp : Nat → Nat} {z : sd_Z} (hna : na ≤ 10) (hnc : nc ≤ 24) (hr : r < na) (hj : c < nc)
    (hG : sd_Gr na nc s d p k i0 cp gS gD gP gK gI gC) (hI : sd_Inv na nc s d r z) (hy : sd_YR na z yq yc)
    (K : ∀ (yq' : Nat → Int64) (yc' : Nat → Int32), sd_YR na (sd_link s d p k r c z) yq' yc' → post (YA, YM, nI na, nI nc, yv, ye, yp, yd, gS, gD, gP, gK, gI, gC, yq', yc', yf, yt, ys, yb, yw, yl, yg)) :
    wpY_link post (YA, YM, nI na, nI nc, yv, ye, yp, yd, gS, gD, gP, gK, gI, gC, yq, yc, yf, yt, ys, yb, yw, yl, yg) (nI c) (nI r) := by
  have hc : (nI c).toNatClampNeg = c := nI_clamp (by omega)
  obtain ⟨⟨eS, eD, eP, eK, _, _⟩, ⟨g1, g2, g3, g4, g5, g6⟩, _, _⟩ := hG c hj
  obtain ⟨E, B, hR, O⟩ := hI
  have hb : ∀ i, i < na → z.1 i ≤ 134217728 := fun i hi => sd_bd9 hna B hi
  have bs := hb (s c) g1
  have bd := hb (d c) g2
  have v24 : vp_in (nI c) 24 := vp_in_nI (by omega) (by decide)
  have vs : vp_in (nI (s c)) 10 := vp_in_nI (by omega) (by decide)
  have vd : vp_in (nI (d c)) 10 := vp_in_nI (by omega) (by decide)
  have cs : (nI (s c)).toNatClampNeg = s c := nI_clamp (by omega)
  have cd : (nI (d c)).toNatClampNeg = d c := nI_clamp (by omega)
  have eP' : gP (nI c).toNatClampNeg = nI (p c) := by rw [hc]; exact eP
  have eK' : gK (nI c).toNatClampNeg = nI (k c) := by rw [hc]; exact eK
  have lP : (gP (nI c).toNatClampNeg).toInt64 = lN (p c) := by rw [eP', nI_l (by omega)]
  have lK : (gK (nI c).toNatClampNeg).toInt64 = lN (k c) := by rw [eK', nI_l (by omega)]
  have hys := (hy (s c) g1).2
  have hyd := (hy (d c) g2).2
  have ms : z.1 (s c) ≠ 0 → z.2 (s c) < 100 := fun h => by have := hR _ g1 h; omega
  have md : z.1 (d c) ≠ 0 → z.2 (d c) < 100 := fun h => by have := hR _ g2 h; omega
  have rs := sd_yc_r (r := r) hys ms (by omega)
  have rd := sd_yc_r (r := r) hyd md (by omega)
  have Ys : ∀ P : Int32 → Prop, P (yc (s c)) → P (yc (nI (s c)).toNatClampNeg) := fun P h => by rw [cs]; exact h
  have Yd : ∀ P : Int32 → Prop, P (yc (d c)) → P (yc (nI (d c)).toNatClampNeg) := fun P h => by rw [cd]; exact h
  refine ⟨v24, nm_r (e' := nI (s c)) (by rw [hc]; exact eS) ⟨v24, nm_r (e' := nI (d c)) (by rw [hc]; exact eD) ⟨vs, ?_⟩⟩⟩
  have n0 : ∀ q : Nat, 0 < q → q ≤ 8 → ¬ lN q = 0 := fun q h1 h2 => by
    rw [sd_leq0 (by omega)]
    omega
  by_cases hs : z.1 (s c) = 0
  · have a1 : ¬ yc (nI (s c)).toNatClampNeg = nI r := Ys (fun x => ¬ x = nI r) (fun q => (rs.mp q).1 hs)
    refine br_f a1 ⟨vd, ?_⟩
    by_cases hd : z.1 (d c) = 0
    · have a2 : ¬ yc (nI (d c)).toNatClampNeg = nI r := Yd (fun x => ¬ x = nI r) (fun q => (rd.mp q).1 hd)
      exact br_f a2 (K yq yc (by rw [sd_link_3 ⟨fun _ => hd, fun _ => hs⟩]; exact hy))
    · have hm : z.2 (d c) = r := Classical.byContradiction (fun q => (E c hj).2 hd q hs)
      have a2 : yc (nI (d c)).toNatClampNeg = nI r := Yd (fun x => x = nI r) (rd.mpr ⟨hd, hm⟩)
      have a3 : yc (nI (s c)).toNatClampNeg = -1 := Ys (fun x => x = -1) (sd_yc_m hys hs)
      refine br_t a2 ⟨vs, br_t a3 ⟨v24, vd, v24, v24, ?_⟩⟩
      rw [lP, lK, cd, (hy _ g2).1, lN_mul]
      have m1 : z.1 (d c) * k c ≤ z.1 (d c) * 8 := Nat.mul_le_mul_left _ g6
      have gp := Nat.gcd_pos_of_pos_right (z.1 (d c) * k c) g3
      have gl := Nat.gcd_le_right (z.1 (d c) * k c) g3
      refine ya_gcd (by omega) (by omega) gp ⟨?_, nm_r (e' := lN (sd_sc (z.1 (d c) * k c) (p c))) (pk_lDiv (by omega) gp (by omega)) (ya_sc hna hr hR hy (fun yq' hq => ⟨vd, v24, v24, ?_, vs, nm_e ⟨vs, nm_e (K _ _ ?_)⟩⟩))⟩
      · rw [sd_leq0 (by omega)]
        omega
      · rw [lP]
        exact n0 _ g3 g4
      · rw [lP, lK, cs, sd_link_2 hd hs]
        exact sd_jn g2 g1 g5 g6 g3 g4 hb hy hd hm hq
  · by_cases hd : z.1 (d c) = 0
    · have hm : z.2 (s c) = r := Classical.byContradiction (fun q => (E c hj).1 hs q hd)
      have a2 : yc (nI (s c)).toNatClampNeg = nI r := Ys (fun x => x = nI r) (rs.mpr ⟨hs, hm⟩)
      have a3 : yc (nI (d c)).toNatClampNeg = -1 := Yd (fun x => x = -1) (sd_yc_m hyd hd)
      refine br_t a2 ⟨vd, br_t a3 ⟨v24, vs, v24, v24, ?_⟩⟩
      rw [lP, lK, cs, (hy _ g1).1, lN_mul]
      have m1 : z.1 (s c) * p c ≤ z.1 (s c) * 8 := Nat.mul_le_mul_left _ g4
      have gp := Nat.gcd_pos_of_pos_right (z.1 (s c) * p c) g5
      have gl := Nat.gcd_le_right (z.1 (s c) * p c) g5
      refine ya_gcd (by omega) (by omega) gp ⟨?_, nm_r (e' := lN (sd_sc (z.1 (s c) * p c) (k c))) (pk_lDiv (by omega) gp (by omega)) (ya_sc hna hr hR hy (fun yq' hq => ⟨vs, v24, v24, ?_, vd, nm_e ⟨vd, nm_e (K _ _ ?_)⟩⟩))⟩
      · rw [sd_leq0 (by omega)]
        omega
      · rw [lK]
        exact n0 _ g5 g6
      · rw [lP, lK, cd, sd_link_1 hs hd]
        exact sd_jn g1 g2 g3 g4 g5 g6 hb hy hs hm hq
    · have a2 : ¬ yc (nI (d c)).toNatClampNeg = -1 := Yd (fun x => ¬ x = -1) (sd_yc_n hyd hd (md hd))
      have a3 : ¬ yc (nI (s c)).toNatClampNeg = -1 := Ys (fun x => ¬ x = -1) (sd_yc_n hys hs (ms hs))
      have KK := K yq yc (by rw [sd_link_3 ⟨fun e => absurd e hs, fun e => absurd e hd⟩]; exact hy)
      have K2 : wY_link_118 post (nI c) (nI r) (nI (s c)) (nI (d c)) YA YM (nI na) (nI nc) yv ye yp yd gS gD gP gK gI gC yq yc yf yt ys yb yw yl yg := ⟨vd, br_c (fun _ => ⟨vs, br_f a3 KK⟩) (fun _ => KK)⟩
      exact br_c (fun _ => ⟨vd, br_f a2 K2⟩) (fun _ => K2)
theorem ya_sp12 {post : SY → Prop} {J2 : Int32 → Int32 → Int32 → Int32 → Int32 → Int32 → Int32 → Int32 → Int32 → (Nat → Int32) → (Nat → Int32) → (Nat → Int32) → (Nat → Int32) → (Nat → Int32) → (Nat → Int32) → (Nat → Int64) → (Nat → Int32) → (Nat → Int32) → (Nat → Int32) → (Nat → Int32) → (Nat → Int32) → (Nat → Int32) → (Nat → Int32) → (Nat → Int32) → Prop} {na nc r ps : Nat} {s d p k i0 cp : Nat → Nat} {z : sd_Z} (hna : na ≤ 10) (hnc : nc ≤ 24) (hr : r < na)
    (hG : sd_Gr na nc s d p k i0 cp gS gD gP gK gI gC) (hI : sd_Inv na nc s d r z)
    (K : ∀ (yq' : Nat → Int64) (yc' : Nat → Int32), sd_YR na (sd_row s d p k r nc z) yq' yc' → J2 (nI (ps + 1)) YA YM (nI na) (nI nc) yv ye yp yd gS gD gP gK gI gC yq' yc' yf yt ys yb yw yl yg) :
    ∀ (n c : Nat) (yq : Nat → Int64) (yc : Nat → Int32), nc < n + c → c ≤ nc → sd_YR na (sd_row s d p k r c z) yq yc → wY_spread_12 post J2 (nI r) (nI ps) n (nI c) YA YM (nI na) (nI nc) yv ye yp yd gS gD gP gK gI gC yq yc yf yt ys yb yw yl yg := by
  intro n
  induction n with
  | zero => intro c yq yc h1 h2 h3; omega
  | succ n ih =>
    intro c yq yc h1 h2 hy
    refine pk_le nc c (fun hj => ?_) (fun hj => ?_)
    · have e : c = nc := by omega
      subst e
      exact nm_r (nI_1 ps) (K yq yc hy)
    · exact ya_lk hna hnc hr hj hG (sd_row_inv (p := p) (k := k) (sd_Gr_G hG) hr hI c h2).1 hy (fun yq' yc' hy' => nm_r (nI_1 c) (ih (c + 1) yq' yc' (by omega) (by omega) hy'))
theorem ya_sp2 {post : SY → Prop} {na nc r : Nat} {s d p k i0 cp : Nat → Nat} {z : sd_Z} (hna : na ≤ 10) (hnc : nc ≤ 24) (hr : r < na)
    (hG : sd_Gr na nc s d p k i0 cp gS gD gP gK gI gC) (hI : sd_Inv na nc s d r z)
    (K : ∀ (yq' : Nat → Int64) (yc' : Nat → Int32), sd_YR na (sd_pass nc s d p k r na z) yq' yc' → post (YA, YM, nI na, nI nc, yv, ye, yp, yd, gS, gD, gP, gK, gI, gC, yq', yc', yf, yt, ys, yb, yw, yl, yg)) :
    ∀ (n t : Nat) (yq : Nat → Int64) (yc : Nat → Int32), na < n + t → t ≤ na → sd_YR na (sd_pass nc s d p k r t z) yq yc → wY_spread_2 post (nI r) n (nI t) YA YM (nI na) (nI nc) yv ye yp yd gS gD gP gK gI gC yq yc yf yt ys yb yw yl yg := by
  intro n
  induction n with
  | zero => intro t yq yc h1 h2 h3; omega
  | succ n ih =>
    intro t yq yc h1 h2 hy
    refine pk_le na t (fun hj => ?_) (fun hj => ⟨nc + 1, ?_⟩)
    · have e : t = na := by omega
      subst e
      exact K yq yc hy
    · exact ya_sp12 hna hnc hr hG (sd_pass_inv (p := p) (k := k) (sd_Gr_G hG) hr hI t).1 (fun yq' yc' hy' => ih (t + 1) yq' yc' (by omega) (by omega) hy') (nc + 1) 0 yq yc (by omega) (Nat.zero_le _) hy
end
/-! the common divisor of a part -/
def sd_gf (r : Nat) (z : sd_Z) : Nat → Nat
  | 0 => 0
  | j + 1 => if z.1 j ≠ 0 ∧ z.2 j = r then Nat.gcd (sd_gf r z j) (z.1 j) else sd_gf r z j
theorem sd_gf_y {r : Nat} {z : sd_Z} {j : Nat} (h : z.1 j ≠ 0 ∧ z.2 j = r) : sd_gf r z (j + 1) = Nat.gcd (sd_gf r z j) (z.1 j) := if_pos h
theorem sd_gf_n {r : Nat} {z : sd_Z} {j : Nat} (h : ¬ (z.1 j ≠ 0 ∧ z.2 j = r)) : sd_gf r z (j + 1) = sd_gf r z j := if_neg h
theorem sd_gf_dvd {r : Nat} {z : sd_Z} : ∀ n j, j < n → (z.1 j ≠ 0 ∧ z.2 j = r) → sd_gf r z n ∣ z.1 j := by
  intro n
  induction n with
  | zero => intro j hj; omega
  | succ n ih =>
    intro j hj h
    by_cases e : j = n
    · subst e
      rw [sd_gf_y h]
      exact Nat.gcd_dvd_right _ _
    · by_cases q : z.1 n ≠ 0 ∧ z.2 n = r
      · rw [sd_gf_y q]
        exact Nat.dvd_trans (Nat.gcd_dvd_left _ _) (ih j (by omega) h)
      · rw [sd_gf_n q]
        exact ih j (by omega) h
theorem sd_gf_1 {na r : Nat} {z : sd_Z} (O : sd_One na r z) : sd_gf r z na = 1 := O _ (fun j hj => sd_gf_dvd na j hj.1 hj.2)
theorem sd_gf_bd {na r : Nat} {z : sd_Z} (hb : ∀ i, i < na → z.1 i ≤ 134217728) : ∀ j, j ≤ na → sd_gf r z j ≤ 134217728 := by
  intro j
  induction j with
  | zero => intro _; exact Nat.zero_le _
  | succ j ih =>
    intro hj
    by_cases q : z.1 j ≠ 0 ∧ z.2 j = r
    · rw [sd_gf_y q]
      exact Nat.le_trans (Nat.gcd_le_right _ (Nat.pos_of_ne_zero q.1)) (hb j (by omega))
    · rw [sd_gf_n q]
      exact ih (by omega)
section
variable {YA : Int32} {YM : Int32} {yn : Int32} {ym : Int32} {yv : Int32} {ye : Int32} {yp : Int32} {yd : Int32} {gS : Nat → Int32} {gD : Nat → Int32} {gP : Nat → Int32} {gK : Nat → Int32} {gI : Nat → Int32} {gC : Nat → Int32} {yq : Nat → Int64} {yc : Nat → Int32} {yf : Nat → Int32} {yt : Nat → Int32} {ys : Nat → Int32} {yb : Nat → Int32} {yw : Nat → Int32} {yl : Nat → Int32} {yg : Nat → Int32}
theorem ya_nm55 {post : SY → Prop} {na r : Nat} {z : sd_Z} (hna : na ≤ 10) (hb : ∀ i, i < na → z.1 i ≤ 134217728)
    (K : ∀ yq' : Nat → Int64, (∀ i, i < na → yq' i = lN (z.1 i)) → post (YA, YM, nI na, ym, yv, ye, yp, yd, gS, gD, gP, gK, gI, gC, yq', yc, yf, yt, ys, yb, yw, yl, yg)) :
    ∀ (n j : Nat) (yq : Nat → Int64), na < n + j → j ≤ na → (∀ i, i < na → yq i = lN (z.1 i)) → wY_normalize_55 post (nI r) (lN 1) YA YM (nI na) ym yv ye yp yd n (nI j) gS gD gP gK gI gC yq yc yf yt ys yb yw yl yg := by
  intro n
  induction n with
  | zero => intro j yq h1 h2 h3; omega
  | succ n ih =>
    intro j yq h1 hj2 h2
    refine pk_le na j (fun hj => K yq h2) (fun hj => ?_)
    have hbj := hb j hj
    have hc : (nI j).toNatClampNeg = j := nI_clamp (by omega)
    refine ⟨vp_in_nI (by omega) (by decide), br_c (fun hz => ⟨vp_in_nI (by omega) (by decide), by decide, vp_in_nI (by omega) (by decide), nm_r (e' := vp_updL yq j (lN (z.1 j))) ?_ (nm_r (nI_1 j) (ih (j + 1) _ (by omega) (by omega) ?_))⟩) (fun hz => nm_r (nI_1 j) (ih (j + 1) yq (by omega) (by omega) h2))⟩
    · rw [hc, h2 j hj, pk_lDiv (by omega) (by decide) (by decide), Nat.div_one]
    · intro i hi
      by_cases e : i = j
      · rw [e, pk_uLs]
      · rw [pk_uLn e]
        exact h2 i hi
theorem ya_nm5 {post : SY → Prop} {na r : Nat} {z : sd_Z} (hna : na ≤ 10) (hr : r < na) (hb : ∀ i, i < na → z.1 i ≤ 134217728) (hR : sd_Rt na z) (hO : sd_One na r z) (hy : sd_YR na z yq yc)
    (K : ∀ yq' : Nat → Int64, (∀ i, i < na → yq' i = lN (z.1 i)) → post (YA, YM, nI na, ym, yv, ye, yp, yd, gS, gD, gP, gK, gI, gC, yq', yc, yf, yt, ys, yb, yw, yl, yg)) :
    ∀ (n j : Nat), na < n + j → j ≤ na → wY_normalize_5 post (nI r) YA YM (nI na) ym yv ye yp yd gS gD gP gK gI gC yq yc yf yt ys yb yw yl yg n (lN (sd_gf r z j)) (nI j) := by
  intro n
  induction n with
  | zero => intro j h1 h2; omega
  | succ n ih =>
    intro j h1 hj2
    refine pk_le na j (fun hj => ?_) (fun hj => ?_)
    · have e : j = na := by omega
      subst e
      rw [sd_gf_1 hO]
      exact br_t (by decide) ⟨j + 1, ya_nm55 hna hb K (j + 1) 0 yq (by omega) (Nat.zero_le _) (fun i hi => (hy i hi).1)⟩
    · have hc : (nI j).toNatClampNeg = j := nI_clamp (by omega)
      have hrr := sd_yc_r (r := r) (hy j hj).2 (fun e => by have := hR j hj e; omega) (by omega)
      refine ⟨vp_in_nI (by omega) (by decide), ?_⟩
      rw [hc, hrr]
      refine br_c (fun hz => ⟨vp_in_nI (by omega) (by decide), ?_⟩) (fun hz => nm_r (nI_1 j) (by
        have h := ih (j + 1) (by omega) (by omega)
        rw [sd_gf_n hz] at h
        exact h))
      rw [(hy j hj).1]
      have h3 := sd_gf_bd (r := r) hb j hj2
      have h4 := hb j hj
      refine ya_gcd (by omega) (by omega) (Nat.gcd_pos_of_pos_right _ (Nat.pos_of_ne_zero hz.1)) (nm_r (nI_1 j) ?_)
      have h := ih (j + 1) (by omega) (by omega)
      rw [sd_gf_y hz] at h
      exact h
theorem ya_a54 {post : Int32 → SY → Prop} {na nc : Nat} {s d p k i0 cp : Nat → Nat} (hna : na ≤ 10) (hnc : nc ≤ 24)
    (hG : sd_Gr na nc s d p k i0 cp gS gD gP gK gI gC)
    (K : ∀ (yq : Nat → Int64) (yc : Nat → Int32), (∀ j, j < na → yq j = lN (sd_Q na nc s d p k j)) → ∃ n104 : Nat, wY_analyze_104 post YA YM (nI na) (nI nc) yv ye yp yd gS gD gP gK gI gC yq yc yf yt ys yb yw yl yg n104 0) :
    ∀ (n r : Nat) (yq : Nat → Int64) (yc : Nat → Int32), na < n + r → r ≤ na → sd_YR na (sd_roots na nc s d p k r) yq yc → wY_analyze_54 post n (nI r) YA YM (nI na) (nI nc) yv ye yp yd gS gD gP gK gI gC yq yc yf yt ys yb yw yl yg := by
  intro n
  induction n with
  | zero => intro r yq yc h1 h2 h3; omega
  | succ n ih =>
    intro r yq yc h1 h2 hy
    have hO := sd_roots_out (p := p) (k := k) (sd_Gr_G hG) r h2
    refine pk_le na r (fun hj => ?_) (fun hj => ?_)
    · have e : r = na := by omega
      subst e
      exact K yq yc (fun j hj => (hy j hj).1)
    · have hc : (nI r).toNatClampNeg = r := nI_clamp (by omega)
      have v10 : vp_in (nI r) 10 := vp_in_nI (by omega) (by decide)
      by_cases h0 : (sd_roots na nc s d p k r).1 r = 0
      · have er : sd_roots na nc s d p k (r + 1) = sd_pass nc s d p k r (na - 1) (sd_st r (sd_roots na nc s d p k r)) := if_pos h0
        obtain ⟨hI, hc1⟩ := sd_st_inv hj hO h0
        have hE := (sd_pass_end (p := p) (k := k) (sd_Gr_G hG) hj hI hc1).2
        have hP := (sd_pass_inv (p := p) (k := k) (sd_Gr_G hG) hj hI (na - 1)).1
        refine ⟨v10, br_t (by rw [hc]; exact sd_yc_m (hy r hj).2 h0) ⟨v10, nm_r (e' := upd yc r (nI r)) (by rw [hc]) ⟨v10, nm_r (e' := vp_updL yq r 1) (by rw [hc]) ⟨na + 1, ?_⟩⟩⟩⟩
        refine ya_sp2 hna hnc hj hG hI (fun yq' yc' hy' => ⟨na + 1, ?_⟩) (na + 1) 0 _ _ (by omega) (Nat.zero_le _) (fun j hj2 => ?_)
        · show vp_updL yq r 1 j = lN ((sd_st r (sd_roots na nc s d p k r)).1 j) ∧ upd yc r (nI r) j = (if (sd_st r (sd_roots na nc s d p k r)).1 j = 0 then -1 else nI ((sd_st r (sd_roots na nc s d p k r)).2 j))
          by_cases e : j = r
          · rw [e, pk_uLs, pk_us, sd_st_r, sd_st_mr]
            exact ⟨rfl, rfl⟩
          · rw [pk_uLn e, pk_un e, sd_st_o e, sd_st_mo e]
            exact hy j hj2
        · rw [hE] at hy'
          refine ya_nm5 hna hj (fun i hi => sd_bd9 hna hP.2.1 hi) hP.2.2.1 hP.2.2.2 hy' (fun yq'' hq => nm_r (nI_1 r) (ih (r + 1) yq'' yc' (by omega) (by omega) ?_)) (na + 1) 0 (by omega) (Nat.zero_le _)
          rw [er]
          exact fun j hj => ⟨hq j hj, (hy' j hj).2⟩
      · have er : sd_roots na nc s d p k (r + 1) = sd_roots na nc s d p k r := if_neg h0
        have hm := hO.2.2.2 r hj h0
        exact ⟨v10, br_f (by rw [hc]; exact sd_yc_n (hy r hj).2 h0 (by omega)) (nm_r (nI_1 r) (ih (r + 1) yq yc (by omega) (by omega) (by rw [er]; exact hy)))⟩
theorem ya_a24 {post : Int32 → SY → Prop} {na nc : Nat} {s d p k i0 cp : Nat → Nat} (hna : na ≤ 10) (hnc : nc ≤ 24)
    (hG : sd_Gr na nc s d p k i0 cp gS gD gP gK gI gC)
    (K : ∀ (yq : Nat → Int64) (yc : Nat → Int32), (∀ j, j < na → yq j = lN (sd_Q na nc s d p k j)) → ∃ n104 : Nat, wY_analyze_104 post YA YM (nI na) (nI nc) yv ye yp yd gS gD gP gK gI gC yq yc yf yt ys yb yw yl yg n104 0) :
    ∀ (n j : Nat) (yq : Nat → Int64) (yc : Nat → Int32), na < n + j → j ≤ na → (∀ i, i < j → yq i = 0 ∧ yc i = -1) → wY_analyze_24 post YA YM (nI na) (nI nc) yv ye yp yd n (nI j) gS gD gP gK gI gC yq yc yf yt ys yb yw yl yg := by
  intro n
  induction n with
  | zero => intro j yq yc h1 h2 h3; omega
  | succ n ih =>
    intro j yq yc h1 h2 hy
    refine pk_le na j (fun hj => ⟨na + 1, ?_⟩) (fun hj => ⟨vp_in_nI (by omega) (by decide), nm_r (e' := upd yc j (-1)) (by rw [nI_clamp (by omega)]) ⟨vp_in_nI (by omega) (by decide), nm_r (e' := vp_updL yq j 0) (by rw [nI_clamp (by omega)]) (nm_r (nI_1 j) (ih (j + 1) _ _ (by omega) (by omega) (fun i hi => ?_)))⟩⟩)
    · exact ya_a54 hna hnc hG K (na + 1) 0 yq yc (by omega) (Nat.zero_le _) (fun i hi => hy i (by omega))
    · by_cases e : i = j
      · rw [e, pk_uLs, pk_us]
        exact ⟨rfl, rfl⟩
      · rw [pk_uLn e, pk_un e]
        exact hy i (by omega)
end
