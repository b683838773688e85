/-! run -/
abbrev sd_EE : Type := Nat × (Nat → Nat → Int32) × (Nat → Int32) × Int32
def sd_e1 (nc L : Nat) (s d p k sch : Nat → Nat) (T : Nat → Nat → Nat) (e : sd_EE) : sd_EE :=
  (if e.1 + 1 < L then e.1 + 1 else 0,
   sd_pV s (sch e.1) (31 * sd_tS d k (sch e.1) e.2.1 nc + e.2.2.1 (sch e.1) + 1) (sd_tN d k (sch e.1) (T e.1) nc) (sd_tV d k (sch e.1) e.2.1 nc) nc,
   upd e.2.2.1 (sch e.1) (e.2.2.1 (sch e.1) + 1),
   if e.1 + 1 < L then e.2.2.2 else e.2.2.2 + 1)
def sd_ei (nc L : Nat) (s d p k sch : Nat → Nat) (T : Nat → Nat → Nat) (e : sd_EE) : Nat → sd_EE
  | 0 => e
  | i + 1 => sd_e1 nc L s d p k sch T (sd_ei nc L s d p k sch T e i)
def sd_XE (na nc L : Nat) (T : Nat → Nat → Nat) (e : sd_EE) (xp xd : Int32) (xw xh xl xg : Nat → Int32) : Prop := e.1 < L ∧ xp = nI e.1 ∧ xd = e.2.2.2 ∧ (∀ j, j < na → xg j = e.2.2.1 j) ∧ ∃ hd : Nat → Nat, sd_HL nc (T e.1) hd xh xl ∧ sd_XS nc (T e.1) hd e.2.1 xw
def sd_YE (na nc L : Nat) (T : Nat → Nat → Nat) (e : sd_EE) (yp yd : Int32) (yw yl yg : Nat → Int32) : Prop := e.1 < L ∧ yp = nI e.1 ∧ yd = e.2.2.2 ∧ (∀ j, j < na → yg j = e.2.2.1 j) ∧ sd_Ar nc (T e.1) yl ∧ sd_YS nc (T e.1) e.2.1 yw
theorem sd_XS_N {nc : Nat} {N N' hd : Nat → Nat} {V : Nat → Nat → Int32} {st : Nat → Int32} (e : ∀ c, c < nc → N' c = N c) (h : sd_XS nc N hd V st) : sd_XS nc N' hd V st := fun c hc i hi => h c hc i (by rw [← e c hc]; exact hi)
theorem sd_YS_N {nc : Nat} {N N' : Nat → Nat} {V : Nat → Nat → Int32} {st : Nat → Int32} (e : ∀ c, c < nc → N' c = N c) (h : sd_YS nc N V st) : sd_YS nc N' V st := fun c hc i hi => by
  rw [sd_sum_eq (f := N') (g := N) c (fun j hj => e j (by omega))]
  exact h c hc i (by rw [← e c hc]; exact hi)
/-- the counts after a step -/
theorem sd_e1_N {na nc L : Nat} {s d p k i0 B sch : Nat → Nat} {T : Nat → Nat → Nat} {e : sd_EE} (hE : sd_Ex na nc s d p k i0 B L sch T) (h : e.1 < L) : ∀ c, c < nc → T (sd_e1 nc L s d p k sch T e).1 c = sd_pN s p (sch e.1) (sd_tN d k (sch e.1) (T e.1) nc) nc c := fun c hc => by
  obtain ⟨_, h0, h1, _⟩ := hE
  have h2 := ((h1 e.1 h).2 c hc).2
  rw [sd_tp hc, ← h2]
  show T (if e.1 + 1 < L then e.1 + 1 else 0) c = T (e.1 + 1) c
  by_cases l : e.1 + 1 < L
  · rw [if_pos l]
  · rw [if_neg l, (h0 c hc).1, show e.1 + 1 = L by omega, (h0 c hc).2]
theorem sd_e1_lt {nc L : Nat} {s d p k sch : Nat → Nat} {T : Nat → Nat → Nat} {e : sd_EE} (h : e.1 < L) : (sd_e1 nc L s d p k sch T e).1 < L := by
  show (if e.1 + 1 < L then e.1 + 1 else 0) < L
  split <;> omega
theorem sd_e1_g {na nc L : Nat} {s d p k sch : Nat → Nat} {T : Nat → Nat → Nat} {e : sd_EE} {g : Nat → Int32} (ha : sch e.1 < na) (h : ∀ j, j < na → g j = e.2.2.1 j) : ∀ j, j < na → upd g (sch e.1) (g (sch e.1) + 1) j = (sd_e1 nc L s d p k sch T e).2.2.1 j := fun j hj => by
  show _ = upd e.2.2.1 (sch e.1) (e.2.2.1 (sch e.1) + 1) j
  by_cases l : j = sch e.1
  · rw [l, pk_us, pk_us, h _ ha]
  · rw [pk_un l, pk_un l]
    exact h j hj
section
variable {XA : Int32} {XM : Int32} {xn : Int32} {xm : Int32} {xv : Int32} {xe : Int32} {xp : Int32} {xd : Int32} {gS : Nat → Int32} {gD : Nat → Int32} {gP : Nat → Int32} {gK : Nat → Int32} {gI : Nat → Int32} {gC : Nat → Int32} {xq : Nat → Int64} {xc : Nat → Int32} {xs : Nat → Int32} {xb : Nat → Int32} {xt : Nat → Int32} {xf : Nat → Int32} {xw : Nat → Int32} {xh : Nat → Int32} {xl : Nat → Int32} {xg : Nat → Int32}
theorem xg_st {post : SX → Prop} {na nc L : Nat} {s d p k i0 cp B sch : Nat → Nat} {T : Nat → Nat → Nat} {e : sd_EE} (hna : na ≤ 10) (hnc : nc ≤ 24) (hG : sd_Gr na nc s d p k i0 cp gS gD gP gK gI gC) (hE : sd_Ex na nc s d p k i0 B L sch T) (hs : ∀ i, i < L → xs i = nI (sch i)) (hX : sd_XE na nc L T e xp xd xw xh xl xg)
    (K : ∀ (xp xd : Int32) (xw xh xl xg : Nat → Int32), sd_XE na nc L T (sd_e1 nc L s d p k sch T e) xp xd xw xh xl xg → post (XA, XM, nI na, nI nc, xv, nI L, xp, xd, gS, gD, gP, gK, gI, gC, xq, xc, xs, xb, xt, xf, xw, xh, xl, xg)) : wpX_step post (XA, XM, nI na, nI nc, xv, nI L, xp, xd, gS, gD, gP, gK, gI, gC, xq, xc, xs, xb, xt, xf, xw, xh, xl, xg) := by
  obtain ⟨h1, rfl, h3, h4, hd, h5, h6⟩ := hX
  have hN := sd_e1_N hE h1
  have hlt := sd_e1_lt (nc := nc) (s := s) (d := d) (p := p) (k := k) (sch := sch) (T := T) h1
  obtain ⟨⟨_, hL⟩, q0, q1, q2, q3⟩ := hE
  obtain ⟨ha, hc⟩ := q1 e.1 h1
  have hg := sd_e1_g (nc := nc) (L := L) (s := s) (d := d) (p := p) (k := k) (T := T) ha h4
  refine xd_st hna hnc hG ha h1 hL (hs e.1 h1) (fun c hc2 => (hc c hc2).1) (fun c hc2 => ?_) h5 h6 (fun hd' xw' xh' xl' k1 k2 => ?_)
  · have b1 := q2 (e.1 + 1) (by omega) c hc2
    rw [(hc c hc2).2] at b1
    have b2 := sd_sum_at (f := B) hc2
    omega
  · rw [h4 _ ha] at k2
    have j1 : sd_HL nc (T (sd_e1 nc L s d p k sch T e).1) hd' xh' xl' := fun c hc2 => by
      rw [hN c hc2]
      exact k1 c hc2
    have j2 := sd_XS_N hN k2
    refine ⟨fun l => K _ _ xw' xh' xl' _ ⟨hlt, ?_, ?_, hg, hd', j1, j2⟩, fun l => K _ _ xw' xh' xl' _ ⟨hlt, ?_, ?_, hg, hd', j1, j2⟩⟩
    · show nI (e.1 + 1) = nI (if e.1 + 1 < L then e.1 + 1 else 0)
      rw [if_pos l]
    · show xd = (if e.1 + 1 < L then e.2.2.2 else e.2.2.2 + 1)
      rw [if_pos l]
      exact h3
    · show 0 = nI (if e.1 + 1 < L then e.1 + 1 else 0)
      rw [if_neg (by omega)]
      rfl
    · show xd + 1 = (if e.1 + 1 < L then e.2.2.2 else e.2.2.2 + 1)
      rw [if_neg (by omega), h3]
theorem xg_run {post : Int32 → SX → Prop} {na nc L m : Nat} {s d p k i0 cp B sch : Nat → Nat} {T : Nat → Nat → Nat} {e : sd_EE} (hna : na ≤ 10) (hnc : nc ≤ 24) (hG : sd_Gr na nc s d p k i0 cp gS gD gP gK gI gC) (hE : sd_Ex na nc s d p k i0 B L sch T) (hs : ∀ i, i < L → xs i = nI (sch i)) (hm : m ≤ 256)
    (K : ∀ (xp xd : Int32) (xw xh xl xg : Nat → Int32), sd_XE na nc L T (sd_ei nc L s d p k sch T e m) xp xd xw xh xl xg → post xd (XA, XM, nI na, nI nc, xv, nI L, xp, xd, gS, gD, gP, gK, gI, gC, xq, xc, xs, xb, xt, xf, xw, xh, xl, xg)) :
    ∀ (n i : Nat) (xp xd : Int32) (xw xh xl xg : Nat → Int32), m < n + i → i ≤ m → sd_XE na nc L T (sd_ei nc L s d p k sch T e i) xp xd xw xh xl xg → wX_run_24 post (nI m) n (nI i) XA XM (nI na) (nI nc) xv (nI L) xp xd gS gD gP gK gI gC xq xc xs xb xt xf xw xh xl xg := by
  intro n
  induction n with
  | zero => intro i xp xd xw xh xl xg h1 h2; omega
  | succ n ih =>
    intro i xp xd xw xh xl xg h1 h2 hX
    refine pk_le m i (fun hj => ?_) (fun hj => xg_st hna hnc hG hE hs hX (fun xp' xd' xw' xh' xl' xg' hX' => nm_r (nI_1 i) (ih (i + 1) xp' xd' xw' xh' xl' xg' (by omega) (by omega) hX')))
    have e : i = m := by omega
    subst e
    exact K xp xd xw xh xl xg hX
end
section
variable {YA : Int32} {YM : Int32} {yn : Int32} {ym : Int32} {yv : Int32} {ye : Int32} {yp : Int32} {yd : Int32} {gS : Nat → Int32} {gD : Nat → Int32} {gP : Nat → Int32} {gK : Nat → Int32} {gI : Nat → Int32} {gC : Nat → Int32} {yq : Nat → Int64} {yc : Nat → Int32} {yf : Nat → Int32} {yt : Nat → Int32} {ys : Nat → Int32} {yb : Nat → Int32} {yw : Nat → Int32} {yl : Nat → Int32} {yg : Nat → Int32}
theorem yg_st {post : SY → Prop} {na nc L : Nat} {s d p k i0 cp B sch : Nat → Nat} {T : Nat → Nat → Nat} {e : sd_EE} (hna : na ≤ 10) (hnc : nc ≤ 24) (hG : sd_Gr na nc s d p k i0 cp gS gD gP gK gI gC) (hE : sd_Ex na nc s d p k i0 B L sch T) (hs : ∀ i, i < L → ys i = nI (sch i)) (hY : sd_YE na nc L T e yp yd yw yl yg)
    (K : ∀ (yp yd : Int32) (yw yl yg : Nat → Int32), sd_YE na nc L T (sd_e1 nc L s d p k sch T e) yp yd yw yl yg → post (YA, YM, nI na, nI nc, yv, nI L, yp, yd, gS, gD, gP, gK, gI, gC, yq, yc, yf, yt, ys, yb, yw, yl, yg)) : wpY_step post (YA, YM, nI na, nI nc, yv, nI L, yp, yd, gS, gD, gP, gK, gI, gC, yq, yc, yf, yt, ys, yb, yw, yl, yg) := by
  obtain ⟨h1, rfl, h3, h4, h5, h6⟩ := hY
  have hN := sd_e1_N hE h1
  have hlt := sd_e1_lt (nc := nc) (s := s) (d := d) (p := p) (k := k) (sch := sch) (T := T) h1
  obtain ⟨⟨_, hL⟩, q0, q1, q2, q3⟩ := hE
  obtain ⟨ha, hc⟩ := q1 e.1 h1
  have hg := sd_e1_g (nc := nc) (L := L) (s := s) (d := d) (p := p) (k := k) (T := T) ha h4
  have hs1 : ∀ i, i ≤ L → sd_sum (T i) nc ≤ 512 := fun i hi => Nat.le_trans (sd_sum_le nc (fun j hj => q2 i hi j hj)) q3
  have hs2 : sd_sum (sd_fire s d p k (sch e.1) (T e.1)) nc ≤ 512 := by
    rw [← sd_sum_eq nc (fun j hj => (hc j hj).2)]
    exact hs1 (e.1 + 1) (by omega)
  refine yd_st hna hnc hG ha h1 hL (hs e.1 h1) (fun c hc2 => (hc c hc2).1) (hs1 e.1 (by omega)) hs2 h5 h6 (fun yw' yl' k1 k2 => ?_)
  rw [h4 _ ha] at k2
  have j1 : sd_Ar nc (T (sd_e1 nc L s d p k sch T e).1) yl' := fun c hc2 => by
    rw [hN c hc2]
    exact k1 c hc2
  have j2 := sd_YS_N hN k2
  refine ⟨fun l => K _ _ yw' yl' _ ⟨hlt, ?_, ?_, hg, j1, j2⟩, fun l => K _ _ yw' yl' _ ⟨hlt, ?_, ?_, hg, j1, j2⟩⟩
  · show nI (e.1 + 1) = nI (if e.1 + 1 < L then e.1 + 1 else 0)
    rw [if_pos l]
  · show yd = (if e.1 + 1 < L then e.2.2.2 else e.2.2.2 + 1)
    rw [if_pos l]
    exact h3
  · show 0 = nI (if e.1 + 1 < L then e.1 + 1 else 0)
    rw [if_neg (by omega)]
    rfl
  · show yd + 1 = (if e.1 + 1 < L then e.2.2.2 else e.2.2.2 + 1)
    rw [if_neg (by omega), h3]
theorem yg_run {post : Int32 → SY → Prop} {na nc L m : Nat} {s d p k i0 cp B sch : Nat → Nat} {T : Nat → Nat → Nat} {e : sd_EE} (hna : na ≤ 10) (hnc : nc ≤ 24) (hG : sd_Gr na nc s d p k i0 cp gS gD gP gK gI gC) (hE : sd_Ex na nc s d p k i0 B L sch T) (hs : ∀ i, i < L → ys i = nI (sch i)) (hm : m ≤ 256)
    (K : ∀ (yp yd : Int32) (yw yl yg : Nat → Int32), sd_YE na nc L T (sd_ei nc L s d p k sch T e m) yp yd yw yl yg → post yd (YA, YM, nI na, nI nc, yv, nI L, yp, yd, gS, gD, gP, gK, gI, gC, yq, yc, yf, yt, ys, yb, yw, yl, yg)) :
    ∀ (n i : Nat) (yp yd : Int32) (yw yl yg : Nat → Int32), m < n + i → i ≤ m → sd_YE na nc L T (sd_ei nc L s d p k sch T e i) yp yd yw yl yg → wY_run_26 post (nI m) n (nI i) YA YM (nI na) (nI nc) yv (nI L) yp yd gS gD gP gK gI gC yq yc yf yt ys yb yw yl yg := by
  intro n
  induction n with
  | zero => intro i yp yd yw yl yg h1 h2; omega
  | succ n ih =>
    intro i yp yd yw yl yg h1 h2 hY
    refine pk_le m i (fun hj => ?_) (fun hj => yg_st hna hnc hG hE hs hY (fun yp' yd' yw' yl' yg' hY' => nm_r (nI_1 i) (ih (i + 1) yp' yd' yw' yl' yg' (by omega) (by omega) hY')))
    have e : i = m := by omega
    subst e
    exact K yp yd yw yl yg hY
end
theorem sd_r1 (x : Int32) : x < 1 ∨ (¬ x < 1 ∧ ¬ x ≤ 256) ∨ ∃ q : Nat, 0 < q ∧ q ≤ 256 ∧ x = nI q := by
  by_cases h : x < 1
  · exact Or.inl h
  · have h0 : ¬ x < 0 := fun z => h (Int32.lt_trans z (by decide))
    obtain ⟨j, hj, rfl⟩ := nI_of h0
    have h1 : 0 < j := by
      apply Nat.pos_of_ne_zero
      intro e
      subst e
      exact h (by decide)
    by_cases h2 : j ≤ 256
    · exact Or.inr (Or.inr ⟨j, h1, h2, rfl⟩)
    · exact Or.inr (Or.inl ⟨h, nI_ge (a := 256) (by omega) hj⟩)
theorem i_vc_run {k : Nat} {u : SX} {v : SY} (I : i_Rel k u v) (hk : k + 5 ≤ 2562) (v1 : Int32) : wpX_run (fun r u' => wpY_run (fun r' v' => r' = r ∧ i_Rel (k + 5) u' v') v v1) u v1 := by
  have I0 := I
  obtain ⟨ma, mc, na, nc, s, d, p, kk, i0, cp, gS, gD, gP, gK, gI, gC, w, xe, xp, xd, xq, xc, xs, xb, xt, xf, xw, xh, xl, xg, ye, yp, yd, yq, yc, yf, yt, ys, yb, yw, yl, yg, rfl, rfl, hN, hG, hV⟩ := I
  obtain ⟨n1, n2, n3, n4, n5, n6⟩ := hN
  by_cases hw : w = 1
  · rcases sd_r1 v1 with a | ⟨a, a'⟩ | ⟨m, h0, hm, rfl⟩
    · exact br_t hw (br_t a (br_t hw (br_t a ⟨rfl, I0⟩)))
    · exact br_t hw (br_f a (br_f a' (br_t hw (br_f a (br_f a' ⟨rfl, I0⟩)))))
    · have W1 := sd_VC_1 hV (Or.inl hw)
      have W2 := sd_VC_2 hV (Or.inl hw)
      obtain ⟨L, pos, sch, hd, B, T, V, hE, ⟨rfl, rfl⟩, h2, ⟨h3, h4, h5, h6⟩, h7, h8, h9, h10⟩ := sd_VC_3 hV hw
      have sa : ¬ nI m < 1 := nI_nlt (b := 1) h0 (by omega)
      have ta : nI m ≤ 256 := nI_le (b := 256) hm (by decide)
      have hX : sd_XE na nc L T (pos, V, xg, xd) xp xd xw xh xl xg := ⟨h3, h4, rfl, fun _ _ => rfl, hd, fun c hc => ⟨(h8 c hc).1, (h8 c hc).2.2.1, (h8 c hc).2.2.2⟩, h9⟩
      have hY : sd_YE na nc L T (pos, V, xg, xd) yp yd yw yl yg := ⟨h3, h5, h6, h7, fun c hc => (h8 c hc).2.1, h10⟩
      refine br_t hw (br_f sa (br_t ta ⟨m + 1, ?_⟩))
      refine xg_run (by omega) (by omega) hG hE (fun i hi => (h2 i hi).1) hm (fun xp' xd' xw' xh' xl' xg' hX' => ?_) (m + 1) 0 xp xd xw xh xl xg (by omega) (Nat.zero_le _) hX
      refine br_t hw (br_f sa (br_t ta ⟨m + 1, ?_⟩))
      refine yg_run (by omega) (by omega) hG hE (fun i hi => (h2 i hi).2) hm (fun yp' yd' yw' yl' yg' hY' => ?_) (m + 1) 0 yp yd yw yl yg (by omega) (Nat.zero_le _) hY
      obtain ⟨e1, e2, e3, e4, hd', e5, e6⟩ := hX'
      obtain ⟨_, f2, f3, f4, f5, f6⟩ := hY'
      refine ⟨f3.trans e3.symm, sd_mk ⟨n1, n2, n3, n4, n5, n6⟩ hG (Or.inr (Or.inr (Or.inr (Or.inr (Or.inr (Or.inr ⟨hw, W1, W2, ?_⟩))))))⟩
      exact ⟨L, _, sch, hd', B, T, _, hE, ⟨rfl, rfl⟩, h2, ⟨e1, e2, f2, f3.trans e3.symm⟩, fun j hj => (f4 j hj).trans (e4 j hj).symm, fun c hc => ⟨(e5 c hc).1, f5 c hc, (e5 c hc).2.1, (e5 c hc).2.2⟩, e6, f6⟩
  · exact br_f hw (br_f hw ⟨rfl, I0⟩)
