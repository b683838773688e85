/-! the reference's executor -/
theorem sd_YS_v {nc : Nat} {N : Nat → Nat} {V V' : Nat → Nat → Int32} {st : Nat → Int32} (h : sd_YS nc N V st) (e : ∀ c, c < nc → ∀ i, i < N c → V' c i = V c i) : sd_YS nc N V' st := fun c hc i hi => (h c hc i hi).trans (e c hc i hi).symm
section
variable {YA : Int32} {YM : Int32} {yn : Int32} {ym : Int32} {yv : Int32} {ye : Int32} {yp : Int32} {yd : Int32} {gS : Nat → Int32} {gD : Nat → Int32} {gP : Nat → Int32} {gK : Nat → Int32} {gI : Nat → Int32} {gC : Nat → Int32} {yq : Nat → Int64} {yc : Nat → Int32} {yf : Nat → Int32} {yt : Nat → Int32} {ys : Nat → Int32} {yb : Nat → Int32} {yw : Nat → Int32} {yl : Nat → Int32} {yg : Nat → Int32}
theorem yd_so4 {post : Int32 → Prop} {nc c : Nat} {N : Nat → Nat} (hnc : nc ≤ 24) (hc : c ≤ nc) (hl : sd_Ar nc N yl) (K : post (nI (sd_sum N c))) :
    ∀ n j, c < n + j → j ≤ c → wY_startOf_4 post (nI c) YA YM yn (nI nc) yv ye yp yd gS gD gP gK gI gC yq yc yf yt ys yb yw yl yg n (nI (sd_sum N j)) (nI j) := by
  intro n
  induction n with
  | zero => intro j h1 h2; omega
  | succ n ih =>
    intro j h1 h2
    refine pk_le c j (fun hj => ?_) (fun hj => pk_le nc j (fun h => absurd h (by omega)) (fun h => ⟨vp_in_nI (by omega) (by decide), nm_r (e' := nI (sd_sum N (j + 1))) (by rw [nI_clamp (by omega), hl j (by omega), nI_add]; rfl) (nm_r (nI_1 j) (ih (j + 1) (by omega) (by omega)))⟩))
    have e : j = c := by omega
    subst e
    exact K
theorem yd_so {post : Int32 → Prop} {nc c : Nat} {N : Nat → Nat} (hnc : nc ≤ 24) (hc : c ≤ nc) (hl : sd_Ar nc N yl) (K : post (nI (sd_sum N c))) : wpY_startOf post (YA, YM, yn, nI nc, yv, ye, yp, yd, gS, gD, gP, gK, gI, gC, yq, yc, yf, yt, ys, yb, yw, yl, yg) (nI c) :=
  ⟨c + 1, yd_so4 hnc hc hl K (c + 1) 0 (by omega) (Nat.zero_le _)⟩
theorem yd_tt4 {post : Int32 → Prop} {nc : Nat} {N : Nat → Nat} (hnc : nc ≤ 24) (hl : sd_Ar nc N yl) (K : post (nI (sd_sum N nc))) :
    ∀ n j, nc < n + j → j ≤ nc → wY_totalTokens_4 post YA YM yn (nI nc) yv ye yp yd gS gD gP gK gI gC yq yc yf yt ys yb yw yl yg n (nI (sd_sum N j)) (nI j) := by
  intro n
  induction n with
  | zero => intro j h1 h2; omega
  | succ n ih =>
    intro j h1 h2
    refine pk_le nc j (fun hj => ?_) (fun hj => ⟨vp_in_nI (by omega) (by decide), nm_r (e' := nI (sd_sum N (j + 1))) (by rw [nI_clamp (by omega), hl j (by omega), nI_add]; rfl) (nm_r (nI_1 j) (ih (j + 1) (by omega) (by omega)))⟩)
    have e : j = nc := by omega
    subst e
    exact K
theorem yd_tt {post : Int32 → Prop} {nc : Nat} {N : Nat → Nat} (hnc : nc ≤ 24) (hl : sd_Ar nc N yl) (K : post (nI (sd_sum N nc))) : wpY_totalTokens post (YA, YM, yn, nI nc, yv, ye, yp, yd, gS, gD, gP, gK, gI, gC, yq, yc, yf, yt, ys, yb, yw, yl, yg) :=
  ⟨nc + 1, yd_tt4 hnc hl K (nc + 1) 0 (by omega) (Nat.zero_le _)⟩
theorem yd_th46 {post : Int32 → SY → Prop} {c q st tot : Nat} {v : Int32} {w0 : Nat → Int32} (hc : c < 24) (hl : yl c = nI q) (hq : 0 < q) (ht0 : st < tot) (ht : tot ≤ 512)
    (K : ∀ yw : Nat → Int32, (∀ i, i < st → yw i = w0 i) → (∀ i, st ≤ i → i + 1 < tot → yw i = w0 (i + 1)) → post v (YA, YM, yn, ym, yv, ye, yp, yd, gS, gD, gP, gK, gI, gC, yq, yc, yf, yt, ys, yb, yw, upd yl c (nI (q - 1)), yg)) :
    ∀ (n j : Nat) (yw : Nat → Int32), tot < n + j → st ≤ j → j < tot → (∀ i, i < st → yw i = w0 i) → (∀ i, st ≤ i → i < j → yw i = w0 (i + 1)) → (∀ i, j ≤ i → yw i = w0 i) → wY_takeHead_46 post (nI c) v (nI tot) YA YM yn ym yv ye yp yd n (nI j) gS gD gP gK gI gC yq yc yf yt ys yb yw yl yg := by
  intro n
  induction n with
  | zero => intro j yw h1 h2 h3; omega
  | succ n ih =>
    intro j yw h1 h2 h3 w1 w2 w3
    have hcl : (nI c).toNatClampNeg = c := nI_clamp (by omega)
    have v24 : vp_in (nI c) 24 := vp_in_nI (by omega) (by decide)
    have e1 : nI tot - 1 = nI (tot - 1) := pk_sub (b := 1) (by omega)
    have KK : tot - 1 ≤ j → wY_takeHead_85 post (nI c) v YA YM yn ym yv ye yp yd gS gD gP gK gI gC yq yc yf yt ys yb yw yl yg := fun h => ⟨v24, v24, nm_r (e' := upd yl c (nI (q - 1))) (by rw [hcl, hl]; exact congrArg (upd yl c) (pk_sub (b := 1) (by omega))) (K yw w1 (fun i h5 h6 => w2 i h5 (by omega)))⟩
    refine pk_le (tot - 1) j KK (fun hj => pk_le 511 j (fun h => absurd h (by omega)) (fun h => ⟨?_, vp_in_nI (by omega) (by decide), nm_r (e' := upd yw j (yw (j + 1))) ?_ (nm_r (nI_1 j) (ih (j + 1) _ (by omega) (by omega) (by omega) (fun i hi => ?_) (fun i h5 h6 => ?_) (fun i hi => ?_)))⟩)) e1
    · rw [nI_1]
      exact vp_in_nI (by omega) (by decide)
    · rw [nI_1, nI_clamp (by omega), nI_clamp (by omega)]
    · rw [pk_un (by omega)]
      exact w1 i hi
    · by_cases e : i = j
      · rw [e, pk_us]
        exact w3 (j + 1) (by omega)
      · rw [pk_un e]
        exact w2 i h5 (by omega)
    · rw [pk_un (by omega)]
      exact w3 i (by omega)
theorem yd_th {post : Int32 → SY → Prop} {nc c : Nat} {N : Nat → Nat} {V : Nat → Nat → Int32} (hnc : nc ≤ 24) (hc : c < nc) (hl : sd_Ar nc N yl) (h0 : 0 < N c) (hs : sd_sum N nc ≤ 512) (hy : sd_YS nc N V yw)
    (K : ∀ yw : Nat → Int32, sd_YS nc (sd_uN N c (N c - 1)) (sd_dV V c 1) yw → post (V c 0) (YA, YM, yn, nI nc, yv, ye, yp, yd, gS, gD, gP, gK, gI, gC, yq, yc, yf, yt, ys, yb, yw, upd yl c (nI (N c - 1)), yg)) : wpY_takeHead post (YA, YM, yn, nI nc, yv, ye, yp, yd, gS, gD, gP, gK, gI, gC, yq, yc, yf, yt, ys, yb, yw, yl, yg) (nI c) := by
  have hcl : (nI c).toNatClampNeg = c := nI_clamp (by omega)
  have v24 : vp_in (nI c) 24 := vp_in_nI (by omega) (by decide)
  have hat := sd_sum_at (f := N) hc
  have hv : yw (sd_sum N c) = V c 0 := hy c hc 0 h0
  have e0 : 0 < yl (nI c).toNatClampNeg := by
    rw [hcl, hl c hc]
    exact nI_lt (a := 0) h0 (by omega)
  refine ⟨v24, br_t e0 (yd_so hnc (by omega) hl (br_f (nI_pos (by omega)) (br_t (nI_lt (b := 512) (by omega) (by decide)) ⟨vp_in_nI (by omega) (by decide), nm_r (e' := V c 0) (by rw [nI_clamp (by omega)]; exact hv) (yd_tt hnc hl ⟨sd_sum N nc + 1, ?_⟩)⟩)))⟩
  exact yd_th46 (w0 := yw) (by omega) (hl c hc) h0 (by omega) hs (fun yw' k1 k2 => K yw' (sd_YS_deq hy hc h0 k1 k2)) (sd_sum N nc + 1) (sd_sum N c) yw (by omega) (Nat.le_refl _) (by omega) (fun _ _ => rfl) (fun i h5 h6 => absurd h6 (by omega)) (fun _ _ => rfl)
theorem yd_at42 {post : SY → Prop} {c q at0 tot : Nat} {v : Int32} {w0 : Nat → Int32} (hc : c < 24) (hl : yl c = nI q) (ht : tot < 512)
    (K : ∀ yw : Nat → Int32, (∀ i, i < at0 → yw i = w0 i) → yw at0 = v → (∀ i, at0 ≤ i → i < tot → yw (i + 1) = w0 i) → post (YA, YM, yn, ym, yv, ye, yp, yd, gS, gD, gP, gK, gI, gC, yq, yc, yf, yt, ys, yb, yw, upd yl c (nI (q + 1)), yg)) :
    ∀ (n j : Nat) (yw : Nat → Int32), j < n + at0 → at0 ≤ j → j ≤ tot → (∀ i, i ≤ j → yw i = w0 i) → (∀ i, j ≤ i → i < tot → yw (i + 1) = w0 i) → wY_appendTail_42 post (nI c) v (nI at0) YA YM yn ym yv ye yp yd n (nI j) gS gD gP gK gI gC yq yc yf yt ys yb yw yl yg := by
  intro n
  induction n with
  | zero => intro j yw h1 h2 h3; omega
  | succ n ih =>
    intro j yw h1 h2 h3 w1 w2
    have hcl : (nI c).toNatClampNeg = c := nI_clamp (by omega)
    have v24 : vp_in (nI c) 24 := vp_in_nI (by omega) (by decide)
    refine pk_le j at0 (fun hj => ?_) (fun hj => ?_)
    · have e : j = at0 := by omega
      subst e
      refine ⟨vp_in_nI (by omega) (by decide), nm_r (e' := upd yw j v) (by rw [nI_clamp (by omega)]) ⟨v24, v24, nm_r (e' := upd yl c (nI (q + 1))) (by rw [hcl, hl, nI_1]) (K _ (fun i hi => ?_) pk_us (fun i h5 h6 => ?_))⟩⟩
      · rw [pk_un (by omega)]
        exact w1 i (by omega)
      · rw [pk_un (by omega)]
        exact w2 i h5 h6
    · obtain ⟨j, rfl⟩ : ∃ m, j = m + 1 := ⟨j - 1, by omega⟩
      refine ⟨?_, vp_in_nI (by omega) (by decide), nm_r (e' := upd yw (j + 1) (yw j)) ?_ (nm_r (pk_m1 j) (ih j _ (by omega) (by omega) (by omega) (fun i hi => ?_) (fun i h5 h6 => ?_)))⟩
      · rw [nI_pred]
        exact vp_in_nI (by omega) (by decide)
      · rw [nI_pred, nI_clamp (by omega), nI_clamp (by omega)]
      · rw [pk_un (by omega)]
        exact w1 i (by omega)
      · by_cases e : i = j
        · rw [e, pk_us]
          exact w1 j (by omega)
        · rw [pk_un (by omega)]
          exact w2 i (by omega) h6
theorem yd_at {post : SY → Prop} {nc c : Nat} {N : Nat → Nat} {V : Nat → Nat → Int32} {v : Int32} (hnc : nc ≤ 24) (hc : c < nc) (hl : sd_Ar nc N yl) (hs : sd_sum N nc < 512) (hy : sd_YS nc N V yw)
    (K : ∀ yw : Nat → Int32, sd_YS nc (sd_uN N c (N c + 1)) (sd_eV V c (N c) v) yw → post (YA, YM, yn, nI nc, yv, ye, yp, yd, gS, gD, gP, gK, gI, gC, yq, yc, yf, yt, ys, yb, yw, upd yl c (nI (N c + 1)), yg)) : wpY_appendTail post (YA, YM, yn, nI nc, yv, ye, yp, yd, gS, gD, gP, gK, gI, gC, yq, yc, yf, yt, ys, yb, yw, yl, yg) (nI c) v := by
  have hcl : (nI c).toNatClampNeg = c := nI_clamp (by omega)
  have v24 : vp_in (nI c) 24 := vp_in_nI (by omega) (by decide)
  have hat := sd_sum_at (f := N) hc
  refine yd_tt hnc hl (br_t (nI_lt (b := 512) hs (by decide)) (yd_so hnc (by omega) hl ⟨v24, nm_r (e' := nI (sd_sum N c + N c)) (by rw [hcl, hl c hc, nI_add]) (br_f (nI_pos (by omega)) (br_t (nI_le hat (by omega)) ⟨sd_sum N nc + 1, ?_⟩))⟩))
  exact yd_at42 (w0 := yw) (by omega) (hl c hc) hs (fun yw' k1 k2 k3 => K yw' (sd_YS_enq hy hc k1 k2 k3)) (sd_sum N nc + 1) (sd_sum N nc) yw (by omega) hat (Nat.le_refl _) (fun _ _ => rfl) (fun i h5 h6 => absurd h6 (by omega))
/-! takes -/
theorem yd_67 {post : SY → Prop} {J43 : Int32 → Int32 → Int32 → Int32 → Int32 → Int32 → Int32 → Int32 → Int32 → Int32 → (Nat → Int32) → (Nat → Int32) → (Nat → Int32) → (Nat → Int32) → (Nat → Int32) → (Nat → Int32) → (Nat → Int64) → (Nat → Int32) → (Nat → Int32) → (Nat → Int32) → (Nat → Int32) → (Nat → Int32) → (Nat → Int32) → (Nat → Int32) → (Nat → Int32) → Prop} {x1 : Int32} {nc c m : Nat} {N : Nat → Nat} {V : Nat → Nat → Int32} {s0 : Int32} (hnc : nc ≤ 24) (hc : c < nc) (hK : gK c = nI m) (hm : m ≤ 8) (hq : m ≤ N c) (hs : sd_sum N nc ≤ 512)
    (K : ∀ yw yl : Nat → Int32, sd_Ar nc (sd_uN N c (N c - m)) yl → sd_YS nc (sd_uN N c (N c - m)) (sd_dV V c m) yw → J43 (sd_ts (V c) s0 m) (nI (c + 1)) YA YM yn (nI nc) yv ye yp yd gS gD gP gK gI gC yq yc yf yt ys yb yw yl yg) :
    ∀ (n i : Nat) (yw yl : Nat → Int32), m < n + i → i ≤ m → sd_Ar nc (sd_uN N c (N c - i)) yl → sd_YS nc (sd_uN N c (N c - i)) (sd_dV V c i) yw → wY_step_67 post J43 x1 (nI c) n (sd_ts (V c) s0 i) (nI i) YA YM yn (nI nc) yv ye yp yd gS gD gP gK gI gC yq yc yf yt ys yb yw yl yg := by
  intro n
  induction n with
  | zero => intro i yw yl h1 h2; omega
  | succ n ih =>
    intro i yw yl h1 h2 hl hy
    have hcl : (nI c).toNatClampNeg = c := nI_clamp (by omega)
    have v24 : vp_in (nI c) 24 := vp_in_nI (by omega) (by decide)
    refine ⟨v24, ?_⟩
    rw [hcl, hK]
    refine pk_le m i (fun hj => nm_r (nI_1 c) ?_) (fun hj => ?_)
    · have e : i = m := by omega
      subst e
      exact K yw yl hl hy
    · have hsu := sd_sum_uN (N := N) (m := N c - i) hc
      refine yd_th hnc hc hl (by rw [sd_uN_s]; omega) (by omega) hy (fun yw' hy' => nm_r (e' := sd_ts (V c) s0 (i + 1)) ?_ (nm_r (nI_1 i) (ih (i + 1) yw' _ (by omega) (by omega) ?_ ?_)))
      · rw [sd_dV_s, Nat.zero_add]
        rfl
      · have h := sd_Ar_u (c := c) (v := sd_uN N c (N c - i) c - 1) hl
        rw [sd_uN_u, sd_uN_s] at h
        rw [sd_uN_s]
        exact h
      · rw [sd_uN_u, sd_uN_s, sd_dV_d] at hy'
        exact hy'
theorem yd_43 {post : SY → Prop} {na nc a : Nat} {s d p k i0 cp N : Nat → Nat} {V : Nat → Nat → Int32} (hna : na ≤ 10) (hnc : nc ≤ 24) (hG : sd_Gr na nc s d p k i0 cp gS gD gP gK gI gC) (ha : a < na) (hk : ∀ c, c < nc → d c = a → k c ≤ N c) (hs : sd_sum N nc ≤ 512)
    (K : ∀ yw yl : Nat → Int32, sd_Ar nc (sd_tN d k a N nc) yl → sd_YS nc (sd_tN d k a N nc) (sd_tV d k a V nc) yw → ∃ n125 : Nat, wY_step_125 post (nI a) (31 * sd_tS d k a V nc + yg a + 1) n125 0 YA YM (nI na) (nI nc) yv ye yp yd gS gD gP gK gI gC yq yc yf yt ys yb yw yl (upd yg a (yg a + 1))) :
    ∀ (n c : Nat) (yw yl : Nat → Int32), nc < n + c → c ≤ nc → sd_Ar nc (sd_tN d k a N c) yl → sd_YS nc (sd_tN d k a N c) (sd_tV d k a V c) yw → wY_step_43 post (nI a) n (sd_tS d k a V c) (nI c) YA YM (nI na) (nI nc) yv ye yp yd gS gD gP gK gI gC yq yc yf yt ys yb yw yl yg := by
  intro n
  induction n with
  | zero => intro c yw yl h1 h2; omega
  | succ n ih =>
    intro c yw yl h1 h2 hl hy
    have v10 : vp_in (nI a) 10 := vp_in_nI (by omega) (by decide)
    have acl : (nI a).toNatClampNeg = a := nI_clamp (by omega)
    refine pk_le nc c (fun hj => ?_) (fun hj => ?_)
    · have e : c = nc := by omega
      subst e
      exact ⟨v10, nm_r (e' := 31 * sd_tS d k a V c + yg a + 1) (by rw [acl]) ⟨v10, v10, nm_r (e' := upd yg a (yg a + 1)) (by rw [acl]) (K yw yl hl hy)⟩⟩
    · have hcl : (nI c).toNatClampNeg = c := nI_clamp (by omega)
      obtain ⟨⟨eS, eD, eP, eK, _, eC⟩, ⟨g1, g2, g3, g4, g5, g6⟩, _, g8⟩ := hG c hj
      have v24 : vp_in (nI c) 24 := vp_in_nI (by omega) (by decide)
      have tc : sd_tN d k a N c c = N c := sd_tN_hi (Nat.le_refl c)
      have tv : sd_tV d k a V c c = V c := sd_tV_hi (Nat.le_refl c)
      have hsl : sd_sum (sd_tN d k a N c) nc ≤ 512 := Nat.le_trans (sd_sum_le nc (fun j _ => sd_tN_le j)) hs
      refine ⟨v24, ?_⟩
      rw [hcl, eD, nI_eq (by omega) (by omega)]
      refine br_c (fun h => ⟨k c + 1, ?_⟩) (fun h => nm_r (nI_1 c) ?_)
      · have hkc := hk c hj h
        refine yd_67 (N := sd_tN d k a N c) (V := sd_tV d k a V c) hnc hj eK g6 (by rw [tc]; exact hkc) hsl (fun yw' yl' hl' hy' => ?_) (k c + 1) 0 yw yl (by omega) (Nat.zero_le _) ?_ ?_
        · rw [tv, ← sd_tS_y h]
          rw [tc, sd_tN_y h] at hl' hy'
          rw [sd_tV_y h] at hy'
          exact ih (c + 1) yw' yl' (by omega) (by omega) hl' hy'
        · rw [sd_uN_id (by omega)]
          exact hl
        · rw [sd_uN_id (by omega), sd_dV_0]
          exact hy
      · have hi := ih (c + 1) yw yl (by omega) (by omega) (by rw [sd_tN_n h]; exact hl) (by rw [sd_tN_n h, sd_tV_n h]; exact hy)
        rw [sd_tS_n h] at hi
        exact hi
/-! puts, and the step -/
theorem yd_151 {post : SY → Prop} {J125 : Int32 → Int32 → Int32 → Int32 → Int32 → Int32 → Int32 → Int32 → Int32 → (Nat → Int32) → (Nat → Int32) → (Nat → Int32) → (Nat → Int32) → (Nat → Int32) → (Nat → Int32) → (Nat → Int64) → (Nat → Int32) → (Nat → Int32) → (Nat → Int32) → (Nat → Int32) → (Nat → Int32) → (Nat → Int32) → (Nat → Int32) → (Nat → Int32) → Prop} {x1 : Int32} {nc c m : Nat} {N : Nat → Nat} {V : Nat → Nat → Int32} {v : Int32} (hnc : nc ≤ 24) (hc : c < nc) (hP : gP c = nI m) (hm : m ≤ 8) (hs : sd_sum N nc + m ≤ 512)
    (K : ∀ yw yl : Nat → Int32, sd_Ar nc (sd_uN N c (N c + m)) yl → sd_YS nc (sd_uN N c (N c + m)) (sd_eV V c (N c) v) yw → J125 (nI (c + 1)) YA YM yn (nI nc) yv ye yp yd gS gD gP gK gI gC yq yc yf yt ys yb yw yl yg) :
    ∀ (n i : Nat) (yw yl : Nat → Int32), m < n + i → i ≤ m → sd_Ar nc (sd_uN N c (N c + i)) yl → sd_YS nc (sd_uN N c (N c + i)) (sd_eV V c (N c) v) yw → wY_step_151 post J125 x1 v (nI c) n (nI i) YA YM yn (nI nc) yv ye yp yd gS gD gP gK gI gC yq yc yf yt ys yb yw yl yg := by
  intro n
  induction n with
  | zero => intro i yw yl h1 h2; omega
  | succ n ih =>
    intro i yw yl h1 h2 hl hy
    have hcl : (nI c).toNatClampNeg = c := nI_clamp (by omega)
    have v24 : vp_in (nI c) 24 := vp_in_nI (by omega) (by decide)
    refine ⟨v24, ?_⟩
    rw [hcl, hP]
    refine pk_le m i (fun hj => nm_r (nI_1 c) ?_) (fun hj => ?_)
    · have e : i = m := by omega
      subst e
      exact K yw yl hl hy
    · have hsu := sd_sum_uN (N := N) (m := N c + i) hc
      refine yd_at hnc hc hl (by omega) hy (fun yw' hy' => nm_r (nI_1 i) (ih (i + 1) yw' _ (by omega) (by omega) ?_ ?_))
      · have h := sd_Ar_u (c := c) (v := sd_uN N c (N c + i) c + 1) hl
        rw [sd_uN_u, sd_uN_s] at h
        rw [sd_uN_s]
        exact h
      · rw [sd_uN_u, sd_uN_s, sd_eV_e] at hy'
        exact hy'
theorem yd_125 {post : SY → Prop} {na nc a pos L : Nat} {s d p k i0 cp N : Nat → Nat} {V : Nat → Nat → Int32} {v : Int32} (hna : na ≤ 10) (hnc : nc ≤ 24) (hG : sd_Gr na nc s d p k i0 cp gS gD gP gK gI gC) (ha : a < na) (hM : sd_sum (sd_pN s p a N nc) nc ≤ 512) (hp : pos < L) (hL : L ≤ 256)
    (K : ∀ yw yl : Nat → Int32, sd_Ar nc (sd_pN s p a N nc) yl → sd_YS nc (sd_pN s p a N nc) (sd_pV s a v N V nc) yw → (pos + 1 < L → post (YA, YM, nI na, nI nc, yv, nI L, nI (pos + 1), yd, gS, gD, gP, gK, gI, gC, yq, yc, yf, yt, ys, yb, yw, yl, yg)) ∧ (pos + 1 = L → post (YA, YM, nI na, nI nc, yv, nI L, 0, yd + 1, gS, gD, gP, gK, gI, gC, yq, yc, yf, yt, ys, yb, yw, yl, yg))) :
    ∀ (n c : Nat) (yw yl : Nat → Int32), nc < n + c → c ≤ nc → sd_Ar nc (sd_pN s p a N c) yl → sd_YS nc (sd_pN s p a N c) (sd_pV s a v N V c) yw → wY_step_125 post (nI a) v n (nI c) YA YM (nI na) (nI nc) yv (nI L) (nI pos) yd gS gD gP gK gI gC yq yc yf yt ys yb yw yl yg := by
  intro n
  induction n with
  | zero => intro c yw yl h1 h2; omega
  | succ n ih =>
    intro c yw yl h1 h2 hl hy
    refine pk_le nc c (fun hj => nm_r (nI_1 pos) ?_) (fun hj => ?_)
    · have e : c = nc := by omega
      subst e
      have KK := K yw yl hl hy
      exact pk_eq (pos + 1) L (fun h => nm_e (KK.2 h)) (fun h => KK.1 (by omega))
    · have hcl : (nI c).toNatClampNeg = c := nI_clamp (by omega)
      obtain ⟨⟨eS, eD, eP, eK, _, eC⟩, ⟨g1, g2, g3, g4, g5, g6⟩, _, g8⟩ := hG c hj
      have v24 : vp_in (nI c) 24 := vp_in_nI (by omega) (by decide)
      have tc : sd_pN s p a N c c = N c := sd_pN_hi (Nat.le_refl c)
      refine ⟨v24, ?_⟩
      rw [hcl, eS, nI_eq (by omega) (by omega)]
      refine br_c (fun h => ⟨p c + 1, ?_⟩) (fun h => nm_r (nI_1 c) (ih (c + 1) yw yl (by omega) (by omega) (by rw [sd_pN_n h]; exact hl) (by rw [sd_pN_n h, sd_pV_n h]; exact hy)))
      have hsu := sd_sum_uN (N := sd_pN s p a N c) (m := N c + p c) hj
      rw [tc, sd_pN_y h] at hsu
      have hle : sd_sum (sd_pN s p a N (c + 1)) nc ≤ sd_sum (sd_pN s p a N nc) nc := sd_sum_le nc (fun j _ => sd_pN_le (by omega) j)
      refine yd_151 (N := sd_pN s p a N c) (V := sd_pV s a v N V c) hnc hj eP g4 (by omega) (fun yw' yl' hl' hy' => ?_) (p c + 1) 0 yw yl (by omega) (Nat.zero_le _) ?_ ?_
      · rw [tc, sd_pN_y h] at hl' hy'
        rw [sd_pV_y h] at hy'
        exact ih (c + 1) yw' yl' (by omega) (by omega) hl' hy'
      · rw [sd_uN_id (by omega)]
        exact hl
      · rw [sd_uN_id (by omega)]
        refine sd_YS_v hy (fun x hx2 i hi => ?_)
        by_cases e : x = c
        · subst e
          exact sd_eV_l hi
        · exact sd_eV_o e
theorem yd_st {post : SY → Prop} {na nc a pos L : Nat} {s d p k i0 cp N : Nat → Nat} {V : Nat → Nat → Int32} (hna : na ≤ 10) (hnc : nc ≤ 24) (hG : sd_Gr na nc s d p k i0 cp gS gD gP gK gI gC) (ha : a < na) (hp : pos < L) (hL : L ≤ 256) (hs : ys pos = nI a) (hk : ∀ c, c < nc → d c = a → k c ≤ N c) (hM1 : sd_sum N nc ≤ 512) (hM : sd_sum (sd_fire s d p k a N) nc ≤ 512) (hl : sd_Ar nc N yl) (hy : sd_YS nc N V yw)
    (K : ∀ yw yl : Nat → Int32, sd_Ar nc (sd_pN s p a (sd_tN d k a N nc) nc) yl → sd_YS nc (sd_pN s p a (sd_tN d k a N nc) nc) (sd_pV s a (31 * sd_tS d k a V nc + yg a + 1) (sd_tN d k a N nc) (sd_tV d k a V nc) nc) yw → (pos + 1 < L → post (YA, YM, nI na, nI nc, yv, nI L, nI (pos + 1), yd, gS, gD, gP, gK, gI, gC, yq, yc, yf, yt, ys, yb, yw, yl, upd yg a (yg a + 1))) ∧ (pos + 1 = L → post (YA, YM, nI na, nI nc, yv, nI L, 0, yd + 1, gS, gD, gP, gK, gI, gC, yq, yc, yf, yt, ys, yb, yw, yl, upd yg a (yg a + 1)))) :
    wpY_step post (YA, YM, nI na, nI nc, yv, nI L, nI pos, yd, gS, gD, gP, gK, gI, gC, yq, yc, yf, yt, ys, yb, yw, yl, yg) := by
  refine br_f (nI_pos (by omega)) (br_f (nI_ge hp (by omega)) (br_t (nI_lt (b := 256) (by omega) (by decide)) ⟨vp_in_nI (by omega) (by decide), nm_r (e' := nI a) (by rw [nI_clamp (by omega)]; exact hs) ⟨nc + 1, ?_⟩⟩))
  refine yd_43 hna hnc hG ha hk hM1 (fun yw' yl' hl' hy' => ⟨nc + 1, ?_⟩) (nc + 1) 0 yw yl (by omega) (Nat.zero_le _) (by rw [sd_tN_0]; exact hl) (by rw [sd_tN_0, sd_tV_0]; exact hy)
  exact yd_125 hna hnc hG ha (by rw [sd_sum_eq nc (fun j hj => sd_tp hj)]; exact hM) hp hL K (nc + 1) 0 yw' yl' (by omega) (Nat.zero_le _) (by rw [sd_pN_0]; exact hl') (by rw [sd_pN_0, sd_pV_0]; exact hy')
end
