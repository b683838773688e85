/-! the component builds its schedule -/
theorem sd_neg1 : ¬ (0 : Int32) ≤ -1 := by decide
theorem sd_BT {na nc : Nat} {s d p k cp i0 Q : Nat → Nat} {i : Nat} (hi : i ≤ 256) (I : sd_I na nc s d p k i0 Q i (sd_sim na nc s d p k cp i0 Q i)) : ∀ c, c < nc → (sd_sim na nc s d p k cp i0 Q i).2.1 c ≤ 2080 ∧ (sd_sim na nc s d p k cp i0 Q i).2.2 c ≤ 2080 := fun c hc => by
  have := I.2.2.2 c hc
  omega
section
variable {XA : Int32} {XM : Int32} {xn : Int32} {xm : Int32} {xv : Int32} {xe : Int32} {xp : Int32} {xd : Int32} {gS : Nat → Int32} {gD : Nat → Int32} {gP : Nat → Int32} {gK : Nat → Int32} {gI : Nat → Int32} {gC : Nat → Int32} {xq : Nat → Int64} {xc : Nat → Int32} {xs : Nat → Int32} {xb : Nat → Int32} {xt : Nat → Int32} {xf : Nat → Int32} {xw : Nat → Int32} {xh : Nat → Int32} {xl : Nat → Int32} {xg : Nat → Int32}
theorem xb_bs70 {post : SX → Prop} {na nc L : Nat} {s d p k i0 cp Q : Nat → Nat} (hna : na ≤ 10) (hnc : nc ≤ 24) (hG : sd_Gr na nc s d p k i0 cp gS gD gP gK gI gC) (hx : sd_AL na Q xq) (hQ : ∀ j, j < na → Q j ≤ 134217728) (hL : L ≤ 256) (hg : ∀ j, j < L → sd_sch na nc s d p k cp i0 Q j < na) (hn : ¬ sd_sch na nc s d p k cp i0 Q L < na)
    (K : ∀ xs xb xt xf : Nat → Int32, (∀ j, j < L → xs j = nI (sd_sch na nc s d p k cp i0 Q j)) → sd_Ar nc (sd_sim na nc s d p k cp i0 Q L).2.2 xb → post (XA, XM, nI na, nI nc, xv, nI L, xp, xd, gS, gD, gP, gK, gI, gC, xq, xc, xs, xb, xt, xf, xw, xh, xl, xg)) :
    ∀ (n i : Nat) (xs xb xt xf : Nat → Int32), 256 < n + i → i ≤ L → (∀ j, j < i → xs j = nI (sd_sch na nc s d p k cp i0 Q j)) → sd_Ar nc (sd_sim na nc s d p k cp i0 Q i).2.2 xb → sd_Ar nc (sd_sim na nc s d p k cp i0 Q i).2.1 xt → sd_Ar na (sd_sim na nc s d p k cp i0 Q i).1 xf → wX_buildSchedule_70 post n (nI i) XA XM (nI na) (nI nc) xv (nI i) xp xd gS gD gP gK gI gC xq xc xs xb xt xf xw xh xl xg := by
  intro n
  induction n with
  | zero => intro i xs xb xt xf h1 h2; omega
  | succ n ih =>
    intro i xs xb xt xf h1 h2 hs hb ht hf
    have G := sd_Gr_G hG
    have I := sd_I_sim (cp := cp) (Q := Q) G (sd_Gr_32 hG) i (fun j hj => hg j (by omega))
    have bt := sd_BT (by omega) I
    refine pk_le 256 i (fun hj => ?_) (fun hj => xb_lr hna hnc hG hx hQ hf I.1 ht (fun c hc => by have := bt c hc; omega) (fun hp => ?_) (fun hp => br_f sd_neg1 ?_))
    · have e : i = L := by omega
      subst e
      exact K xs xb xt xf hs hb
    · have hp' : sd_sch na nc s d p k cp i0 Q i < na := hp
      have hil : i < L := by
        by_cases e : i = L
        · rw [e] at hp'
          exact absurd hp' hn
        · omega
      refine br_t (nI_pos' (by omega)) ⟨vp_in_nI (by omega) (by decide), nm_r (e' := upd xs i (nI (sd_sch na nc s d p k cp i0 Q i))) (by rw [nI_clamp (by omega)]; rfl) (nm_r (nI_1 i) ?_)⟩
      exact xb_pf hna hnc hG hp (sd_sch_rdy hp').2 (fun c hc => by have := bt c hc; omega) (fun c hc => by have := bt c hc; omega) hf ht hb (fun xf' xt' xb' kf kt kb => nm_r (nI_1 i) (ih (i + 1) _ xb' xt' xf' (by omega) (by omega) (fun j hj => by
        by_cases e : j = i
        · rw [e, pk_us]
        · rw [pk_un e]
          exact hs j (by omega)) kb kt kf))
    · have e : i = L := by
        by_cases e : i < L
        · exact absurd (hg i e) hp
        · omega
      subst e
      exact K xs xb xt xf hs hb
theorem xb_bs30 {post : SX → Prop} {na nc : Nat} {s d p k i0 cp : Nat → Nat} (hna : na ≤ 10) (hnc : nc ≤ 24) (hG : sd_Gr na nc s d p k i0 cp gS gD gP gK gI gC)
    (K : ∀ xb xt : Nat → Int32, sd_Ar nc i0 xb → sd_Ar nc i0 xt → ∃ n70 : Nat, wX_buildSchedule_70 post n70 0 XA XM (nI na) (nI nc) xv xe xp xd gS gD gP gK gI gC xq xc xs xb xt xf xw xh xl xg) :
    ∀ (n c : Nat) (xb xt : Nat → Int32), nc < n + c → c ≤ nc → sd_Ar c i0 xb → sd_Ar c i0 xt → wX_buildSchedule_30 post XA XM (nI na) (nI nc) xv xe xp xd n (nI c) gS gD gP gK gI gC xq xc xs xb xt xf xw xh xl xg := by
  intro n
  induction n with
  | zero => intro c xb xt h1 h2; omega
  | succ n ih =>
    intro c xb xt h1 h2 hb ht
    refine pk_le nc c (fun hj => ?_) (fun hj => ?_)
    · have e : c = nc := by omega
      subst e
      exact K xb xt hb ht
    · have hc : (nI c).toNatClampNeg = c := nI_clamp (by omega)
      have v24 : vp_in (nI c) 24 := vp_in_nI (by omega) (by decide)
      have eI := (hG c hj).1.2.2.2.2.1
      have up : ∀ x : Nat → Int32, sd_Ar c i0 x → sd_Ar (c + 1) i0 (upd x c (nI (i0 c))) := fun x h i hi => by
        by_cases e : i = c
        · rw [e, pk_us]
        · rw [pk_un e]
          exact h i (by omega)
      exact ⟨v24, v24, nm_r (e' := upd xt c (nI (i0 c))) (by rw [hc, eI]) ⟨v24, v24, nm_r (e' := upd xb c (nI (i0 c))) (by rw [hc, eI]) (nm_r (nI_1 c) (ih (c + 1) _ _ (by omega) (by omega) (up xb hb) (up xt ht)))⟩⟩
theorem xb_bs7 {post : SX → Prop} {na nc : Nat} (hna : na ≤ 10)
    (K : ∀ xf : Nat → Int32, sd_Ar na (fun _ => 0) xf → ∃ n30 : Nat, wX_buildSchedule_30 post XA XM (nI na) (nI nc) xv xe xp xd n30 0 gS gD gP gK gI gC xq xc xs xb xt xf xw xh xl xg) :
    ∀ (n j : Nat) (xf : Nat → Int32), na < n + j → j ≤ na → sd_Ar j (fun _ => 0) xf → wX_buildSchedule_7 post XA XM (nI na) (nI nc) xv xe xp xd n (nI j) gS gD gP gK gI gC xq xc xs xb xt xf xw xh xl xg := by
  intro n
  induction n with
  | zero => intro j xf h1 h2; omega
  | succ n ih =>
    intro j xf h1 h2 hf
    refine pk_le na j (fun hj => ?_) (fun hj => ⟨vp_in_nI (by omega) (by decide), nm_r (e' := upd xf j 0) (by rw [nI_clamp (by omega)]) (nm_r (nI_1 j) (ih (j + 1) _ (by omega) (by omega) (fun i hi => ?_)))⟩)
    · have e : j = na := by omega
      subst e
      exact K xf hf
    · by_cases e : i = j
      · rw [e, pk_us]
        rfl
      · rw [pk_un e]
        exact hf i (by omega)
theorem xb_bs {post : SX → Prop} {na nc L : Nat} {s d p k i0 cp Q : Nat → Nat} (hna : na ≤ 10) (hnc : nc ≤ 24) (hG : sd_Gr na nc s d p k i0 cp gS gD gP gK gI gC) (hx : sd_AL na Q xq) (hQ : ∀ j, j < na → Q j ≤ 134217728) (hL : L ≤ 256) (hg : ∀ j, j < L → sd_sch na nc s d p k cp i0 Q j < na) (hn : ¬ sd_sch na nc s d p k cp i0 Q L < na)
    (K : ∀ xs xb xt xf : Nat → Int32, (∀ j, j < L → xs j = nI (sd_sch na nc s d p k cp i0 Q j)) → sd_Ar nc (sd_sim na nc s d p k cp i0 Q L).2.2 xb → post (XA, XM, nI na, nI nc, xv, nI L, xp, xd, gS, gD, gP, gK, gI, gC, xq, xc, xs, xb, xt, xf, xw, xh, xl, xg)) : wpX_buildSchedule post (XA, XM, nI na, nI nc, xv, xe, xp, xd, gS, gD, gP, gK, gI, gC, xq, xc, xs, xb, xt, xf, xw, xh, xl, xg) := by
  refine ⟨na + 1, xb_bs7 hna (fun xf hf => ⟨nc + 1, ?_⟩) (na + 1) 0 xf (by omega) (Nat.zero_le _) (fun i hi => absurd hi (Nat.not_lt_zero i))⟩
  exact xb_bs30 hna hnc hG (fun xb xt hb ht => ⟨257, xb_bs70 hna hnc hG hx hQ hL hg hn K 257 0 xs xb xt xf (by omega) (Nat.zero_le _) (fun i hi => absurd hi (Nat.not_lt_zero i)) hb ht hf⟩) (nc + 1) 0 xb xt (by omega) (Nat.zero_le _) (fun i hi => absurd hi (Nat.not_lt_zero i)) (fun i hi => absurd hi (Nat.not_lt_zero i))
theorem xb_js19 {post : Int32 → Prop} {nc : Nat} {B : Nat → Nat} (hnc : nc ≤ 24) (hb : sd_Ar nc B xb) (hB : ∀ c, c < nc → B c ≤ 2080) (K1 : sd_sum B nc ≤ 512 → post 1) (K6 : 512 < sd_sum B nc → post 6) :
    ∀ n c, nc < n + c → c ≤ nc → wX_judgeSchedule_19 post XA XM xn (nI nc) xv xe xp xd gS gD gP gK gI gC xq xc xs xb xt xf xw xh xl xg n (nI (sd_sum B c)) (nI c) := by
  intro n
  induction n with
  | zero => intro c h1 h2; omega
  | succ n ih =>
    intro c h1 h2
    have hs := sd_sum_bd c (fun j hj => hB j (by omega))
    refine pk_le nc c (fun hj => ?_) (fun hj => ⟨vp_in_nI (by omega) (by decide), nm_r (e' := nI (sd_sum B (c + 1))) (by rw [nI_clamp (by omega), hb c hj, nI_add]; rfl) (nm_r (nI_1 c) (ih (c + 1) (by omega) (by omega)))⟩)
    have e : c = nc := by omega
    subst e
    exact pk_le (sd_sum B c) 512 K1 K6
theorem xb_js {post : Int32 → Prop} {na nc L : Nat} {B Q : Nat → Nat} (hna : na ≤ 10) (hnc : nc ≤ 24) (hx : sd_AL na Q xq) (hQ : sd_sum Q na ≤ 256) (hL : L ≤ 256) (hb : sd_Ar nc B xb) (hB : ∀ c, c < nc → B c ≤ 2080)
    (K5 : L < sd_sum Q na → post 5) (K1 : sd_sum Q na ≤ L → sd_sum B nc ≤ 512 → post 1) (K6 : sd_sum Q na ≤ L → 512 < sd_sum B nc → post 6) : wpX_judgeSchedule post (XA, XM, nI na, nI nc, xv, nI L, xp, xd, gS, gD, gP, gK, gI, gC, xq, xc, xs, xb, xt, xf, xw, xh, xl, xg) := by
  refine xb_to hna hx ?_
  have e : lN (sd_sum Q na) ≤ (nI L).toInt64 ↔ sd_sum Q na ≤ L := by rw [nI_l (by omega), pk_lLE (by omega) (by omega)]
  rw [e]
  exact br_c (fun h => ⟨nc + 1, xb_js19 hnc hb hB (K1 h) (K6 h) (nc + 1) 0 (by omega) (Nat.zero_le _)⟩) (fun h => K5 (by omega))
end
