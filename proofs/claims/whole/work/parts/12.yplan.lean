/-! the reference's checks and its schedule -/
section
variable {YA : Int32} {YM : Int32} {yn : Int32} {ym : Int32} {yv : Int32} {ye : Int32} {yp : Int32} {yd : Int32} {gS : Nat → Int32} {gD : Nat → Int32} {gP : Nat → Int32} {gK : Nat → Int32} {gI : Nat → Int32} {gC : Nat → Int32} {yq : Nat → Int64} {yc : Nat → Int32} {yf : Nat → Int32} {yt : Nat → Int32} {ys : Nat → Int32} {yb : Nat → Int32} {yw : Nat → Int32} {yl : Nat → Int32} {yg : Nat → Int32}
theorem yb_en37 {post J2 : Int32 → Prop} {na nc a c : Nat} {s d p k i0 cp T : Nat → Nat} (hna : na ≤ 10) (hnc : nc ≤ 24) (hG : sd_Gr na nc s d p k i0 cp gS gD gP gK gI gC) (ha : a < na) (hj : c < nc) (ht : yt c = nI (T c)) (hT : T c < 2 ^ 20)
    (K1 : (s c = a → cp c ≠ 0 → T c + p c ≤ cp c) → J2 (nI (c + 1))) (K0 : ¬ (s c = a → cp c ≠ 0 → T c + p c ≤ cp c) → post 0) : wY_enabled_37 post J2 (nI a) (nI c) YA YM (nI na) (nI nc) yv ye yp yd gS gD gP gK gI gC yq yc yf yt ys yb yw yl yg := by
  have hc : (nI c).toNatClampNeg = c := nI_clamp (by omega)
  obtain ⟨⟨eS, eD, eP, eK, _, eC⟩, ⟨g1, g2, g3, g4, g5, g6⟩, _, g8⟩ := hG c hj
  have v24 : vp_in (nI c) 24 := vp_in_nI (by omega) (by decide)
  refine ⟨v24, ?_⟩
  rw [hc, eS, nI_eq (by omega) (by omega)]
  refine br_c (fun h => ⟨v24, ?_⟩) (fun h => nm_r (nI_1 c) (K1 (fun q => absurd q h)))
  rw [eC, sd_eq0 (by omega)]
  refine br_c (fun h2 => nm_r (nI_1 c) (K1 (fun _ q => absurd h2 q))) (fun h2 => ⟨v24, v24, v24, ?_⟩)
  rw [ht, eP, nI_add, nI_leI (by omega) (by omega)]
  exact br_c (fun h3 => nm_r (nI_1 c) (K1 (fun _ _ => h3))) (fun h3 => K0 (fun q => h3 (q h h2)))
theorem yb_en2 {post : Int32 → Prop} {na nc a : Nat} {s d p k i0 cp T : Nat → Nat} (hna : na ≤ 10) (hnc : nc ≤ 24) (hG : sd_Gr na nc s d p k i0 cp gS gD gP gK gI gC) (ha : a < na) (ht : sd_Ar nc T yt) (hT : ∀ c, c < nc → T c < 2 ^ 20)
    (K1 : sd_en nc s d p k cp T a → post 1) (K0 : ¬ sd_en nc s d p k cp T a → post 0) :
    ∀ n c, nc < n + c → c ≤ nc → (∀ i, i < c → (d i = a → k i ≤ T i) ∧ (s i = a → cp i ≠ 0 → T i + p i ≤ cp i)) → wY_enabled_2 post (nI a) YA YM (nI na) (nI nc) yv ye yp yd gS gD gP gK gI gC yq yc yf yt ys yb yw yl yg n (nI c) := by
  intro n
  induction n with
  | zero => intro c h1 h2; omega
  | succ n ih =>
    intro c h1 h2 hb
    refine pk_le nc c (fun hj => K1 (fun i hi => hb i (by omega))) (fun hj => ?_)
    have hc : (nI c).toNatClampNeg = c := nI_clamp (by omega)
    obtain ⟨⟨eS, eD, eP, eK, _, eC⟩, ⟨g1, g2, g3, g4, g5, g6⟩, _, g8⟩ := hG c hj
    have v24 : vp_in (nI c) 24 := vp_in_nI (by omega) (by decide)
    have hTc := hT c hj
    have nx : (d c = a → k c ≤ T c) → wY_enabled_37 post (wY_enabled_2 post (nI a) YA YM (nI na) (nI nc) yv ye yp yd gS gD gP gK gI gC yq yc yf yt ys yb yw yl yg n) (nI a) (nI c) YA YM (nI na) (nI nc) yv ye yp yd gS gD gP gK gI gC yq yc yf yt ys yb yw yl yg := fun h => by
      refine yb_en37 hna hnc hG ha hj (ht c hj) hTc (fun h3 => ih (c + 1) (by omega) (by omega) (fun i hi => ?_)) (fun h3 => K0 (fun q => h3 (q c hj).2))
      by_cases e : i = c
      · rw [e]
        exact ⟨h, h3⟩
      · exact hb i (by omega)
    have e1 : gD (nI c).toNatClampNeg = nI a ↔ d c = a := by rw [hc, eD, nI_eq (by omega) (by omega)]
    have e2 : gK (nI c).toNatClampNeg ≤ yt (nI c).toNatClampNeg ↔ k c ≤ T c := by rw [hc, eK, ht c hj, nI_leI (by omega) (by omega)]
    exact ⟨v24, br_c (fun h => ⟨v24, v24, br_c (fun h3 => nx (fun _ => e2.mp h3)) (fun h3 => K0 (fun q => h3 (e2.mpr ((q c hj).1 (e1.mp h)))))⟩) (fun h => nx (fun q => absurd (e1.mpr q) h))⟩
theorem yb_en {post : Int32 → Prop} {na nc a : Nat} {s d p k i0 cp T : Nat → Nat} (hna : na ≤ 10) (hnc : nc ≤ 24) (hG : sd_Gr na nc s d p k i0 cp gS gD gP gK gI gC) (ha : a < na) (ht : sd_Ar nc T yt) (hT : ∀ c, c < nc → T c < 2 ^ 20)
    (K1 : sd_en nc s d p k cp T a → post 1) (K0 : ¬ sd_en nc s d p k cp T a → post 0) : wpY_enabled post (YA, YM, nI na, nI nc, yv, ye, yp, yd, gS, gD, gP, gK, gI, gC, yq, yc, yf, yt, ys, yb, yw, yl, yg) (nI a) :=
  ⟨nc + 1, yb_en2 hna hnc hG ha ht hT K1 K0 (nc + 1) 0 (by omega) (Nat.zero_le _) (fun i hi => absurd hi (Nat.not_lt_zero i))⟩
theorem yb_lr2 {post : Int32 → Prop} {na nc : Nat} {s d p k i0 cp Q F T : Nat → Nat} (hna : na ≤ 10) (hnc : nc ≤ 24) (hG : sd_Gr na nc s d p k i0 cp gS gD gP gK gI gC) (hx : sd_AL na Q yq) (hQ : ∀ j, j < na → Q j ≤ 134217728) (hf : sd_Ar na F yf) (hF : ∀ j, j < na → F j ≤ Q j) (ht : sd_Ar nc T yt) (hT : ∀ c, c < nc → T c < 2 ^ 20)
    (K1 : sd_pick na nc s d p k cp Q F T < na → post (nI (sd_pick na nc s d p k cp Q F T))) (K0 : ¬ sd_pick na nc s d p k cp Q F T < na → post (-1)) :
    ∀ n a, na < n + a → a ≤ na → (∀ j, j < a → ¬ (F j < Q j ∧ sd_en nc s d p k cp T j)) → wY_pick_2 post YA YM (nI na) (nI nc) yv ye yp yd gS gD gP gK gI gC yq yc yf yt ys yb yw yl yg n (nI a) := by
  intro n
  induction n with
  | zero => intro a h1 h2; omega
  | succ n ih =>
    intro a h1 h2 hb
    refine pk_le na a (fun hj => K0 ?_) (fun hj => ?_)
    · have e : a = na := by omega
      subst e
      have e2 : sd_pick a nc s d p k cp Q F T = a := sd_first_none hb
      omega
    · have hc : (nI a).toNatClampNeg = a := nI_clamp (by omega)
      have v10 : vp_in (nI a) 10 := vp_in_nI (by omega) (by decide)
      have hQa := hQ a hj
      have hFa := hF a hj
      have nx : ¬ (F a < Q a ∧ sd_en nc s d p k cp T a) → wY_pick_2 post YA YM (nI na) (nI nc) yv ye yp yd gS gD gP gK gI gC yq yc yf yt ys yb yw yl yg n (nI (a + 1)) := fun h => ih (a + 1) (by omega) (by omega) (fun j hj2 => by
        by_cases e : j = a
        · rw [e]
          exact h
        · exact hb j (by omega))
      have e1 : yq (nI a).toNatClampNeg ≤ (yf (nI a).toNatClampNeg).toInt64 ↔ Q a ≤ F a := by rw [hc, hx a hj, hf a hj, nI_l (by omega), pk_lLE (by omega) (by omega)]
      refine ⟨v10, v10, br_c (fun h => nm_r (nI_1 a) (nx (fun q => by have := e1.mp h; omega))) (fun h => yb_en hna hnc hG hj ht hT (fun h3 => br_f sd_n10 ?_) (fun h3 => br_t rfl (nm_r (nI_1 a) (nx (fun q => h3 q.2)))))⟩
      have e2 : sd_pick na nc s d p k cp Q F T = a := sd_first_at hj ⟨Nat.lt_of_not_le (fun q => h (e1.mpr q)), h3⟩ hb
      rw [e2] at K1
      exact K1 hj
theorem yb_lr {post : Int32 → Prop} {na nc : Nat} {s d p k i0 cp Q F T : Nat → Nat} (hna : na ≤ 10) (hnc : nc ≤ 24) (hG : sd_Gr na nc s d p k i0 cp gS gD gP gK gI gC) (hx : sd_AL na Q yq) (hQ : ∀ j, j < na → Q j ≤ 134217728) (hf : sd_Ar na F yf) (hF : ∀ j, j < na → F j ≤ Q j) (ht : sd_Ar nc T yt) (hT : ∀ c, c < nc → T c < 2 ^ 20)
    (K1 : sd_pick na nc s d p k cp Q F T < na → post (nI (sd_pick na nc s d p k cp Q F T))) (K0 : ¬ sd_pick na nc s d p k cp Q F T < na → post (-1)) : wpY_pick post (YA, YM, nI na, nI nc, yv, ye, yp, yd, gS, gD, gP, gK, gI, gC, yq, yc, yf, yt, ys, yb, yw, yl, yg) :=
  ⟨na + 1, yb_lr2 hna hnc hG hx hQ hf hF ht hT K1 K0 (na + 1) 0 (by omega) (Nat.zero_le _) (fun i hi => absurd hi (Nat.not_lt_zero i))⟩
theorem yb_fi43 {post : SY → Prop} {na nc a : Nat} {s d p k i0 cp T : Nat → Nat} (hna : na ≤ 10) (hnc : nc ≤ 24) (hG : sd_Gr na nc s d p k i0 cp gS gD gP gK gI gC) (ha : a < na)
    (K : ∀ yt : Nat → Int32, sd_Ar nc (sd_fire s d p k a T) yt → post (YA, YM, nI na, nI nc, yv, ye, yp, yd, gS, gD, gP, gK, gI, gC, yq, yc, yf, yt, ys, yb, yw, yl, yg)) :
    ∀ (n c : Nat) (yt : Nat → Int32), nc < n + c → c ≤ nc → sd_Ar nc (sd_mix c (sd_fire s d p k a T) (fun i => T i - (if d i = a then k i else 0))) yt → wY_fire_43 post (nI a) YA YM (nI na) (nI nc) yv ye yp yd n (nI c) gS gD gP gK gI gC yq yc yf yt ys yb yw yl yg := by
  intro n
  induction n with
  | zero => intro c yt h1 h2; omega
  | succ n ih =>
    intro c yt h1 h2 ht
    refine pk_le nc c (fun hj => K yt (fun i hi => ?_)) (fun hj => ?_)
    · rw [ht i hi, sd_mix_lo (by omega)]
    · have hc : (nI c).toNatClampNeg = c := nI_clamp (by omega)
      obtain ⟨⟨eS, eD, eP, eK, _, eC⟩, ⟨g1, g2, g3, g4, g5, g6⟩, _, g8⟩ := hG c hj
      have v24 : vp_in (nI c) 24 := vp_in_nI (by omega) (by decide)
      have htc : yt c = nI (T c - (if d c = a then k c else 0)) := by rw [ht c hj, sd_mix_hi (Nat.lt_irrefl c)]
      refine ⟨v24, ?_⟩
      rw [hc, eS, nI_eq (by omega) (by omega)]
      refine br_c (fun h => ⟨v24, v24, v24, nm_r (e' := upd yt c (nI (sd_fire s d p k a T c))) ?_ (nm_r (nI_1 c) (ih (c + 1) _ (by omega) (by omega) (fun i hi => ?_)))⟩) (fun h => nm_r (nI_1 c) (ih (c + 1) yt (by omega) (by omega) (fun i hi => ?_)))
      · rw [htc, eP, nI_add]
        unfold sd_fire
        rw [if_pos h]
      · by_cases e : i = c
        · rw [e, pk_us, sd_mix_lo (Nat.lt_succ_self c)]
        · rw [pk_un e, ht i hi, sd_mix_s e]
      · by_cases e : i = c
        · rw [e, htc, sd_mix_lo (Nat.lt_succ_self c)]
          unfold sd_fire
          rw [if_neg h]
          rfl
        · rw [ht i hi, sd_mix_s e]
theorem yb_fi2 {post : SY → Prop} {na nc a : Nat} {s d p k i0 cp T : Nat → Nat} (hna : na ≤ 10) (hnc : nc ≤ 24) (hG : sd_Gr na nc s d p k i0 cp gS gD gP gK gI gC) (ha : a < na) (he : sd_en nc s d p k cp T a)
    (K : ∀ yt : Nat → Int32, sd_Ar nc (sd_fire s d p k a T) yt → post (YA, YM, nI na, nI nc, yv, ye, yp, yd, gS, gD, gP, gK, gI, gC, yq, yc, yf, yt, ys, yb, yw, yl, yg)) :
    ∀ (n c : Nat) (yt : Nat → Int32), nc < n + c → c ≤ nc → sd_Ar nc (sd_mix c (fun i => T i - (if d i = a then k i else 0)) T) yt → wY_fire_2 post (nI a) YA YM (nI na) (nI nc) yv ye yp yd n (nI c) gS gD gP gK gI gC yq yc yf yt ys yb yw yl yg := by
  intro n
  induction n with
  | zero => intro c yt h1 h2; omega
  | succ n ih =>
    intro c yt h1 h2 ht
    refine pk_le nc c (fun hj => ⟨nc + 1, yb_fi43 (T := T) hna hnc hG ha K (nc + 1) 0 yt (by omega) (Nat.zero_le _) (fun i hi => ?_)⟩) (fun hj => ?_)
    · rw [ht i hi, sd_mix_lo (by omega), sd_mix_0]
    · have hc : (nI c).toNatClampNeg = c := nI_clamp (by omega)
      obtain ⟨⟨eS, eD, eP, eK, _, eC⟩, ⟨g1, g2, g3, g4, g5, g6⟩, _, g8⟩ := hG c hj
      have v24 : vp_in (nI c) 24 := vp_in_nI (by omega) (by decide)
      have htc : yt c = nI (T c) := by rw [ht c hj, sd_mix_hi (Nat.lt_irrefl c)]
      refine ⟨v24, ?_⟩
      rw [hc, eD, nI_eq (by omega) (by omega)]
      refine br_c (fun h => ⟨v24, v24, v24, nm_r (e' := upd yt c (nI (T c - k c))) ?_ (nm_r (nI_1 c) (ih (c + 1) _ (by omega) (by omega) (fun i hi => ?_)))⟩) (fun h => nm_r (nI_1 c) (ih (c + 1) yt (by omega) (by omega) (fun i hi => ?_)))
      · rw [htc, eK, pk_sub ((he c hj).1 h)]
      · by_cases e : i = c
        · rw [e, pk_us, sd_mix_lo (Nat.lt_succ_self c), if_pos h]
        · rw [pk_un e, ht i hi, sd_mix_s e]
      · by_cases e : i = c
        · rw [e, htc, sd_mix_lo (Nat.lt_succ_self c), if_neg h]
          rfl
        · rw [ht i hi, sd_mix_s e]
theorem yb_fi {post : SY → Prop} {na nc a : Nat} {s d p k i0 cp T : Nat → Nat} (hna : na ≤ 10) (hnc : nc ≤ 24) (hG : sd_Gr na nc s d p k i0 cp gS gD gP gK gI gC) (ha : a < na) (he : sd_en nc s d p k cp T a) (ht : sd_Ar nc T yt)
    (K : ∀ yt : Nat → Int32, sd_Ar nc (sd_fire s d p k a T) yt → post (YA, YM, nI na, nI nc, yv, ye, yp, yd, gS, gD, gP, gK, gI, gC, yq, yc, yf, yt, ys, yb, yw, yl, yg)) : wpY_fire post (YA, YM, nI na, nI nc, yv, ye, yp, yd, gS, gD, gP, gK, gI, gC, yq, yc, yf, yt, ys, yb, yw, yl, yg) (nI a) :=
  ⟨nc + 1, yb_fi2 hna hnc hG ha he K (nc + 1) 0 yt (by omega) (Nat.zero_le _) (fun i hi => by rw [sd_mix_0]; exact ht i hi)⟩
theorem yb_a354 {post : Int32 → SY → Prop} {J293 : Int32 → Int32 → Int32 → Int32 → Int32 → Int32 → Int32 → Int32 → Int32 → (Nat → Int32) → (Nat → Int32) → (Nat → Int32) → (Nat → Int32) → (Nat → Int32) → (Nat → Int32) → (Nat → Int64) → (Nat → Int32) → (Nat → Int32) → (Nat → Int32) → (Nat → Int32) → (Nat → Int32) → (Nat → Int32) → (Nat → Int32) → (Nat → Int32) → Prop} {x3 : Int32} {nc i : Nat} {T B : Nat → Nat} (hnc : nc ≤ 24) (ht : sd_Ar nc T yt) (hT : ∀ c, c < nc → T c < 2 ^ 20) (hB : ∀ c, c < nc → B c < 2 ^ 20)
    (K : ∀ yb : Nat → Int32, sd_Ar nc (sd_fB T B) yb → J293 (nI (i + 1)) YA YM yn (nI nc) yv ye yp yd gS gD gP gK gI gC yq yc yf yt ys yb yw yl yg) :
    ∀ (n c : Nat) (yb : Nat → Int32), nc < n + c → c ≤ nc → sd_Ar nc (sd_mix c (sd_fB T B) B) yb → wY_analyze_354 post J293 x3 (nI i) YA YM yn (nI nc) yv ye yp yd n (nI c) gS gD gP gK gI gC yq yc yf yt ys yb yw yl yg := by
  intro n
  induction n with
  | zero => intro c yb h1 h2; omega
  | succ n ih =>
    intro c yb h1 h2 hb
    refine pk_le nc c (fun hj => nm_r (nI_1 i) (K yb (fun i hi => ?_))) (fun hj => ?_)
    · rw [hb i hi, sd_mix_lo (by omega)]
    · have hc : (nI c).toNatClampNeg = c := nI_clamp (by omega)
      have v24 : vp_in (nI c) 24 := vp_in_nI (by omega) (by decide)
      have hbc : yb c = nI (B c) := by rw [hb c hj, sd_mix_hi (Nat.lt_irrefl c)]
      have hTc := hT c hj
      have hBc := hB c hj
      refine ⟨v24, v24, ?_⟩
      rw [hc, ht c hj, hbc]
      refine pk_le (T c) (B c) (fun h => nm_r (nI_1 c) (ih (c + 1) yb (by omega) (by omega) (fun i hi => ?_))) (fun h => ⟨v24, v24, nm_e (nm_r (nI_1 c) (ih (c + 1) _ (by omega) (by omega) (fun i hi => ?_)))⟩)
      · by_cases e : i = c
        · rw [e, hbc, sd_mix_lo (Nat.lt_succ_self c)]
          unfold sd_fB
          rw [if_neg (by omega)]
        · rw [hb i hi, sd_mix_s e]
      · by_cases e : i = c
        · rw [e, pk_us, sd_mix_lo (Nat.lt_succ_self c)]
          unfold sd_fB
          rw [if_pos h]
        · rw [pk_un e, hb i hi, sd_mix_s e]
theorem yb_a293 {post : Int32 → SY → Prop} {na nc L : Nat} {s d p k i0 cp Q : Nat → Nat} (hna : na ≤ 10) (hnc : nc ≤ 24) (hG : sd_Gr na nc s d p k i0 cp gS gD gP gK gI gC) (hx : sd_AL na Q yq) (hQ : ∀ j, j < na → Q j ≤ 134217728) (hq : sd_sum Q na ≤ 256) (hL : L ≤ sd_sum Q na) (hg : ∀ j, j < L → sd_sch na nc s d p k cp i0 Q j < na) (hn : ¬ sd_sch na nc s d p k cp i0 Q L < na)
    (K : ∀ ys yb yt yf : Nat → Int32, (∀ j, j < L → ys j = nI (sd_sch na nc s d p k cp i0 Q j)) → sd_Ar nc (sd_sim na nc s d p k cp i0 Q L).2.2 yb → wY_analyze_406 post (nI (sd_sum Q na)) YA YM (nI na) (nI nc) yv (nI L) yp yd gS gD gP gK gI gC yq yc yf yt ys yb yw yl yg) :
    ∀ (n i : Nat) (ys yb yt yf : Nat → Int32), 256 < n + i → i ≤ L → (∀ j, j < i → ys j = nI (sd_sch na nc s d p k cp i0 Q j)) → sd_Ar nc (sd_sim na nc s d p k cp i0 Q i).2.2 yb → sd_Ar nc (sd_sim na nc s d p k cp i0 Q i).2.1 yt → sd_Ar na (sd_sim na nc s d p k cp i0 Q i).1 yf → wY_analyze_293 post (nI (sd_sum Q na)) n (nI i) YA YM (nI na) (nI nc) yv (nI i) yp yd gS gD gP gK gI gC yq yc yf yt ys yb yw yl yg := by
  intro n
  induction n with
  | zero => intro i ys yb yt yf h1 h2; omega
  | succ n ih =>
    intro i ys yb yt yf h1 h2 hs hb ht hf
    have G := sd_Gr_G hG
    have I := sd_I_sim (cp := cp) (Q := Q) G (sd_Gr_32 hG) i (fun j hj => hg j (by omega))
    have bt := sd_BT (by omega) I
    refine pk_le (sd_sum Q na) i (fun hj => ?_) (fun hj => yb_lr hna hnc hG hx hQ hf I.1 ht (fun c hc => by have := bt c hc; omega) (fun hp => ?_) (fun hp => br_f sd_neg1 ?_))
    · have e : i = L := by omega
      subst e
      exact K ys yb yt yf hs hb
    · have hp' : sd_sch na nc s d p k cp i0 Q i < na := hp
      have hil : i < L := by
        by_cases e : i = L
        · rw [e] at hp'
          exact absurd hp' hn
        · omega
      have v10 : vp_in (nI (sd_sch na nc s d p k cp i0 Q i)) 10 := vp_in_nI (by omega) (by decide)
      have I2 := sd_I_sim (cp := cp) (Q := Q) G (sd_Gr_32 hG) (i + 1) (fun j hj => hg j (by omega))
      have bt2 := sd_BT (by omega) I2
      refine br_t (nI_pos' (by omega)) ⟨vp_in_nI (by omega) (by decide), nm_r (e' := upd ys i (nI (sd_sch na nc s d p k cp i0 Q i))) (by rw [nI_clamp (by omega)]; rfl) (nm_r (nI_1 i) ?_)⟩
      refine yb_fi hna hnc hG hp (sd_sch_rdy hp').2 ht (fun yt' kt => ⟨v10, v10, nm_r (e' := upd yf (sd_sch na nc s d p k cp i0 Q i) (nI ((sd_sim na nc s d p k cp i0 Q i).1 (sd_sch na nc s d p k cp i0 Q i) + 1))) ?_ ⟨nc + 1, ?_⟩⟩)
      · have hc : (nI (sd_sch na nc s d p k cp i0 Q i)).toNatClampNeg = sd_sch na nc s d p k cp i0 Q i := nI_clamp (by omega)
        have hfa := hf _ hp'
        show upd yf (nI (sd_sch na nc s d p k cp i0 Q i)).toNatClampNeg (yf (nI (sd_sch na nc s d p k cp i0 Q i)).toNatClampNeg + 1) = _
        rw [hc, hfa, nI_1]
      · refine yb_a354 hnc kt (fun c hc => by have := bt2 c hc; exact Nat.lt_of_le_of_lt this.1 (by decide)) (fun c hc => by have := bt c hc; omega) (fun yb' kb => ih (i + 1) _ yb' yt' _ (by omega) (by omega) (fun j hj => ?_) kb kt (fun a ha => ?_)) (nc + 1) 0 yb (by omega) (Nat.zero_le _) (fun c hc => by rw [sd_mix_0]; exact hb c hc)
        · by_cases e : j = i
          · rw [e, pk_us]
          · rw [pk_un e]
            exact hs j (by omega)
        · show upd yf (sd_sch na nc s d p k cp i0 Q i) _ a = nI (sd_fF (sd_sch na nc s d p k cp i0 Q i) (sd_sim na nc s d p k cp i0 Q i).1 a)
          by_cases e : a = sd_sch na nc s d p k cp i0 Q i
          · rw [e, pk_us, sd_fF_s]
          · rw [pk_un e, sd_fF_o e]
            exact hf a ha
    · have e : i = L := by
        by_cases e : i < L
        · exact absurd (hg i e) hp
        · omega
      subst e
      exact K ys yb yt yf hs hb
theorem yb_a267 {post : Int32 → SY → Prop} {x3 : Int32} {na nc : Nat} (hna : na ≤ 10)
    (K : ∀ yf : Nat → Int32, sd_Ar na (fun _ => 0) yf → ∃ n293 : Nat, wY_analyze_293 post x3 n293 0 YA YM (nI na) (nI nc) yv ye yp yd gS gD gP gK gI gC yq yc yf yt ys yb yw yl yg) :
    ∀ (n j : Nat) (yf : Nat → Int32), na < n + j → j ≤ na → sd_Ar j (fun _ => 0) yf → wY_analyze_267 post x3 YA YM (nI na) (nI nc) yv ye yp yd n (nI j) gS gD gP gK gI gC yq yc yf yt ys yb yw yl yg := by
  intro n
  induction n with
  | zero => intro j yf h1 h2; omega
  | succ n ih =>
    intro j yf h1 h2 hf
    refine pk_le na j (fun hj => ?_) (fun hj => ⟨vp_in_nI (by omega) (by decide), nm_r (e' := upd yf j 0) (by rw [nI_clamp (by omega)]) (nm_r (nI_1 j) (ih (j + 1) _ (by omega) (by omega) (fun i hi => ?_)))⟩)
    · have e : j = na := by omega
      subst e
      exact K yf hf
    · by_cases e : i = j
      · rw [e, pk_us]
        rfl
      · rw [pk_un e]
        exact hf i (by omega)
theorem yb_a221 {post : Int32 → SY → Prop} {x3 : Int32} {na nc : Nat} {s d p k i0 cp : Nat → Nat} (hna : na ≤ 10) (hnc : nc ≤ 24) (hG : sd_Gr na nc s d p k i0 cp gS gD gP gK gI gC)
    (K : ∀ yb yt : Nat → Int32, sd_Ar nc i0 yb → sd_Ar nc i0 yt → ∃ n267 : Nat, wY_analyze_267 post x3 YA YM (nI na) (nI nc) yv ye yp yd n267 0 gS gD gP gK gI gC yq yc yf yt ys yb yw yl yg) :
    ∀ (n c : Nat) (yb yt : Nat → Int32), nc < n + c → c ≤ nc → sd_Ar c i0 yb → sd_Ar c i0 yt → wY_analyze_221 post x3 YA YM (nI na) (nI nc) yv ye yp yd n (nI c) gS gD gP gK gI gC yq yc yf yt ys yb yw yl yg := by
  intro n
  induction n with
  | zero => intro c yb yt h1 h2; omega
  | succ n ih =>
    intro c yb yt h1 h2 hb ht
    refine pk_le nc c (fun hj => ?_) (fun hj => ?_)
    · have e : c = nc := by omega
      subst e
      exact K yb yt hb ht
    · have hc : (nI c).toNatClampNeg = c := nI_clamp (by omega)
      have v24 : vp_in (nI c) 24 := vp_in_nI (by omega) (by decide)
      have eI := (hG c hj).1.2.2.2.2.1
      have up : ∀ x : Nat → Int32, sd_Ar c i0 x → sd_Ar (c + 1) i0 (upd x c (nI (i0 c))) := fun x h i hi => by
        by_cases e : i = c
        · rw [e, pk_us]
        · rw [pk_un e]
          exact h i (by omega)
      exact ⟨v24, v24, nm_r (e' := upd yt c (nI (i0 c))) (by rw [hc, eI]) ⟨v24, v24, nm_r (e' := upd yb c (nI (i0 c))) (by rw [hc, eI]) (nm_r (nI_1 c) (ih (c + 1) _ _ (by omega) (by omega) (up yb hb) (up yt ht)))⟩⟩
end
