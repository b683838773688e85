/-! the component's checks and its schedule -/
def sd_Ar (n : Nat) (f : Nat → Nat) (g : Nat → Int32) : Prop := ∀ c, c < n → g c = nI (f c)
def sd_AL (n : Nat) (f : Nat → Nat) (g : Nat → Int64) : Prop := ∀ c, c < n → g c = lN (f c)
def sd_bal (nc : Nat) (s d p k Q : Nat → Nat) : Prop := ∀ c, c < nc → Q (s c) * p c = Q (d c) * k c
theorem sd_Ar_u {n : Nat} {f : Nat → Nat} {g : Nat → Int32} {c v : Nat} (h : sd_Ar n f g) : sd_Ar n (sd_uN f c v) (upd g c (nI v)) := by
  intro x hx
  by_cases e : x = c
  · rw [e, pk_us, sd_uN_s]
  · rw [pk_un e, sd_uN_o e]
    exact h x hx
/-- f below c, g from there on -/
def sd_mix (c : Nat) (f g : Nat → Nat) : Nat → Nat := fun i => if i < c then f i else g i
theorem sd_mix_lo {c : Nat} {f g : Nat → Nat} {i : Nat} (h : i < c) : sd_mix c f g i = f i := if_pos h
theorem sd_mix_hi {c : Nat} {f g : Nat → Nat} {i : Nat} (h : ¬ i < c) : sd_mix c f g i = g i := if_neg h
theorem sd_mix_s {c : Nat} {f g : Nat → Nat} {i : Nat} (h : i ≠ c) : sd_mix (c + 1) f g i = sd_mix c f g i := by
  by_cases l : i < c
  · rw [sd_mix_lo l, sd_mix_lo (by omega)]
  · rw [sd_mix_hi l, sd_mix_hi (by omega)]
theorem sd_mix_0 {f g : Nat → Nat} {i : Nat} : sd_mix 0 f g i = g i := sd_mix_hi (Nat.not_lt_zero i)
section
variable {XA : Int32} {XM : Int32} {xn : Int32} {xm : Int32} {xv : Int32} {xe : Int32} {xp : Int32} {xd : Int32} {gS : Nat → Int32} {gD : Nat → Int32} {gP : Nat → Int32} {gK : Nat → Int32} {gI : Nat → Int32} {gC : Nat → Int32} {xq : Nat → Int64} {xc : Nat → Int32} {xs : Nat → Int32} {xb : Nat → Int32} {xt : Nat → Int32} {xf : Nat → Int32} {xw : Nat → Int32} {xh : Nat → Int32} {xl : Nat → Int32} {xg : Nat → Int32}
theorem xb_ib2 {post : Int32 → Prop} {na nc : Nat} {s d p k i0 cp Q : Nat → Nat} (hna : na ≤ 10) (hnc : nc ≤ 24) (hG : sd_Gr na nc s d p k i0 cp gS gD gP gK gI gC) (hQ : ∀ j, j < na → Q j ≤ 134217728) (hx : sd_AL na Q xq)
    (K1 : sd_bal nc s d p k Q → post 1) (K0 : ¬ sd_bal nc s d p k Q → post 0) :
    ∀ n c, nc < n + c → c ≤ nc → (∀ i, i < c → Q (s i) * p i = Q (d i) * k i) → wX_isBalanced_2 post XA XM (nI na) (nI nc) xv xe xp xd gS gD gP gK gI gC xq xc xs xb xt xf xw xh xl xg n (nI c) := by
  intro n
  induction n with
  | zero => intro c h1 h2; omega
  | succ n ih =>
    intro c h1 h2 hb
    refine pk_le nc c (fun hj => K1 (fun i hi => hb i (by omega))) (fun hj => ?_)
    have hc : (nI c).toNatClampNeg = c := nI_clamp (by omega)
    obtain ⟨⟨eS, eD, eP, eK, _, _⟩, ⟨g1, g2, g3, g4, g5, g6⟩, _, _⟩ := hG c hj
    have v24 : vp_in (nI c) 24 := vp_in_nI (by omega) (by decide)
    have vs : vp_in (nI (s c)) 10 := vp_in_nI (by omega) (by decide)
    have vd : vp_in (nI (d c)) 10 := vp_in_nI (by omega) (by decide)
    have bs := hQ (s c) g1
    have bd := hQ (d c) g2
    have m1 : Q (s c) * p c ≤ Q (s c) * 8 := Nat.mul_le_mul_left _ g4
    have m2 : Q (d c) * k c ≤ Q (d c) * 8 := Nat.mul_le_mul_left _ g6
    have e1 : ((xq (gS (nI c).toNatClampNeg).toNatClampNeg) * ((gP (nI c).toNatClampNeg).toInt64) = (xq (gD (nI c).toNatClampNeg).toNatClampNeg) * ((gK (nI c).toNatClampNeg).toInt64)) ↔ Q (s c) * p c = Q (d c) * k c := by
      rw [hc, eS, eD, eP, eK, nI_clamp (n := s c) (by omega), nI_clamp (n := d c) (by omega), hx _ g1, hx _ g2, nI_l (n := p c) (by omega), nI_l (n := k c) (by omega), lN_mul, lN_mul, pk_lEQ (by omega) (by omega)]
    refine ⟨v24, by rw [hc, eS]; exact vs, v24, v24, by rw [hc, eD]; exact vd, v24, br_c (fun h => nm_r (nI_1 c) (ih (c + 1) (by omega) (by omega) (fun i hi => ?_))) (fun h => K0 (fun q => h (e1.mpr (q c hj))))⟩
    by_cases e : i = c
    · rw [e]
      exact e1.mp h
    · exact hb i (by omega)
theorem xb_ib {post : Int32 → Prop} {na nc : Nat} {s d p k i0 cp Q : Nat → Nat} (hna : na ≤ 10) (hnc : nc ≤ 24) (hG : sd_Gr na nc s d p k i0 cp gS gD gP gK gI gC) (hQ : ∀ j, j < na → Q j ≤ 134217728) (hx : sd_AL na Q xq)
    (K1 : sd_bal nc s d p k Q → post 1) (K0 : ¬ sd_bal nc s d p k Q → post 0) : wpX_isBalanced post (XA, XM, nI na, nI nc, xv, xe, xp, xd, gS, gD, gP, gK, gI, gC, xq, xc, xs, xb, xt, xf, xw, xh, xl, xg) :=
  ⟨nc + 1, xb_ib2 hna hnc hG hQ hx K1 K0 (nc + 1) 0 (by omega) (Nat.zero_le _) (fun i hi => absurd hi (Nat.not_lt_zero i))⟩
theorem xb_to4 {post : Int64 → Prop} {na : Nat} {Q : Nat → Nat} (hna : na ≤ 10) (hx : sd_AL na Q xq) (K : post (lN (sd_sum Q na))) :
    ∀ n j, na < n + j → j ≤ na → wX_totalRepetitions_4 post XA XM (nI na) xm xv xe xp xd gS gD gP gK gI gC xq xc xs xb xt xf xw xh xl xg n (lN (sd_sum Q j)) (nI j) := by
  intro n
  induction n with
  | zero => intro j h1 h2; omega
  | succ n ih =>
    intro j h1 h2
    refine pk_le na j (fun hj => ?_) (fun hj => ⟨vp_in_nI (by omega) (by decide), nm_r (e' := lN (sd_sum Q (j + 1))) ?_ (nm_r (nI_1 j) (ih (j + 1) (by omega) (by omega)))⟩)
    · have e : j = na := by omega
      subst e
      exact K
    · rw [nI_clamp (by omega), hx j hj, lN_add]
      rfl
theorem xb_to {post : Int64 → Prop} {na : Nat} {Q : Nat → Nat} (hna : na ≤ 10) (hx : sd_AL na Q xq) (K : post (lN (sd_sum Q na))) : wpX_totalRepetitions post (XA, XM, nI na, xm, xv, xe, xp, xd, gS, gD, gP, gK, gI, gC, xq, xc, xs, xb, xt, xf, xw, xh, xl, xg) :=
  ⟨na + 1, xb_to4 hna hx K (na + 1) 0 (by omega) (Nat.zero_le _)⟩
theorem sd_sumQ {na : Nat} {Q : Nat → Nat} (hna : na ≤ 10) (hQ : ∀ j, j < na → Q j ≤ 134217728) : sd_sum Q na ≤ 1342177280 := by
  have h1 := sd_sum_bd na hQ
  omega
theorem xb_jr {post : Int32 → Prop} {na nc : Nat} {s d p k i0 cp Q : Nat → Nat} (hna : na ≤ 10) (hnc : nc ≤ 24) (hG : sd_Gr na nc s d p k i0 cp gS gD gP gK gI gC) (hQ : ∀ j, j < na → Q j ≤ 134217728) (hx : sd_AL na Q xq)
    (K2 : na = 0 → post 2) (K3 : 0 < na → ¬ sd_bal nc s d p k Q → post 3) (K4 : 0 < na → sd_bal nc s d p k Q → 256 < sd_sum Q na → post 4) (K1 : 0 < na → sd_bal nc s d p k Q → sd_sum Q na ≤ 256 → post 1) :
    wpX_judgeRepetitions post (XA, XM, nI na, nI nc, xv, xe, xp, xd, gS, gD, gP, gK, gI, gC, xq, xc, xs, xb, xt, xf, xw, xh, xl, xg) := by
  have hs := sd_sumQ hna hQ
  refine pk_eq na 0 K2 (fun h => xb_ib hna hnc hG hQ hx (fun hb => br_f sd_n10 (xb_to hna hx ?_)) (fun hb => br_t rfl (K3 (by omega) hb)))
  have e : (lN (sd_sum Q na) ≤ 256) ↔ sd_sum Q na ≤ 256 := pk_lLE (b := 256) (by omega) (by decide)
  rw [e]
  exact br_c (fun q => K1 (by omega) hb q) (fun q => K4 (by omega) hb (by omega))
theorem xb_en37 {post J2 : Int32 → Prop} {na nc a c : Nat} {s d p k i0 cp T : Nat → Nat} (hna : na ≤ 10) (hnc : nc ≤ 24) (hG : sd_Gr na nc s d p k i0 cp gS gD gP gK gI gC) (ha : a < na) (hj : c < nc) (ht : xt c = nI (T c)) (hT : T c < 2 ^ 20)
    (K1 : (s c = a → cp c ≠ 0 → T c + p c ≤ cp c) → J2 (nI (c + 1))) (K0 : ¬ (s c = a → cp c ≠ 0 → T c + p c ≤ cp c) → post 0) : wX_isEnabled_37 post J2 (nI a) (nI c) XA XM (nI na) (nI nc) xv xe xp xd gS gD gP gK gI gC xq xc xs xb xt xf xw xh xl xg := by
  have hc : (nI c).toNatClampNeg = c := nI_clamp (by omega)
  obtain ⟨⟨eS, eD, eP, eK, _, eC⟩, ⟨g1, g2, g3, g4, g5, g6⟩, _, g8⟩ := hG c hj
  have v24 : vp_in (nI c) 24 := vp_in_nI (by omega) (by decide)
  refine ⟨v24, ?_⟩
  rw [hc, eS, nI_eq (by omega) (by omega)]
  refine br_c (fun h => ⟨v24, ?_⟩) (fun h => nm_r (nI_1 c) (K1 (fun q => absurd q h)))
  rw [eC, sd_eq0 (by omega)]
  refine br_c (fun h2 => nm_r (nI_1 c) (K1 (fun _ q => absurd h2 q))) (fun h2 => ⟨v24, v24, v24, ?_⟩)
  rw [ht, eP, nI_add, nI_leI (by omega) (by omega)]
  exact br_c (fun h3 => nm_r (nI_1 c) (K1 (fun _ _ => h3))) (fun h3 => K0 (fun q => h3 (q h h2)))
theorem xb_en2 {post : Int32 → Prop} {na nc a : Nat} {s d p k i0 cp T : Nat → Nat} (hna : na ≤ 10) (hnc : nc ≤ 24) (hG : sd_Gr na nc s d p k i0 cp gS gD gP gK gI gC) (ha : a < na) (ht : sd_Ar nc T xt) (hT : ∀ c, c < nc → T c < 2 ^ 20)
    (K1 : sd_en nc s d p k cp T a → post 1) (K0 : ¬ sd_en nc s d p k cp T a → post 0) :
    ∀ n c, nc < n + c → c ≤ nc → (∀ i, i < c → (d i = a → k i ≤ T i) ∧ (s i = a → cp i ≠ 0 → T i + p i ≤ cp i)) → wX_isEnabled_2 post (nI a) XA XM (nI na) (nI nc) xv xe xp xd gS gD gP gK gI gC xq xc xs xb xt xf xw xh xl xg n (nI c) := by
  intro n
  induction n with
  | zero => intro c h1 h2; omega
  | succ n ih =>
    intro c h1 h2 hb
    refine pk_le nc c (fun hj => K1 (fun i hi => hb i (by omega))) (fun hj => ?_)
    have hc : (nI c).toNatClampNeg = c := nI_clamp (by omega)
    obtain ⟨⟨eS, eD, eP, eK, _, eC⟩, ⟨g1, g2, g3, g4, g5, g6⟩, _, g8⟩ := hG c hj
    have v24 : vp_in (nI c) 24 := vp_in_nI (by omega) (by decide)
    have hTc := hT c hj
    have nx : (d c = a → k c ≤ T c) → wX_isEnabled_37 post (wX_isEnabled_2 post (nI a) XA XM (nI na) (nI nc) xv xe xp xd gS gD gP gK gI gC xq xc xs xb xt xf xw xh xl xg n) (nI a) (nI c) XA XM (nI na) (nI nc) xv xe xp xd gS gD gP gK gI gC xq xc xs xb xt xf xw xh xl xg := fun h => by
      refine xb_en37 hna hnc hG ha hj (ht c hj) hTc (fun h3 => ih (c + 1) (by omega) (by omega) (fun i hi => ?_)) (fun h3 => K0 (fun q => h3 (q c hj).2))
      by_cases e : i = c
      · rw [e]
        exact ⟨h, h3⟩
      · exact hb i (by omega)
    have e1 : gD (nI c).toNatClampNeg = nI a ↔ d c = a := by rw [hc, eD, nI_eq (by omega) (by omega)]
    have e2 : gK (nI c).toNatClampNeg ≤ xt (nI c).toNatClampNeg ↔ k c ≤ T c := by rw [hc, eK, ht c hj, nI_leI (by omega) (by omega)]
    exact ⟨v24, br_c (fun h => ⟨v24, v24, br_c (fun h3 => nx (fun _ => e2.mp h3)) (fun h3 => K0 (fun q => h3 (e2.mpr ((q c hj).1 (e1.mp h)))))⟩) (fun h => nx (fun q => absurd (e1.mpr q) h))⟩
theorem xb_en {post : Int32 → Prop} {na nc a : Nat} {s d p k i0 cp T : Nat → Nat} (hna : na ≤ 10) (hnc : nc ≤ 24) (hG : sd_Gr na nc s d p k i0 cp gS gD gP gK gI gC) (ha : a < na) (ht : sd_Ar nc T xt) (hT : ∀ c, c < nc → T c < 2 ^ 20)
    (K1 : sd_en nc s d p k cp T a → post 1) (K0 : ¬ sd_en nc s d p k cp T a → post 0) : wpX_isEnabled post (XA, XM, nI na, nI nc, xv, xe, xp, xd, gS, gD, gP, gK, gI, gC, xq, xc, xs, xb, xt, xf, xw, xh, xl, xg) (nI a) :=
  ⟨nc + 1, xb_en2 hna hnc hG ha ht hT K1 K0 (nc + 1) 0 (by omega) (Nat.zero_le _) (fun i hi => absurd hi (Nat.not_lt_zero i))⟩
theorem xb_lr2 {post : Int32 → Prop} {na nc : Nat} {s d p k i0 cp Q F T : Nat → Nat} (hna : na ≤ 10) (hnc : nc ≤ 24) (hG : sd_Gr na nc s d p k i0 cp gS gD gP gK gI gC) (hx : sd_AL na Q xq) (hQ : ∀ j, j < na → Q j ≤ 134217728) (hf : sd_Ar na F xf) (hF : ∀ j, j < na → F j ≤ Q j) (ht : sd_Ar nc T xt) (hT : ∀ c, c < nc → T c < 2 ^ 20)
    (K1 : sd_pick na nc s d p k cp Q F T < na → post (nI (sd_pick na nc s d p k cp Q F T))) (K0 : ¬ sd_pick na nc s d p k cp Q F T < na → post (-1)) :
    ∀ n a, na < n + a → a ≤ na → (∀ j, j < a → ¬ (F j < Q j ∧ sd_en nc s d p k cp T j)) → wX_leastReadyActor_2 post XA XM (nI na) (nI nc) xv xe xp xd gS gD gP gK gI gC xq xc xs xb xt xf xw xh xl xg n (nI a) := by
  intro n
  induction n with
  | zero => intro a h1 h2; omega
  | succ n ih =>
    intro a h1 h2 hb
    refine pk_le na a (fun hj => K0 ?_) (fun hj => ?_)
    · have e : a = na := by omega
      subst e
      have e2 : sd_pick a nc s d p k cp Q F T = a := sd_first_none hb
      omega
    · have hc : (nI a).toNatClampNeg = a := nI_clamp (by omega)
      have v10 : vp_in (nI a) 10 := vp_in_nI (by omega) (by decide)
      have hQa := hQ a hj
      have hFa := hF a hj
      have nx : ¬ (F a < Q a ∧ sd_en nc s d p k cp T a) → wX_leastReadyActor_2 post XA XM (nI na) (nI nc) xv xe xp xd gS gD gP gK gI gC xq xc xs xb xt xf xw xh xl xg n (nI (a + 1)) := fun h => ih (a + 1) (by omega) (by omega) (fun j hj2 => by
        by_cases e : j = a
        · rw [e]
          exact h
        · exact hb j (by omega))
      have e1 : xq (nI a).toNatClampNeg ≤ (xf (nI a).toNatClampNeg).toInt64 ↔ Q a ≤ F a := by rw [hc, hx a hj, hf a hj, nI_l (by omega), pk_lLE (by omega) (by omega)]
      refine ⟨v10, v10, br_c (fun h => nm_r (nI_1 a) (nx (fun q => by have := e1.mp h; omega))) (fun h => xb_en hna hnc hG hj ht hT (fun h3 => br_f sd_n10 ?_) (fun h3 => br_t rfl (nm_r (nI_1 a) (nx (fun q => h3 q.2)))))⟩
      have e2 : sd_pick na nc s d p k cp Q F T = a := sd_first_at hj ⟨Nat.lt_of_not_le (fun q => h (e1.mpr q)), h3⟩ hb
      rw [e2] at K1
      exact K1 hj
theorem xb_lr {post : Int32 → Prop} {na nc : Nat} {s d p k i0 cp Q F T : Nat → Nat} (hna : na ≤ 10) (hnc : nc ≤ 24) (hG : sd_Gr na nc s d p k i0 cp gS gD gP gK gI gC) (hx : sd_AL na Q xq) (hQ : ∀ j, j < na → Q j ≤ 134217728) (hf : sd_Ar na F xf) (hF : ∀ j, j < na → F j ≤ Q j) (ht : sd_Ar nc T xt) (hT : ∀ c, c < nc → T c < 2 ^ 20)
    (K1 : sd_pick na nc s d p k cp Q F T < na → post (nI (sd_pick na nc s d p k cp Q F T))) (K0 : ¬ sd_pick na nc s d p k cp Q F T < na → post (-1)) : wpX_leastReadyActor post (XA, XM, nI na, nI nc, xv, xe, xp, xd, gS, gD, gP, gK, gI, gC, xq, xc, xs, xb, xt, xf, xw, xh, xl, xg) :=
  ⟨na + 1, xb_lr2 hna hnc hG hx hQ hf hF ht hT K1 K0 (na + 1) 0 (by omega) (Nat.zero_le _) (fun i hi => absurd hi (Nat.not_lt_zero i))⟩
--SPLIT
theorem xb_pf70 {post : SX → Prop} {J12 : Int32 → (Nat → Int32) → (Nat → Int32) → (Nat → Int32) → (Nat → Int32) → (Nat → Int32) → (Nat → Int32) → (Nat → Int64) → (Nat → Int32) → (Nat → Int32) → (Nat → Int32) → (Nat → Int32) → (Nat → Int32) → (Nat → Int32) → (Nat → Int32) → (Nat → Int32) → (Nat → Int32) → Prop} {x1 : Int32} {c t b : Nat} (hj : c < 24) (ht : xt c = nI t) (hb : xb c = nI b) (ht2 : t < 2 ^ 20) (hb2 : b < 2 ^ 20)
    (K : ∀ xb' : Nat → Int32, xb' c = nI (if b < t then t else b) → (∀ i, i ≠ c → xb' i = xb i) → J12 (nI (c + 1)) gS gD gP gK gI gC xq xc xs xb' xt xf xw xh xl xg) : wX_planFiring_70 post J12 x1 (nI c) XA XM xn xm xv xe xp xd gS gD gP gK gI gC xq xc xs xb xt xf xw xh xl xg := by
  have hc : (nI c).toNatClampNeg = c := nI_clamp (by omega)
  have v24 : vp_in (nI c) 24 := vp_in_nI (by omega) (by decide)
  refine ⟨v24, v24, ?_⟩
  rw [hc, ht, hb]
  exact pk_le t b (fun h => nm_r (nI_1 c) (K xb (by rw [if_neg (by omega)]; exact hb) (fun _ _ => rfl))) (fun h => ⟨v24, v24, nm_e (nm_r (nI_1 c) (K _ (by rw [if_pos h, pk_us]) (fun i hi => pk_un hi)))⟩)
theorem xb_pf45 {post : SX → Prop} {J12 : Int32 → (Nat → Int32) → (Nat → Int32) → (Nat → Int32) → (Nat → Int32) → (Nat → Int32) → (Nat → Int32) → (Nat → Int64) → (Nat → Int32) → (Nat → Int32) → (Nat → Int32) → (Nat → Int32) → (Nat → Int32) → (Nat → Int32) → (Nat → Int32) → (Nat → Int32) → (Nat → Int32) → Prop} {na nc a c t b : Nat} {s d p k i0 cp : Nat → Nat} (hna : na ≤ 10) (hnc : nc ≤ 24) (hG : sd_Gr na nc s d p k i0 cp gS gD gP gK gI gC) (ha : a < na) (hj : c < nc) (ht : xt c = nI t) (hb : xb c = nI b) (ht2 : t < 2 ^ 19) (hb2 : b < 2 ^ 20)
    (K : ∀ xt' xb' : Nat → Int32, xt' c = nI (t + (if s c = a then p c else 0)) → xb' c = nI (if b < t + (if s c = a then p c else 0) then t + (if s c = a then p c else 0) else b) → (∀ i, i ≠ c → xt' i = xt i ∧ xb' i = xb i) → J12 (nI (c + 1)) gS gD gP gK gI gC xq xc xs xb' xt' xf xw xh xl xg) : wX_planFiring_45 post J12 (nI a) (nI c) XA XM (nI na) (nI nc) xv xe xp xd gS gD gP gK gI gC xq xc xs xb xt xf xw xh xl xg := by
  have hc : (nI c).toNatClampNeg = c := nI_clamp (by omega)
  obtain ⟨⟨eS, eD, eP, eK, _, eC⟩, ⟨g1, g2, g3, g4, g5, g6⟩, _, g8⟩ := hG c hj
  have v24 : vp_in (nI c) 24 := vp_in_nI (by omega) (by decide)
  refine ⟨v24, ?_⟩
  rw [hc, eS, nI_eq (by omega) (by omega)]
  refine br_c (fun h => ⟨v24, v24, v24, nm_r (e' := upd xt c (nI (t + p c))) (by rw [ht, eP, nI_add]) ?_⟩) (fun h => ?_)
  · rw [if_pos h] at K
    exact xb_pf70 (by omega) pk_us hb (by omega) hb2 (fun xb' h1 h2 => K _ xb' pk_us h1 (fun i hi => ⟨pk_un hi, h2 i hi⟩))
  · rw [if_neg h] at K
    exact xb_pf70 (by omega) ht hb (by omega) hb2 (fun xb' h1 h2 => K xt xb' ht h1 (fun i hi => ⟨rfl, h2 i hi⟩))
theorem xb_pf12 {post : SX → Prop} {na nc a : Nat} {s d p k i0 cp T B : Nat → Nat} (hna : na ≤ 10) (hnc : nc ≤ 24) (hG : sd_Gr na nc s d p k i0 cp gS gD gP gK gI gC) (ha : a < na) (he : sd_en nc s d p k cp T a) (hT : ∀ c, c < nc → T c < 2 ^ 18) (hB : ∀ c, c < nc → B c < 2 ^ 20)
    (K : ∀ xt xb : Nat → Int32, sd_Ar nc (sd_fire s d p k a T) xt → sd_Ar nc (sd_fB (sd_fire s d p k a T) B) xb → post (XA, XM, nI na, nI nc, xv, xe, xp, xd, gS, gD, gP, gK, gI, gC, xq, xc, xs, xb, xt, xf, xw, xh, xl, xg)) :
    ∀ (n c : Nat) (xt xb : Nat → Int32), nc < n + c → c ≤ nc → sd_Ar nc (sd_mix c (sd_fire s d p k a T) T) xt → sd_Ar nc (sd_mix c (sd_fB (sd_fire s d p k a T) B) B) xb → wX_planFiring_12 post (nI a) XA XM (nI na) (nI nc) xv xe xp xd n (nI c) gS gD gP gK gI gC xq xc xs xb xt xf xw xh xl xg := by
  intro n
  induction n with
  | zero => intro c xt xb h1 h2; omega
  | succ n ih =>
    intro c xt xb h1 h2 ht hb
    refine pk_le nc c (fun hj => K xt xb (fun i hi => ?_) (fun i hi => ?_)) (fun hj => ?_)
    · have := ht i hi
      rw [sd_mix_lo (by omega)] at this
      exact this
    · have := hb i hi
      rw [sd_mix_lo (by omega)] at this
      exact this
    · have hc : (nI c).toNatClampNeg = c := nI_clamp (by omega)
      obtain ⟨⟨eS, eD, eP, eK, _, eC⟩, ⟨g1, g2, g3, g4, g5, g6⟩, _, g8⟩ := hG c hj
      have v24 : vp_in (nI c) 24 := vp_in_nI (by omega) (by decide)
      have htc : xt c = nI (T c) := by
        have := ht c hj
        rw [sd_mix_hi (Nat.lt_irrefl c)] at this
        exact this
      have hbc : xb c = nI (B c) := by
        have := hb c hj
        rw [sd_mix_hi (Nat.lt_irrefl c)] at this
        exact this
      have hTc := hT c hj
      have hBc := hB c hj
      have nx : ∀ (t : Nat) (xt1 : Nat → Int32), t + (if s c = a then p c else 0) = sd_fire s d p k a T c → t < 2 ^ 19 → xt1 c = nI t → (∀ i, i ≠ c → xt1 i = xt i) → wX_planFiring_45 post (wX_planFiring_12 post (nI a) XA XM (nI na) (nI nc) xv xe xp xd n) (nI a) (nI c) XA XM (nI na) (nI nc) xv xe xp xd gS gD gP gK gI gC xq xc xs xb xt1 xf xw xh xl xg := fun t xt1 e1 e2 e3 e4 => by
        refine xb_pf45 hna hnc hG ha hj e3 hbc e2 hBc (fun xt' xb' k1 k2 k3 => ih (c + 1) xt' xb' (by omega) (by omega) (fun i hi => ?_) (fun i hi => ?_))
        · by_cases e : i = c
          · rw [e, k1, e1, sd_mix_lo (Nat.lt_succ_self c)]
          · rw [(k3 i e).1, e4 i e, ht i hi, sd_mix_s e]
        · by_cases e : i = c
          · rw [e, k2, e1, sd_mix_lo (Nat.lt_succ_self c)]
            rfl
          · rw [(k3 i e).2, hb i hi, sd_mix_s e]
      refine ⟨v24, ?_⟩
      rw [hc, eD, nI_eq (by omega) (by omega)]
      refine br_c (fun h => ⟨v24, v24, v24, nm_r (e' := upd xt c (nI (T c - k c))) (by rw [htc, eK, pk_sub ((he c hj).1 h)]) (nx (T c - k c) _ (by unfold sd_fire; rw [if_pos h]) (by omega) pk_us (fun i hi => pk_un hi))⟩) (fun h => nx (T c) xt (by unfold sd_fire; rw [if_neg h]; rfl) (by omega) htc (fun _ _ => rfl))
theorem xb_pf {post : SX → Prop} {na nc a : Nat} {s d p k i0 cp F T B : Nat → Nat} (hna : na ≤ 10) (hnc : nc ≤ 24) (hG : sd_Gr na nc s d p k i0 cp gS gD gP gK gI gC) (ha : a < na) (he : sd_en nc s d p k cp T a) (hT : ∀ c, c < nc → T c < 2 ^ 18) (hB : ∀ c, c < nc → B c < 2 ^ 20) (hf : sd_Ar na F xf) (ht : sd_Ar nc T xt) (hb : sd_Ar nc B xb)
    (K : ∀ xf xt xb : Nat → Int32, sd_Ar na (sd_fF a F) xf → sd_Ar nc (sd_fire s d p k a T) xt → sd_Ar nc (sd_fB (sd_fire s d p k a T) B) xb → post (XA, XM, nI na, nI nc, xv, xe, xp, xd, gS, gD, gP, gK, gI, gC, xq, xc, xs, xb, xt, xf, xw, xh, xl, xg)) : wpX_planFiring post (XA, XM, nI na, nI nc, xv, xe, xp, xd, gS, gD, gP, gK, gI, gC, xq, xc, xs, xb, xt, xf, xw, xh, xl, xg) (nI a) := by
  have hc : (nI a).toNatClampNeg = a := nI_clamp (by omega)
  have v10 : vp_in (nI a) 10 := vp_in_nI (by omega) (by decide)
  refine ⟨v10, v10, nm_r (e' := upd xf a (nI (F a + 1))) (by rw [hc, hf a ha, nI_1]) ⟨nc + 1, ?_⟩⟩
  refine xb_pf12 hna hnc hG ha he hT hB (fun xt' xb' h1 h2 => K _ xt' xb' (fun i hi => ?_) h1 h2) (nc + 1) 0 xt xb (by omega) (Nat.zero_le _) (fun i hi => ?_) (fun i hi => ?_)
  · by_cases e : i = a
    · rw [e, pk_us, sd_fF_s]
    · rw [pk_un e, sd_fF_o e]
      exact hf i hi
  · rw [sd_mix_0]
    exact ht i hi
  · rw [sd_mix_0]
    exact hb i hi
end
