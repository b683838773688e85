/-! the component's executor -/
theorem sd_XS_v {nc : Nat} {N hd : Nat → Nat} {V V' : Nat → Nat → Int32} {st : Nat → Int32} (h : sd_XS nc N hd V st) (e : ∀ c, c < nc → ∀ i, i < N c → V' c i = V c i) : sd_XS nc N hd V' st := fun c hc i hi => (h c hc i hi).trans (e c hc i hi).symm
/-- counts and heads as the component keeps them -/
def sd_HL (nc : Nat) (N hd : Nat → Nat) (xh xl : Nat → Int32) : Prop := ∀ c, c < nc → xl c = nI (N c) ∧ hd c < 512 ∧ xh c = nI (hd c)
section
variable {XA : Int32} {XM : Int32} {xn : Int32} {xm : Int32} {xv : Int32} {xe : Int32} {xp : Int32} {xd : Int32} {gS : Nat → Int32} {gD : Nat → Int32} {gP : Nat → Int32} {gK : Nat → Int32} {gI : Nat → Int32} {gC : Nat → Int32} {xq : Nat → Int64} {xc : Nat → Int32} {xs : Nat → Int32} {xb : Nat → Int32} {xt : Nat → Int32} {xf : Nat → Int32} {xw : Nat → Int32} {xh : Nat → Int32} {xl : Nat → Int32} {xg : Nat → Int32}
theorem xd_cell {post : Int32 → Prop} {c h q : Nat} (hc : c < 24) (hh : xh c = nI h) (hb : h + q < 2 ^ 32) (K : post (nI (c * 512 + (h + q) % 512))) : wpX_cell post (XA, XM, xn, xm, xv, xe, xp, xd, gS, gD, gP, gK, gI, gC, xq, xc, xs, xb, xt, xf, xw, xh, xl, xg) (nI c) (nI q) := by
  refine ⟨vp_in_nI hc (by decide), ?_⟩
  rw [nI_clamp (by omega), hh, sd_cell c h q hb]
  exact K
theorem xd_ap3 {post : SX → Prop} {nc c m : Nat} {N hd : Nat → Nat} {V : Nat → Nat → Int32} {v : Int32} (hnc : nc ≤ 24) (hc : c < nc) (hl : xl c = nI (N c)) (hh : xh c = nI (hd c)) (h5 : hd c < 512) (hN : ∀ x, x < nc → N x ≤ 512) (hm : N c + m ≤ 512)
    (K : ∀ xw : Nat → Int32, sd_XS nc (sd_uN N c (N c + m)) hd (sd_eV V c (N c) v) xw → post (XA, XM, xn, xm, xv, xe, xp, xd, gS, gD, gP, gK, gI, gC, xq, xc, xs, xb, xt, xf, xw, xh, upd xl c (nI (N c + m)), xg)) :
    ∀ (n i : Nat) (xw : Nat → Int32), m < n + i → i ≤ m → sd_XS nc (sd_uN N c (N c + i)) hd (sd_eV V c (N c) v) xw → wX_appendTokens_3 post (nI c) (nI m) v XA XM xn xm xv xe xp xd n (nI i) gS gD gP gK gI gC xq xc xs xb xt xf xw xh xl xg := by
  intro n
  induction n with
  | zero => intro i xw h1 h2; omega
  | succ n ih =>
    intro i xw h1 h2 hx
    have hcl : (nI c).toNatClampNeg = c := nI_clamp (by omega)
    have v24 : vp_in (nI c) 24 := vp_in_nI (by omega) (by decide)
    refine pk_le m i (fun hj => ⟨v24, v24, nm_r (e' := upd xl c (nI (N c + m))) (by rw [hcl, hl, nI_add]) (K xw ?_)⟩) (fun hj => ⟨v24, ?_⟩)
    · have e : i = m := by omega
      subst e
      exact hx
    · rw [hcl, hl, nI_add]
      have hlt := Nat.mod_lt (hd c + (N c + i)) (show 0 < 512 by decide)
      refine xd_cell (by omega) hh (by omega) ⟨vp_in_nI (by omega) (by decide), nm_r (e' := upd xw (c * 512 + (hd c + (N c + i)) % 512) v) (by rw [nI_clamp (by omega)]) (nm_r (nI_1 i) (ih (i + 1) _ (by omega) (by omega) ?_))⟩
      have h := sd_XS_enq (c := c) (v := v) hx (fun x hx2 => by
        by_cases e : x = c
        · rw [e, sd_uN_s]
          omega
        · rw [sd_uN_o e]
          exact hN x hx2) (by rw [sd_uN_s]; omega)
      rw [sd_uN_u, sd_uN_s, sd_eV_e] at h
      exact h
theorem xd_ap {post : SX → Prop} {nc c m : Nat} {N hd : Nat → Nat} {V : Nat → Nat → Int32} {v : Int32} (hnc : nc ≤ 24) (hc : c < nc) (hl : xl c = nI (N c)) (hh : xh c = nI (hd c)) (h5 : hd c < 512) (hN : ∀ x, x < nc → N x ≤ 512) (hm : N c + m ≤ 512) (hx : sd_XS nc N hd V xw)
    (K : ∀ xw : Nat → Int32, sd_XS nc (sd_uN N c (N c + m)) hd (sd_eV V c (N c) v) xw → post (XA, XM, xn, xm, xv, xe, xp, xd, gS, gD, gP, gK, gI, gC, xq, xc, xs, xb, xt, xf, xw, xh, upd xl c (nI (N c + m)), xg)) : wpX_appendTokens post (XA, XM, xn, xm, xv, xe, xp, xd, gS, gD, gP, gK, gI, gC, xq, xc, xs, xb, xt, xf, xw, xh, xl, xg) (nI c) (nI m) v := by
  refine ⟨m + 1, xd_ap3 hnc hc hl hh h5 hN hm K (m + 1) 0 xw (by omega) (Nat.zero_le _) ?_⟩
  rw [sd_uN_id (show N c + 0 = N c from rfl)]
  refine sd_XS_v hx (fun x hx2 i hi => ?_)
  by_cases e : x = c
  · subst e
    exact sd_eV_l hi
  · exact sd_eV_o e
theorem xd_re35 {post : SX → Prop} {na nc : Nat} {s d p k i0 cp : Nat → Nat} (hna : na ≤ 10) (hnc : nc ≤ 24) (hG : sd_Gr na nc s d p k i0 cp gS gD gP gK gI gC)
    (K : ∀ xw xh xl : Nat → Int32, sd_HL nc i0 (fun _ => 0) xh xl → sd_XS nc i0 (fun _ => 0) (fun _ _ => 0) xw → post (XA, XM, nI na, nI nc, xv, xe, xp, xd, gS, gD, gP, gK, gI, gC, xq, xc, xs, xb, xt, xf, xw, xh, xl, xg)) :
    ∀ (n c : Nat) (xw xh xl : Nat → Int32), nc < n + c → c ≤ nc → sd_HL c i0 (fun _ => 0) xh xl → sd_XS nc (sd_mix c i0 (fun _ => 0)) (fun _ => 0) (fun _ _ => 0) xw → wX_resetExecutor_35 post n (nI c) XA XM (nI na) (nI nc) xv xe xp xd gS gD gP gK gI gC xq xc xs xb xt xf xw xh xl xg := by
  intro n
  induction n with
  | zero => intro c xw xh xl h1 h2; omega
  | succ n ih =>
    intro c xw xh xl h1 h2 hl hx
    refine pk_le nc c (fun hj => ?_) (fun hj => ?_)
    · have e : c = nc := by omega
      subst e
      exact K xw xh xl hl (fun x hx2 i hi => hx x hx2 i (by rw [sd_mix_lo hx2]; exact hi))
    · have hc : (nI c).toNatClampNeg = c := nI_clamp (by omega)
      have v24 : vp_in (nI c) 24 := vp_in_nI (by omega) (by decide)
      have eI := (hG c hj).1.2.2.2.2.1
      have b32 := (hG c hj).2.2.1
      have mc : sd_mix c i0 (fun _ => 0) c = 0 := sd_mix_hi (Nat.lt_irrefl c)
      refine ⟨v24, nm_r (e' := upd xh c 0) (by rw [hc]) ⟨v24, nm_r (e' := upd xl c 0) (by rw [hc]) ⟨v24, ?_⟩⟩⟩
      rw [hc, eI]
      refine xd_ap (N := sd_mix c i0 (fun _ => 0)) (hd := fun _ => 0) (V := fun _ _ => 0) hnc hj (by rw [pk_us, mc]; rfl) pk_us (by decide) (fun x hx2 => ?_) (by rw [mc]; omega) hx (fun xw' hx' => nm_r (nI_1 c) (ih (c + 1) xw' _ _ (by omega) (by omega) (fun x hx2 => ?_) ?_))
      · by_cases l : x < c
        · rw [sd_mix_lo l]
          have := (hG x (by omega)).2.2.1
          omega
        · rw [sd_mix_hi l]
          decide
      · by_cases e : x = c
        · rw [e, pk_us, pk_us, mc, Nat.zero_add]
          exact ⟨rfl, (by decide : (0 : Nat) < 512), rfl⟩
        · rw [pk_un e, pk_un e, pk_un e]
          exact hl x (by omega)
      · intro x hx2 i hi
        have h := hx' x hx2 i
        rw [mc, Nat.zero_add] at h
        have e3 : sd_eV (fun _ _ => (0 : Int32)) c 0 0 x i = 0 := by
          unfold sd_eV
          split <;> rfl
        rw [e3] at h
        apply h
        by_cases e : x = c
        · rw [e, sd_mix_lo (Nat.lt_succ_self c)] at hi
          rw [e, sd_uN_s]
          exact hi
        · rw [sd_mix_s e] at hi
          rw [sd_uN_o e]
          exact hi
theorem xd_re12 {post : SX → Prop} {na nc : Nat} (hna : na ≤ 10)
    (K : ∀ xg : Nat → Int32, (∀ j, j < na → xg j = 0) → ∃ n35 : Nat, wX_resetExecutor_35 post n35 0 XA XM (nI na) (nI nc) xv xe xp xd gS gD gP gK gI gC xq xc xs xb xt xf xw xh xl xg) :
    ∀ (n j : Nat) (xg : Nat → Int32), na < n + j → j ≤ na → (∀ i, i < j → xg i = 0) → wX_resetExecutor_12 post XA XM (nI na) (nI nc) xv xe xp xd n (nI j) gS gD gP gK gI gC xq xc xs xb xt xf xw xh xl xg := by
  intro n
  induction n with
  | zero => intro j xg h1 h2; omega
  | succ n ih =>
    intro j xg h1 h2 hf
    refine pk_le na j (fun hj => K xg (fun i hi => hf i (by omega))) (fun hj => ⟨vp_in_nI (by omega) (by decide), nm_r (e' := upd xg j 0) (by rw [nI_clamp (by omega)]) (nm_r (nI_1 j) (ih (j + 1) _ (by omega) (by omega) (fun i hi => ?_)))⟩)
    by_cases e : i = j
    · rw [e, pk_us]
    · rw [pk_un e]
      exact hf i (by omega)
theorem xd_re {post : SX → Prop} {na nc : Nat} {s d p k i0 cp : Nat → Nat} (hna : na ≤ 10) (hnc : nc ≤ 24) (hG : sd_Gr na nc s d p k i0 cp gS gD gP gK gI gC)
    (K : ∀ xw xh xl xg : Nat → Int32, sd_HL nc i0 (fun _ => 0) xh xl → sd_XS nc i0 (fun _ => 0) (fun _ _ => 0) xw → (∀ j, j < na → xg j = 0) → post (XA, XM, nI na, nI nc, xv, xe, 0, 0, gS, gD, gP, gK, gI, gC, xq, xc, xs, xb, xt, xf, xw, xh, xl, xg)) : wpX_resetExecutor post (XA, XM, nI na, nI nc, xv, xe, xp, xd, gS, gD, gP, gK, gI, gC, xq, xc, xs, xb, xt, xf, xw, xh, xl, xg) := by
  refine ⟨na + 1, xd_re12 hna (fun xg hg => ⟨nc + 1, ?_⟩) (na + 1) 0 xg (by omega) (Nat.zero_le _) (fun i hi => absurd hi (Nat.not_lt_zero i))⟩
  refine xd_re35 hna hnc hG (fun xw xh xl hl hx => K xw xh xl xg hl hx hg) (nc + 1) 0 xw xh xl (by omega) (Nat.zero_le _) (fun i hi => absurd hi (Nat.not_lt_zero i)) (fun x hx2 i hi => ?_)
  rw [sd_mix_0] at hi
  exact absurd hi (Nat.not_lt_zero i)
/-! takes -/
theorem xd_ti25 {post : Int32 → SX → Prop} {J4 : Int32 → Int32 → (Nat → Int32) → (Nat → Int32) → (Nat → Int32) → (Nat → Int32) → (Nat → Int32) → (Nat → Int32) → (Nat → Int64) → (Nat → Int32) → (Nat → Int32) → (Nat → Int32) → (Nat → Int32) → (Nat → Int32) → (Nat → Int32) → (Nat → Int32) → (Nat → Int32) → (Nat → Int32) → Prop} {x1 : Int32} {nc c m h q : Nat} {f : Nat → Int32} {s0 : Int32} (hnc : nc ≤ 24) (hc : c < nc) (hK : gK c = nI m) (hm : m ≤ 8) (hl : xl c = nI q) (hh : xh c = nI h) (h5 : h < 512) (hq : m ≤ q) (hf : ∀ i, i < q → xw (c * 512 + (h + i) % 512) = f i)
    (K : J4 (sd_ts f s0 m) (nI (c + 1)) gS gD gP gK gI gC xq xc xs xb xt xf xw (upd xh c (nI ((h + m) % 512))) (upd xl c (nI (q - m))) xg) :
    ∀ n i, m < n + i → i ≤ m → wX_takeInputs_25 post J4 x1 (nI c) XA XM xn xm xv xe xp xd gS gD gP gK gI gC xq xc xs xb xt xf xw xh xl xg n (sd_ts f s0 i) (nI i) := by
  intro n
  induction n with
  | zero => intro i h1 h2; omega
  | succ n ih =>
    intro i h1 h2
    have hcl : (nI c).toNatClampNeg = c := nI_clamp (by omega)
    have v24 : vp_in (nI c) 24 := vp_in_nI (by omega) (by decide)
    refine ⟨v24, ?_⟩
    rw [hcl, hK]
    refine pk_le m i (fun hj => ⟨v24, v24, v24, nm_r (e' := upd xh c (nI ((h + m) % 512))) (by rw [hh, sd_and h m (by omega)]) ⟨v24, v24, v24, nm_r (e' := upd xl c (nI (q - m))) (by rw [hl, pk_sub hq]) (nm_r (nI_1 c) ?_)⟩⟩) (fun hj => ?_)
    · have e : i = m := by omega
      subst e
      exact K
    · have hlt := Nat.mod_lt (h + i) (show 0 < 512 by decide)
      exact xd_cell (by omega) hh (by omega) ⟨vp_in_nI (by omega) (by decide), nm_r (e' := sd_ts f s0 (i + 1)) (by rw [nI_clamp (by omega), hf i (by omega)]; rfl) (nm_r (nI_1 i) (ih (i + 1) (by omega) (by omega)))⟩
theorem xd_ti4 {post : Int32 → SX → Prop} {na nc a : Nat} {s d p k i0 cp N : Nat → Nat} {V : Nat → Nat → Int32} (hna : na ≤ 10) (hnc : nc ≤ 24) (hG : sd_Gr na nc s d p k i0 cp gS gD gP gK gI gC) (ha : a < na) (hk : ∀ c, c < nc → d c = a → k c ≤ N c)
    (K : ∀ (hd : Nat → Nat) (xh xl : Nat → Int32), sd_HL nc (sd_tN d k a N nc) hd xh xl → sd_XS nc (sd_tN d k a N nc) hd (sd_tV d k a V nc) xw → post (sd_tS d k a V nc) (XA, XM, nI na, nI nc, xv, xe, xp, xd, gS, gD, gP, gK, gI, gC, xq, xc, xs, xb, xt, xf, xw, xh, xl, xg)) :
    ∀ (n c : Nat) (hd : Nat → Nat) (xh xl : Nat → Int32), nc < n + c → c ≤ nc → sd_HL nc (sd_tN d k a N c) hd xh xl → sd_XS nc (sd_tN d k a N c) hd (sd_tV d k a V c) xw → wX_takeInputs_4 post (nI a) XA XM (nI na) (nI nc) xv xe xp xd n (sd_tS d k a V c) (nI c) gS gD gP gK gI gC xq xc xs xb xt xf xw xh xl xg := by
  intro n
  induction n with
  | zero => intro c hd xh xl h1 h2; omega
  | succ n ih =>
    intro c hd xh xl h1 h2 hl hx
    refine pk_le nc c (fun hj => ?_) (fun hj => ?_)
    · have e : c = nc := by omega
      subst e
      exact K hd xh xl hl hx
    · have hcl : (nI c).toNatClampNeg = c := nI_clamp (by omega)
      obtain ⟨⟨eS, eD, eP, eK, _, eC⟩, ⟨g1, g2, g3, g4, g5, g6⟩, _, g8⟩ := hG c hj
      have v24 : vp_in (nI c) 24 := vp_in_nI (by omega) (by decide)
      obtain ⟨l1, l2, l3⟩ := hl c hj
      have tc : sd_tN d k a N c c = N c := sd_tN_hi (Nat.le_refl c)
      refine ⟨v24, ?_⟩
      rw [hcl, eD, nI_eq (by omega) (by omega)]
      refine br_c (fun h => ⟨k c + 1, ?_⟩) (fun h => nm_r (nI_1 c) ?_)
      · have hkc := hk c hj h
        rw [tc] at l1
        refine xd_ti25 (f := V c) (q := N c) (h := hd c) hnc hj eK g6 l1 l3 l2 hkc (fun i hi => ?_) ?_ (k c + 1) 0 (by omega) (Nat.zero_le _)
        · have := hx c hj i (by rw [tc]; exact hi)
          rw [sd_tV_hi (Nat.le_refl c)] at this
          exact this
        · rw [← sd_tS_y h]
          refine ih (c + 1) (sd_uN hd c ((hd c + k c) % 512)) _ _ (by omega) (by omega) (fun x hx2 => ?_) ?_
          · rw [← sd_tN_y h]
            by_cases e : x = c
            · rw [e, pk_us, pk_us, sd_uN_s, sd_uN_s]
              exact ⟨rfl, Nat.mod_lt _ (by decide), rfl⟩
            · rw [pk_un e, pk_un e, sd_uN_o e, sd_uN_o e]
              exact hl x hx2
          · have hx3 := sd_XS_deq (c := c) (j := k c) hx (by rw [tc]; exact hkc)
            rw [tc, sd_tN_y h, sd_tV_y h] at hx3
            exact hx3
      · have hi := ih (c + 1) hd xh xl (by omega) (by omega) (by rw [sd_tN_n h]; exact hl) (by rw [sd_tN_n h, sd_tV_n h]; exact hx)
        rw [sd_tS_n h] at hi
        exact hi
theorem xd_ti {post : Int32 → SX → Prop} {na nc a : Nat} {s d p k i0 cp N hd : Nat → Nat} {V : Nat → Nat → Int32} (hna : na ≤ 10) (hnc : nc ≤ 24) (hG : sd_Gr na nc s d p k i0 cp gS gD gP gK gI gC) (ha : a < na) (hk : ∀ c, c < nc → d c = a → k c ≤ N c) (hl : sd_HL nc N hd xh xl) (hx : sd_XS nc N hd V xw)
    (K : ∀ (hd : Nat → Nat) (xh xl : Nat → Int32), sd_HL nc (sd_tN d k a N nc) hd xh xl → sd_XS nc (sd_tN d k a N nc) hd (sd_tV d k a V nc) xw → post (sd_tS d k a V nc) (XA, XM, nI na, nI nc, xv, xe, xp, xd, gS, gD, gP, gK, gI, gC, xq, xc, xs, xb, xt, xf, xw, xh, xl, xg)) : wpX_takeInputs post (XA, XM, nI na, nI nc, xv, xe, xp, xd, gS, gD, gP, gK, gI, gC, xq, xc, xs, xb, xt, xf, xw, xh, xl, xg) (nI a) :=
  ⟨nc + 1, xd_ti4 hna hnc hG ha hk K (nc + 1) 0 hd xh xl (by omega) (Nat.zero_le _) (by rw [sd_tN_0]; exact hl) (by rw [sd_tN_0, sd_tV_0]; exact hx)⟩
/-! puts, and the step -/
theorem xd_st40 {post : SX → Prop} {na nc a pos L : Nat} {s d p k i0 cp N hd : Nat → Nat} {V : Nat → Nat → Int32} {v : Int32} (hna : na ≤ 10) (hnc : nc ≤ 24) (hG : sd_Gr na nc s d p k i0 cp gS gD gP gK gI gC) (ha : a < na) (hM : ∀ c, c < nc → sd_pN s p a N nc c ≤ 512) (hp : pos < L) (hL : L ≤ 256)
    (K : ∀ xw xl : Nat → Int32, sd_HL nc (sd_pN s p a N nc) hd xh xl → sd_XS nc (sd_pN s p a N nc) hd (sd_pV s a v N V nc) xw → (pos + 1 < L → post (XA, XM, nI na, nI nc, xv, nI L, nI (pos + 1), xd, gS, gD, gP, gK, gI, gC, xq, xc, xs, xb, xt, xf, xw, xh, xl, xg)) ∧ (pos + 1 = L → post (XA, XM, nI na, nI nc, xv, nI L, 0, xd + 1, gS, gD, gP, gK, gI, gC, xq, xc, xs, xb, xt, xf, xw, xh, xl, xg))) :
    ∀ (n c : Nat) (xw xl : Nat → Int32), nc < n + c → c ≤ nc → sd_HL nc (sd_pN s p a N c) hd xh xl → sd_XS nc (sd_pN s p a N c) hd (sd_pV s a v N V c) xw → wX_step_40 post (nI a) v n (nI c) XA XM (nI na) (nI nc) xv (nI L) (nI pos) xd gS gD gP gK gI gC xq xc xs xb xt xf xw xh xl xg := by
  intro n
  induction n with
  | zero => intro c xw xl h1 h2; omega
  | succ n ih =>
    intro c xw xl h1 h2 hl hx
    refine pk_le nc c (fun hj => nm_r (nI_1 pos) ?_) (fun hj => ?_)
    · have e : c = nc := by omega
      subst e
      have KK := K xw xl hl hx
      exact pk_lt (pos + 1) L KK.1 (fun h => nm_e (KK.2 (by omega)))
    · have hcl : (nI c).toNatClampNeg = c := nI_clamp (by omega)
      obtain ⟨⟨eS, eD, eP, eK, _, eC⟩, ⟨g1, g2, g3, g4, g5, g6⟩, _, g8⟩ := hG c hj
      have v24 : vp_in (nI c) 24 := vp_in_nI (by omega) (by decide)
      obtain ⟨l1, l2, l3⟩ := hl c hj
      have tc : sd_pN s p a N c c = N c := sd_pN_hi (Nat.le_refl c)
      refine ⟨v24, ?_⟩
      rw [hcl, eS, nI_eq (by omega) (by omega)]
      refine br_c (fun h => ⟨v24, ?_⟩) (fun h => nm_r (nI_1 c) (ih (c + 1) xw xl (by omega) (by omega) (by rw [sd_pN_n h]; exact hl) (by rw [sd_pN_n h, sd_pV_n h]; exact hx)))
      rw [eP]
      have hy : sd_pN s p a N (c + 1) c = N c + p c := by rw [← sd_pN_y h, sd_uN_s]
      have hle := sd_pN_le (s := s) (p := p) (N := N) (a := a) (n := c + 1) (m := nc) (by omega) c
      have hMc := hM c hj
      refine xd_ap (N := sd_pN s p a N c) (hd := hd) (V := sd_pV s a v N V c) hnc hj l1 l3 l2 (fun x hx2 => Nat.le_trans (sd_pN_le h2 x) (hM x hx2)) (by rw [tc]; omega) hx (fun xw' hx' => nm_r (nI_1 c) (ih (c + 1) xw' _ (by omega) (by omega) (fun x hx2 => ?_) ?_))
      · rw [← sd_pN_y h, tc]
        by_cases e : x = c
        · rw [e, pk_us, sd_uN_s]
          exact ⟨rfl, l2, l3⟩
        · rw [pk_un e, sd_uN_o e]
          exact hl x hx2
      · rw [tc, sd_pN_y h, sd_pV_y h] at hx'
        exact hx'
theorem xd_st {post : SX → Prop} {na nc a pos L : Nat} {s d p k i0 cp N hd : Nat → Nat} {V : Nat → Nat → Int32} (hna : na ≤ 10) (hnc : nc ≤ 24) (hG : sd_Gr na nc s d p k i0 cp gS gD gP gK gI gC) (ha : a < na) (hp : pos < L) (hL : L ≤ 256) (hs : xs pos = nI a) (hk : ∀ c, c < nc → d c = a → k c ≤ N c) (hM : ∀ c, c < nc → sd_fire s d p k a N c ≤ 512) (hl : sd_HL nc N hd xh xl) (hx : sd_XS nc N hd V xw)
    (K : ∀ (hd : Nat → Nat) (xw xh xl : Nat → Int32), sd_HL nc (sd_pN s p a (sd_tN d k a N nc) nc) hd xh xl → sd_XS nc (sd_pN s p a (sd_tN d k a N nc) nc) hd (sd_pV s a (31 * sd_tS d k a V nc + xg a + 1) (sd_tN d k a N nc) (sd_tV d k a V nc) nc) xw → (pos + 1 < L → post (XA, XM, nI na, nI nc, xv, nI L, nI (pos + 1), xd, gS, gD, gP, gK, gI, gC, xq, xc, xs, xb, xt, xf, xw, xh, xl, upd xg a (xg a + 1))) ∧ (pos + 1 = L → post (XA, XM, nI na, nI nc, xv, nI L, 0, xd + 1, gS, gD, gP, gK, gI, gC, xq, xc, xs, xb, xt, xf, xw, xh, xl, upd xg a (xg a + 1)))) :
    wpX_step post (XA, XM, nI na, nI nc, xv, nI L, nI pos, xd, gS, gD, gP, gK, gI, gC, xq, xc, xs, xb, xt, xf, xw, xh, xl, xg) := by
  have v10 : vp_in (nI a) 10 := vp_in_nI (by omega) (by decide)
  have hcl : (nI a).toNatClampNeg = a := nI_clamp (by omega)
  refine ⟨vp_in_nI (by omega) (by decide), nm_r (e' := nI a) (by rw [nI_clamp (by omega)]; exact hs) (xd_ti hna hnc hG ha hk hl hx (fun hd' xh' xl' hl' hx' => ⟨v10, nm_r (e' := 31 * sd_tS d k a V nc + xg a + 1) (by rw [hcl]) ⟨v10, v10, nm_r (e' := upd xg a (xg a + 1)) (by rw [hcl]) ⟨nc + 1, ?_⟩⟩⟩))⟩
  exact xd_st40 hna hnc hG ha (fun c hc => by rw [sd_tp hc]; exact hM c hc) hp hL (fun xw' xl'' h1 h2 => K hd' xw' xh' xl'' h1 h2) (nc + 1) 0 xw xl' (by omega) (Nat.zero_le _) (by rw [sd_pN_0]; exact hl') (by rw [sd_pN_0, sd_pV_0]; exact hx')
end
