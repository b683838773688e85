/-! the relation -/
def sd_Gr (na nc : Nat) (s d p k i0 cp : Nat → Nat) (gS gD gP gK gI gC : Nat → Int32) : Prop := ∀ c, c < nc → (gS c = nI (s c) ∧ gD c = nI (d c) ∧ gP c = nI (p c) ∧ gK c = nI (k c) ∧ gI c = nI (i0 c) ∧ gC c = nI (cp c)) ∧ (s c < na ∧ d c < na ∧ 0 < p c ∧ p c ≤ 8 ∧ 0 < k c ∧ k c ≤ 8) ∧ i0 c ≤ 32 ∧ cp c ≤ 64
def sd_V1 (na : Nat) (xq yq : Nat → Int64) : Prop := ∀ j, j < na → yq j = xq j
def sd_V2 (nc : Nat) (xe ye : Int32) (xs ys xb yb : Nat → Int32) : Prop := ∃ L, L ≤ 256 ∧ xe = nI L ∧ ye = nI L ∧ (∀ i, i < L → ys i = xs i) ∧ (∀ c, c < nc → yb c = xb c)
def sd_V3 (na nc : Nat) (s d p k i0 : Nat → Nat) (xe xp xd : Int32) (xs xw xh xl xg : Nat → Int32) (ye yp yd : Int32) (ys yw yl yg : Nat → Int32) : Prop :=
  ∃ (L pos : Nat) (sch hd B : Nat → Nat) (T : Nat → Nat → Nat) (V : Nat → Nat → Int32), sd_Ex na nc s d p k i0 B L sch T ∧ (xe = nI L ∧ ye = nI L) ∧ (∀ i, i < L → xs i = nI (sch i) ∧ ys i = nI (sch i)) ∧ (pos < L ∧ xp = nI pos ∧ yp = nI pos ∧ yd = xd) ∧ (∀ j, j < na → yg j = xg j) ∧
    (∀ c, c < nc → xl c = nI (T pos c) ∧ yl c = nI (T pos c) ∧ hd c < 512 ∧ xh c = nI (hd c)) ∧ sd_XS nc (T pos) hd V xw ∧ sd_YS nc (T pos) V yw
def sd_VC (na nc : Nat) (s d p k i0 : Nat → Nat) (xv xe xp xd : Int32) (xq : Nat → Int64) (xs xb xw xh xl xg : Nat → Int32) (ye yp yd : Int32) (yq : Nat → Int64) (ys yb yw yl yg : Nat → Int32) : Prop :=
  xv = 0 ∨ xv = 2 ∨ xv = 3 ∨ (xv = 4 ∧ sd_V1 na xq yq) ∨ (xv = 5 ∧ sd_V1 na xq yq ∧ sd_V2 nc xe ye xs ys xb yb) ∨ (xv = 6 ∧ sd_V1 na xq yq ∧ sd_V2 nc xe ye xs ys xb yb) ∨ (xv = 1 ∧ sd_V1 na xq yq ∧ sd_V2 nc xe ye xs ys xb yb ∧ sd_V3 na nc s d p k i0 xe xp xd xs xw xh xl xg ye yp yd ys yw yl yg)
def sd_Nm (ma mc na nc : Nat) : Prop := 2 ≤ ma ∧ ma ≤ 10 ∧ 1 ≤ mc ∧ mc ≤ 24 ∧ na ≤ ma ∧ nc ≤ mc
/-- related states: the same graph, the same verdict, and what the verdict makes available alike -/
def i_Rel (_ : Nat) (u : SX) (v : SY) : Prop :=
  ∃ (ma mc na nc : Nat) (s d p k i0 cp : Nat → Nat) (gS gD gP gK gI gC : Nat → Int32) (w xe xp xd : Int32) (xq : Nat → Int64) (xc xs xb xt xf xw xh xl xg : Nat → Int32) (ye yp yd : Int32) (yq : Nat → Int64) (yc yf yt ys yb yw yl yg : Nat → Int32),
    u = (nI ma, nI mc, nI na, nI nc, w, xe, xp, xd, gS, gD, gP, gK, gI, gC, xq, xc, xs, xb, xt, xf, xw, xh, xl, xg) ∧ v = (nI ma, nI mc, nI na, nI nc, w, ye, yp, yd, gS, gD, gP, gK, gI, gC, yq, yc, yf, yt, ys, yb, yw, yl, yg) ∧
    sd_Nm ma mc na nc ∧ sd_Gr na nc s d p k i0 cp gS gD gP gK gI gC ∧ sd_VC na nc s d p k i0 w xe xp xd xq xs xb xw xh xl xg ye yp yd yq ys yb yw yl yg
theorem sd_Gr_G {na nc : Nat} {s d p k i0 cp : Nat → Nat} {gS gD gP gK gI gC : Nat → Int32} (h : sd_Gr na nc s d p k i0 cp gS gD gP gK gI gC) : sd_G na nc s d p k := fun c hc => (h c hc).2.1
theorem sd_Gr_32 {na nc : Nat} {s d p k i0 cp : Nat → Nat} {gS gD gP gK gI gC : Nat → Int32} (h : sd_Gr na nc s d p k i0 cp gS gD gP gK gI gC) : ∀ c, c < nc → i0 c ≤ 32 := fun c hc => (h c hc).2.2.1
