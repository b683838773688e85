def sd_G (na nc : Nat) (s d p k : Nat → Nat) : Prop := ∀ c, c < nc → s c < na ∧ d c < na ∧ 0 < p c ∧ p c ≤ 8 ∧ 0 < k c ∧ k c ≤ 8
def sd_link (s d p k : Nat → Nat) (r c : Nat) (z : sd_Z) : sd_Z :=
  if z.1 (s c) ≠ 0 ∧ z.1 (d c) = 0 then (sd_jQ r (s c) (d c) (p c) (k c) z.1 z.2, sd_jM r (d c) z.2)
  else if z.1 (d c) ≠ 0 ∧ z.1 (s c) = 0 then (sd_jQ r (d c) (s c) (k c) (p c) z.1 z.2, sd_jM r (s c) z.2)
  else z
def sd_row (s d p k : Nat → Nat) (r : Nat) : Nat → sd_Z → sd_Z
  | 0, z => z
  | n + 1, z => sd_link s d p k r n (sd_row s d p k r n z)
def sd_pass (nc : Nat) (s d p k : Nat → Nat) (r : Nat) : Nat → sd_Z → sd_Z
  | 0, z => z
  | n + 1, z => sd_row s d p k r nc (sd_pass nc s d p k r n z)
def sd_cl (s d : Nat → Nat) (c : Nat) (z : sd_Z) : Prop := z.1 (s c) = 0 ↔ z.1 (d c) = 0
theorem sd_link_1 {s d p k : Nat → Nat} {r c : Nat} {z : sd_Z} (h1 : z.1 (s c) ≠ 0) (h2 : z.1 (d c) = 0) : sd_link s d p k r c z = (sd_jQ r (s c) (d c) (p c) (k c) z.1 z.2, sd_jM r (d c) z.2) := by
  unfold sd_link
  rw [if_pos ⟨h1, h2⟩]
theorem sd_link_2 {s d p k : Nat → Nat} {r c : Nat} {z : sd_Z} (h1 : z.1 (d c) ≠ 0) (h2 : z.1 (s c) = 0) : sd_link s d p k r c z = (sd_jQ r (d c) (s c) (k c) (p c) z.1 z.2, sd_jM r (s c) z.2) := by
  unfold sd_link
  rw [if_neg (fun h => h1 h.2), if_pos ⟨h1, h2⟩]
theorem sd_link_3 {s d p k : Nat → Nat} {r c : Nat} {z : sd_Z} (h : sd_cl s d c z) : sd_link s d p k r c z = z := by
  unfold sd_link
  rw [if_neg (fun e => e.1 (h.mpr e.2)), if_neg (fun e => e.1 (h.mp e.2))]
theorem sd_jQ_up {r kn fr kr rr : Nat} {Q M : Nat → Nat} (hr : 0 < rr) (h0 : Q fr = 0) {j : Nat} (hj : Q j ≠ 0) : sd_jQ r kn fr kr rr Q M j ≠ 0 := fun z => by
  have hne : j ≠ fr := fun e => hj (e ▸ h0)
  exact hj ((sd_jQ_z hr hne).mp z)
theorem sd_link_inv {na nc r c : Nat} {s d p k : Nat → Nat} {z : sd_Z} (G : sd_G na nc s d p k) (hr : r < na) (hc : c < nc) (I : sd_Inv na nc s d r z) :
    sd_Inv na nc s d r (sd_link s d p k r c z) ∧ ((sd_link s d p k r c z = z ∧ sd_cl s d c z) ∨ sd_cnt (sd_link s d p k r c z).1 na = sd_cnt z.1 na + 1) ∧ (∀ j, z.1 j ≠ 0 → (sd_link s d p k r c z).1 j ≠ 0) := by
  obtain ⟨g1, g2, g3, g4, g5, g6⟩ := G c hc
  by_cases hs : z.1 (s c) = 0
  · by_cases hd : z.1 (d c) = 0
    · have hcl : sd_cl s d c z := ⟨fun _ => hd, fun _ => hs⟩
      rw [sd_link_3 hcl]
      exact ⟨I, Or.inl ⟨rfl, hcl⟩, fun _ h => h⟩
    · rw [sd_link_2 hd hs]
      exact ⟨sd_join_inv hr g2 g1 g5 g6 g3 g4 hd hs I, Or.inr (sd_join_bd (M := z.2) g2 g1 g5 g6 g3 g4 hd hs I.2.1).1, fun j hj => sd_jQ_up g3 hs hj⟩
  · by_cases hd : z.1 (d c) = 0
    · rw [sd_link_1 hs hd]
      exact ⟨sd_join_inv hr g1 g2 g3 g4 g5 g6 hs hd I, Or.inr (sd_join_bd (M := z.2) g1 g2 g3 g4 g5 g6 hs hd I.2.1).1, fun j hj => sd_jQ_up g5 hd hj⟩
    · have hcl : sd_cl s d c z := ⟨fun e => absurd e hs, fun e => absurd e hd⟩
      rw [sd_link_3 hcl]
      exact ⟨I, Or.inl ⟨rfl, hcl⟩, fun _ h => h⟩
theorem sd_row_cl {nc r : Nat} {s d p k : Nat → Nat} {z : sd_Z} (h : ∀ c, c < nc → sd_cl s d c z) : ∀ n, n ≤ nc → sd_row s d p k r n z = z := by
  intro n
  induction n with
  | zero => intro _; rfl
  | succ n ih =>
    intro hn
    show sd_link s d p k r n (sd_row s d p k r n z) = z
    rw [ih (by omega)]
    exact sd_link_3 (h n (by omega))
theorem sd_row_inv {na nc r : Nat} {s d p k : Nat → Nat} {z : sd_Z} (G : sd_G na nc s d p k) (hr : r < na) (I : sd_Inv na nc s d r z) : ∀ n, n ≤ nc →
    sd_Inv na nc s d r (sd_row s d p k r n z) ∧ ((sd_row s d p k r n z = z ∧ ∀ c, c < n → sd_cl s d c z) ∨ sd_cnt z.1 na < sd_cnt (sd_row s d p k r n z).1 na) ∧ (∀ j, z.1 j ≠ 0 → (sd_row s d p k r n z).1 j ≠ 0) := by
  intro n
  induction n with
  | zero => intro _; exact ⟨I, Or.inl ⟨rfl, fun c hc => absurd hc (Nat.not_lt_zero c)⟩, fun _ h => h⟩
  | succ n ih =>
    intro hn
    obtain ⟨I1, h1, m1⟩ := ih (by omega)
    obtain ⟨I2, h2, m2⟩ := sd_link_inv G hr (c := n) (by omega) I1
    refine ⟨I2, ?_, fun j hj => m2 j (m1 j hj)⟩
    show (sd_link s d p k r n (sd_row s d p k r n z) = z ∧ ∀ c, c < n + 1 → sd_cl s d c z) ∨ sd_cnt z.1 na < sd_cnt (sd_link s d p k r n (sd_row s d p k r n z)).1 na
    rcases h1 with ⟨e1, c1⟩ | h1
    · rcases h2 with ⟨e2, c2⟩ | h2
      · left
        rw [e1] at e2 c2 ⊢
        refine ⟨e2, fun c hc => ?_⟩
        by_cases e : c = n
        · rw [e]
          exact c2
        · exact c1 c (by omega)
      · right
        rw [h2, e1]
        omega
    · right
      rcases h2 with ⟨e2, c2⟩ | h2
      · rw [e2]
        exact h1
      · rw [h2]
        omega
theorem sd_pass_inv {na nc r : Nat} {s d p k : Nat → Nat} {z : sd_Z} (G : sd_G na nc s d p k) (hr : r < na) (I : sd_Inv na nc s d r z) : ∀ n,
    sd_Inv na nc s d r (sd_pass nc s d p k r n z) ∧ ((∀ c, c < nc → sd_cl s d c (sd_pass nc s d p k r n z)) ∨ sd_cnt z.1 na + n ≤ sd_cnt (sd_pass nc s d p k r n z).1 na) ∧ (∀ j, z.1 j ≠ 0 → (sd_pass nc s d p k r n z).1 j ≠ 0) := by
  intro n
  induction n with
  | zero => exact ⟨I, Or.inr (Nat.le_refl _), fun _ h => h⟩
  | succ n ih =>
    obtain ⟨I1, h1, m1⟩ := ih
    obtain ⟨I2, h2, m2⟩ := sd_row_inv G hr I1 nc (Nat.le_refl _)
    refine ⟨I2, ?_, fun j hj => m2 j (m1 j hj)⟩
    show (∀ c, c < nc → sd_cl s d c (sd_row s d p k r nc (sd_pass nc s d p k r n z))) ∨ sd_cnt z.1 na + (n + 1) ≤ sd_cnt (sd_row s d p k r nc (sd_pass nc s d p k r n z)).1 na
    rcases h1 with h1 | h1
    · left
      rw [sd_row_cl h1 nc (Nat.le_refl _)]
      exact h1
    · rcases h2 with ⟨e2, c2⟩ | h2
      · left
        rw [e2]
        exact c2
      · right
        omega
theorem sd_pass_end {na nc r : Nat} {s d p k : Nat → Nat} {z : sd_Z} (G : sd_G na nc s d p k) (hr : r < na) (I : sd_Inv na nc s d r z) (h1 : 1 ≤ sd_cnt z.1 na) :
    (∀ c, c < nc → sd_cl s d c (sd_pass nc s d p k r (na - 1) z)) ∧ sd_pass nc s d p k r na z = sd_pass nc s d p k r (na - 1) z := by
  have hcl : ∀ c, c < nc → sd_cl s d c (sd_pass nc s d p k r (na - 1) z) := by
    obtain ⟨_, h, _⟩ := sd_pass_inv G hr I (na - 1)
    rcases h with h | h
    · exact h
    · intro c hc
      have ha := sd_cnt_all (Q := (sd_pass nc s d p k r (na - 1) z).1) (n := na) (by omega)
      obtain ⟨g1, g2, _⟩ := G c hc
      exact ⟨fun e => absurd e (ha _ g1), fun e => absurd e (ha _ g2)⟩
  refine ⟨hcl, ?_⟩
  have e : na = (na - 1) + 1 := by omega
  have e2 : sd_pass nc s d p k r na z = sd_row s d p k r nc (sd_pass nc s d p k r (na - 1) z) := by
    conv => lhs; rw [e]
    rfl
  rw [e2, sd_row_cl hcl nc (Nat.le_refl _)]
def sd_st (r : Nat) (z : sd_Z) : sd_Z := (fun j => if j = r then 1 else z.1 j, fun j => if j = r then r else z.2 j)
theorem sd_st_r {r : Nat} {z : sd_Z} : (sd_st r z).1 r = 1 := if_pos rfl
theorem sd_st_o {r : Nat} {z : sd_Z} {j : Nat} (h : j ≠ r) : (sd_st r z).1 j = z.1 j := if_neg h
theorem sd_st_mr {r : Nat} {z : sd_Z} : (sd_st r z).2 r = r := if_pos rfl
theorem sd_st_mo {r : Nat} {z : sd_Z} {j : Nat} (h : j ≠ r) : (sd_st r z).2 j = z.2 j := if_neg h
theorem sd_st_up {r : Nat} {z : sd_Z} {j : Nat} (h : z.1 j ≠ 0) : (sd_st r z).1 j ≠ 0 := by
  by_cases e : j = r
  · rw [e, sd_st_r]
    decide
  · rw [sd_st_o e]
    exact h
def sd_root (na nc : Nat) (s d p k : Nat → Nat) (r : Nat) (z : sd_Z) : sd_Z := if z.1 r = 0 then sd_pass nc s d p k r (na - 1) (sd_st r z) else z
def sd_roots (na nc : Nat) (s d p k : Nat → Nat) : Nat → sd_Z
  | 0 => (fun _ => 0, fun _ => 0)
  | r + 1 => sd_root na nc s d p k r (sd_roots na nc s d p k r)
def sd_Out (na nc : Nat) (s d : Nat → Nat) (r : Nat) (z : sd_Z) : Prop := (∀ c, c < nc → sd_cl s d c z) ∧ (∀ j, j < r → z.1 j ≠ 0) ∧ sd_Bd na z ∧ sd_Rt na z
theorem sd_st_inv {na nc r : Nat} {s d : Nat → Nat} {z : sd_Z} (hr : r < na) (O : sd_Out na nc s d r z) (h0 : z.1 r = 0) : sd_Inv na nc s d r (sd_st r z) ∧ 1 ≤ sd_cnt (sd_st r z).1 na := by
  obtain ⟨C, _, B, R⟩ := O
  have hc : sd_cnt (sd_st r z).1 na = sd_cnt z.1 na + 1 := sd_cnt_add hr h0 (by rw [sd_st_r]; decide) (fun j hj => by rw [sd_st_o hj])
  refine ⟨⟨fun c hc => ⟨fun a b => ?_, fun a b => ?_⟩, fun j hj => ?_, fun j hj hq => ?_, fun g hg => ?_⟩, by omega⟩
  · have hne : s c ≠ r := fun e => b (e ▸ sd_st_mr)
    rw [sd_st_o hne] at a
    exact sd_st_up (fun e => a ((C c hc).mpr e))
  · have hne : d c ≠ r := fun e => b (e ▸ sd_st_mr)
    rw [sd_st_o hne] at a
    exact sd_st_up (fun e => a ((C c hc).mp e))
  · rw [hc, Nat.pow_succ]
    have hp : 0 < 8 ^ sd_cnt z.1 na := Nat.pow_pos (by decide)
    by_cases e : j = r
    · rw [e, sd_st_r]
      omega
    · rw [sd_st_o e]
      have := B j hj
      omega
  · by_cases e : j = r
    · rw [e, sd_st_mr]
      exact hr
    · rw [sd_st_o e] at hq
      rw [sd_st_mo e]
      exact R j hj hq
  · have h := hg r ⟨hr, by rw [sd_st_r]; decide, sd_st_mr⟩
    rw [sd_st_r] at h
    exact Nat.dvd_one.mp h
theorem sd_root_out {na nc r : Nat} {s d p k : Nat → Nat} {z : sd_Z} (G : sd_G na nc s d p k) (hr : r < na) (O : sd_Out na nc s d r z) : sd_Out na nc s d (r + 1) (sd_root na nc s d p k r z) := by
  unfold sd_root
  by_cases h0 : z.1 r = 0
  · rw [if_pos h0]
    obtain ⟨I, h1⟩ := sd_st_inv hr O h0
    obtain ⟨C, _⟩ := sd_pass_end (p := p) (k := k) G hr I h1
    obtain ⟨I2, _, m⟩ := sd_pass_inv (p := p) (k := k) G hr I (na - 1)
    refine ⟨C, fun j hj => ?_, I2.2.1, I2.2.2.1⟩
    apply m
    by_cases e : j = r
    · rw [e, sd_st_r]
      decide
    · exact sd_st_up (O.2.1 j (by omega))
  · rw [if_neg h0]
    refine ⟨O.1, fun j hj => ?_, O.2.2⟩
    by_cases e : j = r
    · rw [e]
      exact h0
    · exact O.2.1 j (by omega)
theorem sd_roots_out {na nc : Nat} {s d p k : Nat → Nat} (G : sd_G na nc s d p k) : ∀ r, r ≤ na → sd_Out na nc s d r (sd_roots na nc s d p k r) := by
  intro r
  induction r with
  | zero =>
    intro _
    refine ⟨fun c _ => ⟨fun _ => rfl, fun _ => rfl⟩, fun j hj => absurd hj (Nat.not_lt_zero j), fun j _ => ?_, fun j _ h => absurd rfl h⟩
    show 0 * 8 ≤ _
    rw [Nat.zero_mul]
    exact Nat.zero_le _
  | succ r ih =>
    intro h
    exact sd_root_out G (by omega) (ih (by omega))
/-- the repetitions -/
def sd_Q (na nc : Nat) (s d p k : Nat → Nat) : Nat → Nat := (sd_roots na nc s d p k na).1
theorem sd_bd9 {na : Nat} {z : sd_Z} (h10 : na ≤ 10) (B : sd_Bd na z) {j : Nat} (hj : j < na) : z.1 j ≤ 134217728 := by
  have h1 := B j hj
  have h2 := sd_cnt_le z.1 na
  have h3 : 8 ^ sd_cnt z.1 na ≤ 8 ^ 10 := Nat.pow_le_pow_right (by decide) (by omega)
  have h4 : (8 : Nat) ^ 10 = 1073741824 := by decide
  omega
theorem sd_Q_bd {na nc : Nat} {s d p k : Nat → Nat} (G : sd_G na nc s d p k) (h10 : na ≤ 10) {j : Nat} (hj : j < na) : 0 < sd_Q na nc s d p k j ∧ sd_Q na nc s d p k j ≤ 134217728 := by
  obtain ⟨_, h1, B, _⟩ := sd_roots_out G na (Nat.le_refl _)
  exact ⟨Nat.pos_of_ne_zero (h1 j hj), sd_bd9 h10 B hj⟩
