/-! sums and counts -/
def sd_sum (f : Nat → Nat) : Nat → Nat
  | 0 => 0
  | n + 1 => sd_sum f n + f n
theorem sd_sum_le {f g : Nat → Nat} : ∀ n, (∀ j, j < n → f j ≤ g j) → sd_sum f n ≤ sd_sum g n := by
  intro n
  induction n with
  | zero => intro _; exact Nat.le_refl _
  | succ n ih =>
    intro h
    have h1 := ih (fun j hj => h j (by omega))
    have h2 := h n (by omega)
    show sd_sum f n + f n ≤ sd_sum g n + g n
    omega
theorem sd_sum_eq {f g : Nat → Nat} : ∀ n, (∀ j, j < n → f j = g j) → sd_sum f n = sd_sum g n := by
  intro n
  induction n with
  | zero => intro _; rfl
  | succ n ih =>
    intro h
    have h1 := ih (fun j hj => h j (by omega))
    have h2 := h n (by omega)
    show sd_sum f n + f n = sd_sum g n + g n
    omega
/-- one cell changes: a sum's balance -/
theorem sd_sum_ch {f g : Nat → Nat} {a : Nat} : ∀ n, a < n → (∀ j, j ≠ a → g j = f j) → sd_sum g n + f a = sd_sum f n + g a := by
  intro n
  induction n with
  | zero => intro h; omega
  | succ n ih =>
    intro h ho
    show sd_sum g n + g n + f a = sd_sum f n + f n + g a
    by_cases e : a = n
    · subst e
      have := sd_sum_eq (f := g) (g := f) a (fun j hj => ho j (by omega))
      omega
    · have h1 := ih (by omega) ho
      have h2 := ho n (by omega)
      omega
theorem sd_sum_hi {f g : Nat → Nat} {a : Nat} : ∀ n, n ≤ a → (∀ j, j ≠ a → g j = f j) → sd_sum g n = sd_sum f n :=
  fun n h ho => sd_sum_eq n (fun j hj => ho j (by omega))
theorem sd_sum_tight {f g : Nat → Nat} : ∀ n, (∀ j, j < n → f j ≤ g j) → sd_sum g n ≤ sd_sum f n → ∀ j, j < n → f j = g j := by
  intro n
  induction n with
  | zero => intro _ _ j hj; omega
  | succ n ih =>
    intro h hs j hj
    have h1 := sd_sum_le n (fun j hj => h j (by omega))
    have h2 := h n (by omega)
    have hs' : sd_sum g n + g n ≤ sd_sum f n + f n := hs
    by_cases e : j = n
    · subst e
      omega
    · exact ih (fun j hj => h j (by omega)) (by omega) j (by omega)
theorem sd_sum_mono {f : Nat → Nat} {m : Nat} : ∀ n, m ≤ n → sd_sum f m ≤ sd_sum f n := by
  intro n
  induction n with
  | zero => intro h; cases Nat.le_zero.mp h; exact Nat.le_refl _
  | succ n ih =>
    intro h
    by_cases e : m = n + 1
    · subst e
      exact Nat.le_refl _
    · have := ih (by omega)
      show sd_sum f m ≤ sd_sum f n + f n
      omega
theorem sd_sum_at {f : Nat → Nat} {c n : Nat} (h : c < n) : sd_sum f c + f c ≤ sd_sum f n := sd_sum_mono (m := c + 1) n h
theorem sd_sum_bd {f : Nat → Nat} {B : Nat} : ∀ n, (∀ j, j < n → f j ≤ B) → sd_sum f n ≤ n * B := by
  intro n
  induction n with
  | zero => intro _; exact Nat.zero_le _
  | succ n ih =>
    intro h
    have h1 := ih (fun j hj => h j (by omega))
    have h2 := h n (by omega)
    show sd_sum f n + f n ≤ (n + 1) * B
    rw [Nat.succ_mul]
    omega
theorem sd_sum_1 : ∀ n, sd_sum (fun _ => 1) n = n := by
  intro n
  induction n with
  | zero => rfl
  | succ n ih =>
    show sd_sum (fun _ => 1) n + 1 = n + 1
    rw [ih]
def sd_ind (Q : Nat → Nat) : Nat → Nat := fun j => if Q j = 0 then 0 else 1
def sd_cnt (Q : Nat → Nat) (n : Nat) : Nat := sd_sum (sd_ind Q) n
theorem sd_ind_le (Q : Nat → Nat) (j : Nat) : sd_ind Q j ≤ 1 := by
  unfold sd_ind
  split <;> omega
theorem sd_cnt_le (Q : Nat → Nat) (n : Nat) : sd_cnt Q n ≤ n := by
  have := sd_sum_bd (f := sd_ind Q) (B := 1) n (fun j _ => sd_ind_le Q j)
  unfold sd_cnt
  omega
theorem sd_cnt_all {Q : Nat → Nat} {n : Nat} (h : n ≤ sd_cnt Q n) : ∀ j, j < n → Q j ≠ 0 := by
  intro j hj e
  have h1 : sd_sum (fun _ => 1) n ≤ sd_sum (sd_ind Q) n := by rw [sd_sum_1]; exact h
  have h2 := sd_sum_tight n (fun j _ => sd_ind_le Q j) h1 j hj
  unfold sd_ind at h2
  rw [if_pos e] at h2
  exact absurd h2 (by decide)
theorem sd_cnt_add {Q Q' : Nat → Nat} {f n : Nat} (hf : f < n) (h0 : Q f = 0) (h1 : Q' f ≠ 0) (ho : ∀ j, j ≠ f → (Q' j = 0 ↔ Q j = 0)) : sd_cnt Q' n = sd_cnt Q n + 1 := by
  have h := sd_sum_ch (f := sd_ind Q) (g := sd_ind Q') (a := f) n hf (fun j hj => by
    unfold sd_ind
    by_cases e : Q j = 0
    · rw [if_pos e, if_pos ((ho j hj).mpr e)]
    · rw [if_neg e, if_neg (fun z => e ((ho j hj).mp z))])
  have e0 : sd_ind Q f = 0 := if_pos h0
  have e1 : sd_ind Q' f = 1 := if_neg h1
  unfold sd_cnt
  omega
/-! the least scale -/
def sd_sc (a r : Nat) : Nat := r / Nat.gcd a r
theorem sd_sc_pos (a : Nat) {r : Nat} (hr : 0 < r) : 0 < sd_sc a r := Nat.div_pos (Nat.gcd_le_right a hr) (Nat.gcd_pos_of_pos_right a hr)
theorem sd_sc_le (a r : Nat) : sd_sc a r ≤ r := Nat.div_le_self _ _
theorem sd_sc_mul (a r : Nat) : a * sd_sc a r = a / Nat.gcd a r * r := by
  have h1 : a / Nat.gcd a r * Nat.gcd a r = a := Nat.div_mul_cancel (Nat.gcd_dvd_left a r)
  have h2 : Nat.gcd a r * (r / Nat.gcd a r) = r := Nat.mul_div_cancel' (Nat.gcd_dvd_right a r)
  calc a * sd_sc a r = (a / Nat.gcd a r * Nat.gcd a r) * (r / Nat.gcd a r) := by rw [h1]; rfl
    _ = a / Nat.gcd a r * (Nat.gcd a r * (r / Nat.gcd a r)) := Nat.mul_assoc _ _ _
    _ = a / Nat.gcd a r * r := by rw [h2]
theorem sd_sc_ok (a r : Nat) : a * sd_sc a r % r = 0 := by
  rw [sd_sc_mul]
  exact Nat.mul_mod_left _ _
theorem sd_sc_div (a : Nat) {r : Nat} (hr : 0 < r) : a * sd_sc a r / r = a / Nat.gcd a r := by
  rw [sd_sc_mul]
  exact Nat.mul_div_cancel _ hr
theorem sd_sc_min {a r s : Nat} (hr : 0 < r) (hs : 0 < s) (h : a * s % r = 0) : sd_sc a r ≤ s := by
  have hg : 0 < Nat.gcd a r := Nat.gcd_pos_of_pos_right a hr
  have hc : Nat.Coprime (r / Nat.gcd a r) (a / Nat.gcd a r) := (Nat.coprime_div_gcd_div_gcd hg).symm
  have hd : r ∣ a * s := Nat.dvd_of_mod_eq_zero h
  have h3 : r / Nat.gcd a r ∣ a / Nat.gcd a r * s := by
    apply Nat.dvd_of_mul_dvd_mul_right hg
    rw [Nat.div_mul_cancel (Nat.gcd_dvd_right a r), Nat.mul_right_comm, Nat.div_mul_cancel (Nat.gcd_dvd_left a r)]
    exact hd
  exact Nat.le_of_dvd hs (hc.dvd_of_dvd_mul_left h3)
theorem sd_dv {g sc : Nat} (hs : 0 < sc) (P : Nat → Prop) (q : Nat → Nat) (O : ∀ e, (∀ j, P j → e ∣ q j) → e = 1) (h : ∀ j, P j → g ∣ q j * sc) : g ∣ sc := by
  have hp : 0 < Nat.gcd g sc := Nat.gcd_pos_of_pos_right g hs
  have hc : Nat.Coprime (g / Nat.gcd g sc) (sc / Nat.gcd g sc) := Nat.coprime_div_gcd_div_gcd hp
  have e := O (g / Nat.gcd g sc) (fun j hj => hc.dvd_of_dvd_mul_right (m := q j) (by
    apply Nat.dvd_of_mul_dvd_mul_right hp
    rw [Nat.div_mul_cancel (Nat.gcd_dvd_left g sc), Nat.mul_assoc, Nat.div_mul_cancel (Nat.gcd_dvd_right g sc)]
    exact h j hj))
  have h1 := Nat.div_mul_cancel (Nat.gcd_dvd_left g sc)
  rw [e, Nat.one_mul] at h1
  have h2 := Nat.gcd_dvd_right g sc
  rw [h1] at h2
  exact h2
/-! the counts of a part, by joins -/
abbrev sd_Z : Type := (Nat → Nat) × (Nat → Nat)
def sd_jQ (r kn fr kr rr : Nat) (Q M : Nat → Nat) : Nat → Nat := fun j =>
  if j = fr then Q kn * kr * sd_sc (Q kn * kr) rr / rr else if Q j ≠ 0 ∧ M j = r then Q j * sd_sc (Q kn * kr) rr else Q j
def sd_jM (r fr : Nat) (M : Nat → Nat) : Nat → Nat := fun j => if j = fr then r else M j
theorem sd_jQ_f {r kn fr kr rr : Nat} {Q M : Nat → Nat} : sd_jQ r kn fr kr rr Q M fr = Q kn * kr * sd_sc (Q kn * kr) rr / rr := if_pos rfl
theorem sd_jQ_m {r kn fr kr rr : Nat} {Q M : Nat → Nat} {j : Nat} (h : j ≠ fr) (h1 : Q j ≠ 0) (h2 : M j = r) : sd_jQ r kn fr kr rr Q M j = Q j * sd_sc (Q kn * kr) rr := by
  unfold sd_jQ
  rw [if_neg h, if_pos ⟨h1, h2⟩]
theorem sd_jQ_o {r kn fr kr rr : Nat} {Q M : Nat → Nat} {j : Nat} (h : j ≠ fr) (h1 : ¬ (Q j ≠ 0 ∧ M j = r)) : sd_jQ r kn fr kr rr Q M j = Q j := by
  unfold sd_jQ
  rw [if_neg h, if_neg h1]
theorem sd_jM_f {r fr : Nat} {M : Nat → Nat} : sd_jM r fr M fr = r := if_pos rfl
theorem sd_jM_o {r fr : Nat} {M : Nat → Nat} {j : Nat} (h : j ≠ fr) : sd_jM r fr M j = M j := if_neg h
theorem sd_jQ_z {r kn fr kr rr : Nat} {Q M : Nat → Nat} {j : Nat} (hr : 0 < rr) (h : j ≠ fr) : sd_jQ r kn fr kr rr Q M j = 0 ↔ Q j = 0 := by
  by_cases e : Q j ≠ 0 ∧ M j = r
  · rw [sd_jQ_m h e.1 e.2]
    have := sd_sc_pos (Q kn * kr) hr
    constructor
    · intro z
      rcases Nat.mul_eq_zero.mp z with z | z
      · exact z
      · omega
    · intro z
      exact absurd z e.1
  · rw [sd_jQ_o h e]
theorem sd_jQ_p {r kn fr kr rr : Nat} {Q M : Nat → Nat} (hk : 0 < kr) (hr : 0 < rr) (h : Q kn ≠ 0) : sd_jQ r kn fr kr rr Q M fr ≠ 0 := by
  rw [sd_jQ_f, sd_sc_div _ hr]
  have ha : 0 < Q kn * kr := Nat.mul_pos (Nat.pos_of_ne_zero h) hk
  exact Nat.ne_of_gt (Nat.div_pos (Nat.le_of_dvd ha (Nat.gcd_dvd_left _ _)) (Nat.gcd_pos_of_pos_right _ hr))
/-- one part's counts have 1 alone as common divisor -/
def sd_One (na r : Nat) (z : sd_Z) : Prop := ∀ g, (∀ j, (j < na ∧ z.1 j ≠ 0 ∧ z.2 j = r) → g ∣ z.1 j) → g = 1
def sd_Ear (nc : Nat) (s d : Nat → Nat) (r : Nat) (z : sd_Z) : Prop := ∀ c, c < nc → (z.1 (s c) ≠ 0 → z.2 (s c) ≠ r → z.1 (d c) ≠ 0) ∧ (z.1 (d c) ≠ 0 → z.2 (d c) ≠ r → z.1 (s c) ≠ 0)
def sd_Bd (na : Nat) (z : sd_Z) : Prop := ∀ j, j < na → z.1 j * 8 ≤ 8 ^ sd_cnt z.1 na
def sd_Rt (na : Nat) (z : sd_Z) : Prop := ∀ j, j < na → z.1 j ≠ 0 → z.2 j < na
def sd_Inv (na nc : Nat) (s d : Nat → Nat) (r : Nat) (z : sd_Z) : Prop := sd_Ear nc s d r z ∧ sd_Bd na z ∧ sd_Rt na z ∧ sd_One na r z
theorem sd_join_one {na r kn fr kr rr : Nat} {Q M : Nat → Nat} (hf : fr < na) (hk : 0 < kr) (hr : 0 < rr) (h1 : Q kn ≠ 0) (h0 : Q fr = 0) (O : sd_One na r (Q, M)) : sd_One na r (sd_jQ r kn fr kr rr Q M, sd_jM r fr M) := by
  intro g hg
  have hd : g ∣ sd_sc (Q kn * kr) rr := by
    apply sd_dv (sd_sc_pos _ hr) (fun j => j < na ∧ Q j ≠ 0 ∧ M j = r) Q O
    intro j hj
    have hne : j ≠ fr := fun e => hj.2.1 (e ▸ h0)
    have h := hg j ⟨hj.1, fun z => hj.2.1 ((sd_jQ_z hr hne).mp z), (sd_jM_o hne).trans hj.2.2⟩
    have e : sd_jQ r kn fr kr rr Q M j = Q j * sd_sc (Q kn * kr) rr := sd_jQ_m hne hj.2.1 hj.2.2
    rw [← e]
    exact h
  have h2 : g ∣ Q kn * kr / Nat.gcd (Q kn * kr) rr := by
    have h := hg fr ⟨hf, sd_jQ_p hk hr h1, sd_jM_f⟩
    have e : sd_jQ r kn fr kr rr Q M fr = Q kn * kr / Nat.gcd (Q kn * kr) rr := sd_jQ_f.trans (sd_sc_div _ hr)
    rw [← e]
    exact h
  have hc : Nat.Coprime (Q kn * kr / Nat.gcd (Q kn * kr) rr) (rr / Nat.gcd (Q kn * kr) rr) := Nat.coprime_div_gcd_div_gcd (Nat.gcd_pos_of_pos_right _ hr)
  have h3 := Nat.dvd_gcd h2 hd
  have h4 : Nat.gcd (Q kn * kr / Nat.gcd (Q kn * kr) rr) (sd_sc (Q kn * kr) rr) = 1 := hc
  rw [h4] at h3
  exact Nat.dvd_one.mp h3
theorem sd_join_bd {na r kn fr kr rr : Nat} {Q M : Nat → Nat} (hkn : kn < na) (hf : fr < na) (hk : 0 < kr) (hk8 : kr ≤ 8) (hr : 0 < rr) (hr8 : rr ≤ 8) (h1 : Q kn ≠ 0) (h0 : Q fr = 0) (B : sd_Bd na (Q, M)) : sd_cnt (sd_jQ r kn fr kr rr Q M) na = sd_cnt Q na + 1 ∧ sd_Bd na (sd_jQ r kn fr kr rr Q M, sd_jM r fr M) := by
  have hc : sd_cnt (sd_jQ r kn fr kr rr Q M) na = sd_cnt Q na + 1 := sd_cnt_add hf h0 (sd_jQ_p hk hr h1) (fun j hj => sd_jQ_z hr hj)
  refine ⟨hc, fun j hj => ?_⟩
  show sd_jQ r kn fr kr rr Q M j * 8 ≤ 8 ^ sd_cnt (sd_jQ r kn fr kr rr Q M) na
  rw [hc, Nat.pow_succ]
  have hB : ∀ i, i < na → Q i * 8 ≤ 8 ^ sd_cnt Q na := B
  have hs : sd_sc (Q kn * kr) rr ≤ 8 := Nat.le_trans (sd_sc_le _ _) hr8
  by_cases e : j = fr
  · subst e
    rw [sd_jQ_f, sd_sc_div _ hr]
    have h2 : Q kn * kr / Nat.gcd (Q kn * kr) rr ≤ Q kn * kr := Nat.div_le_self _ _
    have h3 : Q kn * kr ≤ Q kn * 8 := Nat.mul_le_mul_left _ hk8
    have h4 := hB kn hkn
    omega
  · have h4 := hB j hj
    by_cases m : Q j ≠ 0 ∧ M j = r
    · rw [sd_jQ_m e m.1 m.2]
      have h3 : Q j * sd_sc (Q kn * kr) rr ≤ Q j * 8 := Nat.mul_le_mul_left _ hs
      omega
    · rw [sd_jQ_o e m]
      omega
theorem sd_join_inv {na nc r kn fr kr rr : Nat} {s d Q M : Nat → Nat} (hrt : r < na) (hkn : kn < na) (hf : fr < na) (hk : 0 < kr) (hk8 : kr ≤ 8) (hr : 0 < rr) (hr8 : rr ≤ 8) (h1 : Q kn ≠ 0) (h0 : Q fr = 0) (I : sd_Inv na nc s d r (Q, M)) : sd_Inv na nc s d r (sd_jQ r kn fr kr rr Q M, sd_jM r fr M) := by
  obtain ⟨E, B, R, O⟩ := I
  have up : ∀ j, Q j ≠ 0 → sd_jQ r kn fr kr rr Q M j ≠ 0 := fun j hj z => by
    have hne : j ≠ fr := fun e => hj (e ▸ h0)
    exact hj ((sd_jQ_z hr hne).mp z)
  have dn : ∀ j, sd_jQ r kn fr kr rr Q M j ≠ 0 → sd_jM r fr M j ≠ r → Q j ≠ 0 ∧ M j ≠ r := fun j hj hm => by
    have hne : j ≠ fr := fun e => hm (e ▸ sd_jM_f)
    rw [sd_jM_o hne] at hm
    exact ⟨fun z => hj ((sd_jQ_z hr hne).mpr z), hm⟩
  refine ⟨fun c hc => ⟨fun a b => ?_, fun a b => ?_⟩, (sd_join_bd hkn hf hk hk8 hr hr8 h1 h0 B).2, fun j hj hq => ?_, sd_join_one hf hk hr h1 h0 O⟩
  · obtain ⟨x, y⟩ := dn _ a b
    exact up _ ((E c hc).1 x y)
  · obtain ⟨x, y⟩ := dn _ a b
    exact up _ ((E c hc).2 x y)
  · show sd_jM r fr M j < na
    by_cases e : j = fr
    · rw [e, sd_jM_f]
      exact hrt
    · rw [sd_jM_o e]
      exact R j hj (fun z => hq ((sd_jQ_z hr e).mpr z))
