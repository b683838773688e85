section
theorem pk_us {f : Nat → Int32} {k : Nat} {x : Int32} : upd f k x k = x := if_pos rfl
theorem pk_un {f : Nat → Int32} {k j : Nat} {x : Int32} (h : j ≠ k) : upd f k x j = f j := if_neg h
theorem pk_uLs {f : Nat → Int64} {k : Nat} {x : Int64} : vp_updL f k x k = x := if_pos rfl
theorem pk_uLn {f : Nat → Int64} {k j : Nat} {x : Int64} (h : j ≠ k) : vp_updL f k x j = f j := if_neg h
theorem pk_sub {a b : Nat} (h : b ≤ a) : nI a - nI b = nI (a - b) := by
  obtain ⟨c, rfl⟩ : ∃ c, a = c + b := ⟨a - b, by omega⟩
  rw [← nI_add, Int32.add_sub_cancel, Nat.add_sub_cancel]
theorem pk_m1 (n : Nat) : nI (n + 1) + (-1) = nI n := by
  rw [← nI_1, Int32.add_assoc, show (1 : Int32) + (-1) = 0 from rfl, Int32.add_zero]
theorem pk_mul (a b : Nat) : nI a * nI b = nI (a * b) := (Int32.ofNat_mul a b).symm
theorem pk_ix (x : Int32) {n : Nat} (hn : n < 2 ^ 31) : x < 0 ∨ nI n ≤ x ∨ ∃ j : Nat, j < n ∧ x = nI j := by
  by_cases h : x < 0
  · exact Or.inl h
  · obtain ⟨j, hj, rfl⟩ := nI_of h
    by_cases h2 : j < n
    · exact Or.inr (Or.inr ⟨j, h2, rfl⟩)
    · exact Or.inr (Or.inl (nI_le (by omega) hj))
theorem pk_le {x y : Int32} {A B : Prop} (a b : Nat) (f : a ≤ b → A) (g : b < a → B) (hx : x = nI a := by rfl) (hy : y = nI b := by rfl) (ha : a < 2 ^ 31 := by omega) (hb : b < 2 ^ 31 := by omega) : (x ≤ y → A) ∧ (¬ x ≤ y → B) := by
  subst hx hy
  rw [nI_leI ha hb]
  exact ⟨f, fun z => g (by omega)⟩
theorem pk_lt {x y : Int32} {A B : Prop} (a b : Nat) (f : a < b → A) (g : b ≤ a → B) (hx : x = nI a := by rfl) (hy : y = nI b := by rfl) (ha : a < 2 ^ 31 := by omega) (hb : b < 2 ^ 31 := by omega) : (x < y → A) ∧ (¬ x < y → B) := by
  subst hx hy
  rw [nI_ltI ha hb]
  exact ⟨f, fun z => g (by omega)⟩
theorem pk_eq {x y : Int32} {A B : Prop} (a b : Nat) (f : a = b → A) (g : a ≠ b → B) (hx : x = nI a := by rfl) (hy : y = nI b := by rfl) (ha : a < 2 ^ 31 := by omega) (hb : b < 2 ^ 31 := by omega) : (x = y → A) ∧ (¬ x = y → B) := by
  subst hx hy
  rw [nI_eq ha hb]
  exact ⟨f, g⟩
theorem pk_in {x : Int32} (n N : Nat) (h : n < N) (hx : x = nI n := by rfl) (hN : N < 2 ^ 31 := by omega) : vp_in x N := by
  subst hx
  exact vp_in_nI h hN
theorem pk_cl {x : Int32} (n : Nat) (hx : x = nI n := by rfl) (h : n < 2 ^ 31 := by omega) : x.toNatClampNeg = n := by
  subst hx
  exact nI_clamp h
theorem pk_tn {n : Nat} (h : n < 2 ^ 32) : (nI n).toBitVec.toNat = n := Nat.mod_eq_of_lt h
theorem pk_and (x : Int32) {m : Int32} (k : Nat) (hm : m.toBitVec.toNat = 2 ^ k - 1) : x &&& m = nI (x.toBitVec.toNat % 2 ^ k) := by
  apply Int32.toBitVec_inj.mp
  apply BitVec.eq_of_toNat_eq
  rw [Int32.toBitVec_and, BitVec.toNat_and, hm, Nat.and_two_pow_sub_one_eq_mod]
  show _ = (BitVec.ofNat 32 _).toNat
  rw [BitVec.toNat_ofNat]
  exact (Nat.mod_eq_of_lt (Nat.lt_of_le_of_lt (Nat.mod_le _ _) x.toBitVec.isLt)).symm
theorem pk_andN {n : Nat} (h : n < 2 ^ 32) {m : Int32} (k : Nat) (hm : m.toBitVec.toNat = 2 ^ k - 1) : nI n &&& m = nI (n % 2 ^ k) := by
  rw [pk_and _ k hm, pk_tn h]
theorem pk_lT {n : Nat} (h : n < 2 ^ 63) : (lN n).toInt = (n : Int) := lg_ofNat_toInt h
theorem pk_lLT {a b : Nat} (ha : a < 2 ^ 63) (hb : b < 2 ^ 63) : lN a < lN b ↔ a < b := by
  rw [Int64.lt_iff_toInt_lt, pk_lT ha, pk_lT hb]; omega
theorem pk_lLE {a b : Nat} (ha : a < 2 ^ 63) (hb : b < 2 ^ 63) : lN a ≤ lN b ↔ a ≤ b := by
  rw [Int64.le_iff_toInt_le, pk_lT ha, pk_lT hb]; omega
theorem pk_lEQ {a b : Nat} (ha : a < 2 ^ 63) (hb : b < 2 ^ 63) : lN a = lN b ↔ a = b := by
  rw [← Int64.toInt_inj, pk_lT ha, pk_lT hb]; omega
theorem pk_lOf {x : Int64} (h : ¬ x < 0) : ∃ k : Nat, k < 2 ^ 63 ∧ x = lN k := by
  rw [Int64.lt_iff_toInt_lt] at h
  have h0 : (0 : Int64).toInt = 0 := by decide
  have hx := Int64.toInt_lt x
  refine ⟨x.toInt.toNat, by omega, Int64.toInt_inj.mp ?_⟩
  rw [pk_lT (by omega)]
  omega
theorem pk_lDiv {a b : Nat} (ha : a < 2 ^ 63) (h0 : 0 < b) (hb : b < 2 ^ 63) : lN a / lN b = lN (a / b) := by
  apply Int64.toInt_inj.mp
  rw [lg_ldiv_nonneg (by rw [pk_lT ha]; omega) (by rw [pk_lT hb]; omega), pk_lT ha, pk_lT hb, pk_lT (Nat.lt_of_le_of_lt (Nat.div_le_self a b) ha)]
  rfl
theorem pk_lRem {a b : Nat} (ha : a < 2 ^ 63) (h0 : 0 < b) (hb : b < 2 ^ 63) : lN a - lN a / lN b * lN b = lN (a % b) := by
  rw [pk_lDiv ha h0 hb, lN_mul, lN_sub (Nat.div_mul_le_self a b)]
  exact congrArg lN (by have := Nat.div_add_mod' a b; omega)
theorem pk_loop {σ : Type} (W : Nat → Nat → σ → Prop) (I : Nat → σ → Prop) (e i0 : Nat) (s : σ) (hi : i0 ≤ e) (h0 : I i0 s) (hx : ∀ n s, I e s → W (n + 1) e s)
    (hs : ∀ n i s, i < e → I i s → (∀ s', I (i + 1) s' → W n (i + 1) s') → W (n + 1) i s) : ∃ n, W n i0 s :=
  ⟨e + 1, loop_i W I e hx hs (e + 1) i0 s hi (by omega) h0⟩
theorem lp1 {A1 : Type} (W : Nat → A1 → Prop) (I : A1 → Prop) (μ : A1 → Nat) (hs : ∀ (n : Nat) (a1 : A1), I a1 → (∀ (b1 : A1), I b1 → μ b1 < μ a1 → W n b1) → W (n + 1) a1) (a1 : A1) (h : I a1) : ∃ n, W n a1 :=
  loop_m (σ := A1) (fun n s => W n s) (fun s => I s) (fun s => μ s) (fun n s hI hk => hs n s hI (fun b1 h9 hm => hk b1 h9 hm)) a1 h
theorem lp2 {A1 A2 : Type} (W : Nat → A1 → A2 → Prop) (I : A1 → A2 → Prop) (μ : A1 → A2 → Nat) (hs : ∀ (n : Nat) (a1 : A1) (a2 : A2), I a1 a2 → (∀ (b1 : A1) (b2 : A2), I b1 b2 → μ b1 b2 < μ a1 a2 → W n b1 b2) → W (n + 1) a1 a2) (a1 : A1) (a2 : A2) (h : I a1 a2) : ∃ n, W n a1 a2 :=
  loop_m (σ := A1 × A2) (fun n s => W n s.1 s.2) (fun s => I s.1 s.2) (fun s => μ s.1 s.2) (fun n s hI hk => hs n s.1 s.2 hI (fun b1 b2 h9 hm => hk (b1, b2) h9 hm)) (a1, a2) h
theorem lp3 {A1 A2 A3 : Type} (W : Nat → A1 → A2 → A3 → Prop) (I : A1 → A2 → A3 → Prop) (μ : A1 → A2 → A3 → Nat) (hs : ∀ (n : Nat) (a1 : A1) (a2 : A2) (a3 : A3), I a1 a2 a3 → (∀ (b1 : A1) (b2 : A2) (b3 : A3), I b1 b2 b3 → μ b1 b2 b3 < μ a1 a2 a3 → W n b1 b2 b3) → W (n + 1) a1 a2 a3) (a1 : A1) (a2 : A2) (a3 : A3) (h : I a1 a2 a3) : ∃ n, W n a1 a2 a3 :=
  loop_m (σ := A1 × A2 × A3) (fun n s => W n s.1 s.2.1 s.2.2) (fun s => I s.1 s.2.1 s.2.2) (fun s => μ s.1 s.2.1 s.2.2) (fun n s hI hk => hs n s.1 s.2.1 s.2.2 hI (fun b1 b2 b3 h9 hm => hk (b1, b2, b3) h9 hm)) (a1, a2, a3) h
theorem lp4 {A1 A2 A3 A4 : Type} (W : Nat → A1 → A2 → A3 → A4 → Prop) (I : A1 → A2 → A3 → A4 → Prop) (μ : A1 → A2 → A3 → A4 → Nat) (hs : ∀ (n : Nat) (a1 : A1) (a2 : A2) (a3 : A3) (a4 : A4), I a1 a2 a3 a4 → (∀ (b1 : A1) (b2 : A2) (b3 : A3) (b4 : A4), I b1 b2 b3 b4 → μ b1 b2 b3 b4 < μ a1 a2 a3 a4 → W n b1 b2 b3 b4) → W (n + 1) a1 a2 a3 a4) (a1 : A1) (a2 : A2) (a3 : A3) (a4 : A4) (h : I a1 a2 a3 a4) : ∃ n, W n a1 a2 a3 a4 :=
  loop_m (σ := A1 × A2 × A3 × A4) (fun n s => W n s.1 s.2.1 s.2.2.1 s.2.2.2) (fun s => I s.1 s.2.1 s.2.2.1 s.2.2.2) (fun s => μ s.1 s.2.1 s.2.2.1 s.2.2.2) (fun n s hI hk => hs n s.1 s.2.1 s.2.2.1 s.2.2.2 hI (fun b1 b2 b3 b4 h9 hm => hk (b1, b2, b3, b4) h9 hm)) (a1, a2, a3, a4) h
theorem pk_least (P : Nat → Prop) (h : ∃ k, P k) : ∃ k, P k ∧ ∀ j, j < k → ¬ P j := by
  obtain ⟨k, hk⟩ := h
  induction k using Nat.strongRecOn with
  | ind k ih =>
    by_cases e : ∃ j, j < k ∧ P j
    · obtain ⟨j, hj, pj⟩ := e
      exact ih j hj pj
    · exact ⟨k, hk, fun j hj pj => e ⟨j, hj, pj⟩⟩
end
section
/-! sums and counts -/
def sd_sum (f : Nat → Nat) : Nat → Nat
  | 0 => 0
  | n + 1 => sd_sum f n + f n
theorem sd_sum_le {f g : Nat → Nat} : ∀ n, (∀ j, j < n → f j ≤ g j) → sd_sum f n ≤ sd_sum g n := by
  intro n
  induction n with
  | zero => intro _; exact Nat.le_refl _
  | succ n ih =>
    intro h
    have h1 := ih (fun j hj => h j (by omega))
    have h2 := h n (by omega)
    show sd_sum f n + f n ≤ sd_sum g n + g n
    omega
theorem sd_sum_eq {f g : Nat → Nat} : ∀ n, (∀ j, j < n → f j = g j) → sd_sum f n = sd_sum g n := by
  intro n
  induction n with
  | zero => intro _; rfl
  | succ n ih =>
    intro h
    have h1 := ih (fun j hj => h j (by omega))
    have h2 := h n (by omega)
    show sd_sum f n + f n = sd_sum g n + g n
    omega
/-- one cell changes: a sum's balance -/
theorem sd_sum_ch {f g : Nat → Nat} {a : Nat} : ∀ n, a < n → (∀ j, j ≠ a → g j = f j) → sd_sum g n + f a = sd_sum f n + g a := by
  intro n
  induction n with
  | zero => intro h; omega
  | succ n ih =>
    intro h ho
    show sd_sum g n + g n + f a = sd_sum f n + f n + g a
    by_cases e : a = n
    · subst e
      have := sd_sum_eq (f := g) (g := f) a (fun j hj => ho j (by omega))
      omega
    · have h1 := ih (by omega) ho
      have h2 := ho n (by omega)
      omega
theorem sd_sum_hi {f g : Nat → Nat} {a : Nat} : ∀ n, n ≤ a → (∀ j, j ≠ a → g j = f j) → sd_sum g n = sd_sum f n :=
  fun n h ho => sd_sum_eq n (fun j hj => ho j (by omega))
theorem sd_sum_tight {f g : Nat → Nat} : ∀ n, (∀ j, j < n → f j ≤ g j) → sd_sum g n ≤ sd_sum f n → ∀ j, j < n → f j = g j := by
  intro n
  induction n with
  | zero => intro _ _ j hj; omega
  | succ n ih =>
    intro h hs j hj
    have h1 := sd_sum_le n (fun j hj => h j (by omega))
    have h2 := h n (by omega)
    have hs' : sd_sum g n + g n ≤ sd_sum f n + f n := hs
    by_cases e : j = n
    · subst e
      omega
    · exact ih (fun j hj => h j (by omega)) (by omega) j (by omega)
theorem sd_sum_mono {f : Nat → Nat} {m : Nat} : ∀ n, m ≤ n → sd_sum f m ≤ sd_sum f n := by
  intro n
  induction n with
  | zero => intro h; cases Nat.le_zero.mp h; exact Nat.le_refl _
  | succ n ih =>
    intro h
    by_cases e : m = n + 1
    · subst e
      exact Nat.le_refl _
    · have := ih (by omega)
      show sd_sum f m ≤ sd_sum f n + f n
      omega
theorem sd_sum_at {f : Nat → Nat} {c n : Nat} (h : c < n) : sd_sum f c + f c ≤ sd_sum f n := sd_sum_mono (m := c + 1) n h
theorem sd_sum_bd {f : Nat → Nat} {B : Nat} : ∀ n, (∀ j, j < n → f j ≤ B) → sd_sum f n ≤ n * B := by
  intro n
  induction n with
  | zero => intro _; exact Nat.zero_le _
  | succ n ih =>
    intro h
    have h1 := ih (fun j hj => h j (by omega))
    have h2 := h n (by omega)
    show sd_sum f n + f n ≤ (n + 1) * B
    rw [Nat.succ_mul]
    omega
theorem sd_sum_1 : ∀ n, sd_sum (fun _ => 1) n = n := by
  intro n
  induction n with
  | zero => rfl
  | succ n ih =>
    show sd_sum (fun _ => 1) n + 1 = n + 1
    rw [ih]
def sd_ind (Q : Nat → Nat) : Nat → Nat := fun j => if Q j = 0 then 0 else 1
def sd_cnt (Q : Nat → Nat) (n : Nat) : Nat := sd_sum (sd_ind Q) n
theorem sd_ind_le (Q : Nat → Nat) (j : Nat) : sd_ind Q j ≤ 1 := by
  unfold sd_ind
  split <;> omega
theorem sd_cnt_le (Q : Nat → Nat) (n : Nat) : sd_cnt Q n ≤ n := by
  have := sd_sum_bd (f := sd_ind Q) (B := 1) n (fun j _ => sd_ind_le Q j)
  unfold sd_cnt
  omega
theorem sd_cnt_all {Q : Nat → Nat} {n : Nat} (h : n ≤ sd_cnt Q n) : ∀ j, j < n → Q j ≠ 0 := by
  intro j hj e
  have h1 : sd_sum (fun _ => 1) n ≤ sd_sum (sd_ind Q) n := by rw [sd_sum_1]; exact h
  have h2 := sd_sum_tight n (fun j _ => sd_ind_le Q j) h1 j hj
  unfold sd_ind at h2
  rw [if_pos e] at h2
  exact absurd h2 (by decide)
theorem sd_cnt_add {Q Q' : Nat → Nat} {f n : Nat} (hf : f < n) (h0 : Q f = 0) (h1 : Q' f ≠ 0) (ho : ∀ j, j ≠ f → (Q' j = 0 ↔ Q j = 0)) : sd_cnt Q' n = sd_cnt Q n + 1 := by
  have h := sd_sum_ch (f := sd_ind Q) (g := sd_ind Q') (a := f) n hf (fun j hj => by
    unfold sd_ind
    by_cases e : Q j = 0
    · rw [if_pos e, if_pos ((ho j hj).mpr e)]
    · rw [if_neg e, if_neg (fun z => e ((ho j hj).mp z))])
  have e0 : sd_ind Q f = 0 := if_pos h0
  have e1 : sd_ind Q' f = 1 := if_neg h1
  unfold sd_cnt
  omega
/-! the least scale -/
def sd_sc (a r : Nat) : Nat := r / Nat.gcd a r
theorem sd_sc_pos (a : Nat) {r : Nat} (hr : 0 < r) : 0 < sd_sc a r := Nat.div_pos (Nat.gcd_le_right a hr) (Nat.gcd_pos_of_pos_right a hr)
theorem sd_sc_le (a r : Nat) : sd_sc a r ≤ r := Nat.div_le_self _ _
theorem sd_sc_mul (a r : Nat) : a * sd_sc a r = a / Nat.gcd a r * r := by
  have h1 : a / Nat.gcd a r * Nat.gcd a r = a := Nat.div_mul_cancel (Nat.gcd_dvd_left a r)
  have h2 : Nat.gcd a r * (r / Nat.gcd a r) = r := Nat.mul_div_cancel' (Nat.gcd_dvd_right a r)
  calc a * sd_sc a r = (a / Nat.gcd a r * Nat.gcd a r) * (r / Nat.gcd a r) := by rw [h1]; rfl
    _ = a / Nat.gcd a r * (Nat.gcd a r * (r / Nat.gcd a r)) := Nat.mul_assoc _ _ _
    _ = a / Nat.gcd a r * r := by rw [h2]
theorem sd_sc_ok (a r : Nat) : a * sd_sc a r % r = 0 := by
  rw [sd_sc_mul]
  exact Nat.mul_mod_left _ _
theorem sd_sc_div (a : Nat) {r : Nat} (hr : 0 < r) : a * sd_sc a r / r = a / Nat.gcd a r := by
  rw [sd_sc_mul]
  exact Nat.mul_div_cancel _ hr
theorem sd_sc_min {a r s : Nat} (hr : 0 < r) (hs : 0 < s) (h : a * s % r = 0) : sd_sc a r ≤ s := by
  have hg : 0 < Nat.gcd a r := Nat.gcd_pos_of_pos_right a hr
  have hc : Nat.Coprime (r / Nat.gcd a r) (a / Nat.gcd a r) := (Nat.coprime_div_gcd_div_gcd hg).symm
  have hd : r ∣ a * s := Nat.dvd_of_mod_eq_zero h
  have h3 : r / Nat.gcd a r ∣ a / Nat.gcd a r * s := by
    apply Nat.dvd_of_mul_dvd_mul_right hg
    rw [Nat.div_mul_cancel (Nat.gcd_dvd_right a r), Nat.mul_right_comm, Nat.div_mul_cancel (Nat.gcd_dvd_left a r)]
    exact hd
  exact Nat.le_of_dvd hs (hc.dvd_of_dvd_mul_left h3)
theorem sd_dv {g sc : Nat} (hs : 0 < sc) (P : Nat → Prop) (q : Nat → Nat) (O : ∀ e, (∀ j, P j → e ∣ q j) → e = 1) (h : ∀ j, P j → g ∣ q j * sc) : g ∣ sc := by
  have hp : 0 < Nat.gcd g sc := Nat.gcd_pos_of_pos_right g hs
  have hc : Nat.Coprime (g / Nat.gcd g sc) (sc / Nat.gcd g sc) := Nat.coprime_div_gcd_div_gcd hp
  have e := O (g / Nat.gcd g sc) (fun j hj => hc.dvd_of_dvd_mul_right (m := q j) (by
    apply Nat.dvd_of_mul_dvd_mul_right hp
    rw [Nat.div_mul_cancel (Nat.gcd_dvd_left g sc), Nat.mul_assoc, Nat.div_mul_cancel (Nat.gcd_dvd_right g sc)]
    exact h j hj))
  have h1 := Nat.div_mul_cancel (Nat.gcd_dvd_left g sc)
  rw [e, Nat.one_mul] at h1
  have h2 := Nat.gcd_dvd_right g sc
  rw [h1] at h2
  exact h2
/-! the counts of a part, by joins -/
abbrev sd_Z : Type := (Nat → Nat) × (Nat → Nat)
def sd_jQ (r kn fr kr rr : Nat) (Q M : Nat → Nat) : Nat → Nat := fun j =>
  if j = fr then Q kn * kr * sd_sc (Q kn * kr) rr / rr else if Q j ≠ 0 ∧ M j = r then Q j * sd_sc (Q kn * kr) rr else Q j
def sd_jM (r fr : Nat) (M : Nat → Nat) : Nat → Nat := fun j => if j = fr then r else M j
theorem sd_jQ_f {r kn fr kr rr : Nat} {Q M : Nat → Nat} : sd_jQ r kn fr kr rr Q M fr = Q kn * kr * sd_sc (Q kn * kr) rr / rr := if_pos rfl
theorem sd_jQ_m {r kn fr kr rr : Nat} {Q M : Nat → Nat} {j : Nat} (h : j ≠ fr) (h1 : Q j ≠ 0) (h2 : M j = r) : sd_jQ r kn fr kr rr Q M j = Q j * sd_sc (Q kn * kr) rr := by
  unfold sd_jQ
  rw [if_neg h, if_pos ⟨h1, h2⟩]
theorem sd_jQ_o {r kn fr kr rr : Nat} {Q M : Nat → Nat} {j : Nat} (h : j ≠ fr) (h1 : ¬ (Q j ≠ 0 ∧ M j = r)) : sd_jQ r kn fr kr rr Q M j = Q j := by
  unfold sd_jQ
  rw [if_neg h, if_neg h1]
theorem sd_jM_f {r fr : Nat} {M : Nat → Nat} : sd_jM r fr M fr = r := if_pos rfl
theorem sd_jM_o {r fr : Nat} {M : Nat → Nat} {j : Nat} (h : j ≠ fr) : sd_jM r fr M j = M j := if_neg h
theorem sd_jQ_z {r kn fr kr rr : Nat} {Q M : Nat → Nat} {j : Nat} (hr : 0 < rr) (h : j ≠ fr) : sd_jQ r kn fr kr rr Q M j = 0 ↔ Q j = 0 := by
  by_cases e : Q j ≠ 0 ∧ M j = r
  · rw [sd_jQ_m h e.1 e.2]
    have := sd_sc_pos (Q kn * kr) hr
    constructor
    · intro z
      rcases Nat.mul_eq_zero.mp z with z | z
      · exact z
      · omega
    · intro z
      exact absurd z e.1
  · rw [sd_jQ_o h e]
theorem sd_jQ_p {r kn fr kr rr : Nat} {Q M : Nat → Nat} (hk : 0 < kr) (hr : 0 < rr) (h : Q kn ≠ 0) : sd_jQ r kn fr kr rr Q M fr ≠ 0 := by
  rw [sd_jQ_f, sd_sc_div _ hr]
  have ha : 0 < Q kn * kr := Nat.mul_pos (Nat.pos_of_ne_zero h) hk
  exact Nat.ne_of_gt (Nat.div_pos (Nat.le_of_dvd ha (Nat.gcd_dvd_left _ _)) (Nat.gcd_pos_of_pos_right _ hr))
/-- one part's counts have 1 alone as common divisor -/
def sd_One (na r : Nat) (z : sd_Z) : Prop := ∀ g, (∀ j, (j < na ∧ z.1 j ≠ 0 ∧ z.2 j = r) → g ∣ z.1 j) → g = 1
def sd_Ear (nc : Nat) (s d : Nat → Nat) (r : Nat) (z : sd_Z) : Prop := ∀ c, c < nc → (z.1 (s c) ≠ 0 → z.2 (s c) ≠ r → z.1 (d c) ≠ 0) ∧ (z.1 (d c) ≠ 0 → z.2 (d c) ≠ r → z.1 (s c) ≠ 0)
def sd_Bd (na : Nat) (z : sd_Z) : Prop := ∀ j, j < na → z.1 j * 8 ≤ 8 ^ sd_cnt z.1 na
def sd_Rt (na : Nat) (z : sd_Z) : Prop := ∀ j, j < na → z.1 j ≠ 0 → z.2 j < na
def sd_Inv (na nc : Nat) (s d : Nat → Nat) (r : Nat) (z : sd_Z) : Prop := sd_Ear nc s d r z ∧ sd_Bd na z ∧ sd_Rt na z ∧ sd_One na r z
theorem sd_join_one {na r kn fr kr rr : Nat} {Q M : Nat → Nat} (hf : fr < na) (hk : 0 < kr) (hr : 0 < rr) (h1 : Q kn ≠ 0) (h0 : Q fr = 0) (O : sd_One na r (Q, M)) : sd_One na r (sd_jQ r kn fr kr rr Q M, sd_jM r fr M) := by
  intro g hg
  have hd : g ∣ sd_sc (Q kn * kr) rr := by
    apply sd_dv (sd_sc_pos _ hr) (fun j => j < na ∧ Q j ≠ 0 ∧ M j = r) Q O
    intro j hj
    have hne : j ≠ fr := fun e => hj.2.1 (e ▸ h0)
    have h := hg j ⟨hj.1, fun z => hj.2.1 ((sd_jQ_z hr hne).mp z), (sd_jM_o hne).trans hj.2.2⟩
    have e : sd_jQ r kn fr kr rr Q M j = Q j * sd_sc (Q kn * kr) rr := sd_jQ_m hne hj.2.1 hj.2.2
    rw [← e]
    exact h
  have h2 : g ∣ Q kn * kr / Nat.gcd (Q kn * kr) rr := by
    have h := hg fr ⟨hf, sd_jQ_p hk hr h1, sd_jM_f⟩
    have e : sd_jQ r kn fr kr rr Q M fr = Q kn * kr / Nat.gcd (Q kn * kr) rr := sd_jQ_f.trans (sd_sc_div _ hr)
    rw [← e]
    exact h
  have hc : Nat.Coprime (Q kn * kr / Nat.gcd (Q kn * kr) rr) (rr / Nat.gcd (Q kn * kr) rr) := Nat.coprime_div_gcd_div_gcd (Nat.gcd_pos_of_pos_right _ hr)
  have h3 := Nat.dvd_gcd h2 hd
  have h4 : Nat.gcd (Q kn * kr / Nat.gcd (Q kn * kr) rr) (sd_sc (Q kn * kr) rr) = 1 := hc
  rw [h4] at h3
  exact Nat.dvd_one.mp h3
theorem sd_join_bd {na r kn fr kr rr : Nat} {Q M : Nat → Nat} (hkn : kn < na) (hf : fr < na) (hk : 0 < kr) (hk8 : kr ≤ 8) (hr : 0 < rr) (hr8 : rr ≤ 8) (h1 : Q kn ≠ 0) (h0 : Q fr = 0) (B : sd_Bd na (Q, M)) : sd_cnt (sd_jQ r kn fr kr rr Q M) na = sd_cnt Q na + 1 ∧ sd_Bd na (sd_jQ r kn fr kr rr Q M, sd_jM r fr M) := by
  have hc : sd_cnt (sd_jQ r kn fr kr rr Q M) na = sd_cnt Q na + 1 := sd_cnt_add hf h0 (sd_jQ_p hk hr h1) (fun j hj => sd_jQ_z hr hj)
  refine ⟨hc, fun j hj => ?_⟩
  show sd_jQ r kn fr kr rr Q M j * 8 ≤ 8 ^ sd_cnt (sd_jQ r kn fr kr rr Q M) na
  rw [hc, Nat.pow_succ]
  have hB : ∀ i, i < na → Q i * 8 ≤ 8 ^ sd_cnt Q na := B
  have hs : sd_sc (Q kn * kr) rr ≤ 8 := Nat.le_trans (sd_sc_le _ _) hr8
  by_cases e : j = fr
  · subst e
    rw [sd_jQ_f, sd_sc_div _ hr]
    have h2 : Q kn * kr / Nat.gcd (Q kn * kr) rr ≤ Q kn * kr := Nat.div_le_self _ _
    have h3 : Q kn * kr ≤ Q kn * 8 := Nat.mul_le_mul_left _ hk8
    have h4 := hB kn hkn
    omega
  · have h4 := hB j hj
    by_cases m : Q j ≠ 0 ∧ M j = r
    · rw [sd_jQ_m e m.1 m.2]
      have h3 : Q j * sd_sc (Q kn * kr) rr ≤ Q j * 8 := Nat.mul_le_mul_left _ hs
      omega
    · rw [sd_jQ_o e m]
      omega
theorem sd_join_inv {na nc r kn fr kr rr : Nat} {s d Q M : Nat → Nat} (hrt : r < na) (hkn : kn < na) (hf : fr < na) (hk : 0 < kr) (hk8 : kr ≤ 8) (hr : 0 < rr) (hr8 : rr ≤ 8) (h1 : Q kn ≠ 0) (h0 : Q fr = 0) (I : sd_Inv na nc s d r (Q, M)) : sd_Inv na nc s d r (sd_jQ r kn fr kr rr Q M, sd_jM r fr M) := by
  obtain ⟨E, B, R, O⟩ := I
  have up : ∀ j, Q j ≠ 0 → sd_jQ r kn fr kr rr Q M j ≠ 0 := fun j hj z => by
    have hne : j ≠ fr := fun e => hj (e ▸ h0)
    exact hj ((sd_jQ_z hr hne).mp z)
  have dn : ∀ j, sd_jQ r kn fr kr rr Q M j ≠ 0 → sd_jM r fr M j ≠ r → Q j ≠ 0 ∧ M j ≠ r := fun j hj hm => by
    have hne : j ≠ fr := fun e => hm (e ▸ sd_jM_f)
    rw [sd_jM_o hne] at hm
    exact ⟨fun z => hj ((sd_jQ_z hr hne).mpr z), hm⟩
  refine ⟨fun c hc => ⟨fun a b => ?_, fun a b => ?_⟩, (sd_join_bd hkn hf hk hk8 hr hr8 h1 h0 B).2, fun j hj hq => ?_, sd_join_one hf hk hr h1 h0 O⟩
  · obtain ⟨x, y⟩ := dn _ a b
    exact up _ ((E c hc).1 x y)
  · obtain ⟨x, y⟩ := dn _ a b
    exact up _ ((E c hc).2 x y)
  · show sd_jM r fr M j < na
    by_cases e : j = fr
    · rw [e, sd_jM_f]
      exact hrt
    · rw [sd_jM_o e]
      exact R j hj (fun z => hq ((sd_jQ_z hr e).mpr z))
end
section
def sd_G (na nc : Nat) (s d p k : Nat → Nat) : Prop := ∀ c, c < nc → s c < na ∧ d c < na ∧ 0 < p c ∧ p c ≤ 8 ∧ 0 < k c ∧ k c ≤ 8
def sd_link (s d p k : Nat → Nat) (r c : Nat) (z : sd_Z) : sd_Z :=
  if z.1 (s c) ≠ 0 ∧ z.1 (d c) = 0 then (sd_jQ r (s c) (d c) (p c) (k c) z.1 z.2, sd_jM r (d c) z.2)
  else if z.1 (d c) ≠ 0 ∧ z.1 (s c) = 0 then (sd_jQ r (d c) (s c) (k c) (p c) z.1 z.2, sd_jM r (s c) z.2)
  else z
def sd_row (s d p k : Nat → Nat) (r : Nat) : Nat → sd_Z → sd_Z
  | 0, z => z
  | n + 1, z => sd_link s d p k r n (sd_row s d p k r n z)
def sd_pass (nc : Nat) (s d p k : Nat → Nat) (r : Nat) : Nat → sd_Z → sd_Z
  | 0, z => z
  | n + 1, z => sd_row s d p k r nc (sd_pass nc s d p k r n z)
def sd_cl (s d : Nat → Nat) (c : Nat) (z : sd_Z) : Prop := z.1 (s c) = 0 ↔ z.1 (d c) = 0
theorem sd_link_1 {s d p k : Nat → Nat} {r c : Nat} {z : sd_Z} (h1 : z.1 (s c) ≠ 0) (h2 : z.1 (d c) = 0) : sd_link s d p k r c z = (sd_jQ r (s c) (d c) (p c) (k c) z.1 z.2, sd_jM r (d c) z.2) := by
  unfold sd_link
  rw [if_pos ⟨h1, h2⟩]
theorem sd_link_2 {s d p k : Nat → Nat} {r c : Nat} {z : sd_Z} (h1 : z.1 (d c) ≠ 0) (h2 : z.1 (s c) = 0) : sd_link s d p k r c z = (sd_jQ r (d c) (s c) (k c) (p c) z.1 z.2, sd_jM r (s c) z.2) := by
  unfold sd_link
  rw [if_neg (fun h => h1 h.2), if_pos ⟨h1, h2⟩]
theorem sd_link_3 {s d p k : Nat → Nat} {r c : Nat} {z : sd_Z} (h : sd_cl s d c z) : sd_link s d p k r c z = z := by
  unfold sd_link
  rw [if_neg (fun e => e.1 (h.mpr e.2)), if_neg (fun e => e.1 (h.mp e.2))]
theorem sd_jQ_up {r kn fr kr rr : Nat} {Q M : Nat → Nat} (hr : 0 < rr) (h0 : Q fr = 0) {j : Nat} (hj : Q j ≠ 0) : sd_jQ r kn fr kr rr Q M j ≠ 0 := fun z => by
  have hne : j ≠ fr := fun e => hj (e ▸ h0)
  exact hj ((sd_jQ_z hr hne).mp z)
theorem sd_link_inv {na nc r c : Nat} {s d p k : Nat → Nat} {z : sd_Z} (G : sd_G na nc s d p k) (hr : r < na) (hc : c < nc) (I : sd_Inv na nc s d r z) :
    sd_Inv na nc s d r (sd_link s d p k r c z) ∧ ((sd_link s d p k r c z = z ∧ sd_cl s d c z) ∨ sd_cnt (sd_link s d p k r c z).1 na = sd_cnt z.1 na + 1) ∧ (∀ j, z.1 j ≠ 0 → (sd_link s d p k r c z).1 j ≠ 0) := by
  obtain ⟨g1, g2, g3, g4, g5, g6⟩ := G c hc
  by_cases hs : z.1 (s c) = 0
  · by_cases hd : z.1 (d c) = 0
    · have hcl : sd_cl s d c z := ⟨fun _ => hd, fun _ => hs⟩
      rw [sd_link_3 hcl]
      exact ⟨I, Or.inl ⟨rfl, hcl⟩, fun _ h => h⟩
    · rw [sd_link_2 hd hs]
      exact ⟨sd_join_inv hr g2 g1 g5 g6 g3 g4 hd hs I, Or.inr (sd_join_bd (M := z.2) g2 g1 g5 g6 g3 g4 hd hs I.2.1).1, fun j hj => sd_jQ_up g3 hs hj⟩
  · by_cases hd : z.1 (d c) = 0
    · rw [sd_link_1 hs hd]
      exact ⟨sd_join_inv hr g1 g2 g3 g4 g5 g6 hs hd I, Or.inr (sd_join_bd (M := z.2) g1 g2 g3 g4 g5 g6 hs hd I.2.1).1, fun j hj => sd_jQ_up g5 hd hj⟩
    · have hcl : sd_cl s d c z := ⟨fun e => absurd e hs, fun e => absurd e hd⟩
      rw [sd_link_3 hcl]
      exact ⟨I, Or.inl ⟨rfl, hcl⟩, fun _ h => h⟩
theorem sd_row_cl {nc r : Nat} {s d p k : Nat → Nat} {z : sd_Z} (h : ∀ c, c < nc → sd_cl s d c z) : ∀ n, n ≤ nc → sd_row s d p k r n z = z := by
  intro n
  induction n with
  | zero => intro _; rfl
  | succ n ih =>
    intro hn
    show sd_link s d p k r n (sd_row s d p k r n z) = z
    rw [ih (by omega)]
    exact sd_link_3 (h n (by omega))
theorem sd_row_inv {na nc r : Nat} {s d p k : Nat → Nat} {z : sd_Z} (G : sd_G na nc s d p k) (hr : r < na) (I : sd_Inv na nc s d r z) : ∀ n, n ≤ nc →
    sd_Inv na nc s d r (sd_row s d p k r n z) ∧ ((sd_row s d p k r n z = z ∧ ∀ c, c < n → sd_cl s d c z) ∨ sd_cnt z.1 na < sd_cnt (sd_row s d p k r n z).1 na) ∧ (∀ j, z.1 j ≠ 0 → (sd_row s d p k r n z).1 j ≠ 0) := by
  intro n
  induction n with
  | zero => intro _; exact ⟨I, Or.inl ⟨rfl, fun c hc => absurd hc (Nat.not_lt_zero c)⟩, fun _ h => h⟩
  | succ n ih =>
    intro hn
    obtain ⟨I1, h1, m1⟩ := ih (by omega)
    obtain ⟨I2, h2, m2⟩ := sd_link_inv G hr (c := n) (by omega) I1
    refine ⟨I2, ?_, fun j hj => m2 j (m1 j hj)⟩
    show (sd_link s d p k r n (sd_row s d p k r n z) = z ∧ ∀ c, c < n + 1 → sd_cl s d c z) ∨ sd_cnt z.1 na < sd_cnt (sd_link s d p k r n (sd_row s d p k r n z)).1 na
    rcases h1 with ⟨e1, c1⟩ | h1
    · rcases h2 with ⟨e2, c2⟩ | h2
      · left
        rw [e1] at e2 c2 ⊢
        refine ⟨e2, fun c hc => ?_⟩
        by_cases e : c = n
        · rw [e]
          exact c2
        · exact c1 c (by omega)
      · right
        rw [h2, e1]
        omega
    · right
      rcases h2 with ⟨e2, c2⟩ | h2
      · rw [e2]
        exact h1
      · rw [h2]
        omega
theorem sd_pass_inv {na nc r : Nat} {s d p k : Nat → Nat} {z : sd_Z} (G : sd_G na nc s d p k) (hr : r < na) (I : sd_Inv na nc s d r z) : ∀ n,
    sd_Inv na nc s d r (sd_pass nc s d p k r n z) ∧ ((∀ c, c < nc → sd_cl s d c (sd_pass nc s d p k r n z)) ∨ sd_cnt z.1 na + n ≤ sd_cnt (sd_pass nc s d p k r n z).1 na) ∧ (∀ j, z.1 j ≠ 0 → (sd_pass nc s d p k r n z).1 j ≠ 0) := by
  intro n
  induction n with
  | zero => exact ⟨I, Or.inr (Nat.le_refl _), fun _ h => h⟩
  | succ n ih =>
    obtain ⟨I1, h1, m1⟩ := ih
    obtain ⟨I2, h2, m2⟩ := sd_row_inv G hr I1 nc (Nat.le_refl _)
    refine ⟨I2, ?_, fun j hj => m2 j (m1 j hj)⟩
    show (∀ c, c < nc → sd_cl s d c (sd_row s d p k r nc (sd_pass nc s d p k r n z))) ∨ sd_cnt z.1 na + (n + 1) ≤ sd_cnt (sd_row s d p k r nc (sd_pass nc s d p k r n z)).1 na
    rcases h1 with h1 | h1
    · left
      rw [sd_row_cl h1 nc (Nat.le_refl _)]
      exact h1
    · rcases h2 with ⟨e2, c2⟩ | h2
      · left
        rw [e2]
        exact c2
      · right
        omega
theorem sd_pass_end {na nc r : Nat} {s d p k : Nat → Nat} {z : sd_Z} (G : sd_G na nc s d p k) (hr : r < na) (I : sd_Inv na nc s d r z) (h1 : 1 ≤ sd_cnt z.1 na) :
    (∀ c, c < nc → sd_cl s d c (sd_pass nc s d p k r (na - 1) z)) ∧ sd_pass nc s d p k r na z = sd_pass nc s d p k r (na - 1) z := by
  have hcl : ∀ c, c < nc → sd_cl s d c (sd_pass nc s d p k r (na - 1) z) := by
    obtain ⟨_, h, _⟩ := sd_pass_inv G hr I (na - 1)
    rcases h with h | h
    · exact h
    · intro c hc
      have ha := sd_cnt_all (Q := (sd_pass nc s d p k r (na - 1) z).1) (n := na) (by omega)
      obtain ⟨g1, g2, _⟩ := G c hc
      exact ⟨fun e => absurd e (ha _ g1), fun e => absurd e (ha _ g2)⟩
  refine ⟨hcl, ?_⟩
  have e : na = (na - 1) + 1 := by omega
  have e2 : sd_pass nc s d p k r na z = sd_row s d p k r nc (sd_pass nc s d p k r (na - 1) z) := by
    conv => lhs; rw [e]
    rfl
  rw [e2, sd_row_cl hcl nc (Nat.le_refl _)]
def sd_st (r : Nat) (z : sd_Z) : sd_Z := (fun j => if j = r then 1 else z.1 j, fun j => if j = r then r else z.2 j)
theorem sd_st_r {r : Nat} {z : sd_Z} : (sd_st r z).1 r = 1 := if_pos rfl
theorem sd_st_o {r : Nat} {z : sd_Z} {j : Nat} (h : j ≠ r) : (sd_st r z).1 j = z.1 j := if_neg h
theorem sd_st_mr {r : Nat} {z : sd_Z} : (sd_st r z).2 r = r := if_pos rfl
theorem sd_st_mo {r : Nat} {z : sd_Z} {j : Nat} (h : j ≠ r) : (sd_st r z).2 j = z.2 j := if_neg h
theorem sd_st_up {r : Nat} {z : sd_Z} {j : Nat} (h : z.1 j ≠ 0) : (sd_st r z).1 j ≠ 0 := by
  by_cases e : j = r
  · rw [e, sd_st_r]
    decide
  · rw [sd_st_o e]
    exact h
def sd_root (na nc : Nat) (s d p k : Nat → Nat) (r : Nat) (z : sd_Z) : sd_Z := if z.1 r = 0 then sd_pass nc s d p k r (na - 1) (sd_st r z) else z
def sd_roots (na nc : Nat) (s d p k : Nat → Nat) : Nat → sd_Z
  | 0 => (fun _ => 0, fun _ => 0)
  | r + 1 => sd_root na nc s d p k r (sd_roots na nc s d p k r)
def sd_Out (na nc : Nat) (s d : Nat → Nat) (r : Nat) (z : sd_Z) : Prop := (∀ c, c < nc → sd_cl s d c z) ∧ (∀ j, j < r → z.1 j ≠ 0) ∧ sd_Bd na z ∧ sd_Rt na z
theorem sd_st_inv {na nc r : Nat} {s d : Nat → Nat} {z : sd_Z} (hr : r < na) (O : sd_Out na nc s d r z) (h0 : z.1 r = 0) : sd_Inv na nc s d r (sd_st r z) ∧ 1 ≤ sd_cnt (sd_st r z).1 na := by
  obtain ⟨C, _, B, R⟩ := O
  have hc : sd_cnt (sd_st r z).1 na = sd_cnt z.1 na + 1 := sd_cnt_add hr h0 (by rw [sd_st_r]; decide) (fun j hj => by rw [sd_st_o hj])
  refine ⟨⟨fun c hc => ⟨fun a b => ?_, fun a b => ?_⟩, fun j hj => ?_, fun j hj hq => ?_, fun g hg => ?_⟩, by omega⟩
  · have hne : s c ≠ r := fun e => b (e ▸ sd_st_mr)
    rw [sd_st_o hne] at a
    exact sd_st_up (fun e => a ((C c hc).mpr e))
  · have hne : d c ≠ r := fun e => b (e ▸ sd_st_mr)
    rw [sd_st_o hne] at a
    exact sd_st_up (fun e => a ((C c hc).mp e))
  · rw [hc, Nat.pow_succ]
    have hp : 0 < 8 ^ sd_cnt z.1 na := Nat.pow_pos (by decide)
    by_cases e : j = r
    · rw [e, sd_st_r]
      omega
    · rw [sd_st_o e]
      have := B j hj
      omega
  · by_cases e : j = r
    · rw [e, sd_st_mr]
      exact hr
    · rw [sd_st_o e] at hq
      rw [sd_st_mo e]
      exact R j hj hq
  · have h := hg r ⟨hr, by rw [sd_st_r]; decide, sd_st_mr⟩
    rw [sd_st_r] at h
    exact Nat.dvd_one.mp h
theorem sd_root_out {na nc r : Nat} {s d p k : Nat → Nat} {z : sd_Z} (G : sd_G na nc s d p k) (hr : r < na) (O : sd_Out na nc s d r z) : sd_Out na nc s d (r + 1) (sd_root na nc s d p k r z) := by
  unfold sd_root
  by_cases h0 : z.1 r = 0
  · rw [if_pos h0]
    obtain ⟨I, h1⟩ := sd_st_inv hr O h0
    obtain ⟨C, _⟩ := sd_pass_end (p := p) (k := k) G hr I h1
    obtain ⟨I2, _, m⟩ := sd_pass_inv (p := p) (k := k) G hr I (na - 1)
    refine ⟨C, fun j hj => ?_, I2.2.1, I2.2.2.1⟩
    apply m
    by_cases e : j = r
    · rw [e, sd_st_r]
      decide
    · exact sd_st_up (O.2.1 j (by omega))
  · rw [if_neg h0]
    refine ⟨O.1, fun j hj => ?_, O.2.2⟩
    by_cases e : j = r
    · rw [e]
      exact h0
    · exact O.2.1 j (by omega)
theorem sd_roots_out {na nc : Nat} {s d p k : Nat → Nat} (G : sd_G na nc s d p k) : ∀ r, r ≤ na → sd_Out na nc s d r (sd_roots na nc s d p k r) := by
  intro r
  induction r with
  | zero =>
    intro _
    refine ⟨fun c _ => ⟨fun _ => rfl, fun _ => rfl⟩, fun j hj => absurd hj (Nat.not_lt_zero j), fun j _ => ?_, fun j _ h => absurd rfl h⟩
    show 0 * 8 ≤ _
    rw [Nat.zero_mul]
    exact Nat.zero_le _
  | succ r ih =>
    intro h
    exact sd_root_out G (by omega) (ih (by omega))
/-- the repetitions -/
def sd_Q (na nc : Nat) (s d p k : Nat → Nat) : Nat → Nat := (sd_roots na nc s d p k na).1
theorem sd_bd9 {na : Nat} {z : sd_Z} (h10 : na ≤ 10) (B : sd_Bd na z) {j : Nat} (hj : j < na) : z.1 j ≤ 134217728 := by
  have h1 := B j hj
  have h2 := sd_cnt_le z.1 na
  have h3 : 8 ^ sd_cnt z.1 na ≤ 8 ^ 10 := Nat.pow_le_pow_right (by decide) (by omega)
  have h4 : (8 : Nat) ^ 10 = 1073741824 := by decide
  omega
theorem sd_Q_bd {na nc : Nat} {s d p k : Nat → Nat} (G : sd_G na nc s d p k) (h10 : na ≤ 10) {j : Nat} (hj : j < na) : 0 < sd_Q na nc s d p k j ∧ sd_Q na nc s d p k j ≤ 134217728 := by
  obtain ⟨_, h1, B, _⟩ := sd_roots_out G na (Nat.le_refl _)
  exact ⟨Nat.pos_of_ne_zero (h1 j hj), sd_bd9 h10 B hj⟩
end
section
/-! the first number below n with a property, or n -/
noncomputable def sd_first (P : Nat → Prop) : Nat → Nat
  | 0 => 0
  | n + 1 => if sd_first P n < n then sd_first P n else @ite Nat (P n) (Classical.propDecidable (P n)) n (n + 1)
theorem sd_first_s1 {P : Nat → Prop} {n : Nat} (h : sd_first P n < n) : sd_first P (n + 1) = sd_first P n := if_pos h
theorem sd_first_s2 {P : Nat → Prop} {n : Nat} (h : ¬ sd_first P n < n) (hp : P n) : sd_first P (n + 1) = n := (if_neg h).trans (if_pos hp)
theorem sd_first_s3 {P : Nat → Prop} {n : Nat} (h : ¬ sd_first P n < n) (hp : ¬ P n) : sd_first P (n + 1) = n + 1 := (if_neg h).trans (if_neg hp)
theorem sd_first_le (P : Nat → Prop) : ∀ n, sd_first P n ≤ n := by
  intro n
  induction n with
  | zero => exact Nat.le_refl _
  | succ n ih =>
    by_cases h : sd_first P n < n
    · rw [sd_first_s1 h]
      omega
    · by_cases hp : P n
      · rw [sd_first_s2 h hp]
        omega
      · rw [sd_first_s3 h hp]
        omega
theorem sd_first_no {P : Nat → Prop} : ∀ n j, j < sd_first P n → ¬ P j := by
  intro n
  induction n with
  | zero => intro j hj; exact absurd hj (Nat.not_lt_zero j)
  | succ n ih =>
    intro j hj
    by_cases h : sd_first P n < n
    · rw [sd_first_s1 h] at hj
      exact ih j hj
    · have hl := sd_first_le P n
      by_cases hp : P n
      · rw [sd_first_s2 h hp] at hj
        exact ih j (by omega)
      · rw [sd_first_s3 h hp] at hj
        by_cases e : j = n
        · rw [e]
          exact hp
        · exact ih j (by omega)
theorem sd_first_yes {P : Nat → Prop} : ∀ n, sd_first P n < n → P (sd_first P n) := by
  intro n
  induction n with
  | zero => intro h; exact absurd h (Nat.not_lt_zero _)
  | succ n ih =>
    intro hj
    by_cases h : sd_first P n < n
    · rw [sd_first_s1 h]
      exact ih h
    · by_cases hp : P n
      · rw [sd_first_s2 h hp]
        exact hp
      · rw [sd_first_s3 h hp] at hj
        omega
theorem sd_first_at {P : Nat → Prop} {n a : Nat} (ha : a < n) (hp : P a) (hn : ∀ j, j < a → ¬ P j) : sd_first P n = a := by
  have h1 := sd_first_le P n
  by_cases h : sd_first P n < a
  · exact absurd (sd_first_yes n (by omega)) (hn _ h)
  · by_cases h2 : a < sd_first P n
    · exact absurd hp (sd_first_no n a h2)
    · omega
theorem sd_first_none {P : Nat → Prop} {n : Nat} (hn : ∀ j, j < n → ¬ P j) : sd_first P n = n := by
  have h1 := sd_first_le P n
  by_cases h : sd_first P n < n
  · exact absurd (sd_first_yes n h) (hn _ h)
  · omega
/-! the schedule, by simulation -/
def sd_en (nc : Nat) (s d p k cp T : Nat → Nat) (a : Nat) : Prop := ∀ c, c < nc → (d c = a → k c ≤ T c) ∧ (s c = a → cp c ≠ 0 → T c + p c ≤ cp c)
def sd_fire (s d p k : Nat → Nat) (a : Nat) (T : Nat → Nat) : Nat → Nat := fun c => T c - (if d c = a then k c else 0) + (if s c = a then p c else 0)
noncomputable def sd_pick (na nc : Nat) (s d p k cp Q F T : Nat → Nat) : Nat := sd_first (fun a => F a < Q a ∧ sd_en nc s d p k cp T a) na
abbrev sd_S : Type := (Nat → Nat) × (Nat → Nat) × (Nat → Nat)
def sd_fF (a : Nat) (F : Nat → Nat) : Nat → Nat := fun b => if b = a then F b + 1 else F b
def sd_fB (T B : Nat → Nat) : Nat → Nat := fun c => if B c < T c then T c else B c
def sd_next (s d p k : Nat → Nat) (a : Nat) (z : sd_S) : sd_S := (sd_fF a z.1, sd_fire s d p k a z.2.1, sd_fB (sd_fire s d p k a z.2.1) z.2.2)
noncomputable def sd_sim (na nc : Nat) (s d p k cp i0 Q : Nat → Nat) : Nat → sd_S
  | 0 => (fun _ => 0, i0, i0)
  | i + 1 => sd_next s d p k (sd_pick na nc s d p k cp Q (sd_sim na nc s d p k cp i0 Q i).1 (sd_sim na nc s d p k cp i0 Q i).2.1) (sd_sim na nc s d p k cp i0 Q i)
noncomputable def sd_sch (na nc : Nat) (s d p k cp i0 Q : Nat → Nat) (i : Nat) : Nat := sd_pick na nc s d p k cp Q (sd_sim na nc s d p k cp i0 Q i).1 (sd_sim na nc s d p k cp i0 Q i).2.1
theorem sd_sim_s (na nc : Nat) (s d p k cp i0 Q : Nat → Nat) (i : Nat) : sd_sim na nc s d p k cp i0 Q (i + 1) = sd_next s d p k (sd_sch na nc s d p k cp i0 Q i) (sd_sim na nc s d p k cp i0 Q i) := rfl
theorem sd_sch_rdy {na nc : Nat} {s d p k cp i0 Q : Nat → Nat} {i : Nat} (h : sd_sch na nc s d p k cp i0 Q i < na) :
    (sd_sim na nc s d p k cp i0 Q i).1 (sd_sch na nc s d p k cp i0 Q i) < Q (sd_sch na nc s d p k cp i0 Q i) ∧ sd_en nc s d p k cp (sd_sim na nc s d p k cp i0 Q i).2.1 (sd_sch na nc s d p k cp i0 Q i) :=
  sd_first_yes (P := fun a => (sd_sim na nc s d p k cp i0 Q i).1 a < Q a ∧ sd_en nc s d p k cp (sd_sim na nc s d p k cp i0 Q i).2.1 a) na h
theorem sd_fF_s (a : Nat) (F : Nat → Nat) : sd_fF a F a = F a + 1 := if_pos rfl
theorem sd_fF_o {a : Nat} {F : Nat → Nat} {b : Nat} (h : b ≠ a) : sd_fF a F b = F b := if_neg h
theorem sd_fB_bd {T B : Nat → Nat} (c : Nat) : T c ≤ sd_fB T B c ∧ B c ≤ sd_fB T B c ∧ (sd_fB T B c = T c ∨ sd_fB T B c = B c) := by
  unfold sd_fB
  by_cases h : B c < T c
  · rw [if_pos h]
    omega
  · rw [if_neg h]
    omega
theorem sd_fire_le {s d p k : Nat → Nat} {a : Nat} {T : Nat → Nat} {c : Nat} (hp : p c ≤ 8) : sd_fire s d p k a T c ≤ T c + 8 := by
  unfold sd_fire
  have h1 : (if s c = a then p c else 0) ≤ 8 := by split <;> omega
  omega
/-- what holds after i picks -/
def sd_I (na nc : Nat) (s d p k i0 Q : Nat → Nat) (i : Nat) (z : sd_S) : Prop :=
  (∀ a, a < na → z.1 a ≤ Q a) ∧ sd_sum z.1 na = i ∧ (∀ c, c < nc → z.2.1 c + k c * z.1 (d c) = i0 c + p c * z.1 (s c)) ∧ (∀ c, c < nc → z.2.1 c ≤ z.2.2 c ∧ z.2.2 c ≤ 32 + 8 * i)
theorem sd_sum_0 : ∀ n, sd_sum (fun _ => 0) n = 0 := by
  intro n
  induction n with
  | zero => rfl
  | succ n ih =>
    show sd_sum (fun _ => 0) n + 0 = 0
    rw [ih]
theorem sd_I_next {na nc : Nat} {s d p k cp i0 Q : Nat → Nat} {i a : Nat} {z : sd_S} (G : sd_G na nc s d p k) (ha : a < na) (hf : z.1 a < Q a) (he : sd_en nc s d p k cp z.2.1 a) (I : sd_I na nc s d p k i0 Q i z) : sd_I na nc s d p k i0 Q (i + 1) (sd_next s d p k a z) := by
  obtain ⟨I1, I2, I3, I4⟩ := I
  refine ⟨fun b hb => ?_, ?_, fun c hc => ?_, fun c hc => ?_⟩
  · show sd_fF a z.1 b ≤ Q b
    by_cases e : b = a
    · rw [e, sd_fF_s]
      exact hf
    · rw [sd_fF_o e]
      exact I1 b hb
  · show sd_sum (sd_fF a z.1) na = i + 1
    have h := sd_sum_ch (f := z.1) (g := sd_fF a z.1) (a := a) na ha (fun j hj => sd_fF_o hj)
    rw [sd_fF_s] at h
    omega
  · show sd_fire s d p k a z.2.1 c + k c * sd_fF a z.1 (d c) = i0 c + p c * sd_fF a z.1 (s c)
    have h3 := I3 c hc
    have h4 := (he c hc).1
    unfold sd_fire
    by_cases e1 : d c = a
    · have h5 := h4 e1
      by_cases e2 : s c = a
      · rw [if_pos e1, if_pos e2, e1, e2, sd_fF_s, Nat.mul_succ, Nat.mul_succ]
        rw [e1, e2] at h3
        omega
      · rw [if_pos e1, if_neg e2, e1, sd_fF_s, sd_fF_o e2, Nat.mul_succ]
        rw [e1] at h3
        omega
    · by_cases e2 : s c = a
      · rw [if_neg e1, if_pos e2, e2, sd_fF_s, sd_fF_o e1, Nat.mul_succ]
        rw [e2] at h3
        omega
      · rw [if_neg e1, if_neg e2, sd_fF_o e1, sd_fF_o e2]
        omega
  · have h4 := I4 c hc
    obtain ⟨b1, b2, b3⟩ := sd_fB_bd (T := sd_fire s d p k a z.2.1) (B := z.2.2) c
    have h5 := sd_fire_le (s := s) (d := d) (p := p) (k := k) (a := a) (T := z.2.1) (c := c) (G c hc).2.2.2.1
    refine ⟨b1, ?_⟩
    show sd_fB (sd_fire s d p k a z.2.1) z.2.2 c ≤ 32 + 8 * (i + 1)
    rcases b3 with b3 | b3 <;> omega
theorem sd_I_sim {na nc : Nat} {s d p k cp i0 Q : Nat → Nat} (G : sd_G na nc s d p k) (h32 : ∀ c, c < nc → i0 c ≤ 32) : ∀ i, (∀ j, j < i → sd_sch na nc s d p k cp i0 Q j < na) → sd_I na nc s d p k i0 Q i (sd_sim na nc s d p k cp i0 Q i) := by
  intro i
  induction i with
  | zero =>
    intro _
    refine ⟨fun a _ => Nat.zero_le _, sd_sum_0 na, fun c hc => ?_, fun c hc => ?_⟩
    · show i0 c + k c * 0 = i0 c + p c * 0
      rfl
    · have := h32 c hc
      exact ⟨Nat.le_refl (i0 c), this⟩
  | succ i ih =>
    intro h
    have h1 := sd_sch_rdy (h i (by omega))
    rw [sd_sim_s]
    exact sd_I_next G (h i (by omega)) h1.1 h1.2 (ih (fun j hj => h j (by omega)))
/-- the number of picks -/
theorem sd_len {na nc : Nat} {s d p k cp i0 Q : Nat → Nat} (G : sd_G na nc s d p k) (h32 : ∀ c, c < nc → i0 c ≤ 32) :
    ∃ L, L ≤ sd_sum Q na ∧ (∀ j, j < L → sd_sch na nc s d p k cp i0 Q j < na) ∧ ¬ sd_sch na nc s d p k cp i0 Q L < na := by
  have no : ∀ i, (∀ j, j < i → sd_sch na nc s d p k cp i0 Q j < na) → i ≤ sd_sum Q na := fun i h => by
    obtain ⟨I1, I2, _⟩ := sd_I_sim (cp := cp) (Q := Q) G h32 i h
    rw [← I2]
    exact sd_sum_le na I1
  have ex : ∃ i, ¬ sd_sch na nc s d p k cp i0 Q i < na := by
    apply Classical.byContradiction
    intro hn
    have h := no (sd_sum Q na + 1) (fun j _ => Classical.byContradiction (fun hj => hn ⟨j, hj⟩))
    omega
  obtain ⟨L, h1, h2⟩ := pk_least (fun i => ¬ sd_sch na nc s d p k cp i0 Q i < na) ex
  have h3 : ∀ j, j < L → sd_sch na nc s d p k cp i0 Q j < na := fun j hj => Classical.byContradiction (fun hn => h2 j hj hn)
  exact ⟨L, no L h3, h3, h1⟩
theorem sd_B_mono {na nc : Nat} {s d p k cp i0 Q : Nat → Nat} {c i : Nat} : ∀ j, i ≤ j → (sd_sim na nc s d p k cp i0 Q i).2.2 c ≤ (sd_sim na nc s d p k cp i0 Q j).2.2 c := by
  intro j
  induction j with
  | zero => intro h; cases Nat.le_zero.mp h; exact Nat.le_refl _
  | succ j ih =>
    intro h
    by_cases e : i = j + 1
    · rw [e]
      exact Nat.le_refl _
    · have h1 := ih (by omega)
      have h2 := (sd_fB_bd (T := sd_fire s d p k (sd_sch na nc s d p k cp i0 Q j) (sd_sim na nc s d p k cp i0 Q j).2.1) (B := (sd_sim na nc s d p k cp i0 Q j).2.2) c).2.1
      exact Nat.le_trans h1 h2
/-- a whole period: what the executor lives on -/
def sd_Ex (na nc : Nat) (s d p k i0 B : Nat → Nat) (L : Nat) (sch : Nat → Nat) (T : Nat → Nat → Nat) : Prop :=
  (0 < L ∧ L ≤ 256) ∧ (∀ c, c < nc → T 0 c = i0 c ∧ T L c = i0 c) ∧ (∀ i, i < L → sch i < na ∧ ∀ c, c < nc → (d c = sch i → k c ≤ T i c) ∧ T (i + 1) c = sd_fire s d p k (sch i) (T i) c) ∧ (∀ i, i ≤ L → ∀ c, c < nc → T i c ≤ B c) ∧ sd_sum B nc ≤ 512
theorem sd_ex {na nc : Nat} {s d p k cp i0 Q : Nat → Nat} {L : Nat} (G : sd_G na nc s d p k) (h32 : ∀ c, c < nc → i0 c ≤ 32) (hL : L = sd_sum Q na) (h0 : 0 < L) (h256 : L ≤ 256) (hg : ∀ j, j < L → sd_sch na nc s d p k cp i0 Q j < na)
    (hb : ∀ c, c < nc → Q (s c) * p c = Q (d c) * k c) (hs : sd_sum (sd_sim na nc s d p k cp i0 Q L).2.2 nc ≤ 512) :
    sd_Ex na nc s d p k i0 (sd_sim na nc s d p k cp i0 Q L).2.2 L (sd_sch na nc s d p k cp i0 Q) (fun i => (sd_sim na nc s d p k cp i0 Q i).2.1) := by
  refine ⟨⟨h0, h256⟩, fun c hc => ⟨rfl, ?_⟩, fun i hi => ⟨hg i hi, fun c hc => ⟨((sd_sch_rdy (hg i hi)).2 c hc).1, rfl⟩⟩, fun i hi c hc => ?_, hs⟩
  · obtain ⟨I1, I2, I3, _⟩ := sd_I_sim (cp := cp) (Q := Q) G h32 L hg
    have e := sd_sum_tight na I1 (by omega)
    have h3 := I3 c hc
    rw [e _ (G c hc).1, e _ (G c hc).2.1] at h3
    have h4 := hb c hc
    rw [Nat.mul_comm (Q (s c)), Nat.mul_comm (Q (d c))] at h4
    show (sd_sim na nc s d p k cp i0 Q L).2.1 c = i0 c
    omega
  · have I := sd_I_sim (cp := cp) (Q := Q) G h32 i (fun j hj => hg j (by omega))
    exact Nat.le_trans (I.2.2.2 c hc).1 (sd_B_mono L hi)
end
section
/-! the channels' contents: N c tokens, V c i the value at place i; the component's rings and the reference's one row -/
def sd_uN (N : Nat → Nat) (c m : Nat) : Nat → Nat := fun x => if x = c then m else N x
theorem sd_uN_s {N : Nat → Nat} {c m : Nat} : sd_uN N c m c = m := if_pos rfl
theorem sd_uN_o {N : Nat → Nat} {c m x : Nat} (h : x ≠ c) : sd_uN N c m x = N x := if_neg h
theorem sd_uN_u {N : Nat → Nat} {c m m' : Nat} : sd_uN (sd_uN N c m) c m' = sd_uN N c m' := by
  funext x
  by_cases h : x = c
  · rw [h, sd_uN_s, sd_uN_s]
  · rw [sd_uN_o h, sd_uN_o h, sd_uN_o h]
theorem sd_uN_id {N : Nat → Nat} {c m : Nat} (e : m = N c) : sd_uN N c m = N := by
  funext x
  by_cases h : x = c
  · rw [h, sd_uN_s, e]
  · rw [sd_uN_o h]
theorem sd_sum_uN {N : Nat → Nat} {c m n : Nat} (h : c < n) : sd_sum (sd_uN N c m) n + N c = sd_sum N n + m := by
  have := sd_sum_ch (f := N) (g := sd_uN N c m) (a := c) n h (fun j hj => sd_uN_o hj)
  rw [sd_uN_s] at this
  exact this
theorem sd_sum_uNl {N : Nat → Nat} {c m n : Nat} (h : n ≤ c) : sd_sum (sd_uN N c m) n = sd_sum N n := sd_sum_hi n h (fun j hj => sd_uN_o hj)
/-- j tokens off the head of c -/
def sd_dV (V : Nat → Nat → Int32) (c j : Nat) : Nat → Nat → Int32 := fun x i => if x = c then V x (i + j) else V x i
/-- v behind the first n tokens of c -/
def sd_eV (V : Nat → Nat → Int32) (c n : Nat) (v : Int32) : Nat → Nat → Int32 := fun x i => if x = c ∧ n ≤ i then v else V x i
theorem sd_dV_s {V : Nat → Nat → Int32} {c j i : Nat} : sd_dV V c j c i = V c (i + j) := if_pos rfl
theorem sd_dV_o {V : Nat → Nat → Int32} {c j x i : Nat} (h : x ≠ c) : sd_dV V c j x i = V x i := if_neg h
theorem sd_dV_0 {V : Nat → Nat → Int32} {c : Nat} : sd_dV V c 0 = V := by
  funext x i
  by_cases h : x = c
  · rw [h, sd_dV_s]
    rfl
  · rw [sd_dV_o h]
theorem sd_dV_d {V : Nat → Nat → Int32} {c j : Nat} : sd_dV (sd_dV V c j) c 1 = sd_dV V c (j + 1) := by
  funext x i
  by_cases h : x = c
  · rw [h, sd_dV_s, sd_dV_s, sd_dV_s]
    exact congrArg (V c) (by omega)
  · rw [sd_dV_o h, sd_dV_o h, sd_dV_o h]
theorem sd_eV_s {V : Nat → Nat → Int32} {c n i : Nat} {v : Int32} (h : n ≤ i) : sd_eV V c n v c i = v := if_pos ⟨rfl, h⟩
theorem sd_eV_l {V : Nat → Nat → Int32} {c n x i : Nat} {v : Int32} (h : i < n) : sd_eV V c n v x i = V x i := if_neg (fun e => by omega)
theorem sd_eV_o {V : Nat → Nat → Int32} {c n x i : Nat} {v : Int32} (h : x ≠ c) : sd_eV V c n v x i = V x i := if_neg (fun e => h e.1)
theorem sd_eV_e {V : Nat → Nat → Int32} {c n j : Nat} {v : Int32} : sd_eV (sd_eV V c n v) c (n + j) v = sd_eV V c n v := by
  funext x i
  by_cases h : x = c
  · rw [h]
    by_cases h2 : n + j ≤ i
    · rw [sd_eV_s h2, sd_eV_s (by omega)]
    · rw [sd_eV_l (by omega)]
  · rw [sd_eV_o h]
/-! the reference's row -/
def sd_YS (nc : Nat) (N : Nat → Nat) (V : Nat → Nat → Int32) (st : Nat → Int32) : Prop := ∀ c, c < nc → ∀ i, i < N c → st (sd_sum N c + i) = V c i
theorem sd_YS_deq {nc : Nat} {N : Nat → Nat} {V : Nat → Nat → Int32} {st st' : Nat → Int32} {c : Nat} (h : sd_YS nc N V st) (hc : c < nc) (h0 : 0 < N c)
    (h1 : ∀ j, j < sd_sum N c → st' j = st j) (h2 : ∀ j, sd_sum N c ≤ j → j + 1 < sd_sum N nc → st' j = st (j + 1)) : sd_YS nc (sd_uN N c (N c - 1)) (sd_dV V c 1) st' := by
  intro x hx i hi
  by_cases e : x = c
  · subst e
    rw [sd_uN_s] at hi
    rw [sd_dV_s, sd_sum_uNl (Nat.le_refl _)]
    have h3 := sd_sum_at (f := N) hx
    rw [h2 _ (by omega) (by omega), Nat.add_assoc]
    exact h x hx (i + 1) (by omega)
  · rw [sd_uN_o e] at hi
    rw [sd_dV_o e]
    by_cases l : x < c
    · rw [sd_sum_uNl (by omega)]
      have h3 := sd_sum_at (f := N) l
      rw [h1 _ (by omega)]
      exact h x hx i hi
    · have h3 := sd_sum_at (f := N) (c := c) (n := x) (by omega)
      have h4 := sd_sum_uN (N := N) (m := N c - 1) (c := c) (n := x) (by omega)
      have h5 := sd_sum_at (f := N) hx
      have h6 : sd_sum (sd_uN N c (N c - 1)) x + 1 = sd_sum N x := by omega
      rw [h2 _ (by omega) (by omega), show sd_sum (sd_uN N c (N c - 1)) x + i + 1 = sd_sum N x + i by omega]
      exact h x hx i hi
theorem sd_YS_enq {nc : Nat} {N : Nat → Nat} {V : Nat → Nat → Int32} {st st' : Nat → Int32} {c : Nat} {v : Int32} (h : sd_YS nc N V st) (hc : c < nc)
    (h1 : ∀ j, j < sd_sum N c + N c → st' j = st j) (h2 : st' (sd_sum N c + N c) = v) (h3 : ∀ j, sd_sum N c + N c ≤ j → j < sd_sum N nc → st' (j + 1) = st j) : sd_YS nc (sd_uN N c (N c + 1)) (sd_eV V c (N c) v) st' := by
  intro x hx i hi
  by_cases e : x = c
  · subst e
    rw [sd_uN_s] at hi
    rw [sd_sum_uNl (Nat.le_refl _)]
    by_cases l : i < N x
    · rw [sd_eV_l l, h1 _ (by omega)]
      exact h x hx i l
    · have e2 : i = N x := by omega
      rw [e2, sd_eV_s (Nat.le_refl _)]
      exact h2
  · rw [sd_uN_o e] at hi
    rw [sd_eV_o e]
    by_cases l : x < c
    · rw [sd_sum_uNl (by omega)]
      have h4 := sd_sum_at (f := N) l
      rw [h1 _ (by omega)]
      exact h x hx i hi
    · have h4 := sd_sum_at (f := N) (c := c) (n := x) (by omega)
      have h5 := sd_sum_uN (N := N) (m := N c + 1) (c := c) (n := x) (by omega)
      have h6 := sd_sum_at (f := N) hx
      rw [show sd_sum (sd_uN N c (N c + 1)) x + i = (sd_sum N x + i) + 1 by omega, h3 _ (by omega) (by omega)]
      exact h x hx i hi
/-! the component's rings -/
def sd_XS (nc : Nat) (N hd : Nat → Nat) (V : Nat → Nat → Int32) (st : Nat → Int32) : Prop := ∀ c, c < nc → ∀ i, i < N c → st (c * 512 + (hd c + i) % 512) = V c i
theorem sd_XS_deq {nc : Nat} {N hd : Nat → Nat} {V : Nat → Nat → Int32} {st : Nat → Int32} {c j : Nat} (h : sd_XS nc N hd V st) (hj : j ≤ N c) : sd_XS nc (sd_uN N c (N c - j)) (sd_uN hd c ((hd c + j) % 512)) (sd_dV V c j) st := by
  intro x hx i hi
  by_cases e : x = c
  · subst e
    rw [sd_uN_s] at hi
    rw [sd_dV_s, sd_uN_s, show ((hd x + j) % 512 + i) % 512 = (hd x + (i + j)) % 512 by omega]
    exact h x hx (i + j) (by omega)
  · rw [sd_uN_o e] at hi
    rw [sd_dV_o e, sd_uN_o e]
    exact h x hx i hi
theorem sd_XS_enq {nc : Nat} {N hd : Nat → Nat} {V : Nat → Nat → Int32} {st : Nat → Int32} {c : Nat} {v : Int32} (h : sd_XS nc N hd V st) (hb : ∀ x, x < nc → N x ≤ 512) (h5 : N c < 512) : sd_XS nc (sd_uN N c (N c + 1)) hd (sd_eV V c (N c) v) (upd st (c * 512 + (hd c + N c) % 512) v) := by
  intro x hx i hi
  by_cases e : x = c
  · subst e
    rw [sd_uN_s] at hi
    by_cases l : i < N x
    · rw [sd_eV_l l, pk_un (by omega)]
      exact h x hx i l
    · have e2 : i = N x := by omega
      rw [e2, sd_eV_s (Nat.le_refl _), pk_us]
  · rw [sd_uN_o e] at hi
    rw [sd_eV_o e, pk_un (by omega)]
    exact h x hx i hi
/-! the sums of what is taken, the counts and contents after the takes, after the puts -/
def sd_ts (f : Nat → Int32) (s : Int32) : Nat → Int32
  | 0 => s
  | j + 1 => sd_ts f s j + f j
def sd_tS (d k : Nat → Nat) (a : Nat) (V : Nat → Nat → Int32) : Nat → Int32
  | 0 => 0
  | n + 1 => if d n = a then sd_ts (V n) (sd_tS d k a V n) (k n) else sd_tS d k a V n
def sd_tN (d k : Nat → Nat) (a : Nat) (N : Nat → Nat) (n : Nat) : Nat → Nat := fun c => if c < n ∧ d c = a then N c - k c else N c
def sd_tV (d k : Nat → Nat) (a : Nat) (V : Nat → Nat → Int32) (n : Nat) : Nat → Nat → Int32 := fun c i => if c < n ∧ d c = a then V c (i + k c) else V c i
def sd_pN (s p : Nat → Nat) (a : Nat) (N : Nat → Nat) (n : Nat) : Nat → Nat := fun c => if c < n ∧ s c = a then N c + p c else N c
def sd_pV (s : Nat → Nat) (a : Nat) (v : Int32) (N : Nat → Nat) (V : Nat → Nat → Int32) (n : Nat) : Nat → Nat → Int32 := fun c i => if c < n ∧ s c = a ∧ N c ≤ i then v else V c i
theorem sd_tN_0 {d k N : Nat → Nat} {a : Nat} : sd_tN d k a N 0 = N := by
  funext c
  exact if_neg (fun h => by omega)
theorem sd_tV_0 {d k : Nat → Nat} {V : Nat → Nat → Int32} {a : Nat} : sd_tV d k a V 0 = V := by
  funext c i
  exact if_neg (fun h => by omega)
theorem sd_pN_0 {s p N : Nat → Nat} {a : Nat} : sd_pN s p a N 0 = N := by
  funext c
  exact if_neg (fun h => by omega)
theorem sd_pV_0 {s N : Nat → Nat} {V : Nat → Nat → Int32} {a : Nat} {v : Int32} : sd_pV s a v N V 0 = V := by
  funext c i
  exact if_neg (fun h => by omega)
theorem sd_tN_hi {d k N : Nat → Nat} {a n c : Nat} (h : n ≤ c) : sd_tN d k a N n c = N c := if_neg (fun e => by omega)
theorem sd_tV_hi {d k : Nat → Nat} {V : Nat → Nat → Int32} {a n c : Nat} (h : n ≤ c) : sd_tV d k a V n c = V c := by
  funext i
  exact if_neg (fun e => by omega)
theorem sd_pN_hi {s p N : Nat → Nat} {a n c : Nat} (h : n ≤ c) : sd_pN s p a N n c = N c := if_neg (fun e => by omega)
theorem sd_tN_y {d k N : Nat → Nat} {a n : Nat} (h : d n = a) : sd_uN (sd_tN d k a N n) n (N n - k n) = sd_tN d k a N (n + 1) := by
  funext c
  unfold sd_tN
  by_cases e : c = n
  · rw [e, sd_uN_s, if_pos ⟨Nat.lt_succ_self n, h⟩]
  · rw [sd_uN_o e]
    by_cases l : c < n ∧ d c = a
    · rw [if_pos l, if_pos ⟨by omega, l.2⟩]
    · rw [if_neg l, if_neg (fun q => l ⟨by omega, q.2⟩)]
theorem sd_tN_n {d k N : Nat → Nat} {a n : Nat} (h : d n ≠ a) : sd_tN d k a N (n + 1) = sd_tN d k a N n := by
  funext c
  unfold sd_tN
  by_cases l : c < n ∧ d c = a
  · rw [if_pos l, if_pos ⟨by omega, l.2⟩]
  · rw [if_neg l, if_neg (fun q => l ⟨by
      have : c ≠ n := fun e => h (e ▸ q.2)
      omega, q.2⟩)]
theorem sd_tV_y {d k : Nat → Nat} {V : Nat → Nat → Int32} {a n : Nat} (h : d n = a) : sd_dV (sd_tV d k a V n) n (k n) = sd_tV d k a V (n + 1) := by
  funext c i
  by_cases e : c = n
  · rw [e, sd_dV_s, sd_tV_hi (Nat.le_refl _)]
    exact (if_pos ⟨Nat.lt_succ_self n, h⟩).symm
  · rw [sd_dV_o e]
    unfold sd_tV
    by_cases l : c < n ∧ d c = a
    · rw [if_pos l, if_pos ⟨by omega, l.2⟩]
    · rw [if_neg l, if_neg (fun q => l ⟨by omega, q.2⟩)]
theorem sd_tV_n {d k : Nat → Nat} {V : Nat → Nat → Int32} {a n : Nat} (h : d n ≠ a) : sd_tV d k a V (n + 1) = sd_tV d k a V n := by
  funext c i
  unfold sd_tV
  by_cases l : c < n ∧ d c = a
  · rw [if_pos l, if_pos ⟨by omega, l.2⟩]
  · rw [if_neg l, if_neg (fun q => l ⟨by
      have : c ≠ n := fun e => h (e ▸ q.2)
      omega, q.2⟩)]
theorem sd_pN_y {s p N : Nat → Nat} {a n : Nat} (h : s n = a) : sd_uN (sd_pN s p a N n) n (N n + p n) = sd_pN s p a N (n + 1) := by
  funext c
  unfold sd_pN
  by_cases e : c = n
  · rw [e, sd_uN_s, if_pos ⟨Nat.lt_succ_self n, h⟩]
  · rw [sd_uN_o e]
    by_cases l : c < n ∧ s c = a
    · rw [if_pos l, if_pos ⟨by omega, l.2⟩]
    · rw [if_neg l, if_neg (fun q => l ⟨by omega, q.2⟩)]
theorem sd_pN_n {s p N : Nat → Nat} {a n : Nat} (h : s n ≠ a) : sd_pN s p a N (n + 1) = sd_pN s p a N n := by
  funext c
  unfold sd_pN
  by_cases l : c < n ∧ s c = a
  · rw [if_pos l, if_pos ⟨by omega, l.2⟩]
  · rw [if_neg l, if_neg (fun q => l ⟨by
      have : c ≠ n := fun e => h (e ▸ q.2)
      omega, q.2⟩)]
theorem sd_pV_y {s N : Nat → Nat} {V : Nat → Nat → Int32} {a n : Nat} {v : Int32} (h : s n = a) : sd_eV (sd_pV s a v N V n) n (N n) v = sd_pV s a v N V (n + 1) := by
  funext c i
  unfold sd_eV sd_pV
  by_cases e : c = n
  · subst e
    by_cases l : N c ≤ i
    · rw [if_pos ⟨rfl, l⟩, if_pos ⟨Nat.lt_succ_self c, h, l⟩]
    · rw [if_neg (fun q => l q.2), if_neg (fun q => l q.2.2), if_neg (fun q => l q.2.2)]
  · rw [if_neg (fun q => e q.1)]
    by_cases l : c < n ∧ s c = a ∧ N c ≤ i
    · rw [if_pos l, if_pos ⟨by omega, l.2⟩]
    · rw [if_neg l, if_neg (fun q => l ⟨by omega, q.2⟩)]
theorem sd_pV_n {s N : Nat → Nat} {V : Nat → Nat → Int32} {a n : Nat} {v : Int32} (h : s n ≠ a) : sd_pV s a v N V (n + 1) = sd_pV s a v N V n := by
  funext c i
  unfold sd_pV
  by_cases l : c < n ∧ s c = a ∧ N c ≤ i
  · rw [if_pos l, if_pos ⟨by omega, l.2⟩]
  · rw [if_neg l, if_neg (fun q => l ⟨by
      have : c ≠ n := fun e => h (e ▸ q.2.1)
      omega, q.2⟩)]
theorem sd_tS_y {d k : Nat → Nat} {V : Nat → Nat → Int32} {a n : Nat} (h : d n = a) : sd_tS d k a V (n + 1) = sd_ts (V n) (sd_tS d k a V n) (k n) := if_pos h
theorem sd_tS_n {d k : Nat → Nat} {V : Nat → Nat → Int32} {a n : Nat} (h : d n ≠ a) : sd_tS d k a V (n + 1) = sd_tS d k a V n := if_neg h
/-- counts in the midst of the takes and of the puts stay below both ends -/
theorem sd_tN_le {d k N : Nat → Nat} {a n : Nat} (c : Nat) : sd_tN d k a N n c ≤ N c := by
  unfold sd_tN
  split <;> omega
theorem sd_pN_le {s p N : Nat → Nat} {a n m : Nat} (h : n ≤ m) (c : Nat) : sd_pN s p a N n c ≤ sd_pN s p a N m c := by
  unfold sd_pN
  by_cases l : c < n ∧ s c = a
  · rw [if_pos l, if_pos ⟨by omega, l.2⟩]
    omega
  · rw [if_neg l]
    split <;> omega
theorem sd_tp {nc : Nat} {s d p k N : Nat → Nat} {a c : Nat} (hc : c < nc) : sd_pN s p a (sd_tN d k a N nc) nc c = sd_fire s d p k a N c := by
  unfold sd_pN sd_fire sd_tN
  by_cases e1 : d c = a
  · by_cases e2 : s c = a
    · rw [if_pos ⟨hc, e2⟩, if_pos ⟨hc, e1⟩, if_pos e1, if_pos e2]
    · rw [if_neg (fun q => e2 q.2), if_pos ⟨hc, e1⟩, if_pos e1, if_neg e2]
      rfl
  · by_cases e2 : s c = a
    · rw [if_pos ⟨hc, e2⟩, if_neg (fun q => e1 q.2), if_neg e1, if_pos e2]
      rfl
    · rw [if_neg (fun q => e2 q.2), if_neg (fun q => e1 q.2), if_neg e1, if_neg e2]
      rfl
end
section
/-! numbers -/
theorem sd_cell (c h q : Nat) (hq : h + q < 2 ^ 32) : nI c * 512 + ((nI h + nI q) &&& 511) = nI (c * 512 + (h + q) % 512) := by
  have e5 : (512 : Int32) = nI 512 := rfl
  rw [nI_add, pk_andN hq 9 (by decide), e5, pk_mul, nI_add]
theorem sd_and (h q : Nat) (hq : h + q < 2 ^ 32) : (nI h + nI q) &&& 511 = nI ((h + q) % 512) := by
  rw [nI_add, pk_andN hq 9 (by decide)]
theorem sd_ne1 {a : Nat} (h : a < 2 ^ 31) : ¬ nI a = -1 := by
  intro e
  have h1 := congrArg Int32.toInt e
  rw [nI_toInt h] at h1
  have h2 : (-1 : Int32).toInt = -1 := by decide
  omega
theorem sd_m1neg : (-1 : Int32) < 0 := by decide
theorem sd_0 : (0 : Int32) = nI 0 := rfl
theorem sd_l0 : (0 : Int64) = lN 0 := rfl
theorem sd_l1 : (1 : Int64) = lN 1 := rfl
theorem sd_eq0 {a : Nat} (h : a < 2 ^ 31) : nI a = 0 ↔ a = 0 := by
  rw [sd_0, nI_eq h (by decide)]
theorem sd_leq0 {a : Nat} (h : a < 2 ^ 63) : lN a = 0 ↔ a = 0 := by
  rw [sd_l0, pk_lEQ h (by decide)]
/-- Euclid: after two rounds the lesser number is halved -/
theorem sd_half {b r m : Nat} (h0 : 0 < r) (hr : r < b) (hb : b < 2 ^ (m + 1)) : b % r < 2 ^ m := by
  have h1 := Nat.mod_lt b h0
  have h2 := Nat.div_add_mod b r
  have h3 : 0 < b / r := Nat.div_pos (Nat.le_of_lt hr) h0
  have h4 : r ≤ r * (b / r) := Nat.le_mul_of_pos_right r h3
  rw [Nat.pow_succ] at hb
  omega
theorem sd_gcd_step (a b : Nat) : Nat.gcd b (a % b) = Nat.gcd a b := by
  rw [Nat.gcd_comm a b, Nat.gcd_rec b a, Nat.gcd_comm]
end
section
/-! the relation -/
def sd_Gr (na nc : Nat) (s d p k i0 cp : Nat → Nat) (gS gD gP gK gI gC : Nat → Int32) : Prop := ∀ c, c < nc → (gS c = nI (s c) ∧ gD c = nI (d c) ∧ gP c = nI (p c) ∧ gK c = nI (k c) ∧ gI c = nI (i0 c) ∧ gC c = nI (cp c)) ∧ (s c < na ∧ d c < na ∧ 0 < p c ∧ p c ≤ 8 ∧ 0 < k c ∧ k c ≤ 8) ∧ i0 c ≤ 32 ∧ cp c ≤ 64
def sd_V1 (na : Nat) (xq yq : Nat → Int64) : Prop := ∀ j, j < na → yq j = xq j
def sd_V2 (nc : Nat) (xe ye : Int32) (xs ys xb yb : Nat → Int32) : Prop := ∃ L, L ≤ 256 ∧ xe = nI L ∧ ye = nI L ∧ (∀ i, i < L → ys i = xs i) ∧ (∀ c, c < nc → yb c = xb c)
def sd_V3 (na nc : Nat) (s d p k i0 : Nat → Nat) (xe xp xd : Int32) (xs xw xh xl xg : Nat → Int32) (ye yp yd : Int32) (ys yw yl yg : Nat → Int32) : Prop :=
  ∃ (L pos : Nat) (sch hd B : Nat → Nat) (T : Nat → Nat → Nat) (V : Nat → Nat → Int32), sd_Ex na nc s d p k i0 B L sch T ∧ (xe = nI L ∧ ye = nI L) ∧ (∀ i, i < L → xs i = nI (sch i) ∧ ys i = nI (sch i)) ∧ (pos < L ∧ xp = nI pos ∧ yp = nI pos ∧ yd = xd) ∧ (∀ j, j < na → yg j = xg j) ∧
    (∀ c, c < nc → xl c = nI (T pos c) ∧ yl c = nI (T pos c) ∧ hd c < 512 ∧ xh c = nI (hd c)) ∧ sd_XS nc (T pos) hd V xw ∧ sd_YS nc (T pos) V yw
def sd_VC (na nc : Nat) (s d p k i0 : Nat → Nat) (xv xe xp xd : Int32) (xq : Nat → Int64) (xs xb xw xh xl xg : Nat → Int32) (ye yp yd : Int32) (yq : Nat → Int64) (ys yb yw yl yg : Nat → Int32) : Prop :=
  xv = 0 ∨ xv = 2 ∨ xv = 3 ∨ (xv = 4 ∧ sd_V1 na xq yq) ∨ (xv = 5 ∧ sd_V1 na xq yq ∧ sd_V2 nc xe ye xs ys xb yb) ∨ (xv = 6 ∧ sd_V1 na xq yq ∧ sd_V2 nc xe ye xs ys xb yb) ∨ (xv = 1 ∧ sd_V1 na xq yq ∧ sd_V2 nc xe ye xs ys xb yb ∧ sd_V3 na nc s d p k i0 xe xp xd xs xw xh xl xg ye yp yd ys yw yl yg)
def sd_Nm (ma mc na nc : Nat) : Prop := 2 ≤ ma ∧ ma ≤ 10 ∧ 1 ≤ mc ∧ mc ≤ 24 ∧ na ≤ ma ∧ nc ≤ mc
/-- related states: the same graph, the same verdict, and what the verdict makes available alike -/
def i_Rel (_ : Nat) (u : SX) (v : SY) : Prop :=
  ∃ (ma mc na nc : Nat) (s d p k i0 cp : Nat → Nat) (gS gD gP gK gI gC : Nat → Int32) (w xe xp xd : Int32) (xq : Nat → Int64) (xc xs xb xt xf xw xh xl xg : Nat → Int32) (ye yp yd : Int32) (yq : Nat → Int64) (yc yf yt ys yb yw yl yg : Nat → Int32),
    u = (nI ma, nI mc, nI na, nI nc, w, xe, xp, xd, gS, gD, gP, gK, gI, gC, xq, xc, xs, xb, xt, xf, xw, xh, xl, xg) ∧ v = (nI ma, nI mc, nI na, nI nc, w, ye, yp, yd, gS, gD, gP, gK, gI, gC, yq, yc, yf, yt, ys, yb, yw, yl, yg) ∧
    sd_Nm ma mc na nc ∧ sd_Gr na nc s d p k i0 cp gS gD gP gK gI gC ∧ sd_VC na nc s d p k i0 w xe xp xd xq xs xb xw xh xl xg ye yp yd yq ys yb yw yl yg
theorem sd_Gr_G {na nc : Nat} {s d p k i0 cp : Nat → Nat} {gS gD gP gK gI gC : Nat → Int32} (h : sd_Gr na nc s d p k i0 cp gS gD gP gK gI gC) : sd_G na nc s d p k := fun c hc => (h c hc).2.1
theorem sd_Gr_32 {na nc : Nat} {s d p k i0 cp : Nat → Nat} {gS gD gP gK gI gC : Nat → Int32} (h : sd_Gr na nc s d p k i0 cp gS gD gP gK gI gC) : ∀ c, c < nc → i0 c ≤ 32 := fun c hc => (h c hc).2.2.1
end
section
/-! the component's repetitions -/
theorem xa_ls {post : Int32 → Prop} {a r : Nat} (ha : a < 2 ^ 40) (hr : 0 < r) (h8 : r ≤ 8) (h : post (nI (sd_sc a r))) : ∀ n s, r < n + s → 0 < s → s ≤ sd_sc a r → wX_leastScale_2 post (lN a) (nI r) n (nI s) := by
  intro n
  induction n with
  | zero =>
    intro s h1 h2 h3
    have := sd_sc_le a r
    omega
  | succ n ih =>
    intro s h1 h2 h3
    have hle := sd_sc_le a r
    have hm : a * s ≤ a * 8 := Nat.mul_le_mul_left _ (by omega)
    refine pk_le r s (fun hrs => ?_) (fun hrs => ⟨?_, ?_⟩)
    · have e : sd_sc a r = r := by omega
      rw [e] at h
      exact h
    · rw [nI_l (by omega), sd_leq0 (by omega)]
      omega
    · rw [nI_l (n := s) (by omega), nI_l (n := r) (by omega), lN_mul, pk_lRem (by omega) hr (by omega), sd_leq0 (by have := Nat.mod_lt (a * s) hr; omega)]
      refine br_c (fun hz => ?_) (fun hz => nm_r (nI_1 s) (ih (s + 1) (by omega) (by omega) ?_))
      · have := sd_sc_min hr h2 hz
        have e : s = sd_sc a r := by omega
        rw [e]
        exact h
      · have : s ≠ sd_sc a r := fun e => hz (e ▸ sd_sc_ok a r)
        omega
theorem xa_least {post : Int32 → Prop} {a r : Nat} (ha : a < 2 ^ 40) (hr : 0 < r) (h8 : r ≤ 8) (h : post (nI (sd_sc a r))) : wpX_leastScale post (lN a) (nI r) :=
  ⟨9, xa_ls ha hr h8 h 9 1 (by omega) (by omega) (sd_sc_pos a hr)⟩
def sd_XR (na : Nat) (z : sd_Z) (xq : Nat → Int64) (xc : Nat → Int32) : Prop := ∀ j, j < na → xq j = lN (z.1 j) ∧ (z.1 j ≠ 0 → xc j = nI (z.2 j))
section
variable {XA : Int32} {XM : Int32} {xn : Int32} {xm : Int32} {xv : Int32} {xe : Int32} {xp : Int32} {xd : Int32} {gS : Nat → Int32} {gD : Nat → Int32} {gP : Nat → Int32} {gK : Nat → Int32} {gI : Nat → Int32} {gC : Nat → Int32} {xq : Nat → Int64} {xc : Nat → Int32} {xs : Nat → Int32} {xb : Nat → Int32} {xt : Nat → Int32} {xf : Nat → Int32} {xw : Nat → Int32} {xh : Nat → Int32} {xl : Nat → Int32} {xg : Nat → Int32}
theorem xa_jp24 {post : SX → Prop} {na r fr rr sc am : Nat} {z : sd_Z} (hna : na ≤ 10) (hr : r < na) (hf : fr < na) (h0 : 0 < rr) (h8 : rr ≤ 8) (hs : sc ≤ 8) (ham : am < 2 ^ 40) (hb : ∀ i, i < na → z.1 i ≤ 134217728) (hR : sd_Rt na z) (hxc : ∀ i, i < na → z.1 i ≠ 0 → xc i = nI (z.2 i))
    (K : ∀ xq' : Nat → Int64, (∀ i, i < na → xq' i = lN (if i = fr then am * sc / rr else if z.1 i ≠ 0 ∧ z.2 i = r then z.1 i * sc else z.1 i)) → post (XA, XM, nI na, xm, xv, xe, xp, xd, gS, gD, gP, gK, gI, gC, xq', upd xc fr (nI r), xs, xb, xt, xf, xw, xh, xl, xg)) :
    ∀ (n j : Nat) (xq : Nat → Int64), na < n + j → j ≤ na → (∀ i, i < na → xq i = lN (if i < j ∧ z.1 i ≠ 0 ∧ z.2 i = r then z.1 i * sc else z.1 i)) → wX_joinPart_24 post (nI r) (nI fr) (nI rr) (lN am) (nI sc) XA XM (nI na) xm xv xe xp xd n (nI j) gS gD gP gK gI gC xq xc xs xb xt xf xw xh xl xg := by
  intro n
  induction n with
  | zero =>
    intro j xq h1 hj2 h2
    omega
  | succ n ih =>
    intro j xq h1 hj2 h2
    have hm : am * sc ≤ am * 8 := Nat.mul_le_mul_left _ hs
    refine pk_le na j (fun hj => ?_) (fun hj => ?_)
    · refine ⟨?_, vp_in_nI (by omega) (by decide), nm_r (e' := vp_updL xq fr (lN (am * sc / rr))) ?_ ⟨vp_in_nI (by omega) (by decide), nm_r (e' := upd xc fr (nI r)) ?_ (K _ ?_)⟩⟩
      · rw [nI_l (by omega), sd_leq0 (by omega)]
        omega
      · rw [nI_clamp (by omega), nI_l (n := sc) (by omega), nI_l (n := rr) (by omega), lN_mul, pk_lDiv (by omega) h0 (by omega)]
      · rw [nI_clamp (by omega)]
      · intro i hi
        by_cases e : i = fr
        · rw [if_pos e, e, pk_uLs]
        · rw [if_neg e, pk_uLn e, h2 i hi]
          by_cases q : z.1 i ≠ 0 ∧ z.2 i = r
          · rw [if_pos q, if_pos ⟨by omega, q⟩]
          · rw [if_neg q, if_neg (fun y => q y.2)]
    · have hc : (nI j).toNatClampNeg = j := nI_clamp (by omega)
      have hqj : xq j = lN (z.1 j) := by rw [h2 j hj, if_neg (fun y => Nat.lt_irrefl j y.1)]
      have hbj := hb j hj
      have skip : ¬ (z.1 j ≠ 0 ∧ z.2 j = r) → ∀ i, i < na → xq i = lN (if i < j + 1 ∧ z.1 i ≠ 0 ∧ z.2 i = r then z.1 i * sc else z.1 i) := fun hn i hi => by
        rw [h2 i hi]
        by_cases q : i < j ∧ z.1 i ≠ 0 ∧ z.2 i = r
        · rw [if_pos q, if_pos ⟨by omega, q.2⟩]
        · rw [if_neg q, if_neg (fun y => by
            by_cases e : i = j
            · exact hn (e ▸ y.2)
            · exact q ⟨by omega, y.2⟩)]
      refine ⟨vp_in_nI (by omega) (by decide), ?_⟩
      rw [hc, hqj, sd_leq0 (by omega)]
      refine br_c (fun hz => nm_r (nI_1 j) (ih (j + 1) xq (by omega) (by omega) (skip (fun y => y.1 hz)))) (fun hz => ⟨vp_in_nI (by omega) (by decide), ?_⟩)
      have hR1 := hR j hj hz
      rw [hxc j hj hz, nI_eq (by omega) (by omega)]
      refine br_c (fun hz2 => ⟨vp_in_nI (by omega) (by decide), vp_in_nI (by omega) (by decide), nm_r (e' := vp_updL xq j (lN (z.1 j * sc))) ?_ (nm_r (nI_1 j) (ih (j + 1) _ (by omega) (by omega) ?_))⟩) (fun hz2 => nm_r (nI_1 j) (ih (j + 1) xq (by omega) (by omega) (skip (fun y => hz2 y.2))))
      · rw [nI_l (by omega), lN_mul]
      · intro i hi
        by_cases e : i = j
        · rw [e, pk_uLs, if_pos ⟨by omega, hz, hz2⟩]
        · rw [pk_uLn e, h2 i hi]
          by_cases q : i < j ∧ z.1 i ≠ 0 ∧ z.2 i = r
          · rw [if_pos q, if_pos ⟨by omega, q.2⟩]
          · rw [if_neg q, if_neg (fun y => q ⟨by omega, y.2⟩)]
theorem xa_jp {post : SX → Prop} {na r kn fr kr rr : Nat} {z : sd_Z} (hna : na ≤ 10) (hr : r < na) (hk : kn < na) (hf : fr < na) (hk8 : kr ≤ 8) (h0 : 0 < rr) (h8 : rr ≤ 8) (hb : ∀ i, i < na → z.1 i ≤ 134217728) (hR : sd_Rt na z) (hx : sd_XR na z xq xc)
    (K : ∀ (xq' : Nat → Int64) (xc' : Nat → Int32), sd_XR na (sd_jQ r kn fr kr rr z.1 z.2, sd_jM r fr z.2) xq' xc' → post (XA, XM, nI na, xm, xv, xe, xp, xd, gS, gD, gP, gK, gI, gC, xq', xc', xs, xb, xt, xf, xw, xh, xl, xg)) :
    wpX_joinPart post (XA, XM, nI na, xm, xv, xe, xp, xd, gS, gD, gP, gK, gI, gC, xq, xc, xs, xb, xt, xf, xw, xh, xl, xg) (nI r) (nI kn) (nI fr) (nI kr) (nI rr) := by
  have hm : z.1 kn * kr ≤ z.1 kn * 8 := Nat.mul_le_mul_left _ hk8
  have hbk := hb kn hk
  refine ⟨vp_in_nI (by omega) (by decide), nm_r (e' := lN (z.1 kn * kr)) ?_ (xa_least (by omega) h0 h8 ⟨na + 1, ?_⟩)⟩
  · rw [nI_clamp (by omega), (hx kn hk).1, nI_l (by omega), lN_mul]
  · refine xa_jp24 (z := z) hna hr hf h0 h8 (Nat.le_trans (sd_sc_le _ _) h8) (by omega) hb hR (fun i hi => (hx i hi).2) (fun xq' hq => K xq' _ (fun j hj => ⟨hq j hj, fun hz => ?_⟩)) (na + 1) 0 xq (by omega) (Nat.zero_le _) (fun i hi => ?_)
    · show upd xc fr (nI r) j = nI (sd_jM r fr z.2 j)
      by_cases e : j = fr
      · rw [e, pk_us, sd_jM_f]
      · rw [pk_un e, sd_jM_o e]
        exact (hx j hj).2 (fun y => hz ((sd_jQ_z h0 e).mpr y))
    · rw [if_neg (fun y => Nat.not_lt_zero i y.1)]
      exact (hx i hi).1
theorem sd_n10 : ¬ (1 : Int32) = 0 := by decide
theorem xa_sp26 {post : SX → Prop} {J16 : Int32 → Int32 → Int32 → Int32 → Int32 → Int32 → Int32 → Int32 → Int32 → (Nat → Int32) → (Nat → Int32) → (Nat → Int32) → (Nat → Int32) → (Nat → Int32) → (Nat → Int32) → (Nat → Int64) → (Nat → Int32) → (Nat → Int32) → (Nat → Int32) → (Nat → Int32) → (Nat → Int32) → (Nat → Int32) → (Nat → Int32) → (Nat → Int32) → (Nat → Int32) → Prop} {na nc r ps : Nat} {s d p k i0 cp : Nat → Nat} {z : sd_Z} (hna : na ≤ 10) (hnc : nc ≤ 24) (hr : r < na)
    (hG : sd_Gr na nc s d p k i0 cp gS gD gP gK gI gC) (hI : sd_Inv na nc s d r z)
    (K : ∀ (xq' : Nat → Int64) (xc' : Nat → Int32), sd_XR na (sd_row s d p k r nc z) xq' xc' → J16 (nI (ps + 1)) XA XM (nI na) (nI nc) xv xe xp xd gS gD gP gK gI gC xq' xc' xs xb xt xf xw xh xl xg) :
    ∀ (n c : Nat) (xq : Nat → Int64) (xc : Nat → Int32), nc < n + c → c ≤ nc → sd_XR na (sd_row s d p k r c z) xq xc → wX_solvePart_26 post J16 (nI r) (nI ps) n (nI c) XA XM (nI na) (nI nc) xv xe xp xd gS gD gP gK gI gC xq xc xs xb xt xf xw xh xl xg := by
  intro n
  induction n with
  | zero => intro c xq xc h1 h2 h3; omega
  | succ n ih =>
    intro c xq xc h1 h2 hx
    have G := sd_Gr_G hG
    refine pk_le nc c (fun hj => ?_) (fun hj => ?_)
    · have e : c = nc := by omega
      subst e
      exact nm_r (nI_1 ps) (K xq xc hx)
    · have hc : (nI c).toNatClampNeg = c := nI_clamp (by omega)
      obtain ⟨⟨eS, eD, eP, eK, _, _⟩, ⟨g1, g2, g3, g4, g5, g6⟩, _, _⟩ := hG c hj
      obtain ⟨I1, _, _⟩ := sd_row_inv (p := p) (k := k) G hr hI c h2
      have hb : ∀ i, i < na → (sd_row s d p k r c z).1 i ≤ 134217728 := fun i hi => sd_bd9 hna I1.2.1 hi
      have hR := I1.2.2.1
      have bs := hb (s c) g1
      have bd := hb (d c) g2
      have v24 : vp_in (nI c) 24 := vp_in_nI (by omega) (by decide)
      have eS' : gS (nI c).toNatClampNeg = nI (s c) := by rw [hc]; exact eS
      have eD' : gD (nI c).toNatClampNeg = nI (d c) := by rw [hc]; exact eD
      have eP' : gP (nI c).toNatClampNeg = nI (p c) := by rw [hc]; exact eP
      have eK' : gK (nI c).toNatClampNeg = nI (k c) := by rw [hc]; exact eK
      have eQs : xq (gS (nI c).toNatClampNeg).toNatClampNeg = lN ((sd_row s d p k r c z).1 (s c)) := by rw [eS', nI_clamp (by omega)]; exact (hx (s c) g1).1
      have eQd : xq (gD (nI c).toNatClampNeg).toNatClampNeg = lN ((sd_row s d p k r c z).1 (d c)) := by rw [eD', nI_clamp (by omega)]; exact (hx (d c) g2).1
      have vs : vp_in (gS (nI c).toNatClampNeg) 10 := by rw [eS']; exact vp_in_nI (by omega) (by decide)
      have vd : vp_in (gD (nI c).toNatClampNeg) 10 := by rw [eD']; exact vp_in_nI (by omega) (by decide)
      have ns0 : (sd_row s d p k r c z).1 (s c) = 0 → xq (gS (nI c).toNatClampNeg).toNatClampNeg = 0 := fun h => by rw [eQs, h]; rfl
      have nd0 : (sd_row s d p k r c z).1 (d c) = 0 → xq (gD (nI c).toNatClampNeg).toNatClampNeg = 0 := fun h => by rw [eQd, h]; rfl
      have ns1 : (sd_row s d p k r c z).1 (s c) ≠ 0 → ¬ xq (gS (nI c).toNatClampNeg).toNatClampNeg = 0 := fun h => by rw [eQs, sd_leq0 (by omega)]; exact h
      have nd1 : (sd_row s d p k r c z).1 (d c) ≠ 0 → ¬ xq (gD (nI c).toNatClampNeg).toNatClampNeg = 0 := fun h => by rw [eQd, sd_leq0 (by omega)]; exact h
      have er : sd_row s d p k r (c + 1) z = sd_link s d p k r c (sd_row s d p k r c z) := rfl
      by_cases hs : (sd_row s d p k r c z).1 (s c) = 0
      · by_cases hd : (sd_row s d p k r c z).1 (d c) = 0
        · have K2 := ih (c + 1) xq xc (by omega) (by omega) (by rw [er, sd_link_3 ⟨fun _ => hd, fun _ => hs⟩]; exact hx)
          exact ⟨v24, vs, br_t (ns0 hs) ⟨v24, vd, br_t (nd0 hd) (br_t rfl (br_t rfl (nm_r (nI_1 c) K2)))⟩⟩
        · refine ⟨v24, vs, br_t (ns0 hs) ⟨v24, vd, br_f (nd1 hd) (br_t rfl (br_f sd_n10 (br_t rfl ⟨v24, v24, v24, v24, ?_⟩)))⟩⟩
          rw [eS', eD', eP', eK']
          exact xa_jp hna hr g2 g1 g6 g3 g4 hb hR hx (fun xq' xc' hx' => nm_r (nI_1 c) (ih (c + 1) xq' xc' (by omega) (by omega) (by rw [er, sd_link_2 hd hs]; exact hx')))
      · by_cases hd : (sd_row s d p k r c z).1 (d c) = 0
        · refine ⟨v24, vs, br_f (ns1 hs) ⟨v24, vd, br_t (nd0 hd) (br_f sd_n10 (br_t rfl ⟨v24, v24, v24, v24, ?_⟩))⟩⟩
          rw [eS', eD', eP', eK']
          exact xa_jp hna hr g1 g2 g4 g5 g6 hb hR hx (fun xq' xc' hx' => nm_r (nI_1 c) (ih (c + 1) xq' xc' (by omega) (by omega) (by rw [er, sd_link_1 hs hd]; exact hx')))
        · have K2 := ih (c + 1) xq xc (by omega) (by omega) (by rw [er, sd_link_3 ⟨fun e => absurd e hs, fun e => absurd e hd⟩]; exact hx)
          exact ⟨v24, vs, br_f (ns1 hs) ⟨v24, vd, br_f (nd1 hd) (br_f sd_n10 (br_f sd_n10 (br_f sd_n10 (br_f sd_n10 (nm_r (nI_1 c) K2)))))⟩⟩
theorem xa_sp16 {post : SX → Prop} {na nc r : Nat} {s d p k i0 cp : Nat → Nat} {z : sd_Z} (hna : na ≤ 10) (hnc : nc ≤ 24) (hr : r < na)
    (hG : sd_Gr na nc s d p k i0 cp gS gD gP gK gI gC) (hI : sd_Inv na nc s d r z)
    (K : ∀ (xq' : Nat → Int64) (xc' : Nat → Int32), sd_XR na (sd_pass nc s d p k r (na - 1) z) xq' xc' → post (XA, XM, nI na, nI nc, xv, xe, xp, xd, gS, gD, gP, gK, gI, gC, xq', xc', xs, xb, xt, xf, xw, xh, xl, xg)) :
    ∀ (n t : Nat) (xq : Nat → Int64) (xc : Nat → Int32), na < n + t + 1 → t + 1 ≤ na → sd_XR na (sd_pass nc s d p k r t z) xq xc → wX_solvePart_16 post (nI r) n (nI (t + 1)) XA XM (nI na) (nI nc) xv xe xp xd gS gD gP gK gI gC xq xc xs xb xt xf xw xh xl xg := by
  intro n
  induction n with
  | zero => intro t xq xc h1 h2 h3; omega
  | succ n ih =>
    intro t xq xc h1 h2 hx
    refine pk_le na (t + 1) (fun hj => ?_) (fun hj => ⟨nc + 1, ?_⟩)
    · have e : t = na - 1 := by omega
      subst e
      exact K xq xc hx
    · exact xa_sp26 hna hnc hr hG (sd_pass_inv (p := p) (k := k) (sd_Gr_G hG) hr hI t).1 (fun xq' xc' hx' => ih (t + 1) xq' xc' (by omega) (by omega) hx') (nc + 1) 0 xq xc (by omega) (Nat.zero_le _) hx
theorem xa_sp {post : SX → Prop} {na nc r : Nat} {s d p k i0 cp : Nat → Nat} {z : sd_Z} (hna : na ≤ 10) (hnc : nc ≤ 24) (hr : r < na)
    (hG : sd_Gr na nc s d p k i0 cp gS gD gP gK gI gC) (hO : sd_Out na nc s d r z) (h0 : z.1 r = 0) (hx : sd_XR na z xq xc)
    (K : ∀ (xq' : Nat → Int64) (xc' : Nat → Int32), sd_XR na (sd_root na nc s d p k r z) xq' xc' → post (XA, XM, nI na, nI nc, xv, xe, xp, xd, gS, gD, gP, gK, gI, gC, xq', xc', xs, xb, xt, xf, xw, xh, xl, xg)) :
    wpX_solvePart post (XA, XM, nI na, nI nc, xv, xe, xp, xd, gS, gD, gP, gK, gI, gC, xq, xc, xs, xb, xt, xf, xw, xh, xl, xg) (nI r) := by
  have hI := (sd_st_inv hr hO h0).1
  have er : sd_root na nc s d p k r z = sd_pass nc s d p k r (na - 1) (sd_st r z) := if_pos h0
  rw [er] at K
  have hc : (nI r).toNatClampNeg = r := nI_clamp (by omega)
  refine ⟨vp_in_nI (by omega) (by decide), nm_r (e' := vp_updL xq r 1) (by rw [hc]) ⟨vp_in_nI (by omega) (by decide), nm_r (e' := upd xc r (nI r)) (by rw [hc]) ⟨na + 1, ?_⟩⟩⟩
  refine xa_sp16 hna hnc hr hG hI K (na + 1) 0 _ _ (by omega) (by omega) (fun j hj => ?_)
  show vp_updL xq r 1 j = lN ((sd_st r z).1 j) ∧ ((sd_st r z).1 j ≠ 0 → upd xc r (nI r) j = nI ((sd_st r z).2 j))
  by_cases e : j = r
  · rw [e, pk_uLs, pk_us, sd_st_r, sd_st_mr]
    exact ⟨rfl, fun _ => rfl⟩
  · rw [pk_uLn e, pk_un e, sd_st_o e, sd_st_mo e]
    exact hx j hj
theorem xa_fr25 {post : SX → Prop} {na nc : Nat} {s d p k i0 cp : Nat → Nat} (hna : na ≤ 10) (hnc : nc ≤ 24)
    (hG : sd_Gr na nc s d p k i0 cp gS gD gP gK gI gC)
    (K : ∀ (xq' : Nat → Int64) (xc' : Nat → Int32), (∀ j, j < na → xq' j = lN (sd_Q na nc s d p k j)) → post (XA, XM, nI na, nI nc, xv, xe, xp, xd, gS, gD, gP, gK, gI, gC, xq', xc', xs, xb, xt, xf, xw, xh, xl, xg)) :
    ∀ (n r : Nat) (xq : Nat → Int64) (xc : Nat → Int32), na < n + r → r ≤ na → sd_XR na (sd_roots na nc s d p k r) xq xc → wX_findRepetitions_25 post n (nI r) XA XM (nI na) (nI nc) xv xe xp xd gS gD gP gK gI gC xq xc xs xb xt xf xw xh xl xg := by
  intro n
  induction n with
  | zero => intro r xq xc h1 h2 h3; omega
  | succ n ih =>
    intro r xq xc h1 h2 hx
    have hO := sd_roots_out (p := p) (k := k) (sd_Gr_G hG) r h2
    refine pk_le na r (fun hj => ?_) (fun hj => ?_)
    · have e : r = na := by omega
      subst e
      exact K xq xc (fun j hj => (hx j hj).1)
    · have hc : (nI r).toNatClampNeg = r := nI_clamp (by omega)
      have hq : xq (nI r).toNatClampNeg = lN ((sd_roots na nc s d p k r).1 r) := by rw [hc]; exact (hx r hj).1
      have hb := sd_bd9 hna hO.2.2.1 hj
      by_cases h0 : (sd_roots na nc s d p k r).1 r = 0
      · exact ⟨vp_in_nI (by omega) (by decide), br_t (by rw [hq, h0]; rfl) (xa_sp hna hnc hj hG hO h0 hx (fun xq' xc' hx' => nm_r (nI_1 r) (ih (r + 1) xq' xc' (by omega) (by omega) hx')))⟩
      · have er : sd_roots na nc s d p k (r + 1) = sd_roots na nc s d p k r := if_neg h0
        exact ⟨vp_in_nI (by omega) (by decide), br_f (by rw [hq, sd_leq0 (by omega)]; exact h0) (nm_r (nI_1 r) (ih (r + 1) xq xc (by omega) (by omega) (by rw [er]; exact hx)))⟩
theorem xa_fr2 {post : SX → Prop} {na nc : Nat} {s d p k i0 cp : Nat → Nat} (hna : na ≤ 10) (hnc : nc ≤ 24)
    (hG : sd_Gr na nc s d p k i0 cp gS gD gP gK gI gC)
    (K : ∀ (xq' : Nat → Int64) (xc' : Nat → Int32), (∀ j, j < na → xq' j = lN (sd_Q na nc s d p k j)) → post (XA, XM, nI na, nI nc, xv, xe, xp, xd, gS, gD, gP, gK, gI, gC, xq', xc', xs, xb, xt, xf, xw, xh, xl, xg)) :
    ∀ (n j : Nat) (xq : Nat → Int64), na < n + j → j ≤ na → (∀ i, i < j → xq i = 0) → wX_findRepetitions_2 post XA XM (nI na) (nI nc) xv xe xp xd n (nI j) gS gD gP gK gI gC xq xc xs xb xt xf xw xh xl xg := by
  intro n
  induction n with
  | zero => intro j xq h1 h2 h3; omega
  | succ n ih =>
    intro j xq h1 h2 hx
    refine pk_le na j (fun hj => ⟨na + 1, ?_⟩) (fun hj => ⟨vp_in_nI (by omega) (by decide), nm_r (e' := vp_updL xq j 0) (by rw [nI_clamp (by omega)]) (nm_r (nI_1 j) (ih (j + 1) _ (by omega) (by omega) (fun i hi => ?_)))⟩)
    · exact xa_fr25 hna hnc hG K (na + 1) 0 xq xc (by omega) (Nat.zero_le _) (fun i hi => ⟨hx i (by omega), fun h => absurd rfl h⟩)
    · by_cases e : i = j
      · rw [e, pk_uLs]
      · rw [pk_uLn e]
        exact hx i (by omega)
theorem xa_fr {post : SX → Prop} {na nc : Nat} {s d p k i0 cp : Nat → Nat} (hna : na ≤ 10) (hnc : nc ≤ 24)
    (hG : sd_Gr na nc s d p k i0 cp gS gD gP gK gI gC)
    (K : ∀ (xq' : Nat → Int64) (xc' : Nat → Int32), (∀ j, j < na → xq' j = lN (sd_Q na nc s d p k j)) → post (XA, XM, nI na, nI nc, xv, xe, xp, xd, gS, gD, gP, gK, gI, gC, xq', xc', xs, xb, xt, xf, xw, xh, xl, xg)) : wpX_findRepetitions post (XA, XM, nI na, nI nc, xv, xe, xp, xd, gS, gD, gP, gK, gI, gC, xq, xc, xs, xb, xt, xf, xw, xh, xl, xg) :=
  ⟨na + 1, xa_fr2 hna hnc hG K (na + 1) 0 xq (by omega) (Nat.zero_le _) (fun i hi => absurd hi (Nat.not_lt_zero i))⟩
end
end
section
/-! the reference's repetitions -/
def sd_YR (na : Nat) (z : sd_Z) (yq : Nat → Int64) (yc : Nat → Int32) : Prop := ∀ j, j < na → yq j = lN (z.1 j) ∧ yc j = (if z.1 j = 0 then -1 else nI (z.2 j))
theorem sd_yc_m {q m : Nat} {y : Int32} (h : y = (if q = 0 then -1 else nI m)) (hq : q = 0) : y = -1 := by
  rw [h, if_pos hq]
theorem sd_yc_n {q m : Nat} {y : Int32} (h : y = (if q = 0 then -1 else nI m)) (hq : q ≠ 0) (hm : m < 100) : ¬ y = -1 := by
  rw [h, if_neg hq]
  exact sd_ne1 (by omega)
theorem sd_yc_r {q m r : Nat} {y : Int32} (h : y = (if q = 0 then -1 else nI m)) (hm : q ≠ 0 → m < 100) (hr : r < 100) : y = nI r ↔ (q ≠ 0 ∧ m = r) := by
  rw [h]
  by_cases e : q = 0
  · rw [if_pos e]
    exact ⟨fun z => absurd z.symm (sd_ne1 (by omega)), fun z => absurd e z.1⟩
  · have := hm e
    rw [if_neg e, nI_eq (by omega) (by omega)]
    exact ⟨fun z => ⟨e, z⟩, fun z => z.2⟩
section
variable {YA : Int32} {YM : Int32} {yn : Int32} {ym : Int32} {yv : Int32} {ye : Int32} {yp : Int32} {yd : Int32} {gS : Nat → Int32} {gD : Nat → Int32} {gP : Nat → Int32} {gK : Nat → Int32} {gI : Nat → Int32} {gC : Nat → Int32} {yq : Nat → Int64} {yc : Nat → Int32} {yf : Nat → Int32} {yt : Nat → Int32} {ys : Nat → Int32} {yb : Nat → Int32} {yw : Nat → Int32} {yl : Nat → Int32} {yg : Nat → Int32}
theorem ya_g36 {post : Int64 → Prop} {a : Nat} (ha : a < 2 ^ 62) (h0 : 0 < a) (h : post (lN a)) : wY_gcd_36 post (lN a) YA YM yn ym yv ye yp yd gS gD gP gK gI gC yq yc yf yt ys yb yw yl yg := by
  refine br_t ?_ (br_t ?_ h)
  · rw [sd_l0, pk_lLE (by decide) (by omega)]
    omega
  · rw [sd_l0, pk_lLT (by decide) (by omega)]
    exact h0
theorem ya_g0 {post : Int64 → Prop} {a : Nat} (ha : a < 2 ^ 62) (h0 : 0 < a) (h : post (lN a)) {i : Nat} (hi : i ≤ 200) (n : Nat) : wY_gcd_3 post YA YM yn ym yv ye yp yd gS gD gP gK gI gC yq yc yf yt ys yb yw yl yg (n + 1) (lN a) (lN 0) (nI i) :=
  pk_le 200 i (fun _ => ya_g36 ha h0 h) (fun _ => br_t rfl (ya_g36 ha h0 h))
theorem ya_gs {post : Int64 → Prop} {a b i n : Nat} (ha : a < 2 ^ 62) (hb : b < 2 ^ 62) (h0 : 0 < b) (hi : i < 200) (h : wY_gcd_3 post YA YM yn ym yv ye yp yd gS gD gP gK gI gC yq yc yf yt ys yb yw yl yg n (lN b) (lN (a % b)) (nI (i + 1))) : wY_gcd_3 post YA YM yn ym yv ye yp yd gS gD gP gK gI gC yq yc yf yt ys yb yw yl yg (n + 1) (lN a) (lN b) (nI i) := by
  have hn : ¬ lN b = 0 := by
    rw [sd_leq0 (by omega)]
    omega
  exact pk_le 200 i (fun z => absurd z (by omega)) (fun _ => br_f hn ⟨hn, nm_r (pk_lRem (by omega) h0 (by omega)) (nm_r (nI_1 i) h)⟩)
theorem ya_g3 {post : Int64 → Prop} : ∀ m a b i n, a < 2 ^ 62 → b < 2 ^ 62 → b < 2 ^ m → i + 2 * m ≤ 200 → 201 ≤ n + i → 0 < Nat.gcd a b → post (lN (Nat.gcd a b)) → wY_gcd_3 post YA YM yn ym yv ye yp yd gS gD gP gK gI gC yq yc yf yt ys yb yw yl yg n (lN a) (lN b) (nI i) := by
  intro m
  induction m with
  | zero =>
    intro a b i n ha hb hm hi hn h0 h
    have e : b = 0 := by
      have : (2 : Nat) ^ 0 = 1 := rfl
      omega
    subst e
    obtain ⟨n, rfl⟩ : ∃ m, n = m + 1 := ⟨n - 1, by omega⟩
    rw [Nat.gcd_zero_right] at h0 h
    exact ya_g0 ha h0 h (by omega) n
  | succ m ih =>
    intro a b i n ha hb hm hi hn h0 h
    obtain ⟨n, rfl⟩ : ∃ m, n = m + 1 := ⟨n - 1, by omega⟩
    by_cases e : b = 0
    · subst e
      rw [Nat.gcd_zero_right] at h0 h
      exact ya_g0 ha h0 h (by omega) n
    · have hl := Nat.mod_lt a (Nat.pos_of_ne_zero e)
      refine ya_gs ha hb (by omega) (by omega) ?_
      obtain ⟨n, rfl⟩ : ∃ m, n = m + 1 := ⟨n - 1, by omega⟩
      rw [← sd_gcd_step] at h0 h
      by_cases e2 : a % b = 0
      · rw [e2] at h0 h ⊢
        rw [Nat.gcd_zero_right] at h0 h
        exact ya_g0 hb h0 h (by omega) n
      · have hl2 := Nat.mod_lt b (Nat.pos_of_ne_zero e2)
        refine ya_gs hb (by omega) (by omega) (by omega) ?_
        rw [← sd_gcd_step] at h0 h
        exact ih (a % b) (b % (a % b)) (i + 1 + 1) n (by omega) (by omega) (sd_half (by omega) hl hm) (by omega) (by omega) h0 h
theorem ya_gcd {post : Int64 → Prop} {a b : Nat} (ha : a < 2 ^ 40) (hb : b < 2 ^ 40) (h0 : 0 < Nat.gcd a b) (h : post (lN (Nat.gcd a b))) : wpY_gcd post (YA, YM, yn, ym, yv, ye, yp, yd, gS, gD, gP, gK, gI, gC, yq, yc, yf, yt, ys, yb, yw, yl, yg) (lN a) (lN b) :=
  ⟨201, ya_g3 40 a b 0 201 (by omega) (by omega) hb (by omega) (by omega) h0 h⟩
theorem ya_sc3 {post : SY → Prop} {na r sc : Nat} {z : sd_Z} (hna : na ≤ 10) (hr : r < na) (hR : sd_Rt na z) (hyc : ∀ i, i < na → yc i = (if z.1 i = 0 then -1 else nI (z.2 i)))
    (K : ∀ yq' : Nat → Int64, (∀ i, i < na → yq' i = lN (if z.1 i ≠ 0 ∧ z.2 i = r then z.1 i * sc else z.1 i)) → post (YA, YM, nI na, ym, yv, ye, yp, yd, gS, gD, gP, gK, gI, gC, yq', yc, yf, yt, ys, yb, yw, yl, yg)) :
    ∀ (n j : Nat) (yq : Nat → Int64), na < n + j → j ≤ na → (∀ i, i < na → yq i = lN (if i < j ∧ z.1 i ≠ 0 ∧ z.2 i = r then z.1 i * sc else z.1 i)) → wY_scale_3 post (nI r) (lN sc) YA YM (nI na) ym yv ye yp yd n (nI j) gS gD gP gK gI gC yq yc yf yt ys yb yw yl yg := by
  intro n
  induction n with
  | zero => intro j yq h1 h2 h3; omega
  | succ n ih =>
    intro j yq h1 hj2 h2
    refine pk_le na j (fun hj => K yq (fun i hi => ?_)) (fun hj => ?_)
    · rw [h2 i hi]
      by_cases q : z.1 i ≠ 0 ∧ z.2 i = r
      · rw [if_pos q, if_pos ⟨by omega, q⟩]
      · rw [if_neg q, if_neg (fun y => q y.2)]
    · have hc : (nI j).toNatClampNeg = j := nI_clamp (by omega)
      have hqj : yq j = lN (z.1 j) := by rw [h2 j hj, if_neg (fun y => Nat.lt_irrefl j y.1)]
      have hy := sd_yc_r (r := r) (hyc j hj) (fun e => by have := hR j hj e; omega) (by omega)
      refine ⟨vp_in_nI (by omega) (by decide), ?_⟩
      rw [hc, hy]
      refine br_c (fun hz => ⟨vp_in_nI (by omega) (by decide), vp_in_nI (by omega) (by decide), nm_r (e' := vp_updL yq j (lN (z.1 j * sc))) ?_ (nm_r (nI_1 j) (ih (j + 1) _ (by omega) (by omega) ?_))⟩) (fun hz => nm_r (nI_1 j) (ih (j + 1) yq (by omega) (by omega) ?_))
      · rw [hqj, lN_mul]
      · intro i hi
        by_cases e : i = j
        · rw [e, pk_uLs, if_pos ⟨by omega, hz⟩]
        · rw [pk_uLn e, h2 i hi]
          by_cases q : i < j ∧ z.1 i ≠ 0 ∧ z.2 i = r
          · rw [if_pos q, if_pos ⟨by omega, q.2⟩]
          · rw [if_neg q, if_neg (fun y => q ⟨by omega, y.2⟩)]
      · intro i hi
        rw [h2 i hi]
        by_cases q : i < j ∧ z.1 i ≠ 0 ∧ z.2 i = r
        · rw [if_pos q, if_pos ⟨by omega, q.2⟩]
        · rw [if_neg q, if_neg (fun y => by
            by_cases e : i = j
            · exact hz (e ▸ y.2)
            · exact q ⟨by omega, y.2⟩)]
theorem ya_sc {post : SY → Prop} {na r sc : Nat} {z : sd_Z} (hna : na ≤ 10) (hr : r < na) (hR : sd_Rt na z) (hy : sd_YR na z yq yc)
    (K : ∀ yq' : Nat → Int64, (∀ i, i < na → yq' i = lN (if z.1 i ≠ 0 ∧ z.2 i = r then z.1 i * sc else z.1 i)) → post (YA, YM, nI na, ym, yv, ye, yp, yd, gS, gD, gP, gK, gI, gC, yq', yc, yf, yt, ys, yb, yw, yl, yg)) : wpY_scale post (YA, YM, nI na, ym, yv, ye, yp, yd, gS, gD, gP, gK, gI, gC, yq, yc, yf, yt, ys, yb, yw, yl, yg) (nI r) (lN sc) :=
  ⟨na + 1, ya_sc3 hna hr hR (fun i hi => (hy i hi).2) K (na + 1) 0 yq (by omega) (Nat.zero_le _) (fun i hi => by
    rw [if_neg (fun y => Nat.not_lt_zero i y.1)]
    exact (hy i hi).1)⟩
/-- after the scaling: the fresh actor's count -/
theorem sd_jn {na r kn fr kr rr : Nat} {z : sd_Z} {yq yq' : Nat → Int64} {yc : Nat → Int32} (hk : kn < na) (hf : fr < na) (k0 : 0 < kr) (hk8 : kr ≤ 8) (h0 : 0 < rr) (h8 : rr ≤ 8) (hb : ∀ i, i < na → z.1 i ≤ 134217728) (hy : sd_YR na z yq yc) (h1 : z.1 kn ≠ 0) (hm : z.2 kn = r)
    (hq : ∀ i, i < na → yq' i = lN (if z.1 i ≠ 0 ∧ z.2 i = r then z.1 i * sd_sc (z.1 kn * kr) rr else z.1 i)) :
    sd_YR na (sd_jQ r kn fr kr rr z.1 z.2, sd_jM r fr z.2) (vp_updL yq' fr (yq' kn * lN kr / lN rr)) (upd yc fr (nI r)) := by
  have hb1 := hb kn hk
  have hs : sd_sc (z.1 kn * kr) rr ≤ 8 := Nat.le_trans (sd_sc_le _ _) h8
  have m1 : z.1 kn * kr ≤ z.1 kn * 8 := Nat.mul_le_mul_left _ hk8
  have m2 : z.1 kn * kr * sd_sc (z.1 kn * kr) rr ≤ z.1 kn * kr * 8 := Nat.mul_le_mul_left _ hs
  have e1 : yq' kn * lN kr / lN rr = lN (z.1 kn * kr * sd_sc (z.1 kn * kr) rr / rr) := by
    rw [hq kn hk, if_pos ⟨h1, hm⟩, lN_mul, Nat.mul_right_comm, pk_lDiv (by omega) h0 (by omega)]
  intro j hj
  show vp_updL yq' fr (yq' kn * lN kr / lN rr) j = lN (sd_jQ r kn fr kr rr z.1 z.2 j) ∧ upd yc fr (nI r) j = (if sd_jQ r kn fr kr rr z.1 z.2 j = 0 then -1 else nI (sd_jM r fr z.2 j))
  by_cases e : j = fr
  · rw [e, pk_uLs, pk_us, sd_jM_f, e1]
    refine ⟨by rw [sd_jQ_f], ?_⟩
    rw [if_neg (sd_jQ_p k0 h0 h1)]
  · rw [pk_uLn e, pk_un e, sd_jM_o e, hq j hj]
    refine ⟨by unfold sd_jQ; rw [if_neg e], ?_⟩
    rw [(hy j hj).2]
    by_cases q : z.1 j = 0
    · rw [if_pos q, if_pos ((sd_jQ_z h0 e).mpr q)]
    · rw [if_neg q, if_neg (fun y => q ((sd_jQ_z h0 e).mp y))]
theorem ya_lk {post : SY → Prop} {na nc r c : Nat} {s d p k i0 cp : Nat → Nat} {z : sd_Z} (hna : na ≤ 10) (hnc : nc ≤ 24) (hr : r < na) (hj : c < nc)
    (hG : sd_Gr na nc s d p k i0 cp gS gD gP gK gI gC) (hI : sd_Inv na nc s d r z) (hy : sd_YR na z yq yc)
    (K : ∀ (yq' : Nat → Int64) (yc' : Nat → Int32), sd_YR na (sd_link s d p k r c z) yq' yc' → post (YA, YM, nI na, nI nc, yv, ye, yp, yd, gS, gD, gP, gK, gI, gC, yq', yc', yf, yt, ys, yb, yw, yl, yg)) :
    wpY_link post (YA, YM, nI na, nI nc, yv, ye, yp, yd, gS, gD, gP, gK, gI, gC, yq, yc, yf, yt, ys, yb, yw, yl, yg) (nI c) (nI r) := by
  have hc : (nI c).toNatClampNeg = c := nI_clamp (by omega)
  obtain ⟨⟨eS, eD, eP, eK, _, _⟩, ⟨g1, g2, g3, g4, g5, g6⟩, _, _⟩ := hG c hj
  obtain ⟨E, B, hR, O⟩ := hI
  have hb : ∀ i, i < na → z.1 i ≤ 134217728 := fun i hi => sd_bd9 hna B hi
  have bs := hb (s c) g1
  have bd := hb (d c) g2
  have v24 : vp_in (nI c) 24 := vp_in_nI (by omega) (by decide)
  have vs : vp_in (nI (s c)) 10 := vp_in_nI (by omega) (by decide)
  have vd : vp_in (nI (d c)) 10 := vp_in_nI (by omega) (by decide)
  have cs : (nI (s c)).toNatClampNeg = s c := nI_clamp (by omega)
  have cd : (nI (d c)).toNatClampNeg = d c := nI_clamp (by omega)
  have eP' : gP (nI c).toNatClampNeg = nI (p c) := by rw [hc]; exact eP
  have eK' : gK (nI c).toNatClampNeg = nI (k c) := by rw [hc]; exact eK
  have lP : (gP (nI c).toNatClampNeg).toInt64 = lN (p c) := by rw [eP', nI_l (by omega)]
  have lK : (gK (nI c).toNatClampNeg).toInt64 = lN (k c) := by rw [eK', nI_l (by omega)]
  have hys := (hy (s c) g1).2
  have hyd := (hy (d c) g2).2
  have ms : z.1 (s c) ≠ 0 → z.2 (s c) < 100 := fun h => by have := hR _ g1 h; omega
  have md : z.1 (d c) ≠ 0 → z.2 (d c) < 100 := fun h => by have := hR _ g2 h; omega
  have rs := sd_yc_r (r := r) hys ms (by omega)
  have rd := sd_yc_r (r := r) hyd md (by omega)
  have Ys : ∀ P : Int32 → Prop, P (yc (s c)) → P (yc (nI (s c)).toNatClampNeg) := fun P h => by rw [cs]; exact h
  have Yd : ∀ P : Int32 → Prop, P (yc (d c)) → P (yc (nI (d c)).toNatClampNeg) := fun P h => by rw [cd]; exact h
  refine ⟨v24, nm_r (e' := nI (s c)) (by rw [hc]; exact eS) ⟨v24, nm_r (e' := nI (d c)) (by rw [hc]; exact eD) ⟨vs, ?_⟩⟩⟩
  have n0 : ∀ q : Nat, 0 < q → q ≤ 8 → ¬ lN q = 0 := fun q h1 h2 => by
    rw [sd_leq0 (by omega)]
    omega
  by_cases hs : z.1 (s c) = 0
  · have a1 : ¬ yc (nI (s c)).toNatClampNeg = nI r := Ys (fun x => ¬ x = nI r) (fun q => (rs.mp q).1 hs)
    refine br_f a1 ⟨vd, ?_⟩
    by_cases hd : z.1 (d c) = 0
    · have a2 : ¬ yc (nI (d c)).toNatClampNeg = nI r := Yd (fun x => ¬ x = nI r) (fun q => (rd.mp q).1 hd)
      exact br_f a2 (K yq yc (by rw [sd_link_3 ⟨fun _ => hd, fun _ => hs⟩]; exact hy))
    · have hm : z.2 (d c) = r := Classical.byContradiction (fun q => (E c hj).2 hd q hs)
      have a2 : yc (nI (d c)).toNatClampNeg = nI r := Yd (fun x => x = nI r) (rd.mpr ⟨hd, hm⟩)
      have a3 : yc (nI (s c)).toNatClampNeg = -1 := Ys (fun x => x = -1) (sd_yc_m hys hs)
      refine br_t a2 ⟨vs, br_t a3 ⟨v24, vd, v24, v24, ?_⟩⟩
      rw [lP, lK, cd, (hy _ g2).1, lN_mul]
      have m1 : z.1 (d c) * k c ≤ z.1 (d c) * 8 := Nat.mul_le_mul_left _ g6
      have gp := Nat.gcd_pos_of_pos_right (z.1 (d c) * k c) g3
      have gl := Nat.gcd_le_right (z.1 (d c) * k c) g3
      refine ya_gcd (by omega) (by omega) gp ⟨?_, nm_r (e' := lN (sd_sc (z.1 (d c) * k c) (p c))) (pk_lDiv (by omega) gp (by omega)) (ya_sc hna hr hR hy (fun yq' hq => ⟨vd, v24, v24, ?_, vs, nm_e ⟨vs, nm_e (K _ _ ?_)⟩⟩))⟩
      · rw [sd_leq0 (by omega)]
        omega
      · rw [lP]
        exact n0 _ g3 g4
      · rw [lP, lK, cs, sd_link_2 hd hs]
        exact sd_jn g2 g1 g5 g6 g3 g4 hb hy hd hm hq
  · by_cases hd : z.1 (d c) = 0
    · have hm : z.2 (s c) = r := Classical.byContradiction (fun q => (E c hj).1 hs q hd)
      have a2 : yc (nI (s c)).toNatClampNeg = nI r := Ys (fun x => x = nI r) (rs.mpr ⟨hs, hm⟩)
      have a3 : yc (nI (d c)).toNatClampNeg = -1 := Yd (fun x => x = -1) (sd_yc_m hyd hd)
      refine br_t a2 ⟨vd, br_t a3 ⟨v24, vs, v24, v24, ?_⟩⟩
      rw [lP, lK, cs, (hy _ g1).1, lN_mul]
      have m1 : z.1 (s c) * p c ≤ z.1 (s c) * 8 := Nat.mul_le_mul_left _ g4
      have gp := Nat.gcd_pos_of_pos_right (z.1 (s c) * p c) g5
      have gl := Nat.gcd_le_right (z.1 (s c) * p c) g5
      refine ya_gcd (by omega) (by omega) gp ⟨?_, nm_r (e' := lN (sd_sc (z.1 (s c) * p c) (k c))) (pk_lDiv (by omega) gp (by omega)) (ya_sc hna hr hR hy (fun yq' hq => ⟨vs, v24, v24, ?_, vd, nm_e ⟨vd, nm_e (K _ _ ?_)⟩⟩))⟩
      · rw [sd_leq0 (by omega)]
        omega
      · rw [lK]
        exact n0 _ g5 g6
      · rw [lP, lK, cd, sd_link_1 hs hd]
        exact sd_jn g1 g2 g3 g4 g5 g6 hb hy hs hm hq
    · have a2 : ¬ yc (nI (d c)).toNatClampNeg = -1 := Yd (fun x => ¬ x = -1) (sd_yc_n hyd hd (md hd))
      have a3 : ¬ yc (nI (s c)).toNatClampNeg = -1 := Ys (fun x => ¬ x = -1) (sd_yc_n hys hs (ms hs))
      have KK := K yq yc (by rw [sd_link_3 ⟨fun e => absurd e hs, fun e => absurd e hd⟩]; exact hy)
      have K2 : wY_link_118 post (nI c) (nI r) (nI (s c)) (nI (d c)) YA YM (nI na) (nI nc) yv ye yp yd gS gD gP gK gI gC yq yc yf yt ys yb yw yl yg := ⟨vd, br_c (fun _ => ⟨vs, br_f a3 KK⟩) (fun _ => KK)⟩
      exact br_c (fun _ => ⟨vd, br_f a2 K2⟩) (fun _ => K2)
theorem ya_sp12 {post : SY → Prop} {J2 : Int32 → Int32 → Int32 → Int32 → Int32 → Int32 → Int32 → Int32 → Int32 → (Nat → Int32) → (Nat → Int32) → (Nat → Int32) → (Nat → Int32) → (Nat → Int32) → (Nat → Int32) → (Nat → Int64) → (Nat → Int32) → (Nat → Int32) → (Nat → Int32) → (Nat → Int32) → (Nat → Int32) → (Nat → Int32) → (Nat → Int32) → (Nat → Int32) → Prop} {na nc r ps : Nat} {s d p k i0 cp : Nat → Nat} {z : sd_Z} (hna : na ≤ 10) (hnc : nc ≤ 24) (hr : r < na)
    (hG : sd_Gr na nc s d p k i0 cp gS gD gP gK gI gC) (hI : sd_Inv na nc s d r z)
    (K : ∀ (yq' : Nat → Int64) (yc' : Nat → Int32), sd_YR na (sd_row s d p k r nc z) yq' yc' → J2 (nI (ps + 1)) YA YM (nI na) (nI nc) yv ye yp yd gS gD gP gK gI gC yq' yc' yf yt ys yb yw yl yg) :
    ∀ (n c : Nat) (yq : Nat → Int64) (yc : Nat → Int32), nc < n + c → c ≤ nc → sd_YR na (sd_row s d p k r c z) yq yc → wY_spread_12 post J2 (nI r) (nI ps) n (nI c) YA YM (nI na) (nI nc) yv ye yp yd gS gD gP gK gI gC yq yc yf yt ys yb yw yl yg := by
  intro n
  induction n with
  | zero => intro c yq yc h1 h2 h3; omega
  | succ n ih =>
    intro c yq yc h1 h2 hy
    refine pk_le nc c (fun hj => ?_) (fun hj => ?_)
    · have e : c = nc := by omega
      subst e
      exact nm_r (nI_1 ps) (K yq yc hy)
    · exact ya_lk hna hnc hr hj hG (sd_row_inv (p := p) (k := k) (sd_Gr_G hG) hr hI c h2).1 hy (fun yq' yc' hy' => nm_r (nI_1 c) (ih (c + 1) yq' yc' (by omega) (by omega) hy'))
theorem ya_sp2 {post : SY → Prop} {na nc r : Nat} {s d p k i0 cp : Nat → Nat} {z : sd_Z} (hna : na ≤ 10) (hnc : nc ≤ 24) (hr : r < na)
    (hG : sd_Gr na nc s d p k i0 cp gS gD gP gK gI gC) (hI : sd_Inv na nc s d r z)
    (K : ∀ (yq' : Nat → Int64) (yc' : Nat → Int32), sd_YR na (sd_pass nc s d p k r na z) yq' yc' → post (YA, YM, nI na, nI nc, yv, ye, yp, yd, gS, gD, gP, gK, gI, gC, yq', yc', yf, yt, ys, yb, yw, yl, yg)) :
    ∀ (n t : Nat) (yq : Nat → Int64) (yc : Nat → Int32), na < n + t → t ≤ na → sd_YR na (sd_pass nc s d p k r t z) yq yc → wY_spread_2 post (nI r) n (nI t) YA YM (nI na) (nI nc) yv ye yp yd gS gD gP gK gI gC yq yc yf yt ys yb yw yl yg := by
  intro n
  induction n with
  | zero => intro t yq yc h1 h2 h3; omega
  | succ n ih =>
    intro t yq yc h1 h2 hy
    refine pk_le na t (fun hj => ?_) (fun hj => ⟨nc + 1, ?_⟩)
    · have e : t = na := by omega
      subst e
      exact K yq yc hy
    · exact ya_sp12 hna hnc hr hG (sd_pass_inv (p := p) (k := k) (sd_Gr_G hG) hr hI t).1 (fun yq' yc' hy' => ih (t + 1) yq' yc' (by omega) (by omega) hy') (nc + 1) 0 yq yc (by omega) (Nat.zero_le _) hy
end
/-! the common divisor of a part -/
def sd_gf (r : Nat) (z : sd_Z) : Nat → Nat
  | 0 => 0
  | j + 1 => if z.1 j ≠ 0 ∧ z.2 j = r then Nat.gcd (sd_gf r z j) (z.1 j) else sd_gf r z j
theorem sd_gf_y {r : Nat} {z : sd_Z} {j : Nat} (h : z.1 j ≠ 0 ∧ z.2 j = r) : sd_gf r z (j + 1) = Nat.gcd (sd_gf r z j) (z.1 j) := if_pos h
theorem sd_gf_n {r : Nat} {z : sd_Z} {j : Nat} (h : ¬ (z.1 j ≠ 0 ∧ z.2 j = r)) : sd_gf r z (j + 1) = sd_gf r z j := if_neg h
theorem sd_gf_dvd {r : Nat} {z : sd_Z} : ∀ n j, j < n → (z.1 j ≠ 0 ∧ z.2 j = r) → sd_gf r z n ∣ z.1 j := by
  intro n
  induction n with
  | zero => intro j hj; omega
  | succ n ih =>
    intro j hj h
    by_cases e : j = n
    · subst e
      rw [sd_gf_y h]
      exact Nat.gcd_dvd_right _ _
    · by_cases q : z.1 n ≠ 0 ∧ z.2 n = r
      · rw [sd_gf_y q]
        exact Nat.dvd_trans (Nat.gcd_dvd_left _ _) (ih j (by omega) h)
      · rw [sd_gf_n q]
        exact ih j (by omega) h
theorem sd_gf_1 {na r : Nat} {z : sd_Z} (O : sd_One na r z) : sd_gf r z na = 1 := O _ (fun j hj => sd_gf_dvd na j hj.1 hj.2)
theorem sd_gf_bd {na r : Nat} {z : sd_Z} (hb : ∀ i, i < na → z.1 i ≤ 134217728) : ∀ j, j ≤ na → sd_gf r z j ≤ 134217728 := by
  intro j
  induction j with
  | zero => intro _; exact Nat.zero_le _
  | succ j ih =>
    intro hj
    by_cases q : z.1 j ≠ 0 ∧ z.2 j = r
    · rw [sd_gf_y q]
      exact Nat.le_trans (Nat.gcd_le_right _ (Nat.pos_of_ne_zero q.1)) (hb j (by omega))
    · rw [sd_gf_n q]
      exact ih (by omega)
section
variable {YA : Int32} {YM : Int32} {yn : Int32} {ym : Int32} {yv : Int32} {ye : Int32} {yp : Int32} {yd : Int32} {gS : Nat → Int32} {gD : Nat → Int32} {gP : Nat → Int32} {gK : Nat → Int32} {gI : Nat → Int32} {gC : Nat → Int32} {yq : Nat → Int64} {yc : Nat → Int32} {yf : Nat → Int32} {yt : Nat → Int32} {ys : Nat → Int32} {yb : Nat → Int32} {yw : Nat → Int32} {yl : Nat → Int32} {yg : Nat → Int32}
theorem ya_nm55 {post : SY → Prop} {na r : Nat} {z : sd_Z} (hna : na ≤ 10) (hb : ∀ i, i < na → z.1 i ≤ 134217728)
    (K : ∀ yq' : Nat → Int64, (∀ i, i < na → yq' i = lN (z.1 i)) → post (YA, YM, nI na, ym, yv, ye, yp, yd, gS, gD, gP, gK, gI, gC, yq', yc, yf, yt, ys, yb, yw, yl, yg)) :
    ∀ (n j : Nat) (yq : Nat → Int64), na < n + j → j ≤ na → (∀ i, i < na → yq i = lN (z.1 i)) → wY_normalize_55 post (nI r) (lN 1) YA YM (nI na) ym yv ye yp yd n (nI j) gS gD gP gK gI gC yq yc yf yt ys yb yw yl yg := by
  intro n
  induction n with
  | zero => intro j yq h1 h2 h3; omega
  | succ n ih =>
    intro j yq h1 hj2 h2
    refine pk_le na j (fun hj => K yq h2) (fun hj => ?_)
    have hbj := hb j hj
    have hc : (nI j).toNatClampNeg = j := nI_clamp (by omega)
    refine ⟨vp_in_nI (by omega) (by decide), br_c (fun hz => ⟨vp_in_nI (by omega) (by decide), by decide, vp_in_nI (by omega) (by decide), nm_r (e' := vp_updL yq j (lN (z.1 j))) ?_ (nm_r (nI_1 j) (ih (j + 1) _ (by omega) (by omega) ?_))⟩) (fun hz => nm_r (nI_1 j) (ih (j + 1) yq (by omega) (by omega) h2))⟩
    · rw [hc, h2 j hj, pk_lDiv (by omega) (by decide) (by decide), Nat.div_one]
    · intro i hi
      by_cases e : i = j
      · rw [e, pk_uLs]
      · rw [pk_uLn e]
        exact h2 i hi
theorem ya_nm5 {post : SY → Prop} {na r : Nat} {z : sd_Z} (hna : na ≤ 10) (hr : r < na) (hb : ∀ i, i < na → z.1 i ≤ 134217728) (hR : sd_Rt na z) (hO : sd_One na r z) (hy : sd_YR na z yq yc)
    (K : ∀ yq' : Nat → Int64, (∀ i, i < na → yq' i = lN (z.1 i)) → post (YA, YM, nI na, ym, yv, ye, yp, yd, gS, gD, gP, gK, gI, gC, yq', yc, yf, yt, ys, yb, yw, yl, yg)) :
    ∀ (n j : Nat), na < n + j → j ≤ na → wY_normalize_5 post (nI r) YA YM (nI na) ym yv ye yp yd gS gD gP gK gI gC yq yc yf yt ys yb yw yl yg n (lN (sd_gf r z j)) (nI j) := by
  intro n
  induction n with
  | zero => intro j h1 h2; omega
  | succ n ih =>
    intro j h1 hj2
    refine pk_le na j (fun hj => ?_) (fun hj => ?_)
    · have e : j = na := by omega
      subst e
      rw [sd_gf_1 hO]
      exact br_t (by decide) ⟨j + 1, ya_nm55 hna hb K (j + 1) 0 yq (by omega) (Nat.zero_le _) (fun i hi => (hy i hi).1)⟩
    · have hc : (nI j).toNatClampNeg = j := nI_clamp (by omega)
      have hrr := sd_yc_r (r := r) (hy j hj).2 (fun e => by have := hR j hj e; omega) (by omega)
      refine ⟨vp_in_nI (by omega) (by decide), ?_⟩
      rw [hc, hrr]
      refine br_c (fun hz => ⟨vp_in_nI (by omega) (by decide), ?_⟩) (fun hz => nm_r (nI_1 j) (by
        have h := ih (j + 1) (by omega) (by omega)
        rw [sd_gf_n hz] at h
        exact h))
      rw [(hy j hj).1]
      have h3 := sd_gf_bd (r := r) hb j hj2
      have h4 := hb j hj
      refine ya_gcd (by omega) (by omega) (Nat.gcd_pos_of_pos_right _ (Nat.pos_of_ne_zero hz.1)) (nm_r (nI_1 j) ?_)
      have h := ih (j + 1) (by omega) (by omega)
      rw [sd_gf_y hz] at h
      exact h
theorem ya_a54 {post : Int32 → SY → Prop} {na nc : Nat} {s d p k i0 cp : Nat → Nat} (hna : na ≤ 10) (hnc : nc ≤ 24)
    (hG : sd_Gr na nc s d p k i0 cp gS gD gP gK gI gC)
    (K : ∀ (yq : Nat → Int64) (yc : Nat → Int32), (∀ j, j < na → yq j = lN (sd_Q na nc s d p k j)) → ∃ n104 : Nat, wY_analyze_104 post YA YM (nI na) (nI nc) yv ye yp yd gS gD gP gK gI gC yq yc yf yt ys yb yw yl yg n104 0) :
    ∀ (n r : Nat) (yq : Nat → Int64) (yc : Nat → Int32), na < n + r → r ≤ na → sd_YR na (sd_roots na nc s d p k r) yq yc → wY_analyze_54 post n (nI r) YA YM (nI na) (nI nc) yv ye yp yd gS gD gP gK gI gC yq yc yf yt ys yb yw yl yg := by
  intro n
  induction n with
  | zero => intro r yq yc h1 h2 h3; omega
  | succ n ih =>
    intro r yq yc h1 h2 hy
    have hO := sd_roots_out (p := p) (k := k) (sd_Gr_G hG) r h2
    refine pk_le na r (fun hj => ?_) (fun hj => ?_)
    · have e : r = na := by omega
      subst e
      exact K yq yc (fun j hj => (hy j hj).1)
    · have hc : (nI r).toNatClampNeg = r := nI_clamp (by omega)
      have v10 : vp_in (nI r) 10 := vp_in_nI (by omega) (by decide)
      by_cases h0 : (sd_roots na nc s d p k r).1 r = 0
      · have er : sd_roots na nc s d p k (r + 1) = sd_pass nc s d p k r (na - 1) (sd_st r (sd_roots na nc s d p k r)) := if_pos h0
        obtain ⟨hI, hc1⟩ := sd_st_inv hj hO h0
        have hE := (sd_pass_end (p := p) (k := k) (sd_Gr_G hG) hj hI hc1).2
        have hP := (sd_pass_inv (p := p) (k := k) (sd_Gr_G hG) hj hI (na - 1)).1
        refine ⟨v10, br_t (by rw [hc]; exact sd_yc_m (hy r hj).2 h0) ⟨v10, nm_r (e' := upd yc r (nI r)) (by rw [hc]) ⟨v10, nm_r (e' := vp_updL yq r 1) (by rw [hc]) ⟨na + 1, ?_⟩⟩⟩⟩
        refine ya_sp2 hna hnc hj hG hI (fun yq' yc' hy' => ⟨na + 1, ?_⟩) (na + 1) 0 _ _ (by omega) (Nat.zero_le _) (fun j hj2 => ?_)
        · show vp_updL yq r 1 j = lN ((sd_st r (sd_roots na nc s d p k r)).1 j) ∧ upd yc r (nI r) j = (if (sd_st r (sd_roots na nc s d p k r)).1 j = 0 then -1 else nI ((sd_st r (sd_roots na nc s d p k r)).2 j))
          by_cases e : j = r
          · rw [e, pk_uLs, pk_us, sd_st_r, sd_st_mr]
            exact ⟨rfl, rfl⟩
          · rw [pk_uLn e, pk_un e, sd_st_o e, sd_st_mo e]
            exact hy j hj2
        · rw [hE] at hy'
          refine ya_nm5 hna hj (fun i hi => sd_bd9 hna hP.2.1 hi) hP.2.2.1 hP.2.2.2 hy' (fun yq'' hq => nm_r (nI_1 r) (ih (r + 1) yq'' yc' (by omega) (by omega) ?_)) (na + 1) 0 (by omega) (Nat.zero_le _)
          rw [er]
          exact fun j hj => ⟨hq j hj, (hy' j hj).2⟩
      · have er : sd_roots na nc s d p k (r + 1) = sd_roots na nc s d p k r := if_neg h0
        have hm := hO.2.2.2 r hj h0
        exact ⟨v10, br_f (by rw [hc]; exact sd_yc_n (hy r hj).2 h0 (by omega)) (nm_r (nI_1 r) (ih (r + 1) yq yc (by omega) (by omega) (by rw [er]; exact hy)))⟩
theorem ya_a24 {post : Int32 → SY → Prop} {na nc : Nat} {s d p k i0 cp : Nat → Nat} (hna : na ≤ 10) (hnc : nc ≤ 24)
    (hG : sd_Gr na nc s d p k i0 cp gS gD gP gK gI gC)
    (K : ∀ (yq : Nat → Int64) (yc : Nat → Int32), (∀ j, j < na → yq j = lN (sd_Q na nc s d p k j)) → ∃ n104 : Nat, wY_analyze_104 post YA YM (nI na) (nI nc) yv ye yp yd gS gD gP gK gI gC yq yc yf yt ys yb yw yl yg n104 0) :
    ∀ (n j : Nat) (yq : Nat → Int64) (yc : Nat → Int32), na < n + j → j ≤ na → (∀ i, i < j → yq i = 0 ∧ yc i = -1) → wY_analyze_24 post YA YM (nI na) (nI nc) yv ye yp yd n (nI j) gS gD gP gK gI gC yq yc yf yt ys yb yw yl yg := by
  intro n
  induction n with
  | zero => intro j yq yc h1 h2 h3; omega
  | succ n ih =>
    intro j yq yc h1 h2 hy
    refine pk_le na j (fun hj => ⟨na + 1, ?_⟩) (fun hj => ⟨vp_in_nI (by omega) (by decide), nm_r (e' := upd yc j (-1)) (by rw [nI_clamp (by omega)]) ⟨vp_in_nI (by omega) (by decide), nm_r (e' := vp_updL yq j 0) (by rw [nI_clamp (by omega)]) (nm_r (nI_1 j) (ih (j + 1) _ _ (by omega) (by omega) (fun i hi => ?_)))⟩⟩)
    · exact ya_a54 hna hnc hG K (na + 1) 0 yq yc (by omega) (Nat.zero_le _) (fun i hi => hy i (by omega))
    · by_cases e : i = j
      · rw [e, pk_uLs, pk_us]
        exact ⟨rfl, rfl⟩
      · rw [pk_uLn e, pk_un e]
        exact hy i (by omega)
end
end
section
/-! the component's checks and its schedule -/
def sd_Ar (n : Nat) (f : Nat → Nat) (g : Nat → Int32) : Prop := ∀ c, c < n → g c = nI (f c)
def sd_AL (n : Nat) (f : Nat → Nat) (g : Nat → Int64) : Prop := ∀ c, c < n → g c = lN (f c)
def sd_bal (nc : Nat) (s d p k Q : Nat → Nat) : Prop := ∀ c, c < nc → Q (s c) * p c = Q (d c) * k c
theorem sd_Ar_u {n : Nat} {f : Nat → Nat} {g : Nat → Int32} {c v : Nat} (h : sd_Ar n f g) : sd_Ar n (sd_uN f c v) (upd g c (nI v)) := by
  intro x hx
  by_cases e : x = c
  · rw [e, pk_us, sd_uN_s]
  · rw [pk_un e, sd_uN_o e]
    exact h x hx
/-- f below c, g from there on -/
def sd_mix (c : Nat) (f g : Nat → Nat) : Nat → Nat := fun i => if i < c then f i else g i
theorem sd_mix_lo {c : Nat} {f g : Nat → Nat} {i : Nat} (h : i < c) : sd_mix c f g i = f i := if_pos h
theorem sd_mix_hi {c : Nat} {f g : Nat → Nat} {i : Nat} (h : ¬ i < c) : sd_mix c f g i = g i := if_neg h
theorem sd_mix_s {c : Nat} {f g : Nat → Nat} {i : Nat} (h : i ≠ c) : sd_mix (c + 1) f g i = sd_mix c f g i := by
  by_cases l : i < c
  · rw [sd_mix_lo l, sd_mix_lo (by omega)]
  · rw [sd_mix_hi l, sd_mix_hi (by omega)]
theorem sd_mix_0 {f g : Nat → Nat} {i : Nat} : sd_mix 0 f g i = g i := sd_mix_hi (Nat.not_lt_zero i)
section
variable {XA : Int32} {XM : Int32} {xn : Int32} {xm : Int32} {xv : Int32} {xe : Int32} {xp : Int32} {xd : Int32} {gS : Nat → Int32} {gD : Nat → Int32} {gP : Nat → Int32} {gK : Nat → Int32} {gI : Nat → Int32} {gC : Nat → Int32} {xq : Nat → Int64} {xc : Nat → Int32} {xs : Nat → Int32} {xb : Nat → Int32} {xt : Nat → Int32} {xf : Nat → Int32} {xw : Nat → Int32} {xh : Nat → Int32} {xl : Nat → Int32} {xg : Nat → Int32}
theorem xb_ib2 {post : Int32 → Prop} {na nc : Nat} {s d p k i0 cp Q : Nat → Nat} (hna : na ≤ 10) (hnc : nc ≤ 24) (hG : sd_Gr na nc s d p k i0 cp gS gD gP gK gI gC) (hQ : ∀ j, j < na → Q j ≤ 134217728) (hx : sd_AL na Q xq)
    (K1 : sd_bal nc s d p k Q → post 1) (K0 : ¬ sd_bal nc s d p k Q → post 0) :
    ∀ n c, nc < n + c → c ≤ nc → (∀ i, i < c → Q (s i) * p i = Q (d i) * k i) → wX_isBalanced_2 post XA XM (nI na) (nI nc) xv xe xp xd gS gD gP gK gI gC xq xc xs xb xt xf xw xh xl xg n (nI c) := by
  intro n
  induction n with
  | zero => intro c h1 h2; omega
  | succ n ih =>
    intro c h1 h2 hb
    refine pk_le nc c (fun hj => K1 (fun i hi => hb i (by omega))) (fun hj => ?_)
    have hc : (nI c).toNatClampNeg = c := nI_clamp (by omega)
    obtain ⟨⟨eS, eD, eP, eK, _, _⟩, ⟨g1, g2, g3, g4, g5, g6⟩, _, _⟩ := hG c hj
    have v24 : vp_in (nI c) 24 := vp_in_nI (by omega) (by decide)
    have vs : vp_in (nI (s c)) 10 := vp_in_nI (by omega) (by decide)
    have vd : vp_in (nI (d c)) 10 := vp_in_nI (by omega) (by decide)
    have bs := hQ (s c) g1
    have bd := hQ (d c) g2
    have m1 : Q (s c) * p c ≤ Q (s c) * 8 := Nat.mul_le_mul_left _ g4
    have m2 : Q (d c) * k c ≤ Q (d c) * 8 := Nat.mul_le_mul_left _ g6
    have e1 : ((xq (gS (nI c).toNatClampNeg).toNatClampNeg) * ((gP (nI c).toNatClampNeg).toInt64) = (xq (gD (nI c).toNatClampNeg).toNatClampNeg) * ((gK (nI c).toNatClampNeg).toInt64)) ↔ Q (s c) * p c = Q (d c) * k c := by
      rw [hc, eS, eD, eP, eK, nI_clamp (n := s c) (by omega), nI_clamp (n := d c) (by omega), hx _ g1, hx _ g2, nI_l (n := p c) (by omega), nI_l (n := k c) (by omega), lN_mul, lN_mul, pk_lEQ (by omega) (by omega)]
    refine ⟨v24, by rw [hc, eS]; exact vs, v24, v24, by rw [hc, eD]; exact vd, v24, br_c (fun h => nm_r (nI_1 c) (ih (c + 1) (by omega) (by omega) (fun i hi => ?_))) (fun h => K0 (fun q => h (e1.mpr (q c hj))))⟩
    by_cases e : i = c
    · rw [e]
      exact e1.mp h
    · exact hb i (by omega)
theorem xb_ib {post : Int32 → Prop} {na nc : Nat} {s d p k i0 cp Q : Nat → Nat} (hna : na ≤ 10) (hnc : nc ≤ 24) (hG : sd_Gr na nc s d p k i0 cp gS gD gP gK gI gC) (hQ : ∀ j, j < na → Q j ≤ 134217728) (hx : sd_AL na Q xq)
    (K1 : sd_bal nc s d p k Q → post 1) (K0 : ¬ sd_bal nc s d p k Q → post 0) : wpX_isBalanced post (XA, XM, nI na, nI nc, xv, xe, xp, xd, gS, gD, gP, gK, gI, gC, xq, xc, xs, xb, xt, xf, xw, xh, xl, xg) :=
  ⟨nc + 1, xb_ib2 hna hnc hG hQ hx K1 K0 (nc + 1) 0 (by omega) (Nat.zero_le _) (fun i hi => absurd hi (Nat.not_lt_zero i))⟩
theorem xb_to4 {post : Int64 → Prop} {na : Nat} {Q : Nat → Nat} (hna : na ≤ 10) (hx : sd_AL na Q xq) (K : post (lN (sd_sum Q na))) :
    ∀ n j, na < n + j → j ≤ na → wX_totalRepetitions_4 post XA XM (nI na) xm xv xe xp xd gS gD gP gK gI gC xq xc xs xb xt xf xw xh xl xg n (lN (sd_sum Q j)) (nI j) := by
  intro n
  induction n with
  | zero => intro j h1 h2; omega
  | succ n ih =>
    intro j h1 h2
    refine pk_le na j (fun hj => ?_) (fun hj => ⟨vp_in_nI (by omega) (by decide), nm_r (e' := lN (sd_sum Q (j + 1))) ?_ (nm_r (nI_1 j) (ih (j + 1) (by omega) (by omega)))⟩)
    · have e : j = na := by omega
      subst e
      exact K
    · rw [nI_clamp (by omega), hx j hj, lN_add]
      rfl
theorem xb_to {post : Int64 → Prop} {na : Nat} {Q : Nat → Nat} (hna : na ≤ 10) (hx : sd_AL na Q xq) (K : post (lN (sd_sum Q na))) : wpX_totalRepetitions post (XA, XM, nI na, xm, xv, xe, xp, xd, gS, gD, gP, gK, gI, gC, xq, xc, xs, xb, xt, xf, xw, xh, xl, xg) :=
  ⟨na + 1, xb_to4 hna hx K (na + 1) 0 (by omega) (Nat.zero_le _)⟩
theorem sd_sumQ {na : Nat} {Q : Nat → Nat} (hna : na ≤ 10) (hQ : ∀ j, j < na → Q j ≤ 134217728) : sd_sum Q na ≤ 1342177280 := by
  have h1 := sd_sum_bd na hQ
  omega
theorem xb_jr {post : Int32 → Prop} {na nc : Nat} {s d p k i0 cp Q : Nat → Nat} (hna : na ≤ 10) (hnc : nc ≤ 24) (hG : sd_Gr na nc s d p k i0 cp gS gD gP gK gI gC) (hQ : ∀ j, j < na → Q j ≤ 134217728) (hx : sd_AL na Q xq)
    (K2 : na = 0 → post 2) (K3 : 0 < na → ¬ sd_bal nc s d p k Q → post 3) (K4 : 0 < na → sd_bal nc s d p k Q → 256 < sd_sum Q na → post 4) (K1 : 0 < na → sd_bal nc s d p k Q → sd_sum Q na ≤ 256 → post 1) :
    wpX_judgeRepetitions post (XA, XM, nI na, nI nc, xv, xe, xp, xd, gS, gD, gP, gK, gI, gC, xq, xc, xs, xb, xt, xf, xw, xh, xl, xg) := by
  have hs := sd_sumQ hna hQ
  refine pk_eq na 0 K2 (fun h => xb_ib hna hnc hG hQ hx (fun hb => br_f sd_n10 (xb_to hna hx ?_)) (fun hb => br_t rfl (K3 (by omega) hb)))
  have e : (lN (sd_sum Q na) ≤ 256) ↔ sd_sum Q na ≤ 256 := pk_lLE (b := 256) (by omega) (by decide)
  rw [e]
  exact br_c (fun q => K1 (by omega) hb q) (fun q => K4 (by omega) hb (by omega))
theorem xb_en37 {post J2 : Int32 → Prop} {na nc a c : Nat} {s d p k i0 cp T : Nat → Nat} (hna : na ≤ 10) (hnc : nc ≤ 24) (hG : sd_Gr na nc s d p k i0 cp gS gD gP gK gI gC) (ha : a < na) (hj : c < nc) (ht : xt c = nI (T c)) (hT : T c < 2 ^ 20)
    (K1 : (s c = a → cp c ≠ 0 → T c + p c ≤ cp c) → J2 (nI (c + 1))) (K0 : ¬ (s c = a → cp c ≠ 0 → T c + p c ≤ cp c) → post 0) : wX_isEnabled_37 post J2 (nI a) (nI c) XA XM (nI na) (nI nc) xv xe xp xd gS gD gP gK gI gC xq xc xs xb xt xf xw xh xl xg := by
  have hc : (nI c).toNatClampNeg = c := nI_clamp (by omega)
  obtain ⟨⟨eS, eD, eP, eK, _, eC⟩, ⟨g1, g2, g3, g4, g5, g6⟩, _, g8⟩ := hG c hj
  have v24 : vp_in (nI c) 24 := vp_in_nI (by omega) (by decide)
  refine ⟨v24, ?_⟩
  rw [hc, eS, nI_eq (by omega) (by omega)]
  refine br_c (fun h => ⟨v24, ?_⟩) (fun h => nm_r (nI_1 c) (K1 (fun q => absurd q h)))
  rw [eC, sd_eq0 (by omega)]
  refine br_c (fun h2 => nm_r (nI_1 c) (K1 (fun _ q => absurd h2 q))) (fun h2 => ⟨v24, v24, v24, ?_⟩)
  rw [ht, eP, nI_add, nI_leI (by omega) (by omega)]
  exact br_c (fun h3 => nm_r (nI_1 c) (K1 (fun _ _ => h3))) (fun h3 => K0 (fun q => h3 (q h h2)))
theorem xb_en2 {post : Int32 → Prop} {na nc a : Nat} {s d p k i0 cp T : Nat → Nat} (hna : na ≤ 10) (hnc : nc ≤ 24) (hG : sd_Gr na nc s d p k i0 cp gS gD gP gK gI gC) (ha : a < na) (ht : sd_Ar nc T xt) (hT : ∀ c, c < nc → T c < 2 ^ 20)
    (K1 : sd_en nc s d p k cp T a → post 1) (K0 : ¬ sd_en nc s d p k cp T a → post 0) :
    ∀ n c, nc < n + c → c ≤ nc → (∀ i, i < c → (d i = a → k i ≤ T i) ∧ (s i = a → cp i ≠ 0 → T i + p i ≤ cp i)) → wX_isEnabled_2 post (nI a) XA XM (nI na) (nI nc) xv xe xp xd gS gD gP gK gI gC xq xc xs xb xt xf xw xh xl xg n (nI c) := by
  intro n
  induction n with
  | zero => intro c h1 h2; omega
  | succ n ih =>
    intro c h1 h2 hb
    refine pk_le nc c (fun hj => K1 (fun i hi => hb i (by omega))) (fun hj => ?_)
    have hc : (nI c).toNatClampNeg = c := nI_clamp (by omega)
    obtain ⟨⟨eS, eD, eP, eK, _, eC⟩, ⟨g1, g2, g3, g4, g5, g6⟩, _, g8⟩ := hG c hj
    have v24 : vp_in (nI c) 24 := vp_in_nI (by omega) (by decide)
    have hTc := hT c hj
    have nx : (d c = a → k c ≤ T c) → wX_isEnabled_37 post (wX_isEnabled_2 post (nI a) XA XM (nI na) (nI nc) xv xe xp xd gS gD gP gK gI gC xq xc xs xb xt xf xw xh xl xg n) (nI a) (nI c) XA XM (nI na) (nI nc) xv xe xp xd gS gD gP gK gI gC xq xc xs xb xt xf xw xh xl xg := fun h => by
      refine xb_en37 hna hnc hG ha hj (ht c hj) hTc (fun h3 => ih (c + 1) (by omega) (by omega) (fun i hi => ?_)) (fun h3 => K0 (fun q => h3 (q c hj).2))
      by_cases e : i = c
      · rw [e]
        exact ⟨h, h3⟩
      · exact hb i (by omega)
    have e1 : gD (nI c).toNatClampNeg = nI a ↔ d c = a := by rw [hc, eD, nI_eq (by omega) (by omega)]
    have e2 : gK (nI c).toNatClampNeg ≤ xt (nI c).toNatClampNeg ↔ k c ≤ T c := by rw [hc, eK, ht c hj, nI_leI (by omega) (by omega)]
    exact ⟨v24, br_c (fun h => ⟨v24, v24, br_c (fun h3 => nx (fun _ => e2.mp h3)) (fun h3 => K0 (fun q => h3 (e2.mpr ((q c hj).1 (e1.mp h)))))⟩) (fun h => nx (fun q => absurd (e1.mpr q) h))⟩
theorem xb_en {post : Int32 → Prop} {na nc a : Nat} {s d p k i0 cp T : Nat → Nat} (hna : na ≤ 10) (hnc : nc ≤ 24) (hG : sd_Gr na nc s d p k i0 cp gS gD gP gK gI gC) (ha : a < na) (ht : sd_Ar nc T xt) (hT : ∀ c, c < nc → T c < 2 ^ 20)
    (K1 : sd_en nc s d p k cp T a → post 1) (K0 : ¬ sd_en nc s d p k cp T a → post 0) : wpX_isEnabled post (XA, XM, nI na, nI nc, xv, xe, xp, xd, gS, gD, gP, gK, gI, gC, xq, xc, xs, xb, xt, xf, xw, xh, xl, xg) (nI a) :=
  ⟨nc + 1, xb_en2 hna hnc hG ha ht hT K1 K0 (nc + 1) 0 (by omega) (Nat.zero_le _) (fun i hi => absurd hi (Nat.not_lt_zero i))⟩
theorem xb_lr2 {post : Int32 → Prop} {na nc : Nat} {s d p k i0 cp Q F T : Nat → Nat} (hna : na ≤ 10) (hnc : nc ≤ 24) (hG : sd_Gr na nc s d p k i0 cp gS gD gP gK gI gC) (hx : sd_AL na Q xq) (hQ : ∀ j, j < na → Q j ≤ 134217728) (hf : sd_Ar na F xf) (hF : ∀ j, j < na → F j ≤ Q j) (ht : sd_Ar nc T xt) (hT : ∀ c, c < nc → T c < 2 ^ 20)
    (K1 : sd_pick na nc s d p k cp Q F T < na → post (nI (sd_pick na nc s d p k cp Q F T))) (K0 : ¬ sd_pick na nc s d p k cp Q F T < na → post (-1)) :
    ∀ n a, na < n + a → a ≤ na → (∀ j, j < a → ¬ (F j < Q j ∧ sd_en nc s d p k cp T j)) → wX_leastReadyActor_2 post XA XM (nI na) (nI nc) xv xe xp xd gS gD gP gK gI gC xq xc xs xb xt xf xw xh xl xg n (nI a) := by
  intro n
  induction n with
  | zero => intro a h1 h2; omega
  | succ n ih =>
    intro a h1 h2 hb
    refine pk_le na a (fun hj => K0 ?_) (fun hj => ?_)
    · have e : a = na := by omega
      subst e
      have e2 : sd_pick a nc s d p k cp Q F T = a := sd_first_none hb
      omega
    · have hc : (nI a).toNatClampNeg = a := nI_clamp (by omega)
      have v10 : vp_in (nI a) 10 := vp_in_nI (by omega) (by decide)
      have hQa := hQ a hj
      have hFa := hF a hj
      have nx : ¬ (F a < Q a ∧ sd_en nc s d p k cp T a) → wX_leastReadyActor_2 post XA XM (nI na) (nI nc) xv xe xp xd gS gD gP gK gI gC xq xc xs xb xt xf xw xh xl xg n (nI (a + 1)) := fun h => ih (a + 1) (by omega) (by omega) (fun j hj2 => by
        by_cases e : j = a
        · rw [e]
          exact h
        · exact hb j (by omega))
      have e1 : xq (nI a).toNatClampNeg ≤ (xf (nI a).toNatClampNeg).toInt64 ↔ Q a ≤ F a := by rw [hc, hx a hj, hf a hj, nI_l (by omega), pk_lLE (by omega) (by omega)]
      refine ⟨v10, v10, br_c (fun h => nm_r (nI_1 a) (nx (fun q => by have := e1.mp h; omega))) (fun h => xb_en hna hnc hG hj ht hT (fun h3 => br_f sd_n10 ?_) (fun h3 => br_t rfl (nm_r (nI_1 a) (nx (fun q => h3 q.2)))))⟩
      have e2 : sd_pick na nc s d p k cp Q F T = a := sd_first_at hj ⟨Nat.lt_of_not_le (fun q => h (e1.mpr q)), h3⟩ hb
      rw [e2] at K1
      exact K1 hj
theorem xb_lr {post : Int32 → Prop} {na nc : Nat} {s d p k i0 cp Q F T : Nat → Nat} (hna : na ≤ 10) (hnc : nc ≤ 24) (hG : sd_Gr na nc s d p k i0 cp gS gD gP gK gI gC) (hx : sd_AL na Q xq) (hQ : ∀ j, j < na → Q j ≤ 134217728) (hf : sd_Ar na F xf) (hF : ∀ j, j < na → F j ≤ Q j) (ht : sd_Ar nc T xt) (hT : ∀ c, c < nc → T c < 2 ^ 20)
    (K1 : sd_pick na nc s d p k cp Q F T < na → post (nI (sd_pick na nc s d p k cp Q F T))) (K0 : ¬ sd_pick na nc s d p k cp Q F T < na → post (-1)) : wpX_leastReadyActor post (XA, XM, nI na, nI nc, xv, xe, xp, xd, gS, gD, gP, gK, gI, gC, xq, xc, xs, xb, xt, xf, xw, xh, xl, xg) :=
  ⟨na + 1, xb_lr2 hna hnc hG hx hQ hf hF ht hT K1 K0 (na + 1) 0 (by omega) (Nat.zero_le _) (fun i hi => absurd hi (Nat.not_lt_zero i))⟩
--SPLIT
theorem xb_pf70 {post : SX → Prop} {J12 : Int32 → (Nat → Int32) → (Nat → Int32) → (Nat → Int32) → (Nat → Int32) → (Nat → Int32) → (Nat → Int32) → (Nat → Int64) → (Nat → Int32) → (Nat → Int32) → (Nat → Int32) → (Nat → Int32) → (Nat → Int32) → (Nat → Int32) → (Nat → Int32) → (Nat → Int32) → (Nat → Int32) → Prop} {x1 : Int32} {c t b : Nat} (hj : c < 24) (ht : xt c = nI t) (hb : xb c = nI b) (ht2 : t < 2 ^ 20) (hb2 : b < 2 ^ 20)
    (K : ∀ xb' : Nat → Int32, xb' c = nI (if b < t then t else b) → (∀ i, i ≠ c → xb' i = xb i) → J12 (nI (c + 1)) gS gD gP gK gI gC xq xc xs xb' xt xf xw xh xl xg) : wX_planFiring_70 post J12 x1 (nI c) XA XM xn xm xv xe xp xd gS gD gP gK gI gC xq xc xs xb xt xf xw xh xl xg := by
  have hc : (nI c).toNatClampNeg = c := nI_clamp (by omega)
  have v24 : vp_in (nI c) 24 := vp_in_nI (by omega) (by decide)
  refine ⟨v24, v24, ?_⟩
  rw [hc, ht, hb]
  exact pk_le t b (fun h => nm_r (nI_1 c) (K xb (by rw [if_neg (by omega)]; exact hb) (fun _ _ => rfl))) (fun h => ⟨v24, v24, nm_e (nm_r (nI_1 c) (K _ (by rw [if_pos h, pk_us]) (fun i hi => pk_un hi)))⟩)
theorem xb_pf45 {post : SX → Prop} {J12 : Int32 → (Nat → Int32) → (Nat → Int32) → (Nat → Int32) → (Nat → Int32) → (Nat → Int32) → (Nat → Int32) → (Nat → Int64) → (Nat → Int32) → (Nat → Int32) → (Nat → Int32) → (Nat → Int32) → (Nat → Int32) → (Nat → Int32) → (Nat → Int32) → (Nat → Int32) → (Nat → Int32) → Prop} {na nc a c t b : Nat} {s d p k i0 cp : Nat → Nat} (hna : na ≤ 10) (hnc : nc ≤ 24) (hG : sd_Gr na nc s d p k i0 cp gS gD gP gK gI gC) (ha : a < na) (hj : c < nc) (ht : xt c = nI t) (hb : xb c = nI b) (ht2 : t < 2 ^ 19) (hb2 : b < 2 ^ 20)
    (K : ∀ xt' xb' : Nat → Int32, xt' c = nI (t + (if s c = a then p c else 0)) → xb' c = nI (if b < t + (if s c = a then p c else 0) then t + (if s c = a then p c else 0) else b) → (∀ i, i ≠ c → xt' i = xt i ∧ xb' i = xb i) → J12 (nI (c + 1)) gS gD gP gK gI gC xq xc xs xb' xt' xf xw xh xl xg) : wX_planFiring_45 post J12 (nI a) (nI c) XA XM (nI na) (nI nc) xv xe xp xd gS gD gP gK gI gC xq xc xs xb xt xf xw xh xl xg := by
  have hc : (nI c).toNatClampNeg = c := nI_clamp (by omega)
  obtain ⟨⟨eS, eD, eP, eK, _, eC⟩, ⟨g1, g2, g3, g4, g5, g6⟩, _, g8⟩ := hG c hj
  have v24 : vp_in (nI c) 24 := vp_in_nI (by omega) (by decide)
  refine ⟨v24, ?_⟩
  rw [hc, eS, nI_eq (by omega) (by omega)]
  refine br_c (fun h => ⟨v24, v24, v24, nm_r (e' := upd xt c (nI (t + p c))) (by rw [ht, eP, nI_add]) ?_⟩) (fun h => ?_)
  · rw [if_pos h] at K
    exact xb_pf70 (by omega) pk_us hb (by omega) hb2 (fun xb' h1 h2 => K _ xb' pk_us h1 (fun i hi => ⟨pk_un hi, h2 i hi⟩))
  · rw [if_neg h] at K
    exact xb_pf70 (by omega) ht hb (by omega) hb2 (fun xb' h1 h2 => K xt xb' ht h1 (fun i hi => ⟨rfl, h2 i hi⟩))
theorem xb_pf12 {post : SX → Prop} {na nc a : Nat} {s d p k i0 cp T B : Nat → Nat} (hna : na ≤ 10) (hnc : nc ≤ 24) (hG : sd_Gr na nc s d p k i0 cp gS gD gP gK gI gC) (ha : a < na) (he : sd_en nc s d p k cp T a) (hT : ∀ c, c < nc → T c < 2 ^ 18) (hB : ∀ c, c < nc → B c < 2 ^ 20)
    (K : ∀ xt xb : Nat → Int32, sd_Ar nc (sd_fire s d p k a T) xt → sd_Ar nc (sd_fB (sd_fire s d p k a T) B) xb → post (XA, XM, nI na, nI nc, xv, xe, xp, xd, gS, gD, gP, gK, gI, gC, xq, xc, xs, xb, xt, xf, xw, xh, xl, xg)) :
    ∀ (n c : Nat) (xt xb : Nat → Int32), nc < n + c → c ≤ nc → sd_Ar nc (sd_mix c (sd_fire s d p k a T) T) xt → sd_Ar nc (sd_mix c (sd_fB (sd_fire s d p k a T) B) B) xb → wX_planFiring_12 post (nI a) XA XM (nI na) (nI nc) xv xe xp xd n (nI c) gS gD gP gK gI gC xq xc xs xb xt xf xw xh xl xg := by
  intro n
  induction n with
  | zero => intro c xt xb h1 h2; omega
  | succ n ih =>
    intro c xt xb h1 h2 ht hb
    refine pk_le nc c (fun hj => K xt xb (fun i hi => ?_) (fun i hi => ?_)) (fun hj => ?_)
    · have := ht i hi
      rw [sd_mix_lo (by omega)] at this
      exact this
    · have := hb i hi
      rw [sd_mix_lo (by omega)] at this
      exact this
    · have hc : (nI c).toNatClampNeg = c := nI_clamp (by omega)
      obtain ⟨⟨eS, eD, eP, eK, _, eC⟩, ⟨g1, g2, g3, g4, g5, g6⟩, _, g8⟩ := hG c hj
      have v24 : vp_in (nI c) 24 := vp_in_nI (by omega) (by decide)
      have htc : xt c = nI (T c) := by
        have := ht c hj
        rw [sd_mix_hi (Nat.lt_irrefl c)] at this
        exact this
      have hbc : xb c = nI (B c) := by
        have := hb c hj
        rw [sd_mix_hi (Nat.lt_irrefl c)] at this
        exact this
      have hTc := hT c hj
      have hBc := hB c hj
      have nx : ∀ (t : Nat) (xt1 : Nat → Int32), t + (if s c = a then p c else 0) = sd_fire s d p k a T c → t < 2 ^ 19 → xt1 c = nI t → (∀ i, i ≠ c → xt1 i = xt i) → wX_planFiring_45 post (wX_planFiring_12 post (nI a) XA XM (nI na) (nI nc) xv xe xp xd n) (nI a) (nI c) XA XM (nI na) (nI nc) xv xe xp xd gS gD gP gK gI gC xq xc xs xb xt1 xf xw xh xl xg := fun t xt1 e1 e2 e3 e4 => by
        refine xb_pf45 hna hnc hG ha hj e3 hbc e2 hBc (fun xt' xb' k1 k2 k3 => ih (c + 1) xt' xb' (by omega) (by omega) (fun i hi => ?_) (fun i hi => ?_))
        · by_cases e : i = c
          · rw [e, k1, e1, sd_mix_lo (Nat.lt_succ_self c)]
          · rw [(k3 i e).1, e4 i e, ht i hi, sd_mix_s e]
        · by_cases e : i = c
          · rw [e, k2, e1, sd_mix_lo (Nat.lt_succ_self c)]
            rfl
          · rw [(k3 i e).2, hb i hi, sd_mix_s e]
      refine ⟨v24, ?_⟩
      rw [hc, eD, nI_eq (by omega) (by omega)]
      refine br_c (fun h => ⟨v24, v24, v24, nm_r (e' := upd xt c (nI (T c - k c))) (by rw [htc, eK, pk_sub ((he c hj).1 h)]) (nx (T c - k c) _ (by unfold sd_fire; rw [if_pos h]) (by omega) pk_us (fun i hi => pk_un hi))⟩) (fun h => nx (T c) xt (by unfold sd_fire; rw [if_neg h]; rfl) (by omega) htc (fun _ _ => rfl))
theorem xb_pf {post : SX → Prop} {na nc a : Nat} {s d p k i0 cp F T B : Nat → Nat} (hna : na ≤ 10) (hnc : nc ≤ 24) (hG : sd_Gr na nc s d p k i0 cp gS gD gP gK gI gC) (ha : a < na) (he : sd_en nc s d p k cp T a) (hT : ∀ c, c < nc → T c < 2 ^ 18) (hB : ∀ c, c < nc → B c < 2 ^ 20) (hf : sd_Ar na F xf) (ht : sd_Ar nc T xt) (hb : sd_Ar nc B xb)
    (K : ∀ xf xt xb : Nat → Int32, sd_Ar na (sd_fF a F) xf → sd_Ar nc (sd_fire s d p k a T) xt → sd_Ar nc (sd_fB (sd_fire s d p k a T) B) xb → post (XA, XM, nI na, nI nc, xv, xe, xp, xd, gS, gD, gP, gK, gI, gC, xq, xc, xs, xb, xt, xf, xw, xh, xl, xg)) : wpX_planFiring post (XA, XM, nI na, nI nc, xv, xe, xp, xd, gS, gD, gP, gK, gI, gC, xq, xc, xs, xb, xt, xf, xw, xh, xl, xg) (nI a) := by
  have hc : (nI a).toNatClampNeg = a := nI_clamp (by omega)
  have v10 : vp_in (nI a) 10 := vp_in_nI (by omega) (by decide)
  refine ⟨v10, v10, nm_r (e' := upd xf a (nI (F a + 1))) (by rw [hc, hf a ha, nI_1]) ⟨nc + 1, ?_⟩⟩
  refine xb_pf12 hna hnc hG ha he hT hB (fun xt' xb' h1 h2 => K _ xt' xb' (fun i hi => ?_) h1 h2) (nc + 1) 0 xt xb (by omega) (Nat.zero_le _) (fun i hi => ?_) (fun i hi => ?_)
  · by_cases e : i = a
    · rw [e, pk_us, sd_fF_s]
    · rw [pk_un e, sd_fF_o e]
      exact hf i hi
  · rw [sd_mix_0]
    exact ht i hi
  · rw [sd_mix_0]
    exact hb i hi
end
end
section
/-! the component builds its schedule -/
theorem sd_neg1 : ¬ (0 : Int32) ≤ -1 := by decide
theorem sd_BT {na nc : Nat} {s d p k cp i0 Q : Nat → Nat} {i : Nat} (hi : i ≤ 256) (I : sd_I na nc s d p k i0 Q i (sd_sim na nc s d p k cp i0 Q i)) : ∀ c, c < nc → (sd_sim na nc s d p k cp i0 Q i).2.1 c ≤ 2080 ∧ (sd_sim na nc s d p k cp i0 Q i).2.2 c ≤ 2080 := fun c hc => by
  have := I.2.2.2 c hc
  omega
section
variable {XA : Int32} {XM : Int32} {xn : Int32} {xm : Int32} {xv : Int32} {xe : Int32} {xp : Int32} {xd : Int32} {gS : Nat → Int32} {gD : Nat → Int32} {gP : Nat → Int32} {gK : Nat → Int32} {gI : Nat → Int32} {gC : Nat → Int32} {xq : Nat → Int64} {xc : Nat → Int32} {xs : Nat → Int32} {xb : Nat → Int32} {xt : Nat → Int32} {xf : Nat → Int32} {xw : Nat → Int32} {xh : Nat → Int32} {xl : Nat → Int32} {xg : Nat → Int32}
theorem xb_bs70 {post : SX → Prop} {na nc L : Nat} {s d p k i0 cp Q : Nat → Nat} (hna : na ≤ 10) (hnc : nc ≤ 24) (hG : sd_Gr na nc s d p k i0 cp gS gD gP gK gI gC) (hx : sd_AL na Q xq) (hQ : ∀ j, j < na → Q j ≤ 134217728) (hL : L ≤ 256) (hg : ∀ j, j < L → sd_sch na nc s d p k cp i0 Q j < na) (hn : ¬ sd_sch na nc s d p k cp i0 Q L < na)
    (K : ∀ xs xb xt xf : Nat → Int32, (∀ j, j < L → xs j = nI (sd_sch na nc s d p k cp i0 Q j)) → sd_Ar nc (sd_sim na nc s d p k cp i0 Q L).2.2 xb → post (XA, XM, nI na, nI nc, xv, nI L, xp, xd, gS, gD, gP, gK, gI, gC, xq, xc, xs, xb, xt, xf, xw, xh, xl, xg)) :
    ∀ (n i : Nat) (xs xb xt xf : Nat → Int32), 256 < n + i → i ≤ L → (∀ j, j < i → xs j = nI (sd_sch na nc s d p k cp i0 Q j)) → sd_Ar nc (sd_sim na nc s d p k cp i0 Q i).2.2 xb → sd_Ar nc (sd_sim na nc s d p k cp i0 Q i).2.1 xt → sd_Ar na (sd_sim na nc s d p k cp i0 Q i).1 xf → wX_buildSchedule_70 post n (nI i) XA XM (nI na) (nI nc) xv (nI i) xp xd gS gD gP gK gI gC xq xc xs xb xt xf xw xh xl xg := by
  intro n
  induction n with
  | zero => intro i xs xb xt xf h1 h2; omega
  | succ n ih =>
    intro i xs xb xt xf h1 h2 hs hb ht hf
    have G := sd_Gr_G hG
    have I := sd_I_sim (cp := cp) (Q := Q) G (sd_Gr_32 hG) i (fun j hj => hg j (by omega))
    have bt := sd_BT (by omega) I
    refine pk_le 256 i (fun hj => ?_) (fun hj => xb_lr hna hnc hG hx hQ hf I.1 ht (fun c hc => by have := bt c hc; omega) (fun hp => ?_) (fun hp => br_f sd_neg1 ?_))
    · have e : i = L := by omega
      subst e
      exact K xs xb xt xf hs hb
    · have hp' : sd_sch na nc s d p k cp i0 Q i < na := hp
      have hil : i < L := by
        by_cases e : i = L
        · rw [e] at hp'
          exact absurd hp' hn
        · omega
      refine br_t (nI_pos' (by omega)) ⟨vp_in_nI (by omega) (by decide), nm_r (e' := upd xs i (nI (sd_sch na nc s d p k cp i0 Q i))) (by rw [nI_clamp (by omega)]; rfl) (nm_r (nI_1 i) ?_)⟩
      exact xb_pf hna hnc hG hp (sd_sch_rdy hp').2 (fun c hc => by have := bt c hc; omega) (fun c hc => by have := bt c hc; omega) hf ht hb (fun xf' xt' xb' kf kt kb => nm_r (nI_1 i) (ih (i + 1) _ xb' xt' xf' (by omega) (by omega) (fun j hj => by
        by_cases e : j = i
        · rw [e, pk_us]
        · rw [pk_un e]
          exact hs j (by omega)) kb kt kf))
    · have e : i = L := by
        by_cases e : i < L
        · exact absurd (hg i e) hp
        · omega
      subst e
      exact K xs xb xt xf hs hb
theorem xb_bs30 {post : SX → Prop} {na nc : Nat} {s d p k i0 cp : Nat → Nat} (hna : na ≤ 10) (hnc : nc ≤ 24) (hG : sd_Gr na nc s d p k i0 cp gS gD gP gK gI gC)
    (K : ∀ xb xt : Nat → Int32, sd_Ar nc i0 xb → sd_Ar nc i0 xt → ∃ n70 : Nat, wX_buildSchedule_70 post n70 0 XA XM (nI na) (nI nc) xv xe xp xd gS gD gP gK gI gC xq xc xs xb xt xf xw xh xl xg) :
    ∀ (n c : Nat) (xb xt : Nat → Int32), nc < n + c → c ≤ nc → sd_Ar c i0 xb → sd_Ar c i0 xt → wX_buildSchedule_30 post XA XM (nI na) (nI nc) xv xe xp xd n (nI c) gS gD gP gK gI gC xq xc xs xb xt xf xw xh xl xg := by
  intro n
  induction n with
  | zero => intro c xb xt h1 h2; omega
  | succ n ih =>
    intro c xb xt h1 h2 hb ht
    refine pk_le nc c (fun hj => ?_) (fun hj => ?_)
    · have e : c = nc := by omega
      subst e
      exact K xb xt hb ht
    · have hc : (nI c).toNatClampNeg = c := nI_clamp (by omega)
      have v24 : vp_in (nI c) 24 := vp_in_nI (by omega) (by decide)
      have eI := (hG c hj).1.2.2.2.2.1
      have up : ∀ x : Nat → Int32, sd_Ar c i0 x → sd_Ar (c + 1) i0 (upd x c (nI (i0 c))) := fun x h i hi => by
        by_cases e : i = c
        · rw [e, pk_us]
        · rw [pk_un e]
          exact h i (by omega)
      exact ⟨v24, v24, nm_r (e' := upd xt c (nI (i0 c))) (by rw [hc, eI]) ⟨v24, v24, nm_r (e' := upd xb c (nI (i0 c))) (by rw [hc, eI]) (nm_r (nI_1 c) (ih (c + 1) _ _ (by omega) (by omega) (up xb hb) (up xt ht)))⟩⟩
theorem xb_bs7 {post : SX → Prop} {na nc : Nat} (hna : na ≤ 10)
    (K : ∀ xf : Nat → Int32, sd_Ar na (fun _ => 0) xf → ∃ n30 : Nat, wX_buildSchedule_30 post XA XM (nI na) (nI nc) xv xe xp xd n30 0 gS gD gP gK gI gC xq xc xs xb xt xf xw xh xl xg) :
    ∀ (n j : Nat) (xf : Nat → Int32), na < n + j → j ≤ na → sd_Ar j (fun _ => 0) xf → wX_buildSchedule_7 post XA XM (nI na) (nI nc) xv xe xp xd n (nI j) gS gD gP gK gI gC xq xc xs xb xt xf xw xh xl xg := by
  intro n
  induction n with
  | zero => intro j xf h1 h2; omega
  | succ n ih =>
    intro j xf h1 h2 hf
    refine pk_le na j (fun hj => ?_) (fun hj => ⟨vp_in_nI (by omega) (by decide), nm_r (e' := upd xf j 0) (by rw [nI_clamp (by omega)]) (nm_r (nI_1 j) (ih (j + 1) _ (by omega) (by omega) (fun i hi => ?_)))⟩)
    · have e : j = na := by omega
      subst e
      exact K xf hf
    · by_cases e : i = j
      · rw [e, pk_us]
        rfl
      · rw [pk_un e]
        exact hf i (by omega)
theorem xb_bs {post : SX → Prop} {na nc L : Nat} {s d p k i0 cp Q : Nat → Nat} (hna : na ≤ 10) (hnc : nc ≤ 24) (hG : sd_Gr na nc s d p k i0 cp gS gD gP gK gI gC) (hx : sd_AL na Q xq) (hQ : ∀ j, j < na → Q j ≤ 134217728) (hL : L ≤ 256) (hg : ∀ j, j < L → sd_sch na nc s d p k cp i0 Q j < na) (hn : ¬ sd_sch na nc s d p k cp i0 Q L < na)
    (K : ∀ xs xb xt xf : Nat → Int32, (∀ j, j < L → xs j = nI (sd_sch na nc s d p k cp i0 Q j)) → sd_Ar nc (sd_sim na nc s d p k cp i0 Q L).2.2 xb → post (XA, XM, nI na, nI nc, xv, nI L, xp, xd, gS, gD, gP, gK, gI, gC, xq, xc, xs, xb, xt, xf, xw, xh, xl, xg)) : wpX_buildSchedule post (XA, XM, nI na, nI nc, xv, xe, xp, xd, gS, gD, gP, gK, gI, gC, xq, xc, xs, xb, xt, xf, xw, xh, xl, xg) := by
  refine ⟨na + 1, xb_bs7 hna (fun xf hf => ⟨nc + 1, ?_⟩) (na + 1) 0 xf (by omega) (Nat.zero_le _) (fun i hi => absurd hi (Nat.not_lt_zero i))⟩
  exact xb_bs30 hna hnc hG (fun xb xt hb ht => ⟨257, xb_bs70 hna hnc hG hx hQ hL hg hn K 257 0 xs xb xt xf (by omega) (Nat.zero_le _) (fun i hi => absurd hi (Nat.not_lt_zero i)) hb ht hf⟩) (nc + 1) 0 xb xt (by omega) (Nat.zero_le _) (fun i hi => absurd hi (Nat.not_lt_zero i)) (fun i hi => absurd hi (Nat.not_lt_zero i))
theorem xb_js19 {post : Int32 → Prop} {nc : Nat} {B : Nat → Nat} (hnc : nc ≤ 24) (hb : sd_Ar nc B xb) (hB : ∀ c, c < nc → B c ≤ 2080) (K1 : sd_sum B nc ≤ 512 → post 1) (K6 : 512 < sd_sum B nc → post 6) :
    ∀ n c, nc < n + c → c ≤ nc → wX_judgeSchedule_19 post XA XM xn (nI nc) xv xe xp xd gS gD gP gK gI gC xq xc xs xb xt xf xw xh xl xg n (nI (sd_sum B c)) (nI c) := by
  intro n
  induction n with
  | zero => intro c h1 h2; omega
  | succ n ih =>
    intro c h1 h2
    have hs := sd_sum_bd c (fun j hj => hB j (by omega))
    refine pk_le nc c (fun hj => ?_) (fun hj => ⟨vp_in_nI (by omega) (by decide), nm_r (e' := nI (sd_sum B (c + 1))) (by rw [nI_clamp (by omega), hb c hj, nI_add]; rfl) (nm_r (nI_1 c) (ih (c + 1) (by omega) (by omega)))⟩)
    have e : c = nc := by omega
    subst e
    exact pk_le (sd_sum B c) 512 K1 K6
theorem xb_js {post : Int32 → Prop} {na nc L : Nat} {B Q : Nat → Nat} (hna : na ≤ 10) (hnc : nc ≤ 24) (hx : sd_AL na Q xq) (hQ : sd_sum Q na ≤ 256) (hL : L ≤ 256) (hb : sd_Ar nc B xb) (hB : ∀ c, c < nc → B c ≤ 2080)
    (K5 : L < sd_sum Q na → post 5) (K1 : sd_sum Q na ≤ L → sd_sum B nc ≤ 512 → post 1) (K6 : sd_sum Q na ≤ L → 512 < sd_sum B nc → post 6) : wpX_judgeSchedule post (XA, XM, nI na, nI nc, xv, nI L, xp, xd, gS, gD, gP, gK, gI, gC, xq, xc, xs, xb, xt, xf, xw, xh, xl, xg) := by
  refine xb_to hna hx ?_
  have e : lN (sd_sum Q na) ≤ (nI L).toInt64 ↔ sd_sum Q na ≤ L := by rw [nI_l (by omega), pk_lLE (by omega) (by omega)]
  rw [e]
  exact br_c (fun h => ⟨nc + 1, xb_js19 hnc hb hB (K1 h) (K6 h) (nc + 1) 0 (by omega) (Nat.zero_le _)⟩) (fun h => K5 (by omega))
end
end
section
/-! the reference's checks and its schedule -/
section
variable {YA : Int32} {YM : Int32} {yn : Int32} {ym : Int32} {yv : Int32} {ye : Int32} {yp : Int32} {yd : Int32} {gS : Nat → Int32} {gD : Nat → Int32} {gP : Nat → Int32} {gK : Nat → Int32} {gI : Nat → Int32} {gC : Nat → Int32} {yq : Nat → Int64} {yc : Nat → Int32} {yf : Nat → Int32} {yt : Nat → Int32} {ys : Nat → Int32} {yb : Nat → Int32} {yw : Nat → Int32} {yl : Nat → Int32} {yg : Nat → Int32}
theorem yb_en37 {post J2 : Int32 → Prop} {na nc a c : Nat} {s d p k i0 cp T : Nat → Nat} (hna : na ≤ 10) (hnc : nc ≤ 24) (hG : sd_Gr na nc s d p k i0 cp gS gD gP gK gI gC) (ha : a < na) (hj : c < nc) (ht : yt c = nI (T c)) (hT : T c < 2 ^ 20)
    (K1 : (s c = a → cp c ≠ 0 → T c + p c ≤ cp c) → J2 (nI (c + 1))) (K0 : ¬ (s c = a → cp c ≠ 0 → T c + p c ≤ cp c) → post 0) : wY_enabled_37 post J2 (nI a) (nI c) YA YM (nI na) (nI nc) yv ye yp yd gS gD gP gK gI gC yq yc yf yt ys yb yw yl yg := by
  have hc : (nI c).toNatClampNeg = c := nI_clamp (by omega)
  obtain ⟨⟨eS, eD, eP, eK, _, eC⟩, ⟨g1, g2, g3, g4, g5, g6⟩, _, g8⟩ := hG c hj
  have v24 : vp_in (nI c) 24 := vp_in_nI (by omega) (by decide)
  refine ⟨v24, ?_⟩
  rw [hc, eS, nI_eq (by omega) (by omega)]
  refine br_c (fun h => ⟨v24, ?_⟩) (fun h => nm_r (nI_1 c) (K1 (fun q => absurd q h)))
  rw [eC, sd_eq0 (by omega)]
  refine br_c (fun h2 => nm_r (nI_1 c) (K1 (fun _ q => absurd h2 q))) (fun h2 => ⟨v24, v24, v24, ?_⟩)
  rw [ht, eP, nI_add, nI_leI (by omega) (by omega)]
  exact br_c (fun h3 => nm_r (nI_1 c) (K1 (fun _ _ => h3))) (fun h3 => K0 (fun q => h3 (q h h2)))
theorem yb_en2 {post : Int32 → Prop} {na nc a : Nat} {s d p k i0 cp T : Nat → Nat} (hna : na ≤ 10) (hnc : nc ≤ 24) (hG : sd_Gr na nc s d p k i0 cp gS gD gP gK gI gC) (ha : a < na) (ht : sd_Ar nc T yt) (hT : ∀ c, c < nc → T c < 2 ^ 20)
    (K1 : sd_en nc s d p k cp T a → post 1) (K0 : ¬ sd_en nc s d p k cp T a → post 0) :
    ∀ n c, nc < n + c → c ≤ nc → (∀ i, i < c → (d i = a → k i ≤ T i) ∧ (s i = a → cp i ≠ 0 → T i + p i ≤ cp i)) → wY_enabled_2 post (nI a) YA YM (nI na) (nI nc) yv ye yp yd gS gD gP gK gI gC yq yc yf yt ys yb yw yl yg n (nI c) := by
  intro n
  induction n with
  | zero => intro c h1 h2; omega
  | succ n ih =>
    intro c h1 h2 hb
    refine pk_le nc c (fun hj => K1 (fun i hi => hb i (by omega))) (fun hj => ?_)
    have hc : (nI c).toNatClampNeg = c := nI_clamp (by omega)
    obtain ⟨⟨eS, eD, eP, eK, _, eC⟩, ⟨g1, g2, g3, g4, g5, g6⟩, _, g8⟩ := hG c hj
    have v24 : vp_in (nI c) 24 := vp_in_nI (by omega) (by decide)
    have hTc := hT c hj
    have nx : (d c = a → k c ≤ T c) → wY_enabled_37 post (wY_enabled_2 post (nI a) YA YM (nI na) (nI nc) yv ye yp yd gS gD gP gK gI gC yq yc yf yt ys yb yw yl yg n) (nI a) (nI c) YA YM (nI na) (nI nc) yv ye yp yd gS gD gP gK gI gC yq yc yf yt ys yb yw yl yg := fun h => by
      refine yb_en37 hna hnc hG ha hj (ht c hj) hTc (fun h3 => ih (c + 1) (by omega) (by omega) (fun i hi => ?_)) (fun h3 => K0 (fun q => h3 (q c hj).2))
      by_cases e : i = c
      · rw [e]
        exact ⟨h, h3⟩
      · exact hb i (by omega)
    have e1 : gD (nI c).toNatClampNeg = nI a ↔ d c = a := by rw [hc, eD, nI_eq (by omega) (by omega)]
    have e2 : gK (nI c).toNatClampNeg ≤ yt (nI c).toNatClampNeg ↔ k c ≤ T c := by rw [hc, eK, ht c hj, nI_leI (by omega) (by omega)]
    exact ⟨v24, br_c (fun h => ⟨v24, v24, br_c (fun h3 => nx (fun _ => e2.mp h3)) (fun h3 => K0 (fun q => h3 (e2.mpr ((q c hj).1 (e1.mp h)))))⟩) (fun h => nx (fun q => absurd (e1.mpr q) h))⟩
theorem yb_en {post : Int32 → Prop} {na nc a : Nat} {s d p k i0 cp T : Nat → Nat} (hna : na ≤ 10) (hnc : nc ≤ 24) (hG : sd_Gr na nc s d p k i0 cp gS gD gP gK gI gC) (ha : a < na) (ht : sd_Ar nc T yt) (hT : ∀ c, c < nc → T c < 2 ^ 20)
    (K1 : sd_en nc s d p k cp T a → post 1) (K0 : ¬ sd_en nc s d p k cp T a → post 0) : wpY_enabled post (YA, YM, nI na, nI nc, yv, ye, yp, yd, gS, gD, gP, gK, gI, gC, yq, yc, yf, yt, ys, yb, yw, yl, yg) (nI a) :=
  ⟨nc + 1, yb_en2 hna hnc hG ha ht hT K1 K0 (nc + 1) 0 (by omega) (Nat.zero_le _) (fun i hi => absurd hi (Nat.not_lt_zero i))⟩
theorem yb_lr2 {post : Int32 → Prop} {na nc : Nat} {s d p k i0 cp Q F T : Nat → Nat} (hna : na ≤ 10) (hnc : nc ≤ 24) (hG : sd_Gr na nc s d p k i0 cp gS gD gP gK gI gC) (hx : sd_AL na Q yq) (hQ : ∀ j, j < na → Q j ≤ 134217728) (hf : sd_Ar na F yf) (hF : ∀ j, j < na → F j ≤ Q j) (ht : sd_Ar nc T yt) (hT : ∀ c, c < nc → T c < 2 ^ 20)
    (K1 : sd_pick na nc s d p k cp Q F T < na → post (nI (sd_pick na nc s d p k cp Q F T))) (K0 : ¬ sd_pick na nc s d p k cp Q F T < na → post (-1)) :
    ∀ n a, na < n + a → a ≤ na → (∀ j, j < a → ¬ (F j < Q j ∧ sd_en nc s d p k cp T j)) → wY_pick_2 post YA YM (nI na) (nI nc) yv ye yp yd gS gD gP gK gI gC yq yc yf yt ys yb yw yl yg n (nI a) := by
  intro n
  induction n with
  | zero => intro a h1 h2; omega
  | succ n ih =>
    intro a h1 h2 hb
    refine pk_le na a (fun hj => K0 ?_) (fun hj => ?_)
    · have e : a = na := by omega
      subst e
      have e2 : sd_pick a nc s d p k cp Q F T = a := sd_first_none hb
      omega
    · have hc : (nI a).toNatClampNeg = a := nI_clamp (by omega)
      have v10 : vp_in (nI a) 10 := vp_in_nI (by omega) (by decide)
      have hQa := hQ a hj
      have hFa := hF a hj
      have nx : ¬ (F a < Q a ∧ sd_en nc s d p k cp T a) → wY_pick_2 post YA YM (nI na) (nI nc) yv ye yp yd gS gD gP gK gI gC yq yc yf yt ys yb yw yl yg n (nI (a + 1)) := fun h => ih (a + 1) (by omega) (by omega) (fun j hj2 => by
        by_cases e : j = a
        · rw [e]
          exact h
        · exact hb j (by omega))
      have e1 : yq (nI a).toNatClampNeg ≤ (yf (nI a).toNatClampNeg).toInt64 ↔ Q a ≤ F a := by rw [hc, hx a hj, hf a hj, nI_l (by omega), pk_lLE (by omega) (by omega)]
      refine ⟨v10, v10, br_c (fun h => nm_r (nI_1 a) (nx (fun q => by have := e1.mp h; omega))) (fun h => yb_en hna hnc hG hj ht hT (fun h3 => br_f sd_n10 ?_) (fun h3 => br_t rfl (nm_r (nI_1 a) (nx (fun q => h3 q.2)))))⟩
      have e2 : sd_pick na nc s d p k cp Q F T = a := sd_first_at hj ⟨Nat.lt_of_not_le (fun q => h (e1.mpr q)), h3⟩ hb
      rw [e2] at K1
      exact K1 hj
theorem yb_lr {post : Int32 → Prop} {na nc : Nat} {s d p k i0 cp Q F T : Nat → Nat} (hna : na ≤ 10) (hnc : nc ≤ 24) (hG : sd_Gr na nc s d p k i0 cp gS gD gP gK gI gC) (hx : sd_AL na Q yq) (hQ : ∀ j, j < na → Q j ≤ 134217728) (hf : sd_Ar na F yf) (hF : ∀ j, j < na → F j ≤ Q j) (ht : sd_Ar nc T yt) (hT : ∀ c, c < nc → T c < 2 ^ 20)
    (K1 : sd_pick na nc s d p k cp Q F T < na → post (nI (sd_pick na nc s d p k cp Q F T))) (K0 : ¬ sd_pick na nc s d p k cp Q F T < na → post (-1)) : wpY_pick post (YA, YM, nI na, nI nc, yv, ye, yp, yd, gS, gD, gP, gK, gI, gC, yq, yc, yf, yt, ys, yb, yw, yl, yg) :=
  ⟨na + 1, yb_lr2 hna hnc hG hx hQ hf hF ht hT K1 K0 (na + 1) 0 (by omega) (Nat.zero_le _) (fun i hi => absurd hi (Nat.not_lt_zero i))⟩
theorem yb_fi43 {post : SY → Prop} {na nc a : Nat} {s d p k i0 cp T : Nat → Nat} (hna : na ≤ 10) (hnc : nc ≤ 24) (hG : sd_Gr na nc s d p k i0 cp gS gD gP gK gI gC) (ha : a < na)
    (K : ∀ yt : Nat → Int32, sd_Ar nc (sd_fire s d p k a T) yt → post (YA, YM, nI na, nI nc, yv, ye, yp, yd, gS, gD, gP, gK, gI, gC, yq, yc, yf, yt, ys, yb, yw, yl, yg)) :
    ∀ (n c : Nat) (yt : Nat → Int32), nc < n + c → c ≤ nc → sd_Ar nc (sd_mix c (sd_fire s d p k a T) (fun i => T i - (if d i = a then k i else 0))) yt → wY_fire_43 post (nI a) YA YM (nI na) (nI nc) yv ye yp yd n (nI c) gS gD gP gK gI gC yq yc yf yt ys yb yw yl yg := by
  intro n
  induction n with
  | zero => intro c yt h1 h2; omega
  | succ n ih =>
    intro c yt h1 h2 ht
    refine pk_le nc c (fun hj => K yt (fun i hi => ?_)) (fun hj => ?_)
    · rw [ht i hi, sd_mix_lo (by omega)]
    · have hc : (nI c).toNatClampNeg = c := nI_clamp (by omega)
      obtain ⟨⟨eS, eD, eP, eK, _, eC⟩, ⟨g1, g2, g3, g4, g5, g6⟩, _, g8⟩ := hG c hj
      have v24 : vp_in (nI c) 24 := vp_in_nI (by omega) (by decide)
      have htc : yt c = nI (T c - (if d c = a then k c else 0)) := by rw [ht c hj, sd_mix_hi (Nat.lt_irrefl c)]
      refine ⟨v24, ?_⟩
      rw [hc, eS, nI_eq (by omega) (by omega)]
      refine br_c (fun h => ⟨v24, v24, v24, nm_r (e' := upd yt c (nI (sd_fire s d p k a T c))) ?_ (nm_r (nI_1 c) (ih (c + 1) _ (by omega) (by omega) (fun i hi => ?_)))⟩) (fun h => nm_r (nI_1 c) (ih (c + 1) yt (by omega) (by omega) (fun i hi => ?_)))
      · rw [htc, eP, nI_add]
        unfold sd_fire
        rw [if_pos h]
      · by_cases e : i = c
        · rw [e, pk_us, sd_mix_lo (Nat.lt_succ_self c)]
        · rw [pk_un e, ht i hi, sd_mix_s e]
      · by_cases e : i = c
        · rw [e, htc, sd_mix_lo (Nat.lt_succ_self c)]
          unfold sd_fire
          rw [if_neg h]
          rfl
        · rw [ht i hi, sd_mix_s e]
theorem yb_fi2 {post : SY → Prop} {na nc a : Nat} {s d p k i0 cp T : Nat → Nat} (hna : na ≤ 10) (hnc : nc ≤ 24) (hG : sd_Gr na nc s d p k i0 cp gS gD gP gK gI gC) (ha : a < na) (he : sd_en nc s d p k cp T a)
    (K : ∀ yt : Nat → Int32, sd_Ar nc (sd_fire s d p k a T) yt → post (YA, YM, nI na, nI nc, yv, ye, yp, yd, gS, gD, gP, gK, gI, gC, yq, yc, yf, yt, ys, yb, yw, yl, yg)) :
    ∀ (n c : Nat) (yt : Nat → Int32), nc < n + c → c ≤ nc → sd_Ar nc (sd_mix c (fun i => T i - (if d i = a then k i else 0)) T) yt → wY_fire_2 post (nI a) YA YM (nI na) (nI nc) yv ye yp yd n (nI c) gS gD gP gK gI gC yq yc yf yt ys yb yw yl yg := by
  intro n
  induction n with
  | zero => intro c yt h1 h2; omega
  | succ n ih =>
    intro c yt h1 h2 ht
    refine pk_le nc c (fun hj => ⟨nc + 1, yb_fi43 (T := T) hna hnc hG ha K (nc + 1) 0 yt (by omega) (Nat.zero_le _) (fun i hi => ?_)⟩) (fun hj => ?_)
    · rw [ht i hi, sd_mix_lo (by omega), sd_mix_0]
    · have hc : (nI c).toNatClampNeg = c := nI_clamp (by omega)
      obtain ⟨⟨eS, eD, eP, eK, _, eC⟩, ⟨g1, g2, g3, g4, g5, g6⟩, _, g8⟩ := hG c hj
      have v24 : vp_in (nI c) 24 := vp_in_nI (by omega) (by decide)
      have htc : yt c = nI (T c) := by rw [ht c hj, sd_mix_hi (Nat.lt_irrefl c)]
      refine ⟨v24, ?_⟩
      rw [hc, eD, nI_eq (by omega) (by omega)]
      refine br_c (fun h => ⟨v24, v24, v24, nm_r (e' := upd yt c (nI (T c - k c))) ?_ (nm_r (nI_1 c) (ih (c + 1) _ (by omega) (by omega) (fun i hi => ?_)))⟩) (fun h => nm_r (nI_1 c) (ih (c + 1) yt (by omega) (by omega) (fun i hi => ?_)))
      · rw [htc, eK, pk_sub ((he c hj).1 h)]
      · by_cases e : i = c
        · rw [e, pk_us, sd_mix_lo (Nat.lt_succ_self c), if_pos h]
        · rw [pk_un e, ht i hi, sd_mix_s e]
      · by_cases e : i = c
        · rw [e, htc, sd_mix_lo (Nat.lt_succ_self c), if_neg h]
          rfl
        · rw [ht i hi, sd_mix_s e]
theorem yb_fi {post : SY → Prop} {na nc a : Nat} {s d p k i0 cp T : Nat → Nat} (hna : na ≤ 10) (hnc : nc ≤ 24) (hG : sd_Gr na nc s d p k i0 cp gS gD gP gK gI gC) (ha : a < na) (he : sd_en nc s d p k cp T a) (ht : sd_Ar nc T yt)
    (K : ∀ yt : Nat → Int32, sd_Ar nc (sd_fire s d p k a T) yt → post (YA, YM, nI na, nI nc, yv, ye, yp, yd, gS, gD, gP, gK, gI, gC, yq, yc, yf, yt, ys, yb, yw, yl, yg)) : wpY_fire post (YA, YM, nI na, nI nc, yv, ye, yp, yd, gS, gD, gP, gK, gI, gC, yq, yc, yf, yt, ys, yb, yw, yl, yg) (nI a) :=
  ⟨nc + 1, yb_fi2 hna hnc hG ha he K (nc + 1) 0 yt (by omega) (Nat.zero_le _) (fun i hi => by rw [sd_mix_0]; exact ht i hi)⟩
theorem yb_a354 {post : Int32 → SY → Prop} {J293 : Int32 → Int32 → Int32 → Int32 → Int32 → Int32 → Int32 → Int32 → Int32 → (Nat → Int32) → (Nat → Int32) → (Nat → Int32) → (Nat → Int32) → (Nat → Int32) → (Nat → Int32) → (Nat → Int64) → (Nat → Int32) → (Nat → Int32) → (Nat → Int32) → (Nat → Int32) → (Nat → Int32) → (Nat → Int32) → (Nat → Int32) → (Nat → Int32) → Prop} {x3 : Int32} {nc i : Nat} {T B : Nat → Nat} (hnc : nc ≤ 24) (ht : sd_Ar nc T yt) (hT : ∀ c, c < nc → T c < 2 ^ 20) (hB : ∀ c, c < nc → B c < 2 ^ 20)
    (K : ∀ yb : Nat → Int32, sd_Ar nc (sd_fB T B) yb → J293 (nI (i + 1)) YA YM yn (nI nc) yv ye yp yd gS gD gP gK gI gC yq yc yf yt ys yb yw yl yg) :
    ∀ (n c : Nat) (yb : Nat → Int32), nc < n + c → c ≤ nc → sd_Ar nc (sd_mix c (sd_fB T B) B) yb → wY_analyze_354 post J293 x3 (nI i) YA YM yn (nI nc) yv ye yp yd n (nI c) gS gD gP gK gI gC yq yc yf yt ys yb yw yl yg := by
  intro n
  induction n with
  | zero => intro c yb h1 h2; omega
  | succ n ih =>
    intro c yb h1 h2 hb
    refine pk_le nc c (fun hj => nm_r (nI_1 i) (K yb (fun i hi => ?_))) (fun hj => ?_)
    · rw [hb i hi, sd_mix_lo (by omega)]
    · have hc : (nI c).toNatClampNeg = c := nI_clamp (by omega)
      have v24 : vp_in (nI c) 24 := vp_in_nI (by omega) (by decide)
      have hbc : yb c = nI (B c) := by rw [hb c hj, sd_mix_hi (Nat.lt_irrefl c)]
      have hTc := hT c hj
      have hBc := hB c hj
      refine ⟨v24, v24, ?_⟩
      rw [hc, ht c hj, hbc]
      refine pk_le (T c) (B c) (fun h => nm_r (nI_1 c) (ih (c + 1) yb (by omega) (by omega) (fun i hi => ?_))) (fun h => ⟨v24, v24, nm_e (nm_r (nI_1 c) (ih (c + 1) _ (by omega) (by omega) (fun i hi => ?_)))⟩)
      · by_cases e : i = c
        · rw [e, hbc, sd_mix_lo (Nat.lt_succ_self c)]
          unfold sd_fB
          rw [if_neg (by omega)]
        · rw [hb i hi, sd_mix_s e]
      · by_cases e : i = c
        · rw [e, pk_us, sd_mix_lo (Nat.lt_succ_self c)]
          unfold sd_fB
          rw [if_pos h]
        · rw [pk_un e, hb i hi, sd_mix_s e]
theorem yb_a293 {post : Int32 → SY → Prop} {na nc L : Nat} {s d p k i0 cp Q : Nat → Nat} (hna : na ≤ 10) (hnc : nc ≤ 24) (hG : sd_Gr na nc s d p k i0 cp gS gD gP gK gI gC) (hx : sd_AL na Q yq) (hQ : ∀ j, j < na → Q j ≤ 134217728) (hq : sd_sum Q na ≤ 256) (hL : L ≤ sd_sum Q na) (hg : ∀ j, j < L → sd_sch na nc s d p k cp i0 Q j < na) (hn : ¬ sd_sch na nc s d p k cp i0 Q L < na)
    (K : ∀ ys yb yt yf : Nat → Int32, (∀ j, j < L → ys j = nI (sd_sch na nc s d p k cp i0 Q j)) → sd_Ar nc (sd_sim na nc s d p k cp i0 Q L).2.2 yb → wY_analyze_406 post (nI (sd_sum Q na)) YA YM (nI na) (nI nc) yv (nI L) yp yd gS gD gP gK gI gC yq yc yf yt ys yb yw yl yg) :
    ∀ (n i : Nat) (ys yb yt yf : Nat → Int32), 256 < n + i → i ≤ L → (∀ j, j < i → ys j = nI (sd_sch na nc s d p k cp i0 Q j)) → sd_Ar nc (sd_sim na nc s d p k cp i0 Q i).2.2 yb → sd_Ar nc (sd_sim na nc s d p k cp i0 Q i).2.1 yt → sd_Ar na (sd_sim na nc s d p k cp i0 Q i).1 yf → wY_analyze_293 post (nI (sd_sum Q na)) n (nI i) YA YM (nI na) (nI nc) yv (nI i) yp yd gS gD gP gK gI gC yq yc yf yt ys yb yw yl yg := by
  intro n
  induction n with
  | zero => intro i ys yb yt yf h1 h2; omega
  | succ n ih =>
    intro i ys yb yt yf h1 h2 hs hb ht hf
    have G := sd_Gr_G hG
    have I := sd_I_sim (cp := cp) (Q := Q) G (sd_Gr_32 hG) i (fun j hj => hg j (by omega))
    have bt := sd_BT (by omega) I
    refine pk_le (sd_sum Q na) i (fun hj => ?_) (fun hj => yb_lr hna hnc hG hx hQ hf I.1 ht (fun c hc => by have := bt c hc; omega) (fun hp => ?_) (fun hp => br_f sd_neg1 ?_))
    · have e : i = L := by omega
      subst e
      exact K ys yb yt yf hs hb
    · have hp' : sd_sch na nc s d p k cp i0 Q i < na := hp
      have hil : i < L := by
        by_cases e : i = L
        · rw [e] at hp'
          exact absurd hp' hn
        · omega
      have v10 : vp_in (nI (sd_sch na nc s d p k cp i0 Q i)) 10 := vp_in_nI (by omega) (by decide)
      have I2 := sd_I_sim (cp := cp) (Q := Q) G (sd_Gr_32 hG) (i + 1) (fun j hj => hg j (by omega))
      have bt2 := sd_BT (by omega) I2
      refine br_t (nI_pos' (by omega)) ⟨vp_in_nI (by omega) (by decide), nm_r (e' := upd ys i (nI (sd_sch na nc s d p k cp i0 Q i))) (by rw [nI_clamp (by omega)]; rfl) (nm_r (nI_1 i) ?_)⟩
      refine yb_fi hna hnc hG hp (sd_sch_rdy hp').2 ht (fun yt' kt => ⟨v10, v10, nm_r (e' := upd yf (sd_sch na nc s d p k cp i0 Q i) (nI ((sd_sim na nc s d p k cp i0 Q i).1 (sd_sch na nc s d p k cp i0 Q i) + 1))) ?_ ⟨nc + 1, ?_⟩⟩)
      · have hc : (nI (sd_sch na nc s d p k cp i0 Q i)).toNatClampNeg = sd_sch na nc s d p k cp i0 Q i := nI_clamp (by omega)
        have hfa := hf _ hp'
        show upd yf (nI (sd_sch na nc s d p k cp i0 Q i)).toNatClampNeg (yf (nI (sd_sch na nc s d p k cp i0 Q i)).toNatClampNeg + 1) = _
        rw [hc, hfa, nI_1]
      · refine yb_a354 hnc kt (fun c hc => by have := bt2 c hc; exact Nat.lt_of_le_of_lt this.1 (by decide)) (fun c hc => by have := bt c hc; omega) (fun yb' kb => ih (i + 1) _ yb' yt' _ (by omega) (by omega) (fun j hj => ?_) kb kt (fun a ha => ?_)) (nc + 1) 0 yb (by omega) (Nat.zero_le _) (fun c hc => by rw [sd_mix_0]; exact hb c hc)
        · by_cases e : j = i
          · rw [e, pk_us]
          · rw [pk_un e]
            exact hs j (by omega)
        · show upd yf (sd_sch na nc s d p k cp i0 Q i) _ a = nI (sd_fF (sd_sch na nc s d p k cp i0 Q i) (sd_sim na nc s d p k cp i0 Q i).1 a)
          by_cases e : a = sd_sch na nc s d p k cp i0 Q i
          · rw [e, pk_us, sd_fF_s]
          · rw [pk_un e, sd_fF_o e]
            exact hf a ha
    · have e : i = L := by
        by_cases e : i < L
        · exact absurd (hg i e) hp
        · omega
      subst e
      exact K ys yb yt yf hs hb
theorem yb_a267 {post : Int32 → SY → Prop} {x3 : Int32} {na nc : Nat} (hna : na ≤ 10)
    (K : ∀ yf : Nat → Int32, sd_Ar na (fun _ => 0) yf → ∃ n293 : Nat, wY_analyze_293 post x3 n293 0 YA YM (nI na) (nI nc) yv ye yp yd gS gD gP gK gI gC yq yc yf yt ys yb yw yl yg) :
    ∀ (n j : Nat) (yf : Nat → Int32), na < n + j → j ≤ na → sd_Ar j (fun _ => 0) yf → wY_analyze_267 post x3 YA YM (nI na) (nI nc) yv ye yp yd n (nI j) gS gD gP gK gI gC yq yc yf yt ys yb yw yl yg := by
  intro n
  induction n with
  | zero => intro j yf h1 h2; omega
  | succ n ih =>
    intro j yf h1 h2 hf
    refine pk_le na j (fun hj => ?_) (fun hj => ⟨vp_in_nI (by omega) (by decide), nm_r (e' := upd yf j 0) (by rw [nI_clamp (by omega)]) (nm_r (nI_1 j) (ih (j + 1) _ (by omega) (by omega) (fun i hi => ?_)))⟩)
    · have e : j = na := by omega
      subst e
      exact K yf hf
    · by_cases e : i = j
      · rw [e, pk_us]
        rfl
      · rw [pk_un e]
        exact hf i (by omega)
theorem yb_a221 {post : Int32 → SY → Prop} {x3 : Int32} {na nc : Nat} {s d p k i0 cp : Nat → Nat} (hna : na ≤ 10) (hnc : nc ≤ 24) (hG : sd_Gr na nc s d p k i0 cp gS gD gP gK gI gC)
    (K : ∀ yb yt : Nat → Int32, sd_Ar nc i0 yb → sd_Ar nc i0 yt → ∃ n267 : Nat, wY_analyze_267 post x3 YA YM (nI na) (nI nc) yv ye yp yd n267 0 gS gD gP gK gI gC yq yc yf yt ys yb yw yl yg) :
    ∀ (n c : Nat) (yb yt : Nat → Int32), nc < n + c → c ≤ nc → sd_Ar c i0 yb → sd_Ar c i0 yt → wY_analyze_221 post x3 YA YM (nI na) (nI nc) yv ye yp yd n (nI c) gS gD gP gK gI gC yq yc yf yt ys yb yw yl yg := by
  intro n
  induction n with
  | zero => intro c yb yt h1 h2; omega
  | succ n ih =>
    intro c yb yt h1 h2 hb ht
    refine pk_le nc c (fun hj => ?_) (fun hj => ?_)
    · have e : c = nc := by omega
      subst e
      exact K yb yt hb ht
    · have hc : (nI c).toNatClampNeg = c := nI_clamp (by omega)
      have v24 : vp_in (nI c) 24 := vp_in_nI (by omega) (by decide)
      have eI := (hG c hj).1.2.2.2.2.1
      have up : ∀ x : Nat → Int32, sd_Ar c i0 x → sd_Ar (c + 1) i0 (upd x c (nI (i0 c))) := fun x h i hi => by
        by_cases e : i = c
        · rw [e, pk_us]
        · rw [pk_un e]
          exact h i (by omega)
      exact ⟨v24, v24, nm_r (e' := upd yt c (nI (i0 c))) (by rw [hc, eI]) ⟨v24, v24, nm_r (e' := upd yb c (nI (i0 c))) (by rw [hc, eI]) (nm_r (nI_1 c) (ih (c + 1) _ _ (by omega) (by omega) (up yb hb) (up yt ht)))⟩⟩
end
end
section
/-! the reference's analyze, its end and its whole -/
section
variable {YA : Int32} {YM : Int32} {yn : Int32} {ym : Int32} {yv : Int32} {ye : Int32} {yp : Int32} {yd : Int32} {gS : Nat → Int32} {gD : Nat → Int32} {gP : Nat → Int32} {gK : Nat → Int32} {gI : Nat → Int32} {gC : Nat → Int32} {yq : Nat → Int64} {yc : Nat → Int32} {yf : Nat → Int32} {yt : Nat → Int32} {ys : Nat → Int32} {yb : Nat → Int32} {yw : Nat → Int32} {yl : Nat → Int32} {yg : Nat → Int32}
theorem yc_541 {post : Int32 → SY → Prop} {na : Nat} (hna : na ≤ 10) (K : ∀ yg : Nat → Int32, (∀ j, j < na → yg j = 0) → post yv (YA, YM, nI na, ym, yv, ye, 0, 0, gS, gD, gP, gK, gI, gC, yq, yc, yf, yt, ys, yb, yw, yl, yg)) :
    ∀ (n j : Nat) (yg : Nat → Int32), na < n + j → j ≤ na → (∀ i, i < j → yg i = 0) → wY_analyze_541 post YA YM (nI na) ym yv ye yp yd n (nI j) gS gD gP gK gI gC yq yc yf yt ys yb yw yl yg := by
  intro n
  induction n with
  | zero => intro j yg h1 h2; omega
  | succ n ih =>
    intro j yg h1 h2 hf
    refine pk_le na j (fun hj => K yg (fun i hi => hf i (by omega))) (fun hj => ⟨vp_in_nI (by omega) (by decide), nm_r (e' := upd yg j 0) (by rw [nI_clamp (by omega)]) (nm_r (nI_1 j) (ih (j + 1) _ (by omega) (by omega) (fun i hi => ?_)))⟩)
    by_cases e : i = j
    · rw [e, pk_us]
    · rw [pk_un e]
      exact hf i (by omega)
theorem yc_509 {post : Int32 → SY → Prop} {na nc : Nat} {s d p k i0 cp : Nat → Nat} (hna : na ≤ 10) (hnc : nc ≤ 24) (hG : sd_Gr na nc s d p k i0 cp gS gD gP gK gI gC)
    (K : ∀ yl : Nat → Int32, sd_Ar nc i0 yl → ∃ n541 : Nat, wY_analyze_541 post YA YM (nI na) (nI nc) yv ye yp yd n541 0 gS gD gP gK gI gC yq yc yf yt ys yb yw yl yg) :
    ∀ (n c : Nat) (yl : Nat → Int32), nc < n + c → c ≤ nc → sd_Ar c i0 yl → wY_analyze_509 post YA YM (nI na) (nI nc) yv ye yp yd n (nI c) gS gD gP gK gI gC yq yc yf yt ys yb yw yl yg := by
  intro n
  induction n with
  | zero => intro c yl h1 h2; omega
  | succ n ih =>
    intro c yl h1 h2 hl
    refine pk_le nc c (fun hj => ?_) (fun hj => ?_)
    · have e : c = nc := by omega
      subst e
      exact K yl hl
    · have hc : (nI c).toNatClampNeg = c := nI_clamp (by omega)
      have v24 : vp_in (nI c) 24 := vp_in_nI (by omega) (by decide)
      have eI := (hG c hj).1.2.2.2.2.1
      refine ⟨v24, v24, nm_r (e' := upd yl c (nI (i0 c))) (by rw [hc, eI]) (nm_r (nI_1 c) (ih (c + 1) _ (by omega) (by omega) (fun i hi => ?_)))⟩
      by_cases e : i = c
      · rw [e, pk_us]
      · rw [pk_un e]
        exact hl i (by omega)
theorem yc_484 {post : Int32 → SY → Prop}
    (K : ∀ yw : Nat → Int32, (∀ j, j < 512 → yw j = 0) → ∃ n509 : Nat, wY_analyze_509 post YA YM yn ym yv ye yp yd n509 0 gS gD gP gK gI gC yq yc yf yt ys yb yw yl yg) :
    ∀ (n j : Nat) (yw : Nat → Int32), 512 < n + j → j ≤ 512 → (∀ i, i < j → yw i = 0) → wY_analyze_484 post YA YM yn ym yv ye yp yd n (nI j) gS gD gP gK gI gC yq yc yf yt ys yb yw yl yg := by
  intro n
  induction n with
  | zero => intro j yw h1 h2; omega
  | succ n ih =>
    intro j yw h1 h2 hf
    refine pk_le 512 j (fun hj => K yw (fun i hi => hf i (by omega))) (fun hj => ⟨vp_in_nI (by omega) (by decide), nm_r (e' := upd yw j 0) (by rw [nI_clamp (by omega)]) (nm_r (nI_1 j) (ih (j + 1) _ (by omega) (by omega) (fun i hi => ?_)))⟩)
    by_cases e : i = j
    · rw [e, pk_us]
    · rw [pk_un e]
      exact hf i (by omega)
theorem yc_430 {post : Int32 → SY → Prop} {na nc : Nat} {s d p k i0 cp B : Nat → Nat} (hna : na ≤ 10) (hnc : nc ≤ 24) (hG : sd_Gr na nc s d p k i0 cp gS gD gP gK gI gC) (hb : sd_Ar nc B yb) (hB : ∀ c, c < nc → B c ≤ 2080)
    (K6 : 512 < sd_sum B nc → post 6 (YA, YM, nI na, nI nc, 6, ye, yp, yd, gS, gD, gP, gK, gI, gC, yq, yc, yf, yt, ys, yb, yw, yl, yg))
    (K1 : sd_sum B nc ≤ 512 → ∀ yw yl yg : Nat → Int32, (∀ j, j < 512 → yw j = 0) → sd_Ar nc i0 yl → (∀ j, j < na → yg j = 0) → post 1 (YA, YM, nI na, nI nc, 1, ye, 0, 0, gS, gD, gP, gK, gI, gC, yq, yc, yf, yt, ys, yb, yw, yl, yg)) :
    ∀ n c, nc < n + c → c ≤ nc → wY_analyze_430 post YA YM (nI na) (nI nc) yv ye yp yd gS gD gP gK gI gC yq yc yf yt ys yb yw yl yg n (nI (sd_sum B c)) (nI c) := by
  intro n
  induction n with
  | zero => intro c h1 h2; omega
  | succ n ih =>
    intro c h1 h2
    have hs := sd_sum_bd c (fun j hj => hB j (by omega))
    refine pk_le nc c (fun hj => ?_) (fun hj => ⟨vp_in_nI (by omega) (by decide), nm_r (e' := nI (sd_sum B (c + 1))) (by rw [nI_clamp (by omega), hb c hj, nI_add]; rfl) (nm_r (nI_1 c) (ih (c + 1) (by omega) (by omega)))⟩)
    have e : c = nc := by omega
    subst e
    refine pk_le (sd_sum B c) 512 (fun h => ⟨513, ?_⟩) K6
    refine yc_484 (fun yw hw => ⟨c + 1, ?_⟩) 513 0 yw (by omega) (Nat.zero_le _) (fun i hi => absurd hi (Nat.not_lt_zero i))
    refine yc_509 hna hnc hG (fun yl hl => ⟨na + 1, ?_⟩) (c + 1) 0 yl (by omega) (Nat.zero_le _) (fun i hi => absurd hi (Nat.not_lt_zero i))
    exact yc_541 hna (fun yg hg => K1 h yw yl yg hw hl hg) (na + 1) 0 yg (by omega) (Nat.zero_le _) (fun i hi => absurd hi (Nat.not_lt_zero i))
theorem yc_406 {post : Int32 → SY → Prop} {na nc L t : Nat} {s d p k i0 cp B : Nat → Nat} (hna : na ≤ 10) (hnc : nc ≤ 24) (hG : sd_Gr na nc s d p k i0 cp gS gD gP gK gI gC) (hb : sd_Ar nc B yb) (hB : ∀ c, c < nc → B c ≤ 2080) (hL : L ≤ 256) (ht : t ≤ 256)
    (K5 : L < t → post 5 (YA, YM, nI na, nI nc, 5, nI L, yp, yd, gS, gD, gP, gK, gI, gC, yq, yc, yf, yt, ys, yb, yw, yl, yg))
    (K6 : t ≤ L → 512 < sd_sum B nc → post 6 (YA, YM, nI na, nI nc, 6, nI L, yp, yd, gS, gD, gP, gK, gI, gC, yq, yc, yf, yt, ys, yb, yw, yl, yg))
    (K1 : t ≤ L → sd_sum B nc ≤ 512 → ∀ yw yl yg : Nat → Int32, (∀ j, j < 512 → yw j = 0) → sd_Ar nc i0 yl → (∀ j, j < na → yg j = 0) → post 1 (YA, YM, nI na, nI nc, 1, nI L, 0, 0, gS, gD, gP, gK, gI, gC, yq, yc, yf, yt, ys, yb, yw, yl, yg)) :
    wY_analyze_406 post (nI t) YA YM (nI na) (nI nc) yv (nI L) yp yd gS gD gP gK gI gC yq yc yf yt ys yb yw yl yg :=
  pk_le t L (fun h => ⟨nc + 1, yc_430 hna hnc hG hb hB (K6 h) (K1 h) (nc + 1) 0 (by omega) (Nat.zero_le _)⟩) K5
theorem yc_174 {post : Int32 → SY → Prop} {na : Nat} {Q : Nat → Nat} (hna : na ≤ 10) (hx : sd_AL na Q yq) (hQ : ∀ j, j < na → Q j ≤ 134217728)
    (K4 : 256 < sd_sum Q na → post 4 (YA, YM, nI na, ym, 4, ye, yp, yd, gS, gD, gP, gK, gI, gC, yq, yc, yf, yt, ys, yb, yw, yl, yg))
    (K : sd_sum Q na ≤ 256 → ∃ n221 : Nat, wY_analyze_221 post (nI (sd_sum Q na)) YA YM (nI na) ym yv ye yp yd n221 0 gS gD gP gK gI gC yq yc yf yt ys yb yw yl yg) :
    ∀ n j, na < n + j → j ≤ na → wY_analyze_174 post YA YM (nI na) ym yv ye yp yd gS gD gP gK gI gC yq yc yf yt ys yb yw yl yg n (lN (sd_sum Q j)) (nI j) := by
  intro n
  induction n with
  | zero => intro j h1 h2; omega
  | succ n ih =>
    intro j h1 h2
    refine pk_le na j (fun hj => ?_) (fun hj => ⟨vp_in_nI (by omega) (by decide), nm_r (e' := lN (sd_sum Q (j + 1))) ?_ (nm_r (nI_1 j) (ih (j + 1) (by omega) (by omega)))⟩)
    · have e : j = na := by omega
      subst e
      have hs := sd_sumQ hna hQ
      have e : (lN (sd_sum Q j) ≤ 256) ↔ sd_sum Q j ≤ 256 := pk_lLE (b := 256) (by omega) (by decide)
      rw [e, lN_i]
      exact br_c K (fun q => K4 (by omega))
    · rw [nI_clamp (by omega), hx j hj, lN_add]
      rfl
theorem yc_104 {post : Int32 → SY → Prop} {na nc : Nat} {s d p k i0 cp Q : Nat → Nat} (hna : na ≤ 10) (hnc : nc ≤ 24) (hG : sd_Gr na nc s d p k i0 cp gS gD gP gK gI gC) (hQ : ∀ j, j < na → Q j ≤ 134217728) (hx : sd_AL na Q yq)
    (K1 : sd_bal nc s d p k Q → ∃ n174 : Nat, wY_analyze_174 post YA YM (nI na) (nI nc) yv ye yp yd gS gD gP gK gI gC yq yc yf yt ys yb yw yl yg n174 0 0) (K0 : ¬ sd_bal nc s d p k Q → post 3 (YA, YM, nI na, nI nc, 3, ye, yp, yd, gS, gD, gP, gK, gI, gC, yq, yc, yf, yt, ys, yb, yw, yl, yg)) :
    ∀ n c, nc < n + c → c ≤ nc → (∀ i, i < c → Q (s i) * p i = Q (d i) * k i) → wY_analyze_104 post YA YM (nI na) (nI nc) yv ye yp yd gS gD gP gK gI gC yq yc yf yt ys yb yw yl yg n (nI c) := by
  intro n
  induction n with
  | zero => intro c h1 h2; omega
  | succ n ih =>
    intro c h1 h2 hb
    refine pk_le nc c (fun hj => K1 (fun i hi => hb i (by omega))) (fun hj => ?_)
    have hc : (nI c).toNatClampNeg = c := nI_clamp (by omega)
    obtain ⟨⟨eS, eD, eP, eK, _, _⟩, ⟨g1, g2, g3, g4, g5, g6⟩, _, _⟩ := hG c hj
    have v24 : vp_in (nI c) 24 := vp_in_nI (by omega) (by decide)
    have vs : vp_in (nI (s c)) 10 := vp_in_nI (by omega) (by decide)
    have vd : vp_in (nI (d c)) 10 := vp_in_nI (by omega) (by decide)
    have bs := hQ (s c) g1
    have bd := hQ (d c) g2
    have m1 : Q (s c) * p c ≤ Q (s c) * 8 := Nat.mul_le_mul_left _ g4
    have m2 : Q (d c) * k c ≤ Q (d c) * 8 := Nat.mul_le_mul_left _ g6
    have e1 : ((yq (gS (nI c).toNatClampNeg).toNatClampNeg) * ((gP (nI c).toNatClampNeg).toInt64) = (yq (gD (nI c).toNatClampNeg).toNatClampNeg) * ((gK (nI c).toNatClampNeg).toInt64)) ↔ Q (s c) * p c = Q (d c) * k c := by
      rw [hc, eS, eD, eP, eK, nI_clamp (n := s c) (by omega), nI_clamp (n := d c) (by omega), hx _ g1, hx _ g2, nI_l (n := p c) (by omega), nI_l (n := k c) (by omega), lN_mul, lN_mul, pk_lEQ (by omega) (by omega)]
    refine ⟨v24, by rw [hc, eS]; exact vs, v24, v24, by rw [hc, eD]; exact vd, v24, br_c (fun h => nm_r (nI_1 c) (ih (c + 1) (by omega) (by omega) (fun i hi => ?_))) (fun h => K0 (fun q => h (e1.mpr (q c hj))))⟩
    by_cases e : i = c
    · rw [e]
      exact e1.mp h
    · exact hb i (by omega)
/-- the reference's analyze on a graph with an actor -/
theorem yc_an {post : Int32 → SY → Prop} {na nc L : Nat} {s d p k i0 cp : Nat → Nat} (h0 : 0 < na) (hna : na ≤ 10) (hnc : nc ≤ 24) (hG : sd_Gr na nc s d p k i0 cp gS gD gP gK gI gC)
    (hL : L ≤ sd_sum (sd_Q na nc s d p k) na) (hg : ∀ j, j < L → sd_sch na nc s d p k cp i0 (sd_Q na nc s d p k) j < na) (hn : ¬ sd_sch na nc s d p k cp i0 (sd_Q na nc s d p k) L < na)
    (K3 : ¬ sd_bal nc s d p k (sd_Q na nc s d p k) → ∀ (yq : Nat → Int64) (yc : Nat → Int32), post 3 (YA, YM, nI na, nI nc, 3, 0, yp, yd, gS, gD, gP, gK, gI, gC, yq, yc, yf, yt, ys, yb, yw, yl, yg))
    (K4 : sd_bal nc s d p k (sd_Q na nc s d p k) → 256 < sd_sum (sd_Q na nc s d p k) na → ∀ (yq : Nat → Int64) (yc : Nat → Int32), sd_AL na (sd_Q na nc s d p k) yq → post 4 (YA, YM, nI na, nI nc, 4, 0, yp, yd, gS, gD, gP, gK, gI, gC, yq, yc, yf, yt, ys, yb, yw, yl, yg))
    (K5 : sd_bal nc s d p k (sd_Q na nc s d p k) → sd_sum (sd_Q na nc s d p k) na ≤ 256 → L < sd_sum (sd_Q na nc s d p k) na → ∀ (yq : Nat → Int64) (yc ys yb yt yf : Nat → Int32), sd_AL na (sd_Q na nc s d p k) yq → (∀ j, j < L → ys j = nI (sd_sch na nc s d p k cp i0 (sd_Q na nc s d p k) j)) → sd_Ar nc (sd_sim na nc s d p k cp i0 (sd_Q na nc s d p k) L).2.2 yb → post 5 (YA, YM, nI na, nI nc, 5, nI L, yp, yd, gS, gD, gP, gK, gI, gC, yq, yc, yf, yt, ys, yb, yw, yl, yg))
    (K6 : sd_bal nc s d p k (sd_Q na nc s d p k) → sd_sum (sd_Q na nc s d p k) na ≤ 256 → sd_sum (sd_Q na nc s d p k) na ≤ L → 512 < sd_sum (sd_sim na nc s d p k cp i0 (sd_Q na nc s d p k) L).2.2 nc → ∀ (yq : Nat → Int64) (yc ys yb yt yf : Nat → Int32), sd_AL na (sd_Q na nc s d p k) yq → (∀ j, j < L → ys j = nI (sd_sch na nc s d p k cp i0 (sd_Q na nc s d p k) j)) → sd_Ar nc (sd_sim na nc s d p k cp i0 (sd_Q na nc s d p k) L).2.2 yb → post 6 (YA, YM, nI na, nI nc, 6, nI L, yp, yd, gS, gD, gP, gK, gI, gC, yq, yc, yf, yt, ys, yb, yw, yl, yg))
    (K1 : sd_bal nc s d p k (sd_Q na nc s d p k) → sd_sum (sd_Q na nc s d p k) na ≤ 256 → sd_sum (sd_Q na nc s d p k) na ≤ L → sd_sum (sd_sim na nc s d p k cp i0 (sd_Q na nc s d p k) L).2.2 nc ≤ 512 → ∀ (yq : Nat → Int64) (yc ys yb yt yf yw yl yg : Nat → Int32), sd_AL na (sd_Q na nc s d p k) yq → (∀ j, j < L → ys j = nI (sd_sch na nc s d p k cp i0 (sd_Q na nc s d p k) j)) → sd_Ar nc (sd_sim na nc s d p k cp i0 (sd_Q na nc s d p k) L).2.2 yb → (∀ j, j < 512 → yw j = 0) → sd_Ar nc i0 yl → (∀ j, j < na → yg j = 0) → post 1 (YA, YM, nI na, nI nc, 1, nI L, 0, 0, gS, gD, gP, gK, gI, gC, yq, yc, yf, yt, ys, yb, yw, yl, yg)) :
    wpY_analyze post (YA, YM, nI na, nI nc, yv, ye, yp, yd, gS, gD, gP, gK, gI, gC, yq, yc, yf, yt, ys, yb, yw, yl, yg) := by
  have G := sd_Gr_G hG
  have hQ : ∀ j, j < na → sd_Q na nc s d p k j ≤ 134217728 := fun j hj => (sd_Q_bd G hna hj).2
  refine br_f (nI_ne0 h0 (by omega)) ⟨na + 1, ?_⟩
  refine ya_a24 hna hnc hG (fun yq yc hq => ⟨nc + 1, ?_⟩) (na + 1) 0 yq yc (by omega) (Nat.zero_le _) (fun i hi => absurd hi (Nat.not_lt_zero i))
  refine yc_104 hna hnc hG hQ hq (fun hb => ⟨na + 1, ?_⟩) (fun hb => K3 hb yq yc) (nc + 1) 0 (by omega) (Nat.zero_le _) (fun i hi => absurd hi (Nat.not_lt_zero i))
  refine yc_174 hna hq hQ (fun h4 => K4 hb h4 yq yc hq) (fun ht => ⟨nc + 1, ?_⟩) (na + 1) 0 (by omega) (Nat.zero_le _)
  refine yb_a221 hna hnc hG (fun yb yt kb kt => ⟨na + 1, ?_⟩) (nc + 1) 0 yb yt (by omega) (Nat.zero_le _) (fun i hi => absurd hi (Nat.not_lt_zero i)) (fun i hi => absurd hi (Nat.not_lt_zero i))
  refine yb_a267 hna (fun yf kf => ⟨257, ?_⟩) (na + 1) 0 yf (by omega) (Nat.zero_le _) (fun i hi => absurd hi (Nat.not_lt_zero i))
  refine yb_a293 hna hnc hG hq hQ ht hL hg hn (fun ys' yb' yt' yf' hs' hb' => ?_) 257 0 ys yb yt yf (by omega) (Nat.zero_le _) (fun i hi => absurd hi (Nat.not_lt_zero i)) kb kt kf
  have I := sd_I_sim (cp := cp) (Q := sd_Q na nc s d p k) G (sd_Gr_32 hG) L hg
  exact yc_406 hna hnc hG hb' (fun c hc => (sd_BT (by omega) I c hc).2) (by omega) ht (fun h5 => K5 hb ht h5 yq yc ys' yb' yt' yf' hq hs' hb') (fun h6 h7 => K6 hb ht h6 h7 yq yc ys' yb' yt' yf' hq hs' hb') (fun h6 h7 yw yl yg hw hl hg => K1 hb ht h6 h7 yq yc ys' yb' yt' yf' yw yl yg hq hs' hb' hw hl hg)
end
end
section
/-! the component's executor -/
theorem sd_XS_v {nc : Nat} {N hd : Nat → Nat} {V V' : Nat → Nat → Int32} {st : Nat → Int32} (h : sd_XS nc N hd V st) (e : ∀ c, c < nc → ∀ i, i < N c → V' c i = V c i) : sd_XS nc N hd V' st := fun c hc i hi => (h c hc i hi).trans (e c hc i hi).symm
/-- counts and heads as the component keeps them -/
def sd_HL (nc : Nat) (N hd : Nat → Nat) (xh xl : Nat → Int32) : Prop := ∀ c, c < nc → xl c = nI (N c) ∧ hd c < 512 ∧ xh c = nI (hd c)
section
variable {XA : Int32} {XM : Int32} {xn : Int32} {xm : Int32} {xv : Int32} {xe : Int32} {xp : Int32} {xd : Int32} {gS : Nat → Int32} {gD : Nat → Int32} {gP : Nat → Int32} {gK : Nat → Int32} {gI : Nat → Int32} {gC : Nat → Int32} {xq : Nat → Int64} {xc : Nat → Int32} {xs : Nat → Int32} {xb : Nat → Int32} {xt : Nat → Int32} {xf : Nat → Int32} {xw : Nat → Int32} {xh : Nat → Int32} {xl : Nat → Int32} {xg : Nat → Int32}
theorem xd_cell {post : Int32 → Prop} {c h q : Nat} (hc : c < 24) (hh : xh c = nI h) (hb : h + q < 2 ^ 32) (K : post (nI (c * 512 + (h + q) % 512))) : wpX_cell post (XA, XM, xn, xm, xv, xe, xp, xd, gS, gD, gP, gK, gI, gC, xq, xc, xs, xb, xt, xf, xw, xh, xl, xg) (nI c) (nI q) := by
  refine ⟨vp_in_nI hc (by decide), ?_⟩
  rw [nI_clamp (by omega), hh, sd_cell c h q hb]
  exact K
theorem xd_ap3 {post : SX → Prop} {nc c m : Nat} {N hd : Nat → Nat} {V : Nat → Nat → Int32} {v : Int32} (hnc : nc ≤ 24) (hc : c < nc) (hl : xl c = nI (N c)) (hh : xh c = nI (hd c)) (h5 : hd c < 512) (hN : ∀ x, x < nc → N x ≤ 512) (hm : N c + m ≤ 512)
    (K : ∀ xw : Nat → Int32, sd_XS nc (sd_uN N c (N c + m)) hd (sd_eV V c (N c) v) xw → post (XA, XM, xn, xm, xv, xe, xp, xd, gS, gD, gP, gK, gI, gC, xq, xc, xs, xb, xt, xf, xw, xh, upd xl c (nI (N c + m)), xg)) :
    ∀ (n i : Nat) (xw : Nat → Int32), m < n + i → i ≤ m → sd_XS nc (sd_uN N c (N c + i)) hd (sd_eV V c (N c) v) xw → wX_appendTokens_3 post (nI c) (nI m) v XA XM xn xm xv xe xp xd n (nI i) gS gD gP gK gI gC xq xc xs xb xt xf xw xh xl xg := by
  intro n
  induction n with
  | zero => intro i xw h1 h2; omega
  | succ n ih =>
    intro i xw h1 h2 hx
    have hcl : (nI c).toNatClampNeg = c := nI_clamp (by omega)
    have v24 : vp_in (nI c) 24 := vp_in_nI (by omega) (by decide)
    refine pk_le m i (fun hj => ⟨v24, v24, nm_r (e' := upd xl c (nI (N c + m))) (by rw [hcl, hl, nI_add]) (K xw ?_)⟩) (fun hj => ⟨v24, ?_⟩)
    · have e : i = m := by omega
      subst e
      exact hx
    · rw [hcl, hl, nI_add]
      have hlt := Nat.mod_lt (hd c + (N c + i)) (show 0 < 512 by decide)
      refine xd_cell (by omega) hh (by omega) ⟨vp_in_nI (by omega) (by decide), nm_r (e' := upd xw (c * 512 + (hd c + (N c + i)) % 512) v) (by rw [nI_clamp (by omega)]) (nm_r (nI_1 i) (ih (i + 1) _ (by omega) (by omega) ?_))⟩
      have h := sd_XS_enq (c := c) (v := v) hx (fun x hx2 => by
        by_cases e : x = c
        · rw [e, sd_uN_s]
          omega
        · rw [sd_uN_o e]
          exact hN x hx2) (by rw [sd_uN_s]; omega)
      rw [sd_uN_u, sd_uN_s, sd_eV_e] at h
      exact h
theorem xd_ap {post : SX → Prop} {nc c m : Nat} {N hd : Nat → Nat} {V : Nat → Nat → Int32} {v : Int32} (hnc : nc ≤ 24) (hc : c < nc) (hl : xl c = nI (N c)) (hh : xh c = nI (hd c)) (h5 : hd c < 512) (hN : ∀ x, x < nc → N x ≤ 512) (hm : N c + m ≤ 512) (hx : sd_XS nc N hd V xw)
    (K : ∀ xw : Nat → Int32, sd_XS nc (sd_uN N c (N c + m)) hd (sd_eV V c (N c) v) xw → post (XA, XM, xn, xm, xv, xe, xp, xd, gS, gD, gP, gK, gI, gC, xq, xc, xs, xb, xt, xf, xw, xh, upd xl c (nI (N c + m)), xg)) : wpX_appendTokens post (XA, XM, xn, xm, xv, xe, xp, xd, gS, gD, gP, gK, gI, gC, xq, xc, xs, xb, xt, xf, xw, xh, xl, xg) (nI c) (nI m) v := by
  refine ⟨m + 1, xd_ap3 hnc hc hl hh h5 hN hm K (m + 1) 0 xw (by omega) (Nat.zero_le _) ?_⟩
  rw [sd_uN_id (show N c + 0 = N c from rfl)]
  refine sd_XS_v hx (fun x hx2 i hi => ?_)
  by_cases e : x = c
  · subst e
    exact sd_eV_l hi
  · exact sd_eV_o e
theorem xd_re35 {post : SX → Prop} {na nc : Nat} {s d p k i0 cp : Nat → Nat} (hna : na ≤ 10) (hnc : nc ≤ 24) (hG : sd_Gr na nc s d p k i0 cp gS gD gP gK gI gC)
    (K : ∀ xw xh xl : Nat → Int32, sd_HL nc i0 (fun _ => 0) xh xl → sd_XS nc i0 (fun _ => 0) (fun _ _ => 0) xw → post (XA, XM, nI na, nI nc, xv, xe, xp, xd, gS, gD, gP, gK, gI, gC, xq, xc, xs, xb, xt, xf, xw, xh, xl, xg)) :
    ∀ (n c : Nat) (xw xh xl : Nat → Int32), nc < n + c → c ≤ nc → sd_HL c i0 (fun _ => 0) xh xl → sd_XS nc (sd_mix c i0 (fun _ => 0)) (fun _ => 0) (fun _ _ => 0) xw → wX_resetExecutor_35 post n (nI c) XA XM (nI na) (nI nc) xv xe xp xd gS gD gP gK gI gC xq xc xs xb xt xf xw xh xl xg := by
  intro n
  induction n with
  | zero => intro c xw xh xl h1 h2; omega
  | succ n ih =>
    intro c xw xh xl h1 h2 hl hx
    refine pk_le nc c (fun hj => ?_) (fun hj => ?_)
    · have e : c = nc := by omega
      subst e
      exact K xw xh xl hl (fun x hx2 i hi => hx x hx2 i (by rw [sd_mix_lo hx2]; exact hi))
    · have hc : (nI c).toNatClampNeg = c := nI_clamp (by omega)
      have v24 : vp_in (nI c) 24 := vp_in_nI (by omega) (by decide)
      have eI := (hG c hj).1.2.2.2.2.1
      have b32 := (hG c hj).2.2.1
      have mc : sd_mix c i0 (fun _ => 0) c = 0 := sd_mix_hi (Nat.lt_irrefl c)
      refine ⟨v24, nm_r (e' := upd xh c 0) (by rw [hc]) ⟨v24, nm_r (e' := upd xl c 0) (by rw [hc]) ⟨v24, ?_⟩⟩⟩
      rw [hc, eI]
      refine xd_ap (N := sd_mix c i0 (fun _ => 0)) (hd := fun _ => 0) (V := fun _ _ => 0) hnc hj (by rw [pk_us, mc]; rfl) pk_us (by decide) (fun x hx2 => ?_) (by rw [mc]; omega) hx (fun xw' hx' => nm_r (nI_1 c) (ih (c + 1) xw' _ _ (by omega) (by omega) (fun x hx2 => ?_) ?_))
      · by_cases l : x < c
        · rw [sd_mix_lo l]
          have := (hG x (by omega)).2.2.1
          omega
        · rw [sd_mix_hi l]
          decide
      · by_cases e : x = c
        · rw [e, pk_us, pk_us, mc, Nat.zero_add]
          exact ⟨rfl, (by decide : (0 : Nat) < 512), rfl⟩
        · rw [pk_un e, pk_un e, pk_un e]
          exact hl x (by omega)
      · intro x hx2 i hi
        have h := hx' x hx2 i
        rw [mc, Nat.zero_add] at h
        have e3 : sd_eV (fun _ _ => (0 : Int32)) c 0 0 x i = 0 := by
          unfold sd_eV
          split <;> rfl
        rw [e3] at h
        apply h
        by_cases e : x = c
        · rw [e, sd_mix_lo (Nat.lt_succ_self c)] at hi
          rw [e, sd_uN_s]
          exact hi
        · rw [sd_mix_s e] at hi
          rw [sd_uN_o e]
          exact hi
theorem xd_re12 {post : SX → Prop} {na nc : Nat} (hna : na ≤ 10)
    (K : ∀ xg : Nat → Int32, (∀ j, j < na → xg j = 0) → ∃ n35 : Nat, wX_resetExecutor_35 post n35 0 XA XM (nI na) (nI nc) xv xe xp xd gS gD gP gK gI gC xq xc xs xb xt xf xw xh xl xg) :
    ∀ (n j : Nat) (xg : Nat → Int32), na < n + j → j ≤ na → (∀ i, i < j → xg i = 0) → wX_resetExecutor_12 post XA XM (nI na) (nI nc) xv xe xp xd n (nI j) gS gD gP gK gI gC xq xc xs xb xt xf xw xh xl xg := by
  intro n
  induction n with
  | zero => intro j xg h1 h2; omega
  | succ n ih =>
    intro j xg h1 h2 hf
    refine pk_le na j (fun hj => K xg (fun i hi => hf i (by omega))) (fun hj => ⟨vp_in_nI (by omega) (by decide), nm_r (e' := upd xg j 0) (by rw [nI_clamp (by omega)]) (nm_r (nI_1 j) (ih (j + 1) _ (by omega) (by omega) (fun i hi => ?_)))⟩)
    by_cases e : i = j
    · rw [e, pk_us]
    · rw [pk_un e]
      exact hf i (by omega)
theorem xd_re {post : SX → Prop} {na nc : Nat} {s d p k i0 cp : Nat → Nat} (hna : na ≤ 10) (hnc : nc ≤ 24) (hG : sd_Gr na nc s d p k i0 cp gS gD gP gK gI gC)
    (K : ∀ xw xh xl xg : Nat → Int32, sd_HL nc i0 (fun _ => 0) xh xl → sd_XS nc i0 (fun _ => 0) (fun _ _ => 0) xw → (∀ j, j < na → xg j = 0) → post (XA, XM, nI na, nI nc, xv, xe, 0, 0, gS, gD, gP, gK, gI, gC, xq, xc, xs, xb, xt, xf, xw, xh, xl, xg)) : wpX_resetExecutor post (XA, XM, nI na, nI nc, xv, xe, xp, xd, gS, gD, gP, gK, gI, gC, xq, xc, xs, xb, xt, xf, xw, xh, xl, xg) := by
  refine ⟨na + 1, xd_re12 hna (fun xg hg => ⟨nc + 1, ?_⟩) (na + 1) 0 xg (by omega) (Nat.zero_le _) (fun i hi => absurd hi (Nat.not_lt_zero i))⟩
  refine xd_re35 hna hnc hG (fun xw xh xl hl hx => K xw xh xl xg hl hx hg) (nc + 1) 0 xw xh xl (by omega) (Nat.zero_le _) (fun i hi => absurd hi (Nat.not_lt_zero i)) (fun x hx2 i hi => ?_)
  rw [sd_mix_0] at hi
  exact absurd hi (Nat.not_lt_zero i)
/-! takes -/
theorem xd_ti25 {post : Int32 → SX → Prop} {J4 : Int32 → Int32 → (Nat → Int32) → (Nat → Int32) → (Nat → Int32) → (Nat → Int32) → (Nat → Int32) → (Nat → Int32) → (Nat → Int64) → (Nat → Int32) → (Nat → Int32) → (Nat → Int32) → (Nat → Int32) → (Nat → Int32) → (Nat → Int32) → (Nat → Int32) → (Nat → Int32) → (Nat → Int32) → Prop} {x1 : Int32} {nc c m h q : Nat} {f : Nat → Int32} {s0 : Int32} (hnc : nc ≤ 24) (hc : c < nc) (hK : gK c = nI m) (hm : m ≤ 8) (hl : xl c = nI q) (hh : xh c = nI h) (h5 : h < 512) (hq : m ≤ q) (hf : ∀ i, i < q → xw (c * 512 + (h + i) % 512) = f i)
    (K : J4 (sd_ts f s0 m) (nI (c + 1)) gS gD gP gK gI gC xq xc xs xb xt xf xw (upd xh c (nI ((h + m) % 512))) (upd xl c (nI (q - m))) xg) :
    ∀ n i, m < n + i → i ≤ m → wX_takeInputs_25 post J4 x1 (nI c) XA XM xn xm xv xe xp xd gS gD gP gK gI gC xq xc xs xb xt xf xw xh xl xg n (sd_ts f s0 i) (nI i) := by
  intro n
  induction n with
  | zero => intro i h1 h2; omega
  | succ n ih =>
    intro i h1 h2
    have hcl : (nI c).toNatClampNeg = c := nI_clamp (by omega)
    have v24 : vp_in (nI c) 24 := vp_in_nI (by omega) (by decide)
    refine ⟨v24, ?_⟩
    rw [hcl, hK]
    refine pk_le m i (fun hj => ⟨v24, v24, v24, nm_r (e' := upd xh c (nI ((h + m) % 512))) (by rw [hh, sd_and h m (by omega)]) ⟨v24, v24, v24, nm_r (e' := upd xl c (nI (q - m))) (by rw [hl, pk_sub hq]) (nm_r (nI_1 c) ?_)⟩⟩) (fun hj => ?_)
    · have e : i = m := by omega
      subst e
      exact K
    · have hlt := Nat.mod_lt (h + i) (show 0 < 512 by decide)
      exact xd_cell (by omega) hh (by omega) ⟨vp_in_nI (by omega) (by decide), nm_r (e' := sd_ts f s0 (i + 1)) (by rw [nI_clamp (by omega), hf i (by omega)]; rfl) (nm_r (nI_1 i) (ih (i + 1) (by omega) (by omega)))⟩
theorem xd_ti4 {post : Int32 → SX → Prop} {na nc a : Nat} {s d p k i0 cp N : Nat → Nat} {V : Nat → Nat → Int32} (hna : na ≤ 10) (hnc : nc ≤ 24) (hG : sd_Gr na nc s d p k i0 cp gS gD gP gK gI gC) (ha : a < na) (hk : ∀ c, c < nc → d c = a → k c ≤ N c)
    (K : ∀ (hd : Nat → Nat) (xh xl : Nat → Int32), sd_HL nc (sd_tN d k a N nc) hd xh xl → sd_XS nc (sd_tN d k a N nc) hd (sd_tV d k a V nc) xw → post (sd_tS d k a V nc) (XA, XM, nI na, nI nc, xv, xe, xp, xd, gS, gD, gP, gK, gI, gC, xq, xc, xs, xb, xt, xf, xw, xh, xl, xg)) :
    ∀ (n c : Nat) (hd : Nat → Nat) (xh xl : Nat → Int32), nc < n + c → c ≤ nc → sd_HL nc (sd_tN d k a N c) hd xh xl → sd_XS nc (sd_tN d k a N c) hd (sd_tV d k a V c) xw → wX_takeInputs_4 post (nI a) XA XM (nI na) (nI nc) xv xe xp xd n (sd_tS d k a V c) (nI c) gS gD gP gK gI gC xq xc xs xb xt xf xw xh xl xg := by
  intro n
  induction n with
  | zero => intro c hd xh xl h1 h2; omega
  | succ n ih =>
    intro c hd xh xl h1 h2 hl hx
    refine pk_le nc c (fun hj => ?_) (fun hj => ?_)
    · have e : c = nc := by omega
      subst e
      exact K hd xh xl hl hx
    · have hcl : (nI c).toNatClampNeg = c := nI_clamp (by omega)
      obtain ⟨⟨eS, eD, eP, eK, _, eC⟩, ⟨g1, g2, g3, g4, g5, g6⟩, _, g8⟩ := hG c hj
      have v24 : vp_in (nI c) 24 := vp_in_nI (by omega) (by decide)
      obtain ⟨l1, l2, l3⟩ := hl c hj
      have tc : sd_tN d k a N c c = N c := sd_tN_hi (Nat.le_refl c)
      refine ⟨v24, ?_⟩
      rw [hcl, eD, nI_eq (by omega) (by omega)]
      refine br_c (fun h => ⟨k c + 1, ?_⟩) (fun h => nm_r (nI_1 c) ?_)
      · have hkc := hk c hj h
        rw [tc] at l1
        refine xd_ti25 (f := V c) (q := N c) (h := hd c) hnc hj eK g6 l1 l3 l2 hkc (fun i hi => ?_) ?_ (k c + 1) 0 (by omega) (Nat.zero_le _)
        · have := hx c hj i (by rw [tc]; exact hi)
          rw [sd_tV_hi (Nat.le_refl c)] at this
          exact this
        · rw [← sd_tS_y h]
          refine ih (c + 1) (sd_uN hd c ((hd c + k c) % 512)) _ _ (by omega) (by omega) (fun x hx2 => ?_) ?_
          · rw [← sd_tN_y h]
            by_cases e : x = c
            · rw [e, pk_us, pk_us, sd_uN_s, sd_uN_s]
              exact ⟨rfl, Nat.mod_lt _ (by decide), rfl⟩
            · rw [pk_un e, pk_un e, sd_uN_o e, sd_uN_o e]
              exact hl x hx2
          · have hx3 := sd_XS_deq (c := c) (j := k c) hx (by rw [tc]; exact hkc)
            rw [tc, sd_tN_y h, sd_tV_y h] at hx3
            exact hx3
      · have hi := ih (c + 1) hd xh xl (by omega) (by omega) (by rw [sd_tN_n h]; exact hl) (by rw [sd_tN_n h, sd_tV_n h]; exact hx)
        rw [sd_tS_n h] at hi
        exact hi
theorem xd_ti {post : Int32 → SX → Prop} {na nc a : Nat} {s d p k i0 cp N hd : Nat → Nat} {V : Nat → Nat → Int32} (hna : na ≤ 10) (hnc : nc ≤ 24) (hG : sd_Gr na nc s d p k i0 cp gS gD gP gK gI gC) (ha : a < na) (hk : ∀ c, c < nc → d c = a → k c ≤ N c) (hl : sd_HL nc N hd xh xl) (hx : sd_XS nc N hd V xw)
    (K : ∀ (hd : Nat → Nat) (xh xl : Nat → Int32), sd_HL nc (sd_tN d k a N nc) hd xh xl → sd_XS nc (sd_tN d k a N nc) hd (sd_tV d k a V nc) xw → post (sd_tS d k a V nc) (XA, XM, nI na, nI nc, xv, xe, xp, xd, gS, gD, gP, gK, gI, gC, xq, xc, xs, xb, xt, xf, xw, xh, xl, xg)) : wpX_takeInputs post (XA, XM, nI na, nI nc, xv, xe, xp, xd, gS, gD, gP, gK, gI, gC, xq, xc, xs, xb, xt, xf, xw, xh, xl, xg) (nI a) :=
  ⟨nc + 1, xd_ti4 hna hnc hG ha hk K (nc + 1) 0 hd xh xl (by omega) (Nat.zero_le _) (by rw [sd_tN_0]; exact hl) (by rw [sd_tN_0, sd_tV_0]; exact hx)⟩
/-! puts, and the step -/
theorem xd_st40 {post : SX → Prop} {na nc a pos L : Nat} {s d p k i0 cp N hd : Nat → Nat} {V : Nat → Nat → Int32} {v : Int32} (hna : na ≤ 10) (hnc : nc ≤ 24) (hG : sd_Gr na nc s d p k i0 cp gS gD gP gK gI gC) (ha : a < na) (hM : ∀ c, c < nc → sd_pN s p a N nc c ≤ 512) (hp : pos < L) (hL : L ≤ 256)
    (K : ∀ xw xl : Nat → Int32, sd_HL nc (sd_pN s p a N nc) hd xh xl → sd_XS nc (sd_pN s p a N nc) hd (sd_pV s a v N V nc) xw → (pos + 1 < L → post (XA, XM, nI na, nI nc, xv, nI L, nI (pos + 1), xd, gS, gD, gP, gK, gI, gC, xq, xc, xs, xb, xt, xf, xw, xh, xl, xg)) ∧ (pos + 1 = L → post (XA, XM, nI na, nI nc, xv, nI L, 0, xd + 1, gS, gD, gP, gK, gI, gC, xq, xc, xs, xb, xt, xf, xw, xh, xl, xg))) :
    ∀ (n c : Nat) (xw xl : Nat → Int32), nc < n + c → c ≤ nc → sd_HL nc (sd_pN s p a N c) hd xh xl → sd_XS nc (sd_pN s p a N c) hd (sd_pV s a v N V c) xw → wX_step_40 post (nI a) v n (nI c) XA XM (nI na) (nI nc) xv (nI L) (nI pos) xd gS gD gP gK gI gC xq xc xs xb xt xf xw xh xl xg := by
  intro n
  induction n with
  | zero => intro c xw xl h1 h2; omega
  | succ n ih =>
    intro c xw xl h1 h2 hl hx
    refine pk_le nc c (fun hj => nm_r (nI_1 pos) ?_) (fun hj => ?_)
    · have e : c = nc := by omega
      subst e
      have KK := K xw xl hl hx
      exact pk_lt (pos + 1) L KK.1 (fun h => nm_e (KK.2 (by omega)))
    · have hcl : (nI c).toNatClampNeg = c := nI_clamp (by omega)
      obtain ⟨⟨eS, eD, eP, eK, _, eC⟩, ⟨g1, g2, g3, g4, g5, g6⟩, _, g8⟩ := hG c hj
      have v24 : vp_in (nI c) 24 := vp_in_nI (by omega) (by decide)
      obtain ⟨l1, l2, l3⟩ := hl c hj
      have tc : sd_pN s p a N c c = N c := sd_pN_hi (Nat.le_refl c)
      refine ⟨v24, ?_⟩
      rw [hcl, eS, nI_eq (by omega) (by omega)]
      refine br_c (fun h => ⟨v24, ?_⟩) (fun h => nm_r (nI_1 c) (ih (c + 1) xw xl (by omega) (by omega) (by rw [sd_pN_n h]; exact hl) (by rw [sd_pN_n h, sd_pV_n h]; exact hx)))
      rw [eP]
      have hy : sd_pN s p a N (c + 1) c = N c + p c := by rw [← sd_pN_y h, sd_uN_s]
      have hle := sd_pN_le (s := s) (p := p) (N := N) (a := a) (n := c + 1) (m := nc) (by omega) c
      have hMc := hM c hj
      refine xd_ap (N := sd_pN s p a N c) (hd := hd) (V := sd_pV s a v N V c) hnc hj l1 l3 l2 (fun x hx2 => Nat.le_trans (sd_pN_le h2 x) (hM x hx2)) (by rw [tc]; omega) hx (fun xw' hx' => nm_r (nI_1 c) (ih (c + 1) xw' _ (by omega) (by omega) (fun x hx2 => ?_) ?_))
      · rw [← sd_pN_y h, tc]
        by_cases e : x = c
        · rw [e, pk_us, sd_uN_s]
          exact ⟨rfl, l2, l3⟩
        · rw [pk_un e, sd_uN_o e]
          exact hl x hx2
      · rw [tc, sd_pN_y h, sd_pV_y h] at hx'
        exact hx'
theorem xd_st {post : SX → Prop} {na nc a pos L : Nat} {s d p k i0 cp N hd : Nat → Nat} {V : Nat → Nat → Int32} (hna : na ≤ 10) (hnc : nc ≤ 24) (hG : sd_Gr na nc s d p k i0 cp gS gD gP gK gI gC) (ha : a < na) (hp : pos < L) (hL : L ≤ 256) (hs : xs pos = nI a) (hk : ∀ c, c < nc → d c = a → k c ≤ N c) (hM : ∀ c, c < nc → sd_fire s d p k a N c ≤ 512) (hl : sd_HL nc N hd xh xl) (hx : sd_XS nc N hd V xw)
    (K : ∀ (hd : Nat → Nat) (xw xh xl : Nat → Int32), sd_HL nc (sd_pN s p a (sd_tN d k a N nc) nc) hd xh xl → sd_XS nc (sd_pN s p a (sd_tN d k a N nc) nc) hd (sd_pV s a (31 * sd_tS d k a V nc + xg a + 1) (sd_tN d k a N nc) (sd_tV d k a V nc) nc) xw → (pos + 1 < L → post (XA, XM, nI na, nI nc, xv, nI L, nI (pos + 1), xd, gS, gD, gP, gK, gI, gC, xq, xc, xs, xb, xt, xf, xw, xh, xl, upd xg a (xg a + 1))) ∧ (pos + 1 = L → post (XA, XM, nI na, nI nc, xv, nI L, 0, xd + 1, gS, gD, gP, gK, gI, gC, xq, xc, xs, xb, xt, xf, xw, xh, xl, upd xg a (xg a + 1)))) :
    wpX_step post (XA, XM, nI na, nI nc, xv, nI L, nI pos, xd, gS, gD, gP, gK, gI, gC, xq, xc, xs, xb, xt, xf, xw, xh, xl, xg) := by
  have v10 : vp_in (nI a) 10 := vp_in_nI (by omega) (by decide)
  have hcl : (nI a).toNatClampNeg = a := nI_clamp (by omega)
  refine ⟨vp_in_nI (by omega) (by decide), nm_r (e' := nI a) (by rw [nI_clamp (by omega)]; exact hs) (xd_ti hna hnc hG ha hk hl hx (fun hd' xh' xl' hl' hx' => ⟨v10, nm_r (e' := 31 * sd_tS d k a V nc + xg a + 1) (by rw [hcl]) ⟨v10, v10, nm_r (e' := upd xg a (xg a + 1)) (by rw [hcl]) ⟨nc + 1, ?_⟩⟩⟩))⟩
  exact xd_st40 hna hnc hG ha (fun c hc => by rw [sd_tp hc]; exact hM c hc) hp hL (fun xw' xl'' h1 h2 => K hd' xw' xh' xl'' h1 h2) (nc + 1) 0 xw xl' (by omega) (Nat.zero_le _) (by rw [sd_pN_0]; exact hl') (by rw [sd_pN_0, sd_pV_0]; exact hx')
end
end
section
/-! the reference's executor -/
theorem sd_YS_v {nc : Nat} {N : Nat → Nat} {V V' : Nat → Nat → Int32} {st : Nat → Int32} (h : sd_YS nc N V st) (e : ∀ c, c < nc → ∀ i, i < N c → V' c i = V c i) : sd_YS nc N V' st := fun c hc i hi => (h c hc i hi).trans (e c hc i hi).symm
section
variable {YA : Int32} {YM : Int32} {yn : Int32} {ym : Int32} {yv : Int32} {ye : Int32} {yp : Int32} {yd : Int32} {gS : Nat → Int32} {gD : Nat → Int32} {gP : Nat → Int32} {gK : Nat → Int32} {gI : Nat → Int32} {gC : Nat → Int32} {yq : Nat → Int64} {yc : Nat → Int32} {yf : Nat → Int32} {yt : Nat → Int32} {ys : Nat → Int32} {yb : Nat → Int32} {yw : Nat → Int32} {yl : Nat → Int32} {yg : Nat → Int32}
theorem yd_so4 {post : Int32 → Prop} {nc c : Nat} {N : Nat → Nat} (hnc : nc ≤ 24) (hc : c ≤ nc) (hl : sd_Ar nc N yl) (K : post (nI (sd_sum N c))) :
    ∀ n j, c < n + j → j ≤ c → wY_startOf_4 post (nI c) YA YM yn (nI nc) yv ye yp yd gS gD gP gK gI gC yq yc yf yt ys yb yw yl yg n (nI (sd_sum N j)) (nI j) := by
  intro n
  induction n with
  | zero => intro j h1 h2; omega
  | succ n ih =>
    intro j h1 h2
    refine pk_le c j (fun hj => ?_) (fun hj => pk_le nc j (fun h => absurd h (by omega)) (fun h => ⟨vp_in_nI (by omega) (by decide), nm_r (e' := nI (sd_sum N (j + 1))) (by rw [nI_clamp (by omega), hl j (by omega), nI_add]; rfl) (nm_r (nI_1 j) (ih (j + 1) (by omega) (by omega)))⟩))
    have e : j = c := by omega
    subst e
    exact K
theorem yd_so {post : Int32 → Prop} {nc c : Nat} {N : Nat → Nat} (hnc : nc ≤ 24) (hc : c ≤ nc) (hl : sd_Ar nc N yl) (K : post (nI (sd_sum N c))) : wpY_startOf post (YA, YM, yn, nI nc, yv, ye, yp, yd, gS, gD, gP, gK, gI, gC, yq, yc, yf, yt, ys, yb, yw, yl, yg) (nI c) :=
  ⟨c + 1, yd_so4 hnc hc hl K (c + 1) 0 (by omega) (Nat.zero_le _)⟩
theorem yd_tt4 {post : Int32 → Prop} {nc : Nat} {N : Nat → Nat} (hnc : nc ≤ 24) (hl : sd_Ar nc N yl) (K : post (nI (sd_sum N nc))) :
    ∀ n j, nc < n + j → j ≤ nc → wY_totalTokens_4 post YA YM yn (nI nc) yv ye yp yd gS gD gP gK gI gC yq yc yf yt ys yb yw yl yg n (nI (sd_sum N j)) (nI j) := by
  intro n
  induction n with
  | zero => intro j h1 h2; omega
  | succ n ih =>
    intro j h1 h2
    refine pk_le nc j (fun hj => ?_) (fun hj => ⟨vp_in_nI (by omega) (by decide), nm_r (e' := nI (sd_sum N (j + 1))) (by rw [nI_clamp (by omega), hl j (by omega), nI_add]; rfl) (nm_r (nI_1 j) (ih (j + 1) (by omega) (by omega)))⟩)
    have e : j = nc := by omega
    subst e
    exact K
theorem yd_tt {post : Int32 → Prop} {nc : Nat} {N : Nat → Nat} (hnc : nc ≤ 24) (hl : sd_Ar nc N yl) (K : post (nI (sd_sum N nc))) : wpY_totalTokens post (YA, YM, yn, nI nc, yv, ye, yp, yd, gS, gD, gP, gK, gI, gC, yq, yc, yf, yt, ys, yb, yw, yl, yg) :=
  ⟨nc + 1, yd_tt4 hnc hl K (nc + 1) 0 (by omega) (Nat.zero_le _)⟩
theorem yd_th46 {post : Int32 → SY → Prop} {c q st tot : Nat} {v : Int32} {w0 : Nat → Int32} (hc : c < 24) (hl : yl c = nI q) (hq : 0 < q) (ht0 : st < tot) (ht : tot ≤ 512)
    (K : ∀ yw : Nat → Int32, (∀ i, i < st → yw i = w0 i) → (∀ i, st ≤ i → i + 1 < tot → yw i = w0 (i + 1)) → post v (YA, YM, yn, ym, yv, ye, yp, yd, gS, gD, gP, gK, gI, gC, yq, yc, yf, yt, ys, yb, yw, upd yl c (nI (q - 1)), yg)) :
    ∀ (n j : Nat) (yw : Nat → Int32), tot < n + j → st ≤ j → j < tot → (∀ i, i < st → yw i = w0 i) → (∀ i, st ≤ i → i < j → yw i = w0 (i + 1)) → (∀ i, j ≤ i → yw i = w0 i) → wY_takeHead_46 post (nI c) v (nI tot) YA YM yn ym yv ye yp yd n (nI j) gS gD gP gK gI gC yq yc yf yt ys yb yw yl yg := by
  intro n
  induction n with
  | zero => intro j yw h1 h2 h3; omega
  | succ n ih =>
    intro j yw h1 h2 h3 w1 w2 w3
    have hcl : (nI c).toNatClampNeg = c := nI_clamp (by omega)
    have v24 : vp_in (nI c) 24 := vp_in_nI (by omega) (by decide)
    have e1 : nI tot - 1 = nI (tot - 1) := pk_sub (b := 1) (by omega)
    have KK : tot - 1 ≤ j → wY_takeHead_85 post (nI c) v YA YM yn ym yv ye yp yd gS gD gP gK gI gC yq yc yf yt ys yb yw yl yg := fun h => ⟨v24, v24, nm_r (e' := upd yl c (nI (q - 1))) (by rw [hcl, hl]; exact congrArg (upd yl c) (pk_sub (b := 1) (by omega))) (K yw w1 (fun i h5 h6 => w2 i h5 (by omega)))⟩
    refine pk_le (tot - 1) j KK (fun hj => pk_le 511 j (fun h => absurd h (by omega)) (fun h => ⟨?_, vp_in_nI (by omega) (by decide), nm_r (e' := upd yw j (yw (j + 1))) ?_ (nm_r (nI_1 j) (ih (j + 1) _ (by omega) (by omega) (by omega) (fun i hi => ?_) (fun i h5 h6 => ?_) (fun i hi => ?_)))⟩)) e1
    · rw [nI_1]
      exact vp_in_nI (by omega) (by decide)
    · rw [nI_1, nI_clamp (by omega), nI_clamp (by omega)]
    · rw [pk_un (by omega)]
      exact w1 i hi
    · by_cases e : i = j
      · rw [e, pk_us]
        exact w3 (j + 1) (by omega)
      · rw [pk_un e]
        exact w2 i h5 (by omega)
    · rw [pk_un (by omega)]
      exact w3 i (by omega)
theorem yd_th {post : Int32 → SY → Prop} {nc c : Nat} {N : Nat → Nat} {V : Nat → Nat → Int32} (hnc : nc ≤ 24) (hc : c < nc) (hl : sd_Ar nc N yl) (h0 : 0 < N c) (hs : sd_sum N nc ≤ 512) (hy : sd_YS nc N V yw)
    (K : ∀ yw : Nat → Int32, sd_YS nc (sd_uN N c (N c - 1)) (sd_dV V c 1) yw → post (V c 0) (YA, YM, yn, nI nc, yv, ye, yp, yd, gS, gD, gP, gK, gI, gC, yq, yc, yf, yt, ys, yb, yw, upd yl c (nI (N c - 1)), yg)) : wpY_takeHead post (YA, YM, yn, nI nc, yv, ye, yp, yd, gS, gD, gP, gK, gI, gC, yq, yc, yf, yt, ys, yb, yw, yl, yg) (nI c) := by
  have hcl : (nI c).toNatClampNeg = c := nI_clamp (by omega)
  have v24 : vp_in (nI c) 24 := vp_in_nI (by omega) (by decide)
  have hat := sd_sum_at (f := N) hc
  have hv : yw (sd_sum N c) = V c 0 := hy c hc 0 h0
  have e0 : 0 < yl (nI c).toNatClampNeg := by
    rw [hcl, hl c hc]
    exact nI_lt (a := 0) h0 (by omega)
  refine ⟨v24, br_t e0 (yd_so hnc (by omega) hl (br_f (nI_pos (by omega)) (br_t (nI_lt (b := 512) (by omega) (by decide)) ⟨vp_in_nI (by omega) (by decide), nm_r (e' := V c 0) (by rw [nI_clamp (by omega)]; exact hv) (yd_tt hnc hl ⟨sd_sum N nc + 1, ?_⟩)⟩)))⟩
  exact yd_th46 (w0 := yw) (by omega) (hl c hc) h0 (by omega) hs (fun yw' k1 k2 => K yw' (sd_YS_deq hy hc h0 k1 k2)) (sd_sum N nc + 1) (sd_sum N c) yw (by omega) (Nat.le_refl _) (by omega) (fun _ _ => rfl) (fun i h5 h6 => absurd h6 (by omega)) (fun _ _ => rfl)
theorem yd_at42 {post : SY → Prop} {c q at0 tot : Nat} {v : Int32} {w0 : Nat → Int32} (hc : c < 24) (hl : yl c = nI q) (ht : tot < 512)
    (K : ∀ yw : Nat → Int32, (∀ i, i < at0 → yw i = w0 i) → yw at0 = v → (∀ i, at0 ≤ i → i < tot → yw (i + 1) = w0 i) → post (YA, YM, yn, ym, yv, ye, yp, yd, gS, gD, gP, gK, gI, gC, yq, yc, yf, yt, ys, yb, yw, upd yl c (nI (q + 1)), yg)) :
    ∀ (n j : Nat) (yw : Nat → Int32), j < n + at0 → at0 ≤ j → j ≤ tot → (∀ i, i ≤ j → yw i = w0 i) → (∀ i, j ≤ i → i < tot → yw (i + 1) = w0 i) → wY_appendTail_42 post (nI c) v (nI at0) YA YM yn ym yv ye yp yd n (nI j) gS gD gP gK gI gC yq yc yf yt ys yb yw yl yg := by
  intro n
  induction n with
  | zero => intro j yw h1 h2 h3; omega
  | succ n ih =>
    intro j yw h1 h2 h3 w1 w2
    have hcl : (nI c).toNatClampNeg = c := nI_clamp (by omega)
    have v24 : vp_in (nI c) 24 := vp_in_nI (by omega) (by decide)
    refine pk_le j at0 (fun hj => ?_) (fun hj => ?_)
    · have e : j = at0 := by omega
      subst e
      refine ⟨vp_in_nI (by omega) (by decide), nm_r (e' := upd yw j v) (by rw [nI_clamp (by omega)]) ⟨v24, v24, nm_r (e' := upd yl c (nI (q + 1))) (by rw [hcl, hl, nI_1]) (K _ (fun i hi => ?_) pk_us (fun i h5 h6 => ?_))⟩⟩
      · rw [pk_un (by omega)]
        exact w1 i (by omega)
      · rw [pk_un (by omega)]
        exact w2 i h5 h6
    · obtain ⟨j, rfl⟩ : ∃ m, j = m + 1 := ⟨j - 1, by omega⟩
      refine ⟨?_, vp_in_nI (by omega) (by decide), nm_r (e' := upd yw (j + 1) (yw j)) ?_ (nm_r (pk_m1 j) (ih j _ (by omega) (by omega) (by omega) (fun i hi => ?_) (fun i h5 h6 => ?_)))⟩
      · rw [nI_pred]
        exact vp_in_nI (by omega) (by decide)
      · rw [nI_pred, nI_clamp (by omega), nI_clamp (by omega)]
      · rw [pk_un (by omega)]
        exact w1 i (by omega)
      · by_cases e : i = j
        · rw [e, pk_us]
          exact w1 j (by omega)
        · rw [pk_un (by omega)]
          exact w2 i (by omega) h6
theorem yd_at {post : SY → Prop} {nc c : Nat} {N : Nat → Nat} {V : Nat → Nat → Int32} {v : Int32} (hnc : nc ≤ 24) (hc : c < nc) (hl : sd_Ar nc N yl) (hs : sd_sum N nc < 512) (hy : sd_YS nc N V yw)
    (K : ∀ yw : Nat → Int32, sd_YS nc (sd_uN N c (N c + 1)) (sd_eV V c (N c) v) yw → post (YA, YM, yn, nI nc, yv, ye, yp, yd, gS, gD, gP, gK, gI, gC, yq, yc, yf, yt, ys, yb, yw, upd yl c (nI (N c + 1)), yg)) : wpY_appendTail post (YA, YM, yn, nI nc, yv, ye, yp, yd, gS, gD, gP, gK, gI, gC, yq, yc, yf, yt, ys, yb, yw, yl, yg) (nI c) v := by
  have hcl : (nI c).toNatClampNeg = c := nI_clamp (by omega)
  have v24 : vp_in (nI c) 24 := vp_in_nI (by omega) (by decide)
  have hat := sd_sum_at (f := N) hc
  refine yd_tt hnc hl (br_t (nI_lt (b := 512) hs (by decide)) (yd_so hnc (by omega) hl ⟨v24, nm_r (e' := nI (sd_sum N c + N c)) (by rw [hcl, hl c hc, nI_add]) (br_f (nI_pos (by omega)) (br_t (nI_le hat (by omega)) ⟨sd_sum N nc + 1, ?_⟩))⟩))
  exact yd_at42 (w0 := yw) (by omega) (hl c hc) hs (fun yw' k1 k2 k3 => K yw' (sd_YS_enq hy hc k1 k2 k3)) (sd_sum N nc + 1) (sd_sum N nc) yw (by omega) hat (Nat.le_refl _) (fun _ _ => rfl) (fun i h5 h6 => absurd h6 (by omega))
/-! takes -/
theorem yd_67 {post : SY → Prop} {J43 : Int32 → Int32 → Int32 → Int32 → Int32 → Int32 → Int32 → Int32 → Int32 → Int32 → (Nat → Int32) → (Nat → Int32) → (Nat → Int32) → (Nat → Int32) → (Nat → Int32) → (Nat → Int32) → (Nat → Int64) → (Nat → Int32) → (Nat → Int32) → (Nat → Int32) → (Nat → Int32) → (Nat → Int32) → (Nat → Int32) → (Nat → Int32) → (Nat → Int32) → Prop} {x1 : Int32} {nc c m : Nat} {N : Nat → Nat} {V : Nat → Nat → Int32} {s0 : Int32} (hnc : nc ≤ 24) (hc : c < nc) (hK : gK c = nI m) (hm : m ≤ 8) (hq : m ≤ N c) (hs : sd_sum N nc ≤ 512)
    (K : ∀ yw yl : Nat → Int32, sd_Ar nc (sd_uN N c (N c - m)) yl → sd_YS nc (sd_uN N c (N c - m)) (sd_dV V c m) yw → J43 (sd_ts (V c) s0 m) (nI (c + 1)) YA YM yn (nI nc) yv ye yp yd gS gD gP gK gI gC yq yc yf yt ys yb yw yl yg) :
    ∀ (n i : Nat) (yw yl : Nat → Int32), m < n + i → i ≤ m → sd_Ar nc (sd_uN N c (N c - i)) yl → sd_YS nc (sd_uN N c (N c - i)) (sd_dV V c i) yw → wY_step_67 post J43 x1 (nI c) n (sd_ts (V c) s0 i) (nI i) YA YM yn (nI nc) yv ye yp yd gS gD gP gK gI gC yq yc yf yt ys yb yw yl yg := by
  intro n
  induction n with
  | zero => intro i yw yl h1 h2; omega
  | succ n ih =>
    intro i yw yl h1 h2 hl hy
    have hcl : (nI c).toNatClampNeg = c := nI_clamp (by omega)
    have v24 : vp_in (nI c) 24 := vp_in_nI (by omega) (by decide)
    refine ⟨v24, ?_⟩
    rw [hcl, hK]
    refine pk_le m i (fun hj => nm_r (nI_1 c) ?_) (fun hj => ?_)
    · have e : i = m := by omega
      subst e
      exact K yw yl hl hy
    · have hsu := sd_sum_uN (N := N) (m := N c - i) hc
      refine yd_th hnc hc hl (by rw [sd_uN_s]; omega) (by omega) hy (fun yw' hy' => nm_r (e' := sd_ts (V c) s0 (i + 1)) ?_ (nm_r (nI_1 i) (ih (i + 1) yw' _ (by omega) (by omega) ?_ ?_)))
      · rw [sd_dV_s, Nat.zero_add]
        rfl
      · have h := sd_Ar_u (c := c) (v := sd_uN N c (N c - i) c - 1) hl
        rw [sd_uN_u, sd_uN_s] at h
        rw [sd_uN_s]
        exact h
      · rw [sd_uN_u, sd_uN_s, sd_dV_d] at hy'
        exact hy'
theorem yd_43 {post : SY → Prop} {na nc a : Nat} {s d p k i0 cp N : Nat → Nat} {V : Nat → Nat → Int32} (hna : na ≤ 10) (hnc : nc ≤ 24) (hG : sd_Gr na nc s d p k i0 cp gS gD gP gK gI gC) (ha : a < na) (hk : ∀ c, c < nc → d c = a → k c ≤ N c) (hs : sd_sum N nc ≤ 512)
    (K : ∀ yw yl : Nat → Int32, sd_Ar nc (sd_tN d k a N nc) yl → sd_YS nc (sd_tN d k a N nc) (sd_tV d k a V nc) yw → ∃ n125 : Nat, wY_step_125 post (nI a) (31 * sd_tS d k a V nc + yg a + 1) n125 0 YA YM (nI na) (nI nc) yv ye yp yd gS gD gP gK gI gC yq yc yf yt ys yb yw yl (upd yg a (yg a + 1))) :
    ∀ (n c : Nat) (yw yl : Nat → Int32), nc < n + c → c ≤ nc → sd_Ar nc (sd_tN d k a N c) yl → sd_YS nc (sd_tN d k a N c) (sd_tV d k a V c) yw → wY_step_43 post (nI a) n (sd_tS d k a V c) (nI c) YA YM (nI na) (nI nc) yv ye yp yd gS gD gP gK gI gC yq yc yf yt ys yb yw yl yg := by
  intro n
  induction n with
  | zero => intro c yw yl h1 h2; omega
  | succ n ih =>
    intro c yw yl h1 h2 hl hy
    have v10 : vp_in (nI a) 10 := vp_in_nI (by omega) (by decide)
    have acl : (nI a).toNatClampNeg = a := nI_clamp (by omega)
    refine pk_le nc c (fun hj => ?_) (fun hj => ?_)
    · have e : c = nc := by omega
      subst e
      exact ⟨v10, nm_r (e' := 31 * sd_tS d k a V c + yg a + 1) (by rw [acl]) ⟨v10, v10, nm_r (e' := upd yg a (yg a + 1)) (by rw [acl]) (K yw yl hl hy)⟩⟩
    · have hcl : (nI c).toNatClampNeg = c := nI_clamp (by omega)
      obtain ⟨⟨eS, eD, eP, eK, _, eC⟩, ⟨g1, g2, g3, g4, g5, g6⟩, _, g8⟩ := hG c hj
      have v24 : vp_in (nI c) 24 := vp_in_nI (by omega) (by decide)
      have tc : sd_tN d k a N c c = N c := sd_tN_hi (Nat.le_refl c)
      have tv : sd_tV d k a V c c = V c := sd_tV_hi (Nat.le_refl c)
      have hsl : sd_sum (sd_tN d k a N c) nc ≤ 512 := Nat.le_trans (sd_sum_le nc (fun j _ => sd_tN_le j)) hs
      refine ⟨v24, ?_⟩
      rw [hcl, eD, nI_eq (by omega) (by omega)]
      refine br_c (fun h => ⟨k c + 1, ?_⟩) (fun h => nm_r (nI_1 c) ?_)
      · have hkc := hk c hj h
        refine yd_67 (N := sd_tN d k a N c) (V := sd_tV d k a V c) hnc hj eK g6 (by rw [tc]; exact hkc) hsl (fun yw' yl' hl' hy' => ?_) (k c + 1) 0 yw yl (by omega) (Nat.zero_le _) ?_ ?_
        · rw [tv, ← sd_tS_y h]
          rw [tc, sd_tN_y h] at hl' hy'
          rw [sd_tV_y h] at hy'
          exact ih (c + 1) yw' yl' (by omega) (by omega) hl' hy'
        · rw [sd_uN_id (by omega)]
          exact hl
        · rw [sd_uN_id (by omega), sd_dV_0]
          exact hy
      · have hi := ih (c + 1) yw yl (by omega) (by omega) (by rw [sd_tN_n h]; exact hl) (by rw [sd_tN_n h, sd_tV_n h]; exact hy)
        rw [sd_tS_n h] at hi
        exact hi
/-! puts, and the step -/
theorem yd_151 {post : SY → Prop} {J125 : Int32 → Int32 → Int32 → Int32 → Int32 → Int32 → Int32 → Int32 → Int32 → (Nat → Int32) → (Nat → Int32) → (Nat → Int32) → (Nat → Int32) → (Nat → Int32) → (Nat → Int32) → (Nat → Int64) → (Nat → Int32) → (Nat → Int32) → (Nat → Int32) → (Nat → Int32) → (Nat → Int32) → (Nat → Int32) → (Nat → Int32) → (Nat → Int32) → Prop} {x1 : Int32} {nc c m : Nat} {N : Nat → Nat} {V : Nat → Nat → Int32} {v : Int32} (hnc : nc ≤ 24) (hc : c < nc) (hP : gP c = nI m) (hm : m ≤ 8) (hs : sd_sum N nc + m ≤ 512)
    (K : ∀ yw yl : Nat → Int32, sd_Ar nc (sd_uN N c (N c + m)) yl → sd_YS nc (sd_uN N c (N c + m)) (sd_eV V c (N c) v) yw → J125 (nI (c + 1)) YA YM yn (nI nc) yv ye yp yd gS gD gP gK gI gC yq yc yf yt ys yb yw yl yg) :
    ∀ (n i : Nat) (yw yl : Nat → Int32), m < n + i → i ≤ m → sd_Ar nc (sd_uN N c (N c + i)) yl → sd_YS nc (sd_uN N c (N c + i)) (sd_eV V c (N c) v) yw → wY_step_151 post J125 x1 v (nI c) n (nI i) YA YM yn (nI nc) yv ye yp yd gS gD gP gK gI gC yq yc yf yt ys yb yw yl yg := by
  intro n
  induction n with
  | zero => intro i yw yl h1 h2; omega
  | succ n ih =>
    intro i yw yl h1 h2 hl hy
    have hcl : (nI c).toNatClampNeg = c := nI_clamp (by omega)
    have v24 : vp_in (nI c) 24 := vp_in_nI (by omega) (by decide)
    refine ⟨v24, ?_⟩
    rw [hcl, hP]
    refine pk_le m i (fun hj => nm_r (nI_1 c) ?_) (fun hj => ?_)
    · have e : i = m := by omega
      subst e
      exact K yw yl hl hy
    · have hsu := sd_sum_uN (N := N) (m := N c + i) hc
      refine yd_at hnc hc hl (by omega) hy (fun yw' hy' => nm_r (nI_1 i) (ih (i + 1) yw' _ (by omega) (by omega) ?_ ?_))
      · have h := sd_Ar_u (c := c) (v := sd_uN N c (N c + i) c + 1) hl
        rw [sd_uN_u, sd_uN_s] at h
        rw [sd_uN_s]
        exact h
      · rw [sd_uN_u, sd_uN_s, sd_eV_e] at hy'
        exact hy'
theorem yd_125 {post : SY → Prop} {na nc a pos L : Nat} {s d p k i0 cp N : Nat → Nat} {V : Nat → Nat → Int32} {v : Int32} (hna : na ≤ 10) (hnc : nc ≤ 24) (hG : sd_Gr na nc s d p k i0 cp gS gD gP gK gI gC) (ha : a < na) (hM : sd_sum (sd_pN s p a N nc) nc ≤ 512) (hp : pos < L) (hL : L ≤ 256)
    (K : ∀ yw yl : Nat → Int32, sd_Ar nc (sd_pN s p a N nc) yl → sd_YS nc (sd_pN s p a N nc) (sd_pV s a v N V nc) yw → (pos + 1 < L → post (YA, YM, nI na, nI nc, yv, nI L, nI (pos + 1), yd, gS, gD, gP, gK, gI, gC, yq, yc, yf, yt, ys, yb, yw, yl, yg)) ∧ (pos + 1 = L → post (YA, YM, nI na, nI nc, yv, nI L, 0, yd + 1, gS, gD, gP, gK, gI, gC, yq, yc, yf, yt, ys, yb, yw, yl, yg))) :
    ∀ (n c : Nat) (yw yl : Nat → Int32), nc < n + c → c ≤ nc → sd_Ar nc (sd_pN s p a N c) yl → sd_YS nc (sd_pN s p a N c) (sd_pV s a v N V c) yw → wY_step_125 post (nI a) v n (nI c) YA YM (nI na) (nI nc) yv (nI L) (nI pos) yd gS gD gP gK gI gC yq yc yf yt ys yb yw yl yg := by
  intro n
  induction n with
  | zero => intro c yw yl h1 h2; omega
  | succ n ih =>
    intro c yw yl h1 h2 hl hy
    refine pk_le nc c (fun hj => nm_r (nI_1 pos) ?_) (fun hj => ?_)
    · have e : c = nc := by omega
      subst e
      have KK := K yw yl hl hy
      exact pk_eq (pos + 1) L (fun h => nm_e (KK.2 h)) (fun h => KK.1 (by omega))
    · have hcl : (nI c).toNatClampNeg = c := nI_clamp (by omega)
      obtain ⟨⟨eS, eD, eP, eK, _, eC⟩, ⟨g1, g2, g3, g4, g5, g6⟩, _, g8⟩ := hG c hj
      have v24 : vp_in (nI c) 24 := vp_in_nI (by omega) (by decide)
      have tc : sd_pN s p a N c c = N c := sd_pN_hi (Nat.le_refl c)
      refine ⟨v24, ?_⟩
      rw [hcl, eS, nI_eq (by omega) (by omega)]
      refine br_c (fun h => ⟨p c + 1, ?_⟩) (fun h => nm_r (nI_1 c) (ih (c + 1) yw yl (by omega) (by omega) (by rw [sd_pN_n h]; exact hl) (by rw [sd_pN_n h, sd_pV_n h]; exact hy)))
      have hsu := sd_sum_uN (N := sd_pN s p a N c) (m := N c + p c) hj
      rw [tc, sd_pN_y h] at hsu
      have hle : sd_sum (sd_pN s p a N (c + 1)) nc ≤ sd_sum (sd_pN s p a N nc) nc := sd_sum_le nc (fun j _ => sd_pN_le (by omega) j)
      refine yd_151 (N := sd_pN s p a N c) (V := sd_pV s a v N V c) hnc hj eP g4 (by omega) (fun yw' yl' hl' hy' => ?_) (p c + 1) 0 yw yl (by omega) (Nat.zero_le _) ?_ ?_
      · rw [tc, sd_pN_y h] at hl' hy'
        rw [sd_pV_y h] at hy'
        exact ih (c + 1) yw' yl' (by omega) (by omega) hl' hy'
      · rw [sd_uN_id (by omega)]
        exact hl
      · rw [sd_uN_id (by omega)]
        refine sd_YS_v hy (fun x hx2 i hi => ?_)
        by_cases e : x = c
        · subst e
          exact sd_eV_l hi
        · exact sd_eV_o e
theorem yd_st {post : SY → Prop} {na nc a pos L : Nat} {s d p k i0 cp N : Nat → Nat} {V : Nat → Nat → Int32} (hna : na ≤ 10) (hnc : nc ≤ 24) (hG : sd_Gr na nc s d p k i0 cp gS gD gP gK gI gC) (ha : a < na) (hp : pos < L) (hL : L ≤ 256) (hs : ys pos = nI a) (hk : ∀ c, c < nc → d c = a → k c ≤ N c) (hM1 : sd_sum N nc ≤ 512) (hM : sd_sum (sd_fire s d p k a N) nc ≤ 512) (hl : sd_Ar nc N yl) (hy : sd_YS nc N V yw)
    (K : ∀ yw yl : Nat → Int32, sd_Ar nc (sd_pN s p a (sd_tN d k a N nc) nc) yl → sd_YS nc (sd_pN s p a (sd_tN d k a N nc) nc) (sd_pV s a (31 * sd_tS d k a V nc + yg a + 1) (sd_tN d k a N nc) (sd_tV d k a V nc) nc) yw → (pos + 1 < L → post (YA, YM, nI na, nI nc, yv, nI L, nI (pos + 1), yd, gS, gD, gP, gK, gI, gC, yq, yc, yf, yt, ys, yb, yw, yl, upd yg a (yg a + 1))) ∧ (pos + 1 = L → post (YA, YM, nI na, nI nc, yv, nI L, 0, yd + 1, gS, gD, gP, gK, gI, gC, yq, yc, yf, yt, ys, yb, yw, yl, upd yg a (yg a + 1)))) :
    wpY_step post (YA, YM, nI na, nI nc, yv, nI L, nI pos, yd, gS, gD, gP, gK, gI, gC, yq, yc, yf, yt, ys, yb, yw, yl, yg) := by
  refine br_f (nI_pos (by omega)) (br_f (nI_ge hp (by omega)) (br_t (nI_lt (b := 256) (by omega) (by decide)) ⟨vp_in_nI (by omega) (by decide), nm_r (e' := nI a) (by rw [nI_clamp (by omega)]; exact hs) ⟨nc + 1, ?_⟩⟩))
  refine yd_43 hna hnc hG ha hk hM1 (fun yw' yl' hl' hy' => ⟨nc + 1, ?_⟩) (nc + 1) 0 yw yl (by omega) (Nat.zero_le _) (by rw [sd_tN_0]; exact hl) (by rw [sd_tN_0, sd_tV_0]; exact hy)
  exact yd_125 hna hnc hG ha (by rw [sd_sum_eq nc (fun j hj => sd_tp hj)]; exact hM) hp hL K (nc + 1) 0 yw' yl' (by omega) (Nat.zero_le _) (by rw [sd_pN_0]; exact hl') (by rw [sd_pN_0, sd_pV_0]; exact hy')
end
end
section
/-! the constructors, the edits, the getters -/
theorem sd_ix (x : Int32) {n : Nat} (hn : n < 2 ^ 31) : x < 0 ∨ (¬ x < 0 ∧ nI n ≤ x ∧ ¬ x < nI n) ∨ ∃ j : Nat, j < n ∧ x = nI j := by
  by_cases h : x < 0
  · exact Or.inl h
  · obtain ⟨j, hj, rfl⟩ := nI_of h
    by_cases h2 : j < n
    · exact Or.inr (Or.inr ⟨j, h2, rfl⟩)
    · exact Or.inr (Or.inl ⟨h, nI_le (by omega) hj, nI_nlt (by omega) hj⟩)
theorem sd_rt (x : Int32) : x < 1 ∨ (¬ x < 1 ∧ 8 < x ∧ ¬ x ≤ 8) ∨ ∃ q : Nat, 0 < q ∧ q ≤ 8 ∧ x = nI q := by
  by_cases h : x < 1
  · exact Or.inl h
  · have h0 : ¬ x < 0 := fun z => h (Int32.lt_trans z (by decide))
    obtain ⟨j, hj, rfl⟩ := nI_of h0
    have h1 : 0 < j := by
      apply Nat.pos_of_ne_zero
      intro e
      subst e
      exact h (by decide)
    by_cases h2 : j ≤ 8
    · exact Or.inr (Or.inr ⟨j, h1, h2, rfl⟩)
    · exact Or.inr (Or.inl ⟨h, nI_lt (a := 8) (by omega) hj, nI_ge (a := 8) (by omega) hj⟩)
/-- a value within 0 .. M -/
theorem sd_rg (x : Int32) {M : Nat} (hM : M < 2 ^ 31) : x < 0 ∨ (¬ x < 0 ∧ ¬ x ≤ nI M) ∨ ∃ q : Nat, q ≤ M ∧ x = nI q := by
  by_cases h : x < 0
  · exact Or.inl h
  · obtain ⟨j, hj, rfl⟩ := nI_of h
    by_cases h2 : j ≤ M
    · exact Or.inr (Or.inr ⟨j, h2, rfl⟩)
    · exact Or.inr (Or.inl ⟨h, nI_ge (by omega) hj⟩)
def sd_cp (x : Int32) (lo hi m : Nat) : Prop := (¬ nI lo ≤ x ∧ m = lo) ∨ (nI lo ≤ x ∧ ¬ x ≤ nI hi ∧ m = hi) ∨ (nI lo ≤ x ∧ x ≤ nI hi ∧ x = nI m)
theorem sd_cp_ex (x : Int32) {lo hi : Nat} (h : lo ≤ hi) (hb : hi < 2 ^ 31) : ∃ m, sd_cp x lo hi m ∧ lo ≤ m ∧ m ≤ hi := by
  by_cases h1 : nI lo ≤ x
  · by_cases h2 : x ≤ nI hi
    · have h0 : ¬ x < 0 := fun z => Int32.not_le.mpr z (Int32.le_trans (nI_pos' (by omega)) h1)
      obtain ⟨j, hj, rfl⟩ := nI_of h0
      rw [nI_leI (by omega) hj] at h1
      rw [nI_leI hj hb] at h2
      exact ⟨j, Or.inr (Or.inr ⟨(nI_leI (by omega) hj).mpr h1, (nI_leI hj hb).mpr h2, rfl⟩), h1, h2⟩
    · exact ⟨hi, Or.inr (Or.inl ⟨h1, h2, rfl⟩), h, Nat.le_refl _⟩
  · exact ⟨lo, Or.inl ⟨h1, rfl⟩, Nat.le_refl _, h⟩
theorem xe_cl {post : Int32 → Prop} {x : Int32} {lo hi m : Nat} (h : sd_cp x lo hi m) (K : post (nI m)) : wpX_clamp post x (nI lo) (nI hi) := by
  rcases h with ⟨h1, rfl⟩ | ⟨h1, h2, rfl⟩ | ⟨h1, h2, rfl⟩
  · exact br_f h1 K
  · exact br_t h1 (br_f h2 K)
  · exact br_t h1 (br_t h2 K)
theorem sd_mk {k0 ma mc na nc : Nat} {s d p k i0 cp : Nat → Nat} {gS gD gP gK gI gC : Nat → Int32} {w xe xp xd : Int32} {xq : Nat → Int64} {xc xs xb xt xf xw xh xl xg : Nat → Int32} {ye yp yd : Int32} {yq : Nat → Int64} {yc yf yt ys yb yw yl yg : Nat → Int32}
    (hN : sd_Nm ma mc na nc) (hG : sd_Gr na nc s d p k i0 cp gS gD gP gK gI gC) (hV : sd_VC na nc s d p k i0 w xe xp xd xq xs xb xw xh xl xg ye yp yd yq ys yb yw yl yg) :
    i_Rel k0 (nI ma, nI mc, nI na, nI nc, w, xe, xp, xd, gS, gD, gP, gK, gI, gC, xq, xc, xs, xb, xt, xf, xw, xh, xl, xg) (nI ma, nI mc, nI na, nI nc, w, ye, yp, yd, gS, gD, gP, gK, gI, gC, yq, yc, yf, yt, ys, yb, yw, yl, yg) :=
  ⟨ma, mc, na, nc, s, d, p, k, i0, cp, gS, gD, gP, gK, gI, gC, w, xe, xp, xd, xq, xc, xs, xb, xt, xf, xw, xh, xl, xg, ye, yp, yd, yq, yc, yf, yt, ys, yb, yw, yl, yg, rfl, rfl, hN, hG, hV⟩
theorem i_up {k : Nat} {u : SX} {v : SY} (h : i_Rel k u v) : i_Rel (k + 5) u v := h
theorem ye_148 {post : SY → Prop} {x : Int32} {ma mc : Nat} (h : sd_cp x 1 24 mc) (K : post (nI ma, nI mc, 0, 0, 0, 0, 0, 0, fun _ => 0, fun _ => 0, fun _ => 0, fun _ => 0, fun _ => 0, fun _ => 0, fun _ => 0, fun _ => 0, fun _ => 0, fun _ => 0, fun _ => 0, fun _ => 0, fun _ => 0, fun _ => 0, fun _ => 0)) :
    wY_init_148 post x (nI ma) 0 0 0 0 0 0 0 0 (fun _ => 0) (fun _ => 0) (fun _ => 0) (fun _ => 0) (fun _ => 0) (fun _ => 0) (fun _ => 0) (fun _ => 0) (fun _ => 0) (fun _ => 0) (fun _ => 0) (fun _ => 0) (fun _ => 0) (fun _ => 0) (fun _ => 0) := by
  rcases h with ⟨h1, rfl⟩ | ⟨h1, h2, rfl⟩ | ⟨h1, h2, rfl⟩
  · exact br_f h1 K
  · exact br_t h1 (br_f h2 K)
  · exact br_t h1 (br_t h2 K)
theorem ye_init {post : SY → Prop} {x y : Int32} {ma mc : Nat} (h : sd_cp x 2 10 ma) (h' : sd_cp y 1 24 mc) (K : post (nI ma, nI mc, 0, 0, 0, 0, 0, 0, fun _ => 0, fun _ => 0, fun _ => 0, fun _ => 0, fun _ => 0, fun _ => 0, fun _ => 0, fun _ => 0, fun _ => 0, fun _ => 0, fun _ => 0, fun _ => 0, fun _ => 0, fun _ => 0, fun _ => 0)) : wpY_init post x y := by
  have K2 := ye_148 h' K
  rcases h with ⟨h1, rfl⟩ | ⟨h1, h2, rfl⟩ | ⟨h1, h2, rfl⟩
  · exact br_f h1 K2
  · exact br_t h1 (br_f h2 K2)
  · exact br_t h1 (br_t h2 K2)
theorem i_vc0 (k0 : Int32) (k1 : Int32) : wpX_init (fun u => wpY_init (fun v => i_Rel 2 u v) k0 k1) k0 k1 := by
  obtain ⟨ma, h1, h2, h3⟩ := sd_cp_ex k0 (lo := 2) (hi := 10) (by decide) (by decide)
  obtain ⟨mc, h4, h5, h6⟩ := sd_cp_ex k1 (lo := 1) (hi := 24) (by decide) (by decide)
  refine xe_cl h1 (xe_cl h4 (ye_init h1 h4 ?_))
  exact sd_mk (na := 0) (nc := 0) (s := fun _ => 0) (d := fun _ => 0) (p := fun _ => 0) (k := fun _ => 0) (i0 := fun _ => 0) (cp := fun _ => 0) ⟨h2, h3, h5, h6, Nat.zero_le _, Nat.zero_le _⟩ (fun c hc => absurd hc (Nat.not_lt_zero c)) (Or.inl rfl)
theorem i_vc_clear {k : Nat} {u : SX} {v : SY} (I : i_Rel k u v) (hk : k + 5 ≤ 2562) : wpX_clear (fun u' => wpY_clear (fun v' => i_Rel (k + 5) u' v') v) u := by
  have I0 := I
  obtain ⟨ma, mc, na, nc, s, d, p, kk, i0, cp, gS, gD, gP, gK, gI, gC, w, xe, xp, xd, xq, xc, xs, xb, xt, xf, xw, xh, xl, xg, ye, yp, yd, yq, yc, yf, yt, ys, yb, yw, yl, yg, rfl, rfl, hN, hG, hV⟩ := I
  obtain ⟨n1, n2, n3, n4, n5, n6⟩ := hN
  exact sd_mk (k0 := k + 5) (na := 0) (nc := 0) (s := s) (d := d) (p := p) (k := kk) (i0 := i0) (cp := cp) ⟨n1, n2, n3, n4, Nat.zero_le _, Nat.zero_le _⟩ (fun c hc => absurd hc (Nat.not_lt_zero c)) (Or.inl rfl)
theorem sd_Gr_up {na nc : Nat} {s d p k i0 cp : Nat → Nat} {gS gD gP gK gI gC : Nat → Int32} (h : sd_Gr na nc s d p k i0 cp gS gD gP gK gI gC) : sd_Gr (na + 1) nc s d p k i0 cp gS gD gP gK gI gC := fun c hc => by
  obtain ⟨h1, ⟨g1, g2, g3⟩, h3⟩ := h c hc
  exact ⟨h1, ⟨by omega, by omega, g3⟩, h3⟩
theorem i_vc_addActor {k : Nat} {u : SX} {v : SY} (I : i_Rel k u v) (hk : k + 5 ≤ 2562) : wpX_addActor (fun r u' => wpY_addActor (fun r' v' => r' = r ∧ i_Rel (k + 5) u' v') v) u := by
  have I0 := I
  obtain ⟨ma, mc, na, nc, s, d, p, kk, i0, cp, gS, gD, gP, gK, gI, gC, w, xe, xp, xd, xq, xc, xs, xb, xt, xf, xw, xh, xl, xg, ye, yp, yd, yq, yc, yf, yt, ys, yb, yw, yl, yg, rfl, rfl, hN, hG, hV⟩ := I
  obtain ⟨n1, n2, n3, n4, n5, n6⟩ := hN
  refine pk_lt na ma (fun h => nm_r (nI_1 na) (br_t (nI_lt h (by omega)) (nm_r (nI_1 na) ⟨nI_pred na, ?_⟩))) (fun h => br_f (nI_nlt h (by omega)) ⟨rfl, I0⟩)
  exact sd_mk ⟨n1, n2, n3, n4, h, n6⟩ (sd_Gr_up hG) (Or.inl rfl)
section
variable {XA : Int32} {XM : Int32} {xn : Int32} {xm : Int32} {xv : Int32} {xe : Int32} {xp : Int32} {xd : Int32} {gS : Nat → Int32} {gD : Nat → Int32} {gP : Nat → Int32} {gK : Nat → Int32} {gI : Nat → Int32} {gC : Nat → Int32} {xq : Nat → Int64} {xc : Nat → Int32} {xs : Nat → Int32} {xb : Nat → Int32} {xt : Nat → Int32} {xf : Nat → Int32} {xw : Nat → Int32} {xh : Nat → Int32} {xl : Nat → Int32} {xg : Nat → Int32}
theorem xe_ia1 {post : Int32 → Prop} {na j : Nat} (hn : na ≤ 10) (h : j < na) (K : post 1) : wpX_isActor post (XA, XM, nI na, xm, xv, xe, xp, xd, gS, gD, gP, gK, gI, gC, xq, xc, xs, xb, xt, xf, xw, xh, xl, xg) (nI j) := br_f (nI_pos (by omega)) (br_f (nI_ge h (by omega)) K)
theorem xe_ia0 {post : Int32 → Prop} {na : Nat} {x : Int32} (h : x < 0 ∨ (¬ x < 0 ∧ nI na ≤ x)) (K : post 0) : wpX_isActor post (XA, XM, nI na, xm, xv, xe, xp, xd, gS, gD, gP, gK, gI, gC, xq, xc, xs, xb, xt, xf, xw, xh, xl, xg) x := by
  rcases h with h | ⟨h1, h2⟩
  · exact br_t h K
  · exact br_f h1 (br_t h2 K)
theorem xe_ic1 {post : Int32 → Prop} {nc j : Nat} (hn : nc ≤ 24) (h : j < nc) (K : post 1) : wpX_isChannel post (XA, XM, xn, nI nc, xv, xe, xp, xd, gS, gD, gP, gK, gI, gC, xq, xc, xs, xb, xt, xf, xw, xh, xl, xg) (nI j) := br_f (nI_pos (by omega)) (br_f (nI_ge h (by omega)) K)
theorem xe_ic0 {post : Int32 → Prop} {nc : Nat} {x : Int32} (h : x < 0 ∨ (¬ x < 0 ∧ nI nc ≤ x)) (K : post 0) : wpX_isChannel post (XA, XM, xn, nI nc, xv, xe, xp, xd, gS, gD, gP, gK, gI, gC, xq, xc, xs, xb, xt, xf, xw, xh, xl, xg) x := by
  rcases h with h | ⟨h1, h2⟩
  · exact br_t h K
  · exact br_f h1 (br_t h2 K)
end
theorem xe_ir1 {post : Int32 → Prop} {q : Nat} (h0 : 0 < q) (h8 : q ≤ 8) (K : post 1) : wpX_isRate post (nI q) := br_f (nI_nlt (b := 1) h0 (by omega)) (br_f (nI_nlt (a := 8) h8 (by omega)) K)
theorem xe_ir0 {post : Int32 → Prop} {x : Int32} (h : x < 1 ∨ (¬ x < 1 ∧ 8 < x)) (K : post 0) : wpX_isRate post x := by
  rcases h with h | ⟨h1, h2⟩
  · exact br_t h K
  · exact br_f h1 (br_t h2 K)
theorem sd_Gr_add {na nc a b q r : Nat} {s d p k i0 cp : Nat → Nat} {gS gD gP gK gI gC : Nat → Int32} (h : sd_Gr na nc s d p k i0 cp gS gD gP gK gI gC) (ha : a < na) (hb : b < na) (hq : 0 < q) (hq8 : q ≤ 8) (hr : 0 < r) (hr8 : r ≤ 8) :
    sd_Gr na (nc + 1) (sd_uN s nc a) (sd_uN d nc b) (sd_uN p nc q) (sd_uN k nc r) (sd_uN i0 nc 0) (sd_uN cp nc 0) (upd gS nc (nI a)) (upd gD nc (nI b)) (upd gP nc (nI q)) (upd gK nc (nI r)) (upd gI nc 0) (upd gC nc 0) := fun c hc => by
  by_cases e : c = nc
  · subst e
    simp only [pk_us, sd_uN_s]
    exact ⟨⟨by first | rfl | trivial, by first | rfl | trivial, by first | rfl | trivial, by first | rfl | trivial, by first | rfl | trivial, by first | rfl | trivial⟩, ⟨ha, hb, hq, hq8, hr, hr8⟩, by omega, by omega⟩
  · simp only [pk_un e, sd_uN_o e]
    exact h c (by omega)
theorem i_vc_addChannel {k : Nat} {u : SX} {v : SY} (I : i_Rel k u v) (hk : k + 5 ≤ 2562) (v1 : Int32) (v2 : Int32) (v3 : Int32) (v4 : Int32) : wpX_addChannel (fun r u' => wpY_addChannel (fun r' v' => r' = r ∧ i_Rel (k + 5) u' v') v v1 v2 v3 v4) u v1 v2 v3 v4 := by
  have I0 := I
  obtain ⟨ma, mc, na, nc, s, d, p, kk, i0, cp, gS, gD, gP, gK, gI, gC, w, xe, xp, xd, xq, xc, xs, xb, xt, xf, xw, xh, xl, xg, ye, yp, yd, yq, yc, yf, yt, ys, yb, yw, yl, yg, rfl, rfl, hN, hG, hV⟩ := I
  obtain ⟨n1, n2, n3, n4, n5, n6⟩ := hN
  refine pk_le mc nc (fun h => br_f (nI_nlt h (by omega)) ⟨rfl, I0⟩) (fun h => ?_)
  have hlt : nI nc < nI mc := nI_lt h (by omega)
  rcases sd_ix v1 (n := na) (by omega) with a | ⟨a, a', a''⟩ | ⟨ja, hja, rfl⟩
  · exact xe_ia0 (Or.inl a) (br_t rfl (br_t hlt (br_t a ⟨rfl, I0⟩)))
  · exact xe_ia0 (Or.inr ⟨a, a'⟩) (br_t rfl (br_t hlt (br_f a (br_f a'' ⟨rfl, I0⟩))))
  have sa : ¬ nI ja < 0 := nI_pos (by omega)
  have ta : nI ja < nI na := nI_lt hja (by omega)
  refine xe_ia1 (by omega) hja (br_f sd_n10 ?_)
  rcases sd_ix v2 (n := na) (by omega) with a | ⟨a, a', a''⟩ | ⟨jb, hjb, rfl⟩
  · exact xe_ia0 (Or.inl a) (br_t rfl (br_t hlt (br_f sa (br_t ta (br_t a ⟨rfl, I0⟩)))))
  · exact xe_ia0 (Or.inr ⟨a, a'⟩) (br_t rfl (br_t hlt (br_f sa (br_t ta (br_f a (br_f a'' ⟨rfl, I0⟩))))))
  have sb : ¬ nI jb < 0 := nI_pos (by omega)
  have tb : nI jb < nI na := nI_lt hjb (by omega)
  refine xe_ia1 (by omega) hjb (br_f sd_n10 ?_)
  rcases sd_rt v3 with a | ⟨a, a', a''⟩ | ⟨q, hq, hq8, rfl⟩
  · exact xe_ir0 (Or.inl a) (br_t rfl (br_t hlt (br_f sa (br_t ta (br_f sb (br_t tb (br_t a ⟨rfl, I0⟩)))))))
  · exact xe_ir0 (Or.inr ⟨a, a'⟩) (br_t rfl (br_t hlt (br_f sa (br_t ta (br_f sb (br_t tb (br_f a (br_f a'' ⟨rfl, I0⟩))))))))
  have sc : ¬ nI q < 1 := nI_nlt (b := 1) hq (by omega)
  have tc : nI q ≤ 8 := nI_le (b := 8) hq8 (by decide)
  refine xe_ir1 hq hq8 (br_f sd_n10 ?_)
  rcases sd_rt v4 with a | ⟨a, a', a''⟩ | ⟨r, hr, hr8, rfl⟩
  · exact xe_ir0 (Or.inl a) (br_t rfl (br_t hlt (br_f sa (br_t ta (br_f sb (br_t tb (br_f sc (br_t tc (br_t a ⟨rfl, I0⟩)))))))))
  · exact xe_ir0 (Or.inr ⟨a, a'⟩) (br_t rfl (br_t hlt (br_f sa (br_t ta (br_f sb (br_t tb (br_f sc (br_t tc (br_f a (br_f a'' ⟨rfl, I0⟩))))))))))
  have sd : ¬ nI r < 1 := nI_nlt (b := 1) hr (by omega)
  have td : nI r ≤ 8 := nI_le (b := 8) hr8 (by decide)
  have hcl : (nI nc).toNatClampNeg = nc := nI_clamp (by omega)
  have v24 : vp_in (nI nc) 24 := vp_in_nI (by omega) (by decide)
  refine xe_ir1 hr hr8 (br_f sd_n10 ⟨v24, nm_r (e' := upd gS nc (nI ja)) (by rw [hcl]) ⟨v24, nm_r (e' := upd gD nc (nI jb)) (by rw [hcl]) ⟨v24, nm_r (e' := upd gP nc (nI q)) (by rw [hcl]) ⟨v24, nm_r (e' := upd gK nc (nI r)) (by rw [hcl]) ⟨v24, nm_r (e' := upd gI nc 0) (by rw [hcl]) ⟨v24, nm_r (e' := upd gC nc 0) (by rw [hcl]) (nm_r (nI_1 nc) ?_)⟩⟩⟩⟩⟩⟩)
  refine br_t hlt (br_f sa (br_t ta (br_f sb (br_t tb (br_f sc (br_t tc (br_f sd (br_t td ⟨v24, nm_r (e' := upd gS nc (nI ja)) (by rw [hcl]) ⟨v24, nm_r (e' := upd gD nc (nI jb)) (by rw [hcl]) ⟨v24, nm_r (e' := upd gP nc (nI q)) (by rw [hcl]) ⟨v24, nm_r (e' := upd gK nc (nI r)) (by rw [hcl]) ⟨v24, nm_r (e' := upd gI nc 0) (by rw [hcl]) ⟨v24, nm_r (e' := upd gC nc 0) (by rw [hcl]) (nm_r (nI_1 nc) ⟨nI_pred nc, ?_⟩)⟩⟩⟩⟩⟩⟩))))))))
  exact sd_mk ⟨n1, n2, n3, n4, n5, h⟩ (sd_Gr_add hG hja hjb hq hq8 hr hr8) (Or.inl rfl)
end
section
/-! setTokens, setCapacity -/
theorem sd_Gr_i {na nc c q : Nat} {s d p k i0 cp : Nat → Nat} {gS gD gP gK gI gC : Nat → Int32} (h : sd_Gr na nc s d p k i0 cp gS gD gP gK gI gC) (hq : q ≤ 32) : sd_Gr na nc s d p k (sd_uN i0 c q) cp gS gD gP gK (upd gI c (nI q)) gC := fun x hx => by
  obtain ⟨⟨a1, a2, a3, a4, a5, a6⟩, b, b1, b2⟩ := h x hx
  by_cases e : x = c
  · subst e
    rw [pk_us, sd_uN_s]
    exact ⟨⟨a1, a2, a3, a4, rfl, a6⟩, b, hq, b2⟩
  · rw [pk_un e, sd_uN_o e]
    exact ⟨⟨a1, a2, a3, a4, a5, a6⟩, b, b1, b2⟩
theorem sd_Gr_c {na nc c q : Nat} {s d p k i0 cp : Nat → Nat} {gS gD gP gK gI gC : Nat → Int32} (h : sd_Gr na nc s d p k i0 cp gS gD gP gK gI gC) (hq : q ≤ 64) : sd_Gr na nc s d p k i0 (sd_uN cp c q) gS gD gP gK gI (upd gC c (nI q)) := fun x hx => by
  obtain ⟨⟨a1, a2, a3, a4, a5, a6⟩, b, b1, b2⟩ := h x hx
  by_cases e : x = c
  · subst e
    rw [pk_us, sd_uN_s]
    exact ⟨⟨a1, a2, a3, a4, a5, rfl⟩, b, b1, hq⟩
  · rw [pk_un e, sd_uN_o e]
    exact ⟨⟨a1, a2, a3, a4, a5, a6⟩, b, b1, b2⟩
theorem i_vc_setTokens {k : Nat} {u : SX} {v : SY} (I : i_Rel k u v) (hk : k + 5 ≤ 2562) (v1 : Int32) (v2 : Int32) : wpX_setTokens (fun r u' => wpY_setTokens (fun r' v' => r' = r ∧ i_Rel (k + 5) u' v') v v1 v2) u v1 v2 := by
  have I0 := I
  obtain ⟨ma, mc, na, nc, s, d, p, kk, i0, cp, gS, gD, gP, gK, gI, gC, w, xe, xp, xd, xq, xc, xs, xb, xt, xf, xw, xh, xl, xg, ye, yp, yd, yq, yc, yf, yt, ys, yb, yw, yl, yg, rfl, rfl, hN, hG, hV⟩ := I
  obtain ⟨n1, n2, n3, n4, n5, n6⟩ := hN
  unfold wpX_setTokens
  dsimp only
  rcases sd_ix v1 (n := nc) (by omega) with a | ⟨a, a', a''⟩ | ⟨c, hc, rfl⟩
  · exact xe_ic0 (Or.inl a) (br_t rfl (br_t a ⟨rfl, I0⟩))
  · exact xe_ic0 (Or.inr ⟨a, a'⟩) (br_t rfl (br_f a (br_f a'' ⟨rfl, I0⟩)))
  have sa : ¬ nI c < 0 := nI_pos (by omega)
  have ta : nI c < nI nc := nI_lt hc (by omega)
  refine xe_ic1 (by omega) hc (br_f sd_n10 ?_)
  rcases sd_rg v2 (M := 32) (by decide) with a | ⟨a, a'⟩ | ⟨q, hq, rfl⟩
  · exact br_t a (br_f sa (br_t ta (br_t a ⟨rfl, I0⟩)))
  · exact br_f a (br_f a' (br_f sa (br_t ta (br_f a (br_f a' ⟨rfl, I0⟩)))))
  have sb : ¬ nI q < 0 := nI_pos (by omega)
  have tb : nI q ≤ 32 := nI_le (b := 32) hq (by decide)
  have hcl : (nI c).toNatClampNeg = c := nI_clamp (by omega)
  have v24 : vp_in (nI c) 24 := vp_in_nI (by omega) (by decide)
  obtain ⟨⟨_, _, _, _, _, eC⟩, _, _, g8⟩ := hG c hc
  have eC' : gC (nI c).toNatClampNeg = nI (cp c) := by rw [hcl]; exact eC
  have z0 : gC (nI c).toNatClampNeg = 0 ↔ cp c = 0 := by rw [eC', sd_eq0 (by omega)]
  have z1 : nI q ≤ gC (nI c).toNatClampNeg ↔ q ≤ cp c := by rw [eC', nI_leI (by omega) (by omega)]
  have KK := sd_mk (k0 := k + 5) (w := 0) (xe := xe) (xp := xp) (xd := xd) (xq := xq) (xc := xc) (xs := xs) (xb := xb) (xt := xt) (xf := xf) (xw := xw) (xh := xh) (xl := xl) (xg := xg) (ye := ye) (yp := yp) (yd := yd) (yq := yq) (yc := yc) (yf := yf) (yt := yt) (ys := ys) (yb := yb) (yw := yw) (yl := yl) (yg := yg) ⟨n1, n2, n3, n4, n5, n6⟩ (sd_Gr_i (c := c) hG hq) (Or.inl rfl)
  refine br_f sb (br_t tb ⟨v24, ?_⟩)
  by_cases h0 : cp c = 0
  · exact br_t (z0.mpr h0) ⟨v24, nm_r (e' := upd gI c (nI q)) (by rw [hcl]) (br_f sa (br_t ta (br_f sb (br_t tb ⟨v24, br_t (z0.mpr h0) ⟨v24, nm_r (e' := upd gI c (nI q)) (by rw [hcl]) ⟨rfl, KK⟩⟩⟩))))⟩
  · have nz : ¬ gC (nI c).toNatClampNeg = 0 := fun e => h0 (z0.mp e)
    refine br_f nz ⟨v24, ?_⟩
    by_cases h1 : q ≤ cp c
    · exact br_t (z1.mpr h1) ⟨v24, nm_r (e' := upd gI c (nI q)) (by rw [hcl]) (br_f sa (br_t ta (br_f sb (br_t tb ⟨v24, br_f nz ⟨v24, br_t (z1.mpr h1) ⟨v24, nm_r (e' := upd gI c (nI q)) (by rw [hcl]) ⟨rfl, KK⟩⟩⟩⟩))))⟩
    · have nz1 : ¬ nI q ≤ gC (nI c).toNatClampNeg := fun e => h1 (z1.mp e)
      exact br_f nz1 (br_f sa (br_t ta (br_f sb (br_t tb ⟨v24, br_f nz ⟨v24, br_f nz1 ⟨rfl, I0⟩⟩⟩))))
theorem i_vc_setCapacity {k : Nat} {u : SX} {v : SY} (I : i_Rel k u v) (hk : k + 5 ≤ 2562) (v1 : Int32) (v2 : Int32) : wpX_setCapacity (fun r u' => wpY_setCapacity (fun r' v' => r' = r ∧ i_Rel (k + 5) u' v') v v1 v2) u v1 v2 := by
  have I0 := I
  obtain ⟨ma, mc, na, nc, s, d, p, kk, i0, cp, gS, gD, gP, gK, gI, gC, w, xe, xp, xd, xq, xc, xs, xb, xt, xf, xw, xh, xl, xg, ye, yp, yd, yq, yc, yf, yt, ys, yb, yw, yl, yg, rfl, rfl, hN, hG, hV⟩ := I
  obtain ⟨n1, n2, n3, n4, n5, n6⟩ := hN
  unfold wpX_setCapacity
  dsimp only
  rcases sd_ix v1 (n := nc) (by omega) with a | ⟨a, a', a''⟩ | ⟨c, hc, rfl⟩
  · exact xe_ic0 (Or.inl a) (br_t rfl (br_t a ⟨rfl, I0⟩))
  · exact xe_ic0 (Or.inr ⟨a, a'⟩) (br_t rfl (br_f a (br_f a'' ⟨rfl, I0⟩)))
  have sa : ¬ nI c < 0 := nI_pos (by omega)
  have ta : nI c < nI nc := nI_lt hc (by omega)
  refine xe_ic1 (by omega) hc (br_f sd_n10 ?_)
  rcases sd_rg v2 (M := 64) (by decide) with a | ⟨a, a'⟩ | ⟨q, hq, rfl⟩
  · exact br_t a (br_f sa (br_t ta (br_t a ⟨rfl, I0⟩)))
  · exact br_f a (br_f a' (br_f sa (br_t ta (br_f a (br_f a' ⟨rfl, I0⟩)))))
  have sb : ¬ nI q < 0 := nI_pos (by omega)
  have tb : nI q ≤ 64 := nI_le (b := 64) hq (by decide)
  have hcl : (nI c).toNatClampNeg = c := nI_clamp (by omega)
  have v24 : vp_in (nI c) 24 := vp_in_nI (by omega) (by decide)
  obtain ⟨⟨_, _, _, _, eI, _⟩, _, g7, _⟩ := hG c hc
  have eI' : gI (nI c).toNatClampNeg = nI (i0 c) := by rw [hcl]; exact eI
  have z0 : nI q = 0 ↔ q = 0 := sd_eq0 (by omega)
  have z1 : gI (nI c).toNatClampNeg ≤ nI q ↔ i0 c ≤ q := by rw [eI', nI_leI (by omega) (by omega)]
  have KK := sd_mk (k0 := k + 5) (w := 0) (xe := xe) (xp := xp) (xd := xd) (xq := xq) (xc := xc) (xs := xs) (xb := xb) (xt := xt) (xf := xf) (xw := xw) (xh := xh) (xl := xl) (xg := xg) (ye := ye) (yp := yp) (yd := yd) (yq := yq) (yc := yc) (yf := yf) (yt := yt) (ys := ys) (yb := yb) (yw := yw) (yl := yl) (yg := yg) ⟨n1, n2, n3, n4, n5, n6⟩ (sd_Gr_c (c := c) hG hq) (Or.inl rfl)
  refine br_f sb (br_t tb ?_)
  by_cases h0 : q = 0
  · exact br_t (z0.mpr h0) ⟨v24, nm_r (e' := upd gC c (nI q)) (by rw [hcl]) (br_f sa (br_t ta (br_f sb (br_t tb (br_t (z0.mpr h0) ⟨v24, nm_r (e' := upd gC c (nI q)) (by rw [hcl]) ⟨rfl, KK⟩⟩)))))⟩
  · have nz : ¬ nI q = 0 := fun e => h0 (z0.mp e)
    refine br_f nz ⟨v24, ?_⟩
    by_cases h1 : i0 c ≤ q
    · exact br_t (z1.mpr h1) ⟨v24, nm_r (e' := upd gC c (nI q)) (by rw [hcl]) (br_f sa (br_t ta (br_f sb (br_t tb (br_f nz ⟨v24, br_t (z1.mpr h1) ⟨v24, nm_r (e' := upd gC c (nI q)) (by rw [hcl]) ⟨rfl, KK⟩⟩⟩)))))⟩
    · have nz1 : ¬ gI (nI c).toNatClampNeg ≤ nI q := fun e => h1 (z1.mp e)
      exact br_f nz1 (br_f sa (br_t ta (br_f sb (br_t tb (br_f nz ⟨v24, br_f nz1 ⟨rfl, I0⟩⟩)))))
end
section
/-! the getters -/
theorem sd_VC_1 {na nc : Nat} {s d p k i0 : Nat → Nat} {w xe xp xd : Int32} {xq : Nat → Int64} {xs xb xw xh xl xg : Nat → Int32} {ye yp yd : Int32} {yq : Nat → Int64} {ys yb yw yl yg : Nat → Int32} (h : sd_VC na nc s d p k i0 w xe xp xd xq xs xb xw xh xl xg ye yp yd yq ys yb yw yl yg) (hw : w = 1 ∨ w = 4 ∨ w = 5 ∨ w = 6) : sd_V1 na xq yq := by
  rcases h with rfl | rfl | rfl | ⟨rfl, h⟩ | ⟨rfl, h, _⟩ | ⟨rfl, h, _⟩ | ⟨rfl, h, _⟩
  · exact absurd hw (by decide)
  · exact absurd hw (by decide)
  · exact absurd hw (by decide)
  · exact h
  · exact h
  · exact h
  · exact h
theorem sd_VC_2 {na nc : Nat} {s d p k i0 : Nat → Nat} {w xe xp xd : Int32} {xq : Nat → Int64} {xs xb xw xh xl xg : Nat → Int32} {ye yp yd : Int32} {yq : Nat → Int64} {ys yb yw yl yg : Nat → Int32} (h : sd_VC na nc s d p k i0 w xe xp xd xq xs xb xw xh xl xg ye yp yd yq ys yb yw yl yg) (hw : w = 1 ∨ w = 5 ∨ w = 6) : sd_V2 nc xe ye xs ys xb yb := by
  rcases h with rfl | rfl | rfl | ⟨rfl, h⟩ | ⟨rfl, _, h⟩ | ⟨rfl, _, h⟩ | ⟨rfl, _, h, _⟩
  · exact absurd hw (by decide)
  · exact absurd hw (by decide)
  · exact absurd hw (by decide)
  · exact absurd hw (by decide)
  · exact h
  · exact h
  · exact h
theorem sd_VC_3 {na nc : Nat} {s d p k i0 : Nat → Nat} {w xe xp xd : Int32} {xq : Nat → Int64} {xs xb xw xh xl xg : Nat → Int32} {ye yp yd : Int32} {yq : Nat → Int64} {ys yb yw yl yg : Nat → Int32} (h : sd_VC na nc s d p k i0 w xe xp xd xq xs xb xw xh xl xg ye yp yd yq ys yb yw yl yg) (hw : w = 1) : sd_V3 na nc s d p k i0 xe xp xd xs xw xh xl xg ye yp yd ys yw yl yg := by
  rcases h with rfl | rfl | rfl | ⟨rfl, h⟩ | ⟨rfl, _, h⟩ | ⟨rfl, _, h⟩ | ⟨rfl, _, _, h⟩
  · exact absurd hw (by decide)
  · exact absurd hw (by decide)
  · exact absurd hw (by decide)
  · exact absurd hw (by decide)
  · exact absurd hw (by decide)
  · exact absurd hw (by decide)
  · exact h
theorem i_vc_verdict {k : Nat} {u : SX} {v : SY} (I : i_Rel k u v) (hk : k + 5 ≤ 2562) : wpX_verdict (fun r => wpY_verdict (fun r' => r' = r ∧ i_Rel (k + 5) u v) v) u := by
  have I0 := I
  obtain ⟨ma, mc, na, nc, s, d, p, kk, i0, cp, gS, gD, gP, gK, gI, gC, w, xe, xp, xd, xq, xc, xs, xb, xt, xf, xw, xh, xl, xg, ye, yp, yd, yq, yc, yf, yt, ys, yb, yw, yl, yg, rfl, rfl, hN, hG, hV⟩ := I
  obtain ⟨n1, n2, n3, n4, n5, n6⟩ := hN
  exact ⟨rfl, I0⟩
section
variable {XA : Int32} {XM : Int32} {xn : Int32} {xm : Int32} {xv : Int32} {xe : Int32} {xp : Int32} {xd : Int32} {gS : Nat → Int32} {gD : Nat → Int32} {gP : Nat → Int32} {gK : Nat → Int32} {gI : Nat → Int32} {gC : Nat → Int32} {xq : Nat → Int64} {xc : Nat → Int32} {xs : Nat → Int32} {xb : Nat → Int32} {xt : Nat → Int32} {xf : Nat → Int32} {xw : Nat → Int32} {xh : Nat → Int32} {xl : Nat → Int32} {xg : Nat → Int32}
theorem xf_hs1 {post : Int32 → Prop} (h : xv = 1 ∨ xv = 5 ∨ xv = 6) (K : post 1) : wpX_hasSchedule post (XA, XM, xn, xm, xv, xe, xp, xd, gS, gD, gP, gK, gI, gC, xq, xc, xs, xb, xt, xf, xw, xh, xl, xg) :=
  br_c (fun _ => K) (fun h1 => br_c (fun _ => K) (fun h2 => br_c (fun _ => K) (fun h3 => absurd h (fun q => q.elim h1 (fun q => q.elim h2 h3)))))
theorem xf_hs0 {post : Int32 → Prop} (h : ¬ (xv = 1 ∨ xv = 5 ∨ xv = 6)) (K : post 0) : wpX_hasSchedule post (XA, XM, xn, xm, xv, xe, xp, xd, gS, gD, gP, gK, gI, gC, xq, xc, xs, xb, xt, xf, xw, xh, xl, xg) :=
  br_f (fun e => h (Or.inl e)) (br_f (fun e => h (Or.inr (Or.inl e))) (br_f (fun e => h (Or.inr (Or.inr e))) K))
theorem xf_rp1 {post : Int64 → Prop} {x : Int32} (h : xv = 1 ∨ xv = 4 ∨ xv = 5 ∨ xv = 6) (K : wX_repetitions_20 post x 1 XA XM xn xm xv xe xp xd gS gD gP gK gI gC xq xc xs xb xt xf xw xh xl xg) : wpX_repetitions post (XA, XM, xn, xm, xv, xe, xp, xd, gS, gD, gP, gK, gI, gC, xq, xc, xs, xb, xt, xf, xw, xh, xl, xg) x :=
  br_c (fun _ => K) (fun h4 => xf_hs1 (by
    rcases h with h | h | h | h
    · exact Or.inl h
    · exact absurd h h4
    · exact Or.inr (Or.inl h)
    · exact Or.inr (Or.inr h)) (br_f sd_n10 K))
theorem xf_rp0 {post : Int64 → Prop} {x : Int32} (h : ¬ (xv = 1 ∨ xv = 4 ∨ xv = 5 ∨ xv = 6)) (K : post 0) : wpX_repetitions post (XA, XM, xn, xm, xv, xe, xp, xd, gS, gD, gP, gK, gI, gC, xq, xc, xs, xb, xt, xf, xw, xh, xl, xg) x :=
  br_f (fun e => h (Or.inr (Or.inl e))) (xf_hs0 (fun q => h (by
    rcases q with q | q | q
    · exact Or.inl q
    · exact Or.inr (Or.inr (Or.inl q))
    · exact Or.inr (Or.inr (Or.inr q)))) (br_t rfl (br_t rfl K)))
theorem xf_sl1 {post : Int32 → Prop} (h : xv = 1 ∨ xv = 5 ∨ xv = 6) (K : post xe) : wpX_scheduleLength post (XA, XM, xn, xm, xv, xe, xp, xd, gS, gD, gP, gK, gI, gC, xq, xc, xs, xb, xt, xf, xw, xh, xl, xg) := by
  unfold wpX_scheduleLength
  exact xf_hs1 h (br_f sd_n10 K)
theorem xf_sl0 {post : Int32 → Prop} (h : ¬ (xv = 1 ∨ xv = 5 ∨ xv = 6)) (K : post 0) : wpX_scheduleLength post (XA, XM, xn, xm, xv, xe, xp, xd, gS, gD, gP, gK, gI, gC, xq, xc, xs, xb, xt, xf, xw, xh, xl, xg) := by
  unfold wpX_scheduleLength
  exact xf_hs0 h (br_t rfl K)
end
section
variable {YA : Int32} {YM : Int32} {yn : Int32} {ym : Int32} {yv : Int32} {ye : Int32} {yp : Int32} {yd : Int32} {gS : Nat → Int32} {gD : Nat → Int32} {gP : Nat → Int32} {gK : Nat → Int32} {gI : Nat → Int32} {gC : Nat → Int32} {yq : Nat → Int64} {yc : Nat → Int32} {yf : Nat → Int32} {yt : Nat → Int32} {ys : Nat → Int32} {yb : Nat → Int32} {yw : Nat → Int32} {yl : Nat → Int32} {yg : Nat → Int32}
theorem yf_rp1 {post : Int64 → Prop} {x : Int32} (h : yv = 1 ∨ yv = 4 ∨ yv = 5 ∨ yv = 6) (K : wY_repetitions_35 post x YA YM yn ym yv ye yp yd gS gD gP gK gI gC yq yc yf yt ys yb yw yl yg) : wpY_repetitions post (YA, YM, yn, ym, yv, ye, yp, yd, gS, gD, gP, gK, gI, gC, yq, yc, yf, yt, ys, yb, yw, yl, yg) x :=
  br_c (fun _ => K) (fun h1 => br_c (fun _ => K) (fun h2 => br_c (fun _ => K) (fun h3 => br_c (fun _ => K) (fun h4 => absurd h (fun q => q.elim h1 (fun q => q.elim h2 (fun q => q.elim h3 h4)))))))
theorem yf_rp0 {post : Int64 → Prop} {x : Int32} (h : ¬ (yv = 1 ∨ yv = 4 ∨ yv = 5 ∨ yv = 6)) (K : post 0) : wpY_repetitions post (YA, YM, yn, ym, yv, ye, yp, yd, gS, gD, gP, gK, gI, gC, yq, yc, yf, yt, ys, yb, yw, yl, yg) x :=
  br_f (fun e => h (Or.inl e)) (br_f (fun e => h (Or.inr (Or.inl e))) (br_f (fun e => h (Or.inr (Or.inr (Or.inl e)))) (br_f (fun e => h (Or.inr (Or.inr (Or.inr e)))) K)))
theorem yf_sl1 {post : Int32 → Prop} (h : yv = 1 ∨ yv = 5 ∨ yv = 6) (K : post ye) : wpY_scheduleLength post (YA, YM, yn, ym, yv, ye, yp, yd, gS, gD, gP, gK, gI, gC, yq, yc, yf, yt, ys, yb, yw, yl, yg) :=
  br_c (fun _ => K) (fun h1 => br_c (fun _ => K) (fun h2 => br_c (fun _ => K) (fun h3 => absurd h (fun q => q.elim h1 (fun q => q.elim h2 h3)))))
theorem yf_sl0 {post : Int32 → Prop} (h : ¬ (yv = 1 ∨ yv = 5 ∨ yv = 6)) (K : post 0) : wpY_scheduleLength post (YA, YM, yn, ym, yv, ye, yp, yd, gS, gD, gP, gK, gI, gC, yq, yc, yf, yt, ys, yb, yw, yl, yg) :=
  br_f (fun e => h (Or.inl e)) (br_f (fun e => h (Or.inr (Or.inl e))) (br_f (fun e => h (Or.inr (Or.inr e))) K))
theorem yf_bd1 {post : Int32 → Prop} {x : Int32} (h : yv = 1 ∨ yv = 5 ∨ yv = 6) (K : wY_bound_27 post x YA YM yn ym yv ye yp yd gS gD gP gK gI gC yq yc yf yt ys yb yw yl yg) : wpY_bound post (YA, YM, yn, ym, yv, ye, yp, yd, gS, gD, gP, gK, gI, gC, yq, yc, yf, yt, ys, yb, yw, yl, yg) x :=
  br_c (fun _ => K) (fun h1 => br_c (fun _ => K) (fun h2 => br_c (fun _ => K) (fun h3 => absurd h (fun q => q.elim h1 (fun q => q.elim h2 h3)))))
theorem yf_bd0 {post : Int32 → Prop} {x : Int32} (h : ¬ (yv = 1 ∨ yv = 5 ∨ yv = 6)) (K : post (-1)) : wpY_bound post (YA, YM, yn, ym, yv, ye, yp, yd, gS, gD, gP, gK, gI, gC, yq, yc, yf, yt, ys, yb, yw, yl, yg) x :=
  br_f (fun e => h (Or.inl e)) (br_f (fun e => h (Or.inr (Or.inl e))) (br_f (fun e => h (Or.inr (Or.inr e))) K))
end
theorem i_vc_repetitions {k : Nat} {u : SX} {v : SY} (I : i_Rel k u v) (hk : k + 5 ≤ 2562) (v1 : Int32) : wpX_repetitions (fun r => wpY_repetitions (fun r' => r' = r ∧ i_Rel (k + 5) u v) v v1) u v1 := by
  have I0 := I
  obtain ⟨ma, mc, na, nc, s, d, p, kk, i0, cp, gS, gD, gP, gK, gI, gC, w, xe, xp, xd, xq, xc, xs, xb, xt, xf, xw, xh, xl, xg, ye, yp, yd, yq, yc, yf, yt, ys, yb, yw, yl, yg, rfl, rfl, hN, hG, hV⟩ := I
  obtain ⟨n1, n2, n3, n4, n5, n6⟩ := hN
  by_cases hw : w = 1 ∨ w = 4 ∨ w = 5 ∨ w = 6
  · refine xf_rp1 hw (br_f sd_n10 ?_)
    rcases sd_ix v1 (n := na) (by omega) with a | ⟨a, a', a''⟩ | ⟨j, hj, rfl⟩
    · exact xe_ia0 (Or.inl a) (br_t rfl (yf_rp1 hw (br_t a ⟨rfl, I0⟩)))
    · exact xe_ia0 (Or.inr ⟨a, a'⟩) (br_t rfl (yf_rp1 hw (br_f a (br_f a'' ⟨rfl, I0⟩))))
    · have v10 : vp_in (nI j) 10 := vp_in_nI (by omega) (by decide)
      refine xe_ia1 (by omega) hj (br_f sd_n10 ⟨v10, yf_rp1 hw (br_f (nI_pos (by omega)) (br_t (nI_lt hj (by omega)) ⟨v10, ?_, I0⟩))⟩)
      rw [nI_clamp (by omega)]
      exact sd_VC_1 hV hw j hj
  · exact xf_rp0 hw (yf_rp0 hw ⟨rfl, I0⟩)
theorem i_vc_scheduleLength {k : Nat} {u : SX} {v : SY} (I : i_Rel k u v) (hk : k + 5 ≤ 2562) : wpX_scheduleLength (fun r => wpY_scheduleLength (fun r' => r' = r ∧ i_Rel (k + 5) u v) v) u := by
  have I0 := I
  obtain ⟨ma, mc, na, nc, s, d, p, kk, i0, cp, gS, gD, gP, gK, gI, gC, w, xe, xp, xd, xq, xc, xs, xb, xt, xf, xw, xh, xl, xg, ye, yp, yd, yq, yc, yf, yt, ys, yb, yw, yl, yg, rfl, rfl, hN, hG, hV⟩ := I
  obtain ⟨n1, n2, n3, n4, n5, n6⟩ := hN
  by_cases hw : w = 1 ∨ w = 5 ∨ w = 6
  · obtain ⟨L, _, h1, h2, _⟩ := sd_VC_2 hV hw
    exact xf_sl1 hw (yf_sl1 hw ⟨h2.trans h1.symm, I0⟩)
  · exact xf_sl0 hw (yf_sl0 hw ⟨rfl, I0⟩)
theorem i_vc_scheduleAt {k : Nat} {u : SX} {v : SY} (I : i_Rel k u v) (hk : k + 5 ≤ 2562) (v1 : Int32) : wpX_scheduleAt (fun r => wpY_scheduleAt (fun r' => r' = r ∧ i_Rel (k + 5) u v) v v1) u v1 := by
  have I0 := I
  obtain ⟨ma, mc, na, nc, s, d, p, kk, i0, cp, gS, gD, gP, gK, gI, gC, w, xe, xp, xd, xq, xc, xs, xb, xt, xf, xw, xh, xl, xg, ye, yp, yd, yq, yc, yf, yt, ys, yb, yw, yl, yg, rfl, rfl, hN, hG, hV⟩ := I
  obtain ⟨n1, n2, n3, n4, n5, n6⟩ := hN
  unfold wpX_scheduleAt wpY_scheduleAt
  by_cases hw : w = 1 ∨ w = 5 ∨ w = 6
  · obtain ⟨L, hL, h1, h2, h3, _⟩ := sd_VC_2 hV hw
    subst h1 h2
    rcases sd_ix v1 (n := L) (by omega) with a | ⟨a, a', a''⟩ | ⟨j, hj, rfl⟩
    · exact br_t a (yf_sl1 hw (br_t a ⟨rfl, I0⟩))
    · exact br_f a (xf_sl1 hw (br_t a' (yf_sl1 hw (br_f a (br_t a' ⟨rfl, I0⟩)))))
    · have v256 : vp_in (nI j) 256 := vp_in_nI (by omega) (by decide)
      have s0 : ¬ nI j < 0 := nI_pos (by omega)
      have s1 : ¬ nI L ≤ nI j := nI_ge hj (by omega)
      refine br_f s0 (xf_sl1 hw (br_f s1 ⟨v256, yf_sl1 hw (br_f s0 (br_f s1 (br_t (nI_lt (b := 256) (by omega) (by decide)) ⟨v256, ?_, I0⟩)))⟩))
      rw [nI_clamp (by omega)]
      exact h3 j hj
  · by_cases a : v1 < 0
    · exact br_t a (yf_sl0 hw (br_t a ⟨rfl, I0⟩))
    · have a' : (0 : Int32) ≤ v1 := Int32.not_lt.mp a
      exact br_f a (xf_sl0 hw (br_t a' (yf_sl0 hw (br_f a (br_t a' ⟨rfl, I0⟩)))))
theorem i_vc_bound {k : Nat} {u : SX} {v : SY} (I : i_Rel k u v) (hk : k + 5 ≤ 2562) (v1 : Int32) : wpX_bound (fun r => wpY_bound (fun r' => r' = r ∧ i_Rel (k + 5) u v) v v1) u v1 := by
  have I0 := I
  obtain ⟨ma, mc, na, nc, s, d, p, kk, i0, cp, gS, gD, gP, gK, gI, gC, w, xe, xp, xd, xq, xc, xs, xb, xt, xf, xw, xh, xl, xg, ye, yp, yd, yq, yc, yf, yt, ys, yb, yw, yl, yg, rfl, rfl, hN, hG, hV⟩ := I
  obtain ⟨n1, n2, n3, n4, n5, n6⟩ := hN
  unfold wpX_bound
  by_cases hw : w = 1 ∨ w = 5 ∨ w = 6
  · obtain ⟨L, hL, _, _, _, h3⟩ := sd_VC_2 hV hw
    refine xf_hs1 hw (br_f sd_n10 ?_)
    rcases sd_ix v1 (n := nc) (by omega) with a | ⟨a, a', a''⟩ | ⟨j, hj, rfl⟩
    · exact xe_ic0 (Or.inl a) (br_t rfl (yf_bd1 hw (br_t a ⟨rfl, I0⟩)))
    · exact xe_ic0 (Or.inr ⟨a, a'⟩) (br_t rfl (yf_bd1 hw (br_f a (br_f a'' ⟨rfl, I0⟩))))
    · have v24 : vp_in (nI j) 24 := vp_in_nI (by omega) (by decide)
      refine xe_ic1 (by omega) hj (br_f sd_n10 ⟨v24, yf_bd1 hw (br_f (nI_pos (by omega)) (br_t (nI_lt hj (by omega)) ⟨v24, ?_, I0⟩))⟩)
      rw [nI_clamp (by omega)]
      exact h3 j hj
  · exact xf_hs0 hw (br_t rfl (yf_bd0 hw ⟨rfl, I0⟩))
theorem i_vc_position {k : Nat} {u : SX} {v : SY} (I : i_Rel k u v) (hk : k + 5 ≤ 2562) : wpX_position (fun r => wpY_position (fun r' => r' = r ∧ i_Rel (k + 5) u v) v) u := by
  have I0 := I
  obtain ⟨ma, mc, na, nc, s, d, p, kk, i0, cp, gS, gD, gP, gK, gI, gC, w, xe, xp, xd, xq, xc, xs, xb, xt, xf, xw, xh, xl, xg, ye, yp, yd, yq, yc, yf, yt, ys, yb, yw, yl, yg, rfl, rfl, hN, hG, hV⟩ := I
  obtain ⟨n1, n2, n3, n4, n5, n6⟩ := hN
  by_cases hw : w = 1
  · obtain ⟨L, pos, sch, hd, B, T, V, _, _, _, ⟨_, h1, h2, _⟩, _⟩ := sd_VC_3 hV hw
    exact br_t hw (br_t hw ⟨h2.trans h1.symm, I0⟩)
  · exact br_f hw (br_f hw ⟨rfl, I0⟩)
theorem i_vc_fired {k : Nat} {u : SX} {v : SY} (I : i_Rel k u v) (hk : k + 5 ≤ 2562) (v1 : Int32) : wpX_fired (fun r => wpY_fired (fun r' => r' = r ∧ i_Rel (k + 5) u v) v v1) u v1 := by
  have I0 := I
  obtain ⟨ma, mc, na, nc, s, d, p, kk, i0, cp, gS, gD, gP, gK, gI, gC, w, xe, xp, xd, xq, xc, xs, xb, xt, xf, xw, xh, xl, xg, ye, yp, yd, yq, yc, yf, yt, ys, yb, yw, yl, yg, rfl, rfl, hN, hG, hV⟩ := I
  obtain ⟨n1, n2, n3, n4, n5, n6⟩ := hN
  by_cases hw : w = 1
  · obtain ⟨L, pos, sch, hd, B, T, V, _, _, _, _, h5, _⟩ := sd_VC_3 hV hw
    refine br_t hw ?_
    rcases sd_ix v1 (n := na) (by omega) with a | ⟨a, a', a''⟩ | ⟨j, hj, rfl⟩
    · exact xe_ia0 (Or.inl a) (br_t rfl (br_t hw (br_t a ⟨rfl, I0⟩)))
    · exact xe_ia0 (Or.inr ⟨a, a'⟩) (br_t rfl (br_t hw (br_f a (br_f a'' ⟨rfl, I0⟩))))
    · have v10 : vp_in (nI j) 10 := vp_in_nI (by omega) (by decide)
      refine xe_ia1 (by omega) hj (br_f sd_n10 ⟨v10, br_t hw (br_f (nI_pos (by omega)) (br_t (nI_lt hj (by omega)) ⟨v10, ?_, I0⟩))⟩)
      rw [nI_clamp (by omega)]
      exact h5 j hj
  · exact br_f hw (br_f hw ⟨rfl, I0⟩)
theorem i_vc_tokenCount {k : Nat} {u : SX} {v : SY} (I : i_Rel k u v) (hk : k + 5 ≤ 2562) (v1 : Int32) : wpX_tokenCount (fun r => wpY_tokenCount (fun r' => r' = r ∧ i_Rel (k + 5) u v) v v1) u v1 := by
  have I0 := I
  obtain ⟨ma, mc, na, nc, s, d, p, kk, i0, cp, gS, gD, gP, gK, gI, gC, w, xe, xp, xd, xq, xc, xs, xb, xt, xf, xw, xh, xl, xg, ye, yp, yd, yq, yc, yf, yt, ys, yb, yw, yl, yg, rfl, rfl, hN, hG, hV⟩ := I
  obtain ⟨n1, n2, n3, n4, n5, n6⟩ := hN
  by_cases hw : w = 1
  · obtain ⟨L, pos, sch, hd, B, T, V, _, _, _, _, _, h6, _⟩ := sd_VC_3 hV hw
    refine br_t hw ?_
    rcases sd_ix v1 (n := nc) (by omega) with a | ⟨a, a', a''⟩ | ⟨j, hj, rfl⟩
    · exact xe_ic0 (Or.inl a) (br_t rfl (br_t hw (br_t a ⟨rfl, I0⟩)))
    · exact xe_ic0 (Or.inr ⟨a, a'⟩) (br_t rfl (br_t hw (br_f a (br_f a'' ⟨rfl, I0⟩))))
    · have v24 : vp_in (nI j) 24 := vp_in_nI (by omega) (by decide)
      refine xe_ic1 (by omega) hj (br_f sd_n10 ⟨v24, br_t hw (br_f (nI_pos (by omega)) (br_t (nI_lt hj (by omega)) ⟨v24, ?_, I0⟩))⟩)
      rw [nI_clamp (by omega)]
      exact (h6 j hj).2.1.trans (h6 j hj).1.symm
  · exact br_f hw (br_f hw ⟨rfl, I0⟩)
section
variable {XA : Int32} {XM : Int32} {xn : Int32} {xm : Int32} {xv : Int32} {xe : Int32} {xp : Int32} {xd : Int32} {gS : Nat → Int32} {gD : Nat → Int32} {gP : Nat → Int32} {gK : Nat → Int32} {gI : Nat → Int32} {gC : Nat → Int32} {xq : Nat → Int64} {xc : Nat → Int32} {xs : Nat → Int32} {xb : Nat → Int32} {xt : Nat → Int32} {xf : Nat → Int32} {xw : Nat → Int32} {xh : Nat → Int32} {xl : Nat → Int32} {xg : Nat → Int32}
theorem xf_tc1 {post : Int32 → Prop} {nc j q : Nat} (hw : xv = 1) (hn : nc ≤ 24) (hj : j < nc) (hl : xl j = nI q) (K : post (nI q)) : wpX_tokenCount post (XA, XM, xn, nI nc, xv, xe, xp, xd, gS, gD, gP, gK, gI, gC, xq, xc, xs, xb, xt, xf, xw, xh, xl, xg) (nI j) :=
  br_t hw (xe_ic1 hn hj (br_f sd_n10 ⟨vp_in_nI (by omega) (by decide), by rw [nI_clamp (by omega), hl]; exact K⟩))
theorem xf_tc0 {post : Int32 → Prop} {nc : Nat} {x : Int32} (h : x < 0 ∨ (¬ x < 0 ∧ nI nc ≤ x)) (K : post (-1)) : wpX_tokenCount post (XA, XM, xn, nI nc, xv, xe, xp, xd, gS, gD, gP, gK, gI, gC, xq, xc, xs, xb, xt, xf, xw, xh, xl, xg) x :=
  br_c (fun _ => xe_ic0 h (br_t rfl K)) (fun _ => K)
theorem xf_tcn {post : Int32 → Prop} {x : Int32} (hw : ¬ xv = 1) (K : post (-1)) : wpX_tokenCount post (XA, XM, xn, xm, xv, xe, xp, xd, gS, gD, gP, gK, gI, gC, xq, xc, xs, xb, xt, xf, xw, xh, xl, xg) x := br_f hw K
end
theorem sd_m1le {x : Int32} (h : ¬ x < 0) : (-1 : Int32) ≤ x := Int32.le_trans (by decide) (Int32.not_lt.mp h)
theorem i_vc_tokenValue {k : Nat} {u : SX} {v : SY} (I : i_Rel k u v) (hk : k + 5 ≤ 2562) (v1 : Int32) (v2 : Int32) : wpX_tokenValue (fun r => wpY_tokenValue (fun r' => r' = r ∧ i_Rel (k + 5) u v) v v1 v2) u v1 v2 := by
  have I0 := I
  obtain ⟨ma, mc, na, nc, s, d, p, kk, i0, cp, gS, gD, gP, gK, gI, gC, w, xe, xp, xd, xq, xc, xs, xb, xt, xf, xw, xh, xl, xg, ye, yp, yd, yq, yc, yf, yt, ys, yb, yw, yl, yg, rfl, rfl, hN, hG, hV⟩ := I
  obtain ⟨n1, n2, n3, n4, n5, n6⟩ := hN
  by_cases hw : w = 1
  · obtain ⟨L, pos, sch, hd, B, T, V, hE, _, _, ⟨hp, _⟩, _, h6, h7, h8⟩ := sd_VC_3 hV hw
    obtain ⟨⟨_, hL⟩, _, _, hB, hS⟩ := hE
    rcases sd_ix v1 (n := nc) (by omega) with a | ⟨a, a', a''⟩ | ⟨c, hc, rfl⟩
    · by_cases h0 : v2 < 0
      · exact br_t h0 (br_t hw (br_t a ⟨rfl, I0⟩))
      · exact br_f h0 (xf_tc0 (Or.inl a) (br_t (sd_m1le h0) (br_t hw (br_t a ⟨rfl, I0⟩))))
    · by_cases h0 : v2 < 0
      · exact br_t h0 (br_t hw (br_f a (br_f a'' ⟨rfl, I0⟩)))
      · exact br_f h0 (xf_tc0 (Or.inr ⟨a, a'⟩) (br_t (sd_m1le h0) (br_t hw (br_f a (br_f a'' ⟨rfl, I0⟩)))))
    · have sa : ¬ nI c < 0 := nI_pos (by omega)
      have ta : nI c < nI nc := nI_lt hc (by omega)
      have v24 : vp_in (nI c) 24 := vp_in_nI (by omega) (by decide)
      have hcl : (nI c).toNatClampNeg = c := nI_clamp (by omega)
      obtain ⟨e1, e2, e3, e4⟩ := h6 c hc
      have hT : sd_sum (T pos) nc ≤ 512 := Nat.le_trans (sd_sum_le nc (fun j hj => hB pos (by omega) j hj)) hS
      have hat := sd_sum_at (f := T pos) hc
      have e2' : yl (nI c).toNatClampNeg = nI (T pos c) := by rw [hcl]; exact e2
      rcases sd_ix v2 (n := T pos c) (by omega) with b | ⟨b, b', b''⟩ | ⟨i, hi, rfl⟩
      · exact br_t b (br_t hw (br_f sa (br_t ta (br_t b ⟨rfl, I0⟩))))
      · refine br_f b (xf_tc1 hw (by omega) hc e1 (br_t b' (br_t hw (br_f sa (br_t ta (br_f b ⟨v24, ?_⟩))))))
        exact br_f (by rw [e2']; exact b'') ⟨rfl, I0⟩
      · have sb : ¬ nI i < 0 := nI_pos (by omega)
        have hlt := Nat.mod_lt (hd c + i) (show 0 < 512 by decide)
        refine br_f sb (xf_tc1 hw (by omega) hc e1 (br_f (nI_ge hi (by omega)) (xd_cell (by omega) e4 (by omega) ⟨vp_in_nI (by omega) (by decide), br_t hw (br_f sa (br_t ta (br_f sb ⟨v24, ?_⟩)))⟩)))
        refine br_t (by rw [e2']; exact nI_lt hi (by omega)) (yd_so (N := T pos) (by omega) (by omega) (fun x hx => (h6 x hx).2.1) (nm_r (nI_add _ _) (br_f (nI_pos (by omega)) (br_t (nI_lt (b := 512) (by omega) (by decide)) ⟨vp_in_nI (by omega) (by decide), ?_, I0⟩))))
        rw [nI_clamp (by omega), nI_clamp (by omega), h7 c hc i hi, h8 c hc i hi]
  · by_cases h0 : v2 < 0
    · exact br_t h0 (br_f hw ⟨rfl, I0⟩)
    · exact br_f h0 (xf_tcn hw (br_t (sd_m1le h0) (br_f hw ⟨rfl, I0⟩)))
end
section
/-! analyze -/
theorem sd_w2 : ¬ (2 : Int32) = 1 := by decide
theorem sd_w3 : ¬ (3 : Int32) = 1 := by decide
theorem sd_w4 : ¬ (4 : Int32) = 1 := by decide
theorem sd_w5 : ¬ (5 : Int32) = 1 := by decide
theorem sd_w6 : ¬ (6 : Int32) = 1 := by decide
theorem sd_V1_of {na : Nat} {Q : Nat → Nat} {xq yq : Nat → Int64} (h1 : sd_AL na Q xq) (h2 : sd_AL na Q yq) : sd_V1 na xq yq := fun j hj => (h2 j hj).trans (h1 j hj).symm
theorem sd_V2_of {nc L : Nat} {f B : Nat → Nat} {xs ys xb yb : Nat → Int32} (hL : L ≤ 256) (h1 : ∀ j, j < L → xs j = nI (f j)) (h2 : ∀ j, j < L → ys j = nI (f j)) (h3 : sd_Ar nc B xb) (h4 : sd_Ar nc B yb) : sd_V2 nc (nI L) (nI L) xs ys xb yb :=
  ⟨L, hL, rfl, rfl, fun i hi => (h2 i hi).trans (h1 i hi).symm, fun c hc => (h4 c hc).trans (h3 c hc).symm⟩
theorem sd_V3_of {na nc L : Nat} {s d p k i0 B sch : Nat → Nat} {T : Nat → Nat → Nat} {xs xw xh xl xg ys yw yl yg : Nat → Int32} (hE : sd_Ex na nc s d p k i0 B L sch T) (hT : T 0 = i0) (h1 : ∀ j, j < L → xs j = nI (sch j)) (h2 : ∀ j, j < L → ys j = nI (sch j)) (hl : sd_HL nc i0 (fun _ => 0) xh xl) (hx : sd_XS nc i0 (fun _ => 0) (fun _ _ => 0) xw) (hg : ∀ j, j < na → xg j = 0) (hw : ∀ j, j < 512 → yw j = 0) (hyl : sd_Ar nc i0 yl) (hyg : ∀ j, j < na → yg j = 0) :
    sd_V3 na nc s d p k i0 (nI L) 0 0 xs xw xh xl xg (nI L) 0 0 ys yw yl yg := by
  refine ⟨L, 0, sch, (fun _ => 0), B, T, (fun _ _ => 0), hE, ⟨rfl, rfl⟩, fun i hi => ⟨h1 i hi, h2 i hi⟩, ⟨hE.1.1, rfl, rfl, rfl⟩, fun j hj => (hyg j hj).trans (hg j hj).symm, fun c hc => ?_, ?_, fun c hc i hi => ?_⟩
  · rw [hT]
    exact ⟨(hl c hc).1, hyl c hc, (hl c hc).2.1, (hl c hc).2.2⟩
  · rw [hT]
    exact hx
  · rw [hT] at hi ⊢
    have h3 := sd_sum_at (f := i0) hc
    have h4 : sd_sum i0 nc ≤ sd_sum B nc := sd_sum_le nc (fun j hj => by
      have := hE.2.2.2.1 0 (Nat.zero_le _) j hj
      rw [hT] at this
      exact this)
    have h5 := hE.2.2.2.2
    exact hw _ (by omega)
theorem i_vc_analyze {k : Nat} {u : SX} {v : SY} (I : i_Rel k u v) (hk : k + 5 ≤ 2562) : wpX_analyze (fun r u' => wpY_analyze (fun r' v' => r' = r ∧ i_Rel (k + 5) u' v') v) u := by
  have I0 := I
  obtain ⟨ma, mc, na, nc, s, d, p, kk, i0, cp, gS, gD, gP, gK, gI, gC, w, xe, xp, xd, xq, xc, xs, xb, xt, xf, xw, xh, xl, xg, ye, yp, yd, yq, yc, yf, yt, ys, yb, yw, yl, yg, rfl, rfl, hN, hG, hV⟩ := I
  obtain ⟨n1, n2, n3, n4, n5, n6⟩ := hN
  have hna : na ≤ 10 := by omega
  have hnc : nc ≤ 24 := by omega
  have G := sd_Gr_G hG
  have hQ : ∀ j, j < na → sd_Q na nc s d p kk j ≤ 134217728 := fun j hj => (sd_Q_bd G hna hj).2
  obtain ⟨L, hL, hg, hn⟩ := sd_len (cp := cp) (Q := sd_Q na nc s d p kk) G (sd_Gr_32 hG)
  have nm : sd_Nm ma mc na nc := ⟨n1, n2, n3, n4, n5, n6⟩
  have I' := sd_I_sim (cp := cp) (Q := sd_Q na nc s d p kk) G (sd_Gr_32 hG) L hg
  unfold wpX_analyze
  refine xa_fr hna hnc hG (fun xq' xc' hq => ?_)
  refine xb_jr hna hnc hG hQ hq (fun h0 => ?_) (fun h0 hb => ?_) (fun h0 hb h4 => ?_) (fun h0 hb h1 => ?_)
  · refine br_f sd_w2 (br_f sd_w2 ?_)
    subst h0
    exact br_t rfl ⟨rfl, sd_mk nm hG (Or.inr (Or.inl rfl))⟩
  · refine br_f sd_w3 (br_f sd_w3 ?_)
    exact yc_an h0 hna hnc hG hL hg hn (fun _ yq' yc' => ⟨rfl, sd_mk nm hG (Or.inr (Or.inr (Or.inl rfl)))⟩) (fun h => absurd h hb) (fun h => absurd h hb) (fun h => absurd h hb) (fun h => absurd h hb)
  · refine br_f sd_w4 (br_f sd_w4 ?_)
    exact yc_an h0 hna hnc hG hL hg hn (fun h => absurd hb h) (fun _ _ yq' yc' hq' => ⟨rfl, sd_mk nm hG (Or.inr (Or.inr (Or.inr (Or.inl ⟨rfl, sd_V1_of hq hq'⟩))))⟩) (fun _ h => absurd h (by omega)) (fun _ h => absurd h (by omega)) (fun _ h => absurd h (by omega))
  · refine br_t rfl (xb_bs hna hnc hG hq hQ (by omega) hg hn (fun xs' xb' xt' xf' hs' hb' => ?_))
    refine xb_js hna hnc hq h1 (by omega) hb' (fun c hc => (sd_BT (by omega) I' c hc).2) (fun h5 => ?_) (fun h5 h6 => ?_) (fun h5 h6 => ?_)
    · refine br_f sd_w5 ?_
      exact yc_an h0 hna hnc hG hL hg hn (fun h => absurd hb h) (fun _ h => absurd h (by omega)) (fun _ _ _ yq' yc' ys' yb' yt' yf' hq' hs2 hb2 => ⟨rfl, sd_mk nm hG (Or.inr (Or.inr (Or.inr (Or.inr (Or.inl ⟨rfl, sd_V1_of hq hq', sd_V2_of (by omega) hs' hs2 hb' hb2⟩)))))⟩) (fun _ _ h => absurd h (by omega)) (fun _ _ h => absurd h (by omega))
    · refine br_t rfl (xd_re hna hnc hG (fun xw' xh' xl' xg' hl' hx' hg' => ?_))
      have hpos : 0 < L := by
        have h7 := sd_sum_at (f := sd_Q na nc s d p kk) (c := 0) (n := na) h0
        have h8 := (sd_Q_bd G hna h0).1
        have h9 : sd_sum (sd_Q na nc s d p kk) 0 = 0 := rfl
        omega
      have hE := sd_ex G (sd_Gr_32 hG) (by omega) hpos (by omega) hg hb h6
      exact yc_an h0 hna hnc hG hL hg hn (fun h => absurd hb h) (fun _ h => absurd h (by omega)) (fun _ _ h => absurd h (by omega)) (fun _ _ _ h => absurd h (by omega)) (fun _ _ _ _ yq' yc' ys' yb' yt' yf' yw' yl' yg' hq' hs2 hb2 hw2 hl2 hg2 => ⟨rfl, sd_mk nm hG (Or.inr (Or.inr (Or.inr (Or.inr (Or.inr (Or.inr ⟨rfl, sd_V1_of hq hq', sd_V2_of (by omega) hs' hs2 hb' hb2, sd_V3_of hE rfl hs' hs2 hl' hx' hg' hw2 hl2 hg2⟩))))))⟩)
    · refine br_f sd_w6 ?_
      exact yc_an h0 hna hnc hG hL hg hn (fun h => absurd hb h) (fun _ h => absurd h (by omega)) (fun _ _ h => absurd h (by omega)) (fun _ _ _ _ yq' yc' ys' yb' yt' yf' hq' hs2 hb2 => ⟨rfl, sd_mk nm hG (Or.inr (Or.inr (Or.inr (Or.inr (Or.inr (Or.inl ⟨rfl, sd_V1_of hq hq', sd_V2_of (by omega) hs' hs2 hb' hb2⟩))))))⟩) (fun _ _ _ h => absurd h (by omega))
end
section
/-! run -/
abbrev sd_EE : Type := Nat × (Nat → Nat → Int32) × (Nat → Int32) × Int32
def sd_e1 (nc L : Nat) (s d p k sch : Nat → Nat) (T : Nat → Nat → Nat) (e : sd_EE) : sd_EE :=
  (if e.1 + 1 < L then e.1 + 1 else 0,
   sd_pV s (sch e.1) (31 * sd_tS d k (sch e.1) e.2.1 nc + e.2.2.1 (sch e.1) + 1) (sd_tN d k (sch e.1) (T e.1) nc) (sd_tV d k (sch e.1) e.2.1 nc) nc,
   upd e.2.2.1 (sch e.1) (e.2.2.1 (sch e.1) + 1),
   if e.1 + 1 < L then e.2.2.2 else e.2.2.2 + 1)
def sd_ei (nc L : Nat) (s d p k sch : Nat → Nat) (T : Nat → Nat → Nat) (e : sd_EE) : Nat → sd_EE
  | 0 => e
  | i + 1 => sd_e1 nc L s d p k sch T (sd_ei nc L s d p k sch T e i)
def sd_XE (na nc L : Nat) (T : Nat → Nat → Nat) (e : sd_EE) (xp xd : Int32) (xw xh xl xg : Nat → Int32) : Prop := e.1 < L ∧ xp = nI e.1 ∧ xd = e.2.2.2 ∧ (∀ j, j < na → xg j = e.2.2.1 j) ∧ ∃ hd : Nat → Nat, sd_HL nc (T e.1) hd xh xl ∧ sd_XS nc (T e.1) hd e.2.1 xw
def sd_YE (na nc L : Nat) (T : Nat → Nat → Nat) (e : sd_EE) (yp yd : Int32) (yw yl yg : Nat → Int32) : Prop := e.1 < L ∧ yp = nI e.1 ∧ yd = e.2.2.2 ∧ (∀ j, j < na → yg j = e.2.2.1 j) ∧ sd_Ar nc (T e.1) yl ∧ sd_YS nc (T e.1) e.2.1 yw
theorem sd_XS_N {nc : Nat} {N N' hd : Nat → Nat} {V : Nat → Nat → Int32} {st : Nat → Int32} (e : ∀ c, c < nc → N' c = N c) (h : sd_XS nc N hd V st) : sd_XS nc N' hd V st := fun c hc i hi => h c hc i (by rw [← e c hc]; exact hi)
theorem sd_YS_N {nc : Nat} {N N' : Nat → Nat} {V : Nat → Nat → Int32} {st : Nat → Int32} (e : ∀ c, c < nc → N' c = N c) (h : sd_YS nc N V st) : sd_YS nc N' V st := fun c hc i hi => by
  rw [sd_sum_eq (f := N') (g := N) c (fun j hj => e j (by omega))]
  exact h c hc i (by rw [← e c hc]; exact hi)
/-- the counts after a step -/
theorem sd_e1_N {na nc L : Nat} {s d p k i0 B sch : Nat → Nat} {T : Nat → Nat → Nat} {e : sd_EE} (hE : sd_Ex na nc s d p k i0 B L sch T) (h : e.1 < L) : ∀ c, c < nc → T (sd_e1 nc L s d p k sch T e).1 c = sd_pN s p (sch e.1) (sd_tN d k (sch e.1) (T e.1) nc) nc c := fun c hc => by
  obtain ⟨_, h0, h1, _⟩ := hE
  have h2 := ((h1 e.1 h).2 c hc).2
  rw [sd_tp hc, ← h2]
  show T (if e.1 + 1 < L then e.1 + 1 else 0) c = T (e.1 + 1) c
  by_cases l : e.1 + 1 < L
  · rw [if_pos l]
  · rw [if_neg l, (h0 c hc).1, show e.1 + 1 = L by omega, (h0 c hc).2]
theorem sd_e1_lt {nc L : Nat} {s d p k sch : Nat → Nat} {T : Nat → Nat → Nat} {e : sd_EE} (h : e.1 < L) : (sd_e1 nc L s d p k sch T e).1 < L := by
  show (if e.1 + 1 < L then e.1 + 1 else 0) < L
  split <;> omega
theorem sd_e1_g {na nc L : Nat} {s d p k sch : Nat → Nat} {T : Nat → Nat → Nat} {e : sd_EE} {g : Nat → Int32} (ha : sch e.1 < na) (h : ∀ j, j < na → g j = e.2.2.1 j) : ∀ j, j < na → upd g (sch e.1) (g (sch e.1) + 1) j = (sd_e1 nc L s d p k sch T e).2.2.1 j := fun j hj => by
  show _ = upd e.2.2.1 (sch e.1) (e.2.2.1 (sch e.1) + 1) j
  by_cases l : j = sch e.1
  · rw [l, pk_us, pk_us, h _ ha]
  · rw [pk_un l, pk_un l]
    exact h j hj
section
variable {XA : Int32} {XM : Int32} {xn : Int32} {xm : Int32} {xv : Int32} {xe : Int32} {xp : Int32} {xd : Int32} {gS : Nat → Int32} {gD : Nat → Int32} {gP : Nat → Int32} {gK : Nat → Int32} {gI : Nat → Int32} {gC : Nat → Int32} {xq : Nat → Int64} {xc : Nat → Int32} {xs : Nat → Int32} {xb : Nat → Int32} {xt : Nat → Int32} {xf : Nat → Int32} {xw : Nat → Int32} {xh : Nat → Int32} {xl : Nat → Int32} {xg : Nat → Int32}
theorem xg_st {post : SX → Prop} {na nc L : Nat} {s d p k i0 cp B sch : Nat → Nat} {T : Nat → Nat → Nat} {e : sd_EE} (hna : na ≤ 10) (hnc : nc ≤ 24) (hG : sd_Gr na nc s d p k i0 cp gS gD gP gK gI gC) (hE : sd_Ex na nc s d p k i0 B L sch T) (hs : ∀ i, i < L → xs i = nI (sch i)) (hX : sd_XE na nc L T e xp xd xw xh xl xg)
    (K : ∀ (xp xd : Int32) (xw xh xl xg : Nat → Int32), sd_XE na nc L T (sd_e1 nc L s d p k sch T e) xp xd xw xh xl xg → post (XA, XM, nI na, nI nc, xv, nI L, xp, xd, gS, gD, gP, gK, gI, gC, xq, xc, xs, xb, xt, xf, xw, xh, xl, xg)) : wpX_step post (XA, XM, nI na, nI nc, xv, nI L, xp, xd, gS, gD, gP, gK, gI, gC, xq, xc, xs, xb, xt, xf, xw, xh, xl, xg) := by
  obtain ⟨h1, rfl, h3, h4, hd, h5, h6⟩ := hX
  have hN := sd_e1_N hE h1
  have hlt := sd_e1_lt (nc := nc) (s := s) (d := d) (p := p) (k := k) (sch := sch) (T := T) h1
  obtain ⟨⟨_, hL⟩, q0, q1, q2, q3⟩ := hE
  obtain ⟨ha, hc⟩ := q1 e.1 h1
  have hg := sd_e1_g (nc := nc) (L := L) (s := s) (d := d) (p := p) (k := k) (T := T) ha h4
  refine xd_st hna hnc hG ha h1 hL (hs e.1 h1) (fun c hc2 => (hc c hc2).1) (fun c hc2 => ?_) h5 h6 (fun hd' xw' xh' xl' k1 k2 => ?_)
  · have b1 := q2 (e.1 + 1) (by omega) c hc2
    rw [(hc c hc2).2] at b1
    have b2 := sd_sum_at (f := B) hc2
    omega
  · rw [h4 _ ha] at k2
    have j1 : sd_HL nc (T (sd_e1 nc L s d p k sch T e).1) hd' xh' xl' := fun c hc2 => by
      rw [hN c hc2]
      exact k1 c hc2
    have j2 := sd_XS_N hN k2
    refine ⟨fun l => K _ _ xw' xh' xl' _ ⟨hlt, ?_, ?_, hg, hd', j1, j2⟩, fun l => K _ _ xw' xh' xl' _ ⟨hlt, ?_, ?_, hg, hd', j1, j2⟩⟩
    · show nI (e.1 + 1) = nI (if e.1 + 1 < L then e.1 + 1 else 0)
      rw [if_pos l]
    · show xd = (if e.1 + 1 < L then e.2.2.2 else e.2.2.2 + 1)
      rw [if_pos l]
      exact h3
    · show 0 = nI (if e.1 + 1 < L then e.1 + 1 else 0)
      rw [if_neg (by omega)]
      rfl
    · show xd + 1 = (if e.1 + 1 < L then e.2.2.2 else e.2.2.2 + 1)
      rw [if_neg (by omega), h3]
theorem xg_run {post : Int32 → SX → Prop} {na nc L m : Nat} {s d p k i0 cp B sch : Nat → Nat} {T : Nat → Nat → Nat} {e : sd_EE} (hna : na ≤ 10) (hnc : nc ≤ 24) (hG : sd_Gr na nc s d p k i0 cp gS gD gP gK gI gC) (hE : sd_Ex na nc s d p k i0 B L sch T) (hs : ∀ i, i < L → xs i = nI (sch i)) (hm : m ≤ 256)
    (K : ∀ (xp xd : Int32) (xw xh xl xg : Nat → Int32), sd_XE na nc L T (sd_ei nc L s d p k sch T e m) xp xd xw xh xl xg → post xd (XA, XM, nI na, nI nc, xv, nI L, xp, xd, gS, gD, gP, gK, gI, gC, xq, xc, xs, xb, xt, xf, xw, xh, xl, xg)) :
    ∀ (n i : Nat) (xp xd : Int32) (xw xh xl xg : Nat → Int32), m < n + i → i ≤ m → sd_XE na nc L T (sd_ei nc L s d p k sch T e i) xp xd xw xh xl xg → wX_run_24 post (nI m) n (nI i) XA XM (nI na) (nI nc) xv (nI L) xp xd gS gD gP gK gI gC xq xc xs xb xt xf xw xh xl xg := by
  intro n
  induction n with
  | zero => intro i xp xd xw xh xl xg h1 h2; omega
  | succ n ih =>
    intro i xp xd xw xh xl xg h1 h2 hX
    refine pk_le m i (fun hj => ?_) (fun hj => xg_st hna hnc hG hE hs hX (fun xp' xd' xw' xh' xl' xg' hX' => nm_r (nI_1 i) (ih (i + 1) xp' xd' xw' xh' xl' xg' (by omega) (by omega) hX')))
    have e : i = m := by omega
    subst e
    exact K xp xd xw xh xl xg hX
end
section
variable {YA : Int32} {YM : Int32} {yn : Int32} {ym : Int32} {yv : Int32} {ye : Int32} {yp : Int32} {yd : Int32} {gS : Nat → Int32} {gD : Nat → Int32} {gP : Nat → Int32} {gK : Nat → Int32} {gI : Nat → Int32} {gC : Nat → Int32} {yq : Nat → Int64} {yc : Nat → Int32} {yf : Nat → Int32} {yt : Nat → Int32} {ys : Nat → Int32} {yb : Nat → Int32} {yw : Nat → Int32} {yl : Nat → Int32} {yg : Nat → Int32}
theorem yg_st {post : SY → Prop} {na nc L : Nat} {s d p k i0 cp B sch : Nat → Nat} {T : Nat → Nat → Nat} {e : sd_EE} (hna : na ≤ 10) (hnc : nc ≤ 24) (hG : sd_Gr na nc s d p k i0 cp gS gD gP gK gI gC) (hE : sd_Ex na nc s d p k i0 B L sch T) (hs : ∀ i, i < L → ys i = nI (sch i)) (hY : sd_YE na nc L T e yp yd yw yl yg)
    (K : ∀ (yp yd : Int32) (yw yl yg : Nat → Int32), sd_YE na nc L T (sd_e1 nc L s d p k sch T e) yp yd yw yl yg → post (YA, YM, nI na, nI nc, yv, nI L, yp, yd, gS, gD, gP, gK, gI, gC, yq, yc, yf, yt, ys, yb, yw, yl, yg)) : wpY_step post (YA, YM, nI na, nI nc, yv, nI L, yp, yd, gS, gD, gP, gK, gI, gC, yq, yc, yf, yt, ys, yb, yw, yl, yg) := by
  obtain ⟨h1, rfl, h3, h4, h5, h6⟩ := hY
  have hN := sd_e1_N hE h1
  have hlt := sd_e1_lt (nc := nc) (s := s) (d := d) (p := p) (k := k) (sch := sch) (T := T) h1
  obtain ⟨⟨_, hL⟩, q0, q1, q2, q3⟩ := hE
  obtain ⟨ha, hc⟩ := q1 e.1 h1
  have hg := sd_e1_g (nc := nc) (L := L) (s := s) (d := d) (p := p) (k := k) (T := T) ha h4
  have hs1 : ∀ i, i ≤ L → sd_sum (T i) nc ≤ 512 := fun i hi => Nat.le_trans (sd_sum_le nc (fun j hj => q2 i hi j hj)) q3
  have hs2 : sd_sum (sd_fire s d p k (sch e.1) (T e.1)) nc ≤ 512 := by
    rw [← sd_sum_eq nc (fun j hj => (hc j hj).2)]
    exact hs1 (e.1 + 1) (by omega)
  refine yd_st hna hnc hG ha h1 hL (hs e.1 h1) (fun c hc2 => (hc c hc2).1) (hs1 e.1 (by omega)) hs2 h5 h6 (fun yw' yl' k1 k2 => ?_)
  rw [h4 _ ha] at k2
  have j1 : sd_Ar nc (T (sd_e1 nc L s d p k sch T e).1) yl' := fun c hc2 => by
    rw [hN c hc2]
    exact k1 c hc2
  have j2 := sd_YS_N hN k2
  refine ⟨fun l => K _ _ yw' yl' _ ⟨hlt, ?_, ?_, hg, j1, j2⟩, fun l => K _ _ yw' yl' _ ⟨hlt, ?_, ?_, hg, j1, j2⟩⟩
  · show nI (e.1 + 1) = nI (if e.1 + 1 < L then e.1 + 1 else 0)
    rw [if_pos l]
  · show yd = (if e.1 + 1 < L then e.2.2.2 else e.2.2.2 + 1)
    rw [if_pos l]
    exact h3
  · show 0 = nI (if e.1 + 1 < L then e.1 + 1 else 0)
    rw [if_neg (by omega)]
    rfl
  · show yd + 1 = (if e.1 + 1 < L then e.2.2.2 else e.2.2.2 + 1)
    rw [if_neg (by omega), h3]
theorem yg_run {post : Int32 → SY → Prop} {na nc L m : Nat} {s d p k i0 cp B sch : Nat → Nat} {T : Nat → Nat → Nat} {e : sd_EE} (hna : na ≤ 10) (hnc : nc ≤ 24) (hG : sd_Gr na nc s d p k i0 cp gS gD gP gK gI gC) (hE : sd_Ex na nc s d p k i0 B L sch T) (hs : ∀ i, i < L → ys i = nI (sch i)) (hm : m ≤ 256)
    (K : ∀ (yp yd : Int32) (yw yl yg : Nat → Int32), sd_YE na nc L T (sd_ei nc L s d p k sch T e m) yp yd yw yl yg → post yd (YA, YM, nI na, nI nc, yv, nI L, yp, yd, gS, gD, gP, gK, gI, gC, yq, yc, yf, yt, ys, yb, yw, yl, yg)) :
    ∀ (n i : Nat) (yp yd : Int32) (yw yl yg : Nat → Int32), m < n + i → i ≤ m → sd_YE na nc L T (sd_ei nc L s d p k sch T e i) yp yd yw yl yg → wY_run_26 post (nI m) n (nI i) YA YM (nI na) (nI nc) yv (nI L) yp yd gS gD gP gK gI gC yq yc yf yt ys yb yw yl yg := by
  intro n
  induction n with
  | zero => intro i yp yd yw yl yg h1 h2; omega
  | succ n ih =>
    intro i yp yd yw yl yg h1 h2 hY
    refine pk_le m i (fun hj => ?_) (fun hj => yg_st hna hnc hG hE hs hY (fun yp' yd' yw' yl' yg' hY' => nm_r (nI_1 i) (ih (i + 1) yp' yd' yw' yl' yg' (by omega) (by omega) hY')))
    have e : i = m := by omega
    subst e
    exact K yp yd yw yl yg hY
end
theorem sd_r1 (x : Int32) : x < 1 ∨ (¬ x < 1 ∧ ¬ x ≤ 256) ∨ ∃ q : Nat, 0 < q ∧ q ≤ 256 ∧ x = nI q := by
  by_cases h : x < 1
  · exact Or.inl h
  · have h0 : ¬ x < 0 := fun z => h (Int32.lt_trans z (by decide))
    obtain ⟨j, hj, rfl⟩ := nI_of h0
    have h1 : 0 < j := by
      apply Nat.pos_of_ne_zero
      intro e
      subst e
      exact h (by decide)
    by_cases h2 : j ≤ 256
    · exact Or.inr (Or.inr ⟨j, h1, h2, rfl⟩)
    · exact Or.inr (Or.inl ⟨h, nI_ge (a := 256) (by omega) hj⟩)
theorem i_vc_run {k : Nat} {u : SX} {v : SY} (I : i_Rel k u v) (hk : k + 5 ≤ 2562) (v1 : Int32) : wpX_run (fun r u' => wpY_run (fun r' v' => r' = r ∧ i_Rel (k + 5) u' v') v v1) u v1 := by
  have I0 := I
  obtain ⟨ma, mc, na, nc, s, d, p, kk, i0, cp, gS, gD, gP, gK, gI, gC, w, xe, xp, xd, xq, xc, xs, xb, xt, xf, xw, xh, xl, xg, ye, yp, yd, yq, yc, yf, yt, ys, yb, yw, yl, yg, rfl, rfl, hN, hG, hV⟩ := I
  obtain ⟨n1, n2, n3, n4, n5, n6⟩ := hN
  by_cases hw : w = 1
  · rcases sd_r1 v1 with a | ⟨a, a'⟩ | ⟨m, h0, hm, rfl⟩
    · exact br_t hw (br_t a (br_t hw (br_t a ⟨rfl, I0⟩)))
    · exact br_t hw (br_f a (br_f a' (br_t hw (br_f a (br_f a' ⟨rfl, I0⟩)))))
    · have W1 := sd_VC_1 hV (Or.inl hw)
      have W2 := sd_VC_2 hV (Or.inl hw)
      obtain ⟨L, pos, sch, hd, B, T, V, hE, ⟨rfl, rfl⟩, h2, ⟨h3, h4, h5, h6⟩, h7, h8, h9, h10⟩ := sd_VC_3 hV hw
      have sa : ¬ nI m < 1 := nI_nlt (b := 1) h0 (by omega)
      have ta : nI m ≤ 256 := nI_le (b := 256) hm (by decide)
      have hX : sd_XE na nc L T (pos, V, xg, xd) xp xd xw xh xl xg := ⟨h3, h4, rfl, fun _ _ => rfl, hd, fun c hc => ⟨(h8 c hc).1, (h8 c hc).2.2.1, (h8 c hc).2.2.2⟩, h9⟩
      have hY : sd_YE na nc L T (pos, V, xg, xd) yp yd yw yl yg := ⟨h3, h5, h6, h7, fun c hc => (h8 c hc).2.1, h10⟩
      refine br_t hw (br_f sa (br_t ta ⟨m + 1, ?_⟩))
      refine xg_run (by omega) (by omega) hG hE (fun i hi => (h2 i hi).1) hm (fun xp' xd' xw' xh' xl' xg' hX' => ?_) (m + 1) 0 xp xd xw xh xl xg (by omega) (Nat.zero_le _) hX
      refine br_t hw (br_f sa (br_t ta ⟨m + 1, ?_⟩))
      refine yg_run (by omega) (by omega) hG hE (fun i hi => (h2 i hi).2) hm (fun yp' yd' yw' yl' yg' hY' => ?_) (m + 1) 0 yp yd yw yl yg (by omega) (Nat.zero_le _) hY
      obtain ⟨e1, e2, e3, e4, hd', e5, e6⟩ := hX'
      obtain ⟨_, f2, f3, f4, f5, f6⟩ := hY'
      refine ⟨f3.trans e3.symm, sd_mk ⟨n1, n2, n3, n4, n5, n6⟩ hG (Or.inr (Or.inr (Or.inr (Or.inr (Or.inr (Or.inr ⟨hw, W1, W2, ?_⟩))))))⟩
      exact ⟨L, _, sch, hd', B, T, _, hE, ⟨rfl, rfl⟩, h2, ⟨e1, e2, f2, f3.trans e3.symm⟩, fun j hj => (f4 j hj).trans (e4 j hj).symm, fun c hc => ⟨(e5 c hc).1, f5 c hc, (e5 c hc).2.1, (e5 c hc).2.2⟩, e6, f6⟩
  · exact br_f hw (br_f hw ⟨rfl, I0⟩)
end
