/-! the first number below n with a property, or n -/
noncomputable def sd_first (P : Nat → Prop) : Nat → Nat
  | 0 => 0
  | n + 1 => if sd_first P n < n then sd_first P n else @ite Nat (P n) (Classical.propDecidable (P n)) n (n + 1)
theorem sd_first_s1 {P : Nat → Prop} {n : Nat} (h : sd_first P n < n) : sd_first P (n + 1) = sd_first P n := if_pos h
theorem sd_first_s2 {P : Nat → Prop} {n : Nat} (h : ¬ sd_first P n < n) (hp : P n) : sd_first P (n + 1) = n := (if_neg h).trans (if_pos hp)
theorem sd_first_s3 {P : Nat → Prop} {n : Nat} (h : ¬ sd_first P n < n) (hp : ¬ P n) : sd_first P (n + 1) = n + 1 := (if_neg h).trans (if_neg hp)
theorem sd_first_le (P : Nat → Prop) : ∀ n, sd_first P n ≤ n := by
  intro n
  induction n with
  | zero => exact Nat.le_refl _
  | succ n ih =>
    by_cases h : sd_first P n < n
    · rw [sd_first_s1 h]
      omega
    · by_cases hp : P n
      · rw [sd_first_s2 h hp]
        omega
      · rw [sd_first_s3 h hp]
        omega
theorem sd_first_no {P : Nat → Prop} : ∀ n j, j < sd_first P n → ¬ P j := by
  intro n
  induction n with
  | zero => intro j hj; exact absurd hj (Nat.not_lt_zero j)
  | succ n ih =>
    intro j hj
    by_cases h : sd_first P n < n
    · rw [sd_first_s1 h] at hj
      exact ih j hj
    · have hl := sd_first_le P n
      by_cases hp : P n
      · rw [sd_first_s2 h hp] at hj
        exact ih j (by omega)
      · rw [sd_first_s3 h hp] at hj
        by_cases e : j = n
        · rw [e]
          exact hp
        · exact ih j (by omega)
theorem sd_first_yes {P : Nat → Prop} : ∀ n, sd_first P n < n → P (sd_first P n) := by
  intro n
  induction n with
  | zero => intro h; exact absurd h (Nat.not_lt_zero _)
  | succ n ih =>
    intro hj
    by_cases h : sd_first P n < n
    · rw [sd_first_s1 h]
      exact ih h
    · by_cases hp : P n
      · rw [sd_first_s2 h hp]
        exact hp
      · rw [sd_first_s3 h hp] at hj
        omega
theorem sd_first_at {P : Nat → Prop} {n a : Nat} (ha : a < n) (hp : P a) (hn : ∀ j, j < a → ¬ P j) : sd_first P n = a := by
  have h1 := sd_first_le P n
  by_cases h : sd_first P n < a
  · exact absurd (sd_first_yes n (by omega)) (hn _ h)
  · by_cases h2 : a < sd_first P n
    · exact absurd hp (sd_first_no n a h2)
    · omega
theorem sd_first_none {P : Nat → Prop} {n : Nat} (hn : ∀ j, j < n → ¬ P j) : sd_first P n = n := by
  have h1 := sd_first_le P n
  by_cases h : sd_first P n < n
  · exact absurd (sd_first_yes n h) (hn _ h)
  · omega
/-! the schedule, by simulation -/
def sd_en (nc : Nat) (s d p k cp T : Nat → Nat) (a : Nat) : Prop := ∀ c, c < nc → (d c = a → k c ≤ T c) ∧ (s c = a → cp c ≠ 0 → T c + p c ≤ cp c)
def sd_fire (s d p k : Nat → Nat) (a : Nat) (T : Nat → Nat) : Nat → Nat := fun c => T c - (if d c = a then k c else 0) + (if s c = a then p c else 0)
noncomputable def sd_pick (na nc : Nat) (s d p k cp Q F T : Nat → Nat) : Nat := sd_first (fun a => F a < Q a ∧ sd_en nc s d p k cp T a) na
abbrev sd_S : Type := (Nat → Nat) × (Nat → Nat) × (Nat → Nat)
def sd_fF (a : Nat) (F : Nat → Nat) : Nat → Nat := fun b => if b = a then F b + 1 else F b
def sd_fB (T B : Nat → Nat) : Nat → Nat := fun c => if B c < T c then T c else B c
def sd_next (s d p k : Nat → Nat) (a : Nat) (z : sd_S) : sd_S := (sd_fF a z.1, sd_fire s d p k a z.2.1, sd_fB (sd_fire s d p k a z.2.1) z.2.2)
noncomputable def sd_sim (na nc : Nat) (s d p k cp i0 Q : Nat → Nat) : Nat → sd_S
  | 0 => (fun _ => 0, i0, i0)
  | i + 1 => sd_next s d p k (sd_pick na nc s d p k cp Q (sd_sim na nc s d p k cp i0 Q i).1 (sd_sim na nc s d p k cp i0 Q i).2.1) (sd_sim na nc s d p k cp i0 Q i)
noncomputable def sd_sch (na nc : Nat) (s d p k cp i0 Q : Nat → Nat) (i : Nat) : Nat := sd_pick na nc s d p k cp Q (sd_sim na nc s d p k cp i0 Q i).1 (sd_sim na nc s d p k cp i0 Q i).2.1
theorem sd_sim_s (na nc : Nat) (s d p k cp i0 Q : Nat → Nat) (i : Nat) : sd_sim na nc s d p k cp i0 Q (i + 1) = sd_next s d p k (sd_sch na nc s d p k cp i0 Q i) (sd_sim na nc s d p k cp i0 Q i) := rfl
theorem sd_sch_rdy {na nc : Nat} {s d p k cp i0 Q : Nat → Nat} {i : Nat} (h : sd_sch na nc s d p k cp i0 Q i < na) :
    (sd_sim na nc s d p k cp i0 Q i).1 (sd_sch na nc s d p k cp i0 Q i) < Q (sd_sch na nc s d p k cp i0 Q i) ∧ sd_en nc s d p k cp (sd_sim na nc s d p k cp i0 Q i).2.1 (sd_sch na nc s d p k cp i0 Q i) :=
  sd_first_yes (P := fun a => (sd_sim na nc s d p k cp i0 Q i).1 a < Q a ∧ sd_en nc s d p k cp (sd_sim na nc s d p k cp i0 Q i).2.1 a) na h
theorem sd_fF_s (a : Nat) (F : Nat → Nat) : sd_fF a F a = F a + 1 := if_pos rfl
theorem sd_fF_o {a : Nat} {F : Nat → Nat} {b : Nat} (h : b ≠ a) : sd_fF a F b = F b := if_neg h
theorem sd_fB_bd {T B : Nat → Nat} (c : Nat) : T c ≤ sd_fB T B c ∧ B c ≤ sd_fB T B c ∧ (sd_fB T B c = T c ∨ sd_fB T B c = B c) := by
  unfold sd_fB
  by_cases h : B c < T c
  · rw [if_pos h]
    omega
  · rw [if_neg h]
    omega
theorem sd_fire_le {s d p k : Nat → Nat} {a : Nat} {T : Nat → Nat} {c : Nat} (hp : p c ≤ 8) : sd_fire s d p k a T c ≤ T c + 8 := by
  unfold sd_fire
  have h1 : (if s c = a then p c else 0) ≤ 8 := by split <;> omega
  omega
/-- what holds after i picks -/
def sd_I (na nc : Nat) (s d p k i0 Q : Nat → Nat) (i : Nat) (z : sd_S) : Prop :=
  (∀ a, a < na → z.1 a ≤ Q a) ∧ sd_sum z.1 na = i ∧ (∀ c, c < nc → z.2.1 c + k c * z.1 (d c) = i0 c + p c * z.1 (s c)) ∧ (∀ c, c < nc → z.2.1 c ≤ z.2.2 c ∧ z.2.2 c ≤ 32 + 8 * i)
theorem sd_sum_0 : ∀ n, sd_sum (fun _ => 0) n = 0 := by
  intro n
  induction n with
  | zero => rfl
  | succ n ih =>
    show sd_sum (fun _ => 0) n + 0 = 0
    rw [ih]
theorem sd_I_next {na nc : Nat} {s d p k cp i0 Q : Nat → Nat} {i a : Nat} {z : sd_S} (G : sd_G na nc s d p k) (ha : a < na) (hf : z.1 a < Q a) (he : sd_en nc s d p k cp z.2.1 a) (I : sd_I na nc s d p k i0 Q i z) : sd_I na nc s d p k i0 Q (i + 1) (sd_next s d p k a z) := by
  obtain ⟨I1, I2, I3, I4⟩ := I
  refine ⟨fun b hb => ?_, ?_, fun c hc => ?_, fun c hc => ?_⟩
  · show sd_fF a z.1 b ≤ Q b
    by_cases e : b = a
    · rw [e, sd_fF_s]
      exact hf
    · rw [sd_fF_o e]
      exact I1 b hb
  · show sd_sum (sd_fF a z.1) na = i + 1
    have h := sd_sum_ch (f := z.1) (g := sd_fF a z.1) (a := a) na ha (fun j hj => sd_fF_o hj)
    rw [sd_fF_s] at h
    omega
  · show sd_fire s d p k a z.2.1 c + k c * sd_fF a z.1 (d c) = i0 c + p c * sd_fF a z.1 (s c)
    have h3 := I3 c hc
    have h4 := (he c hc).1
    unfold sd_fire
    by_cases e1 : d c = a
    · have h5 := h4 e1
      by_cases e2 : s c = a
      · rw [if_pos e1, if_pos e2, e1, e2, sd_fF_s, Nat.mul_succ, Nat.mul_succ]
        rw [e1, e2] at h3
        omega
      · rw [if_pos e1, if_neg e2, e1, sd_fF_s, sd_fF_o e2, Nat.mul_succ]
        rw [e1] at h3
        omega
    · by_cases e2 : s c = a
      · rw [if_neg e1, if_pos e2, e2, sd_fF_s, sd_fF_o e1, Nat.mul_succ]
        rw [e2] at h3
        omega
      · rw [if_neg e1, if_neg e2, sd_fF_o e1, sd_fF_o e2]
        omega
  · have h4 := I4 c hc
    obtain ⟨b1, b2, b3⟩ := sd_fB_bd (T := sd_fire s d p k a z.2.1) (B := z.2.2) c
    have h5 := sd_fire_le (s := s) (d := d) (p := p) (k := k) (a := a) (T := z.2.1) (c := c) (G c hc).2.2.2.1
    refine ⟨b1, ?_⟩
    show sd_fB (sd_fire s d p k a z.2.1) z.2.2 c ≤ 32 + 8 * (i + 1)
    rcases b3 with b3 | b3 <;> omega
theorem sd_I_sim {na nc : Nat} {s d p k cp i0 Q : Nat → Nat} (G : sd_G na nc s d p k) (h32 : ∀ c, c < nc → i0 c ≤ 32) : ∀ i, (∀ j, j < i → sd_sch na nc s d p k cp i0 Q j < na) → sd_I na nc s d p k i0 Q i (sd_sim na nc s d p k cp i0 Q i) := by
  intro i
  induction i with
  | zero =>
    intro _
    refine ⟨fun a _ => Nat.zero_le _, sd_sum_0 na, fun c hc => ?_, fun c hc => ?_⟩
    · show i0 c + k c * 0 = i0 c + p c * 0
      rfl
    · have := h32 c hc
      exact ⟨Nat.le_refl (i0 c), this⟩
  | succ i ih =>
    intro h
    have h1 := sd_sch_rdy (h i (by omega))
    rw [sd_sim_s]
    exact sd_I_next G (h i (by omega)) h1.1 h1.2 (ih (fun j hj => h j (by omega)))
/-- the number of picks -/
theorem sd_len {na nc : Nat} {s d p k cp i0 Q : Nat → Nat} (G : sd_G na nc s d p k) (h32 : ∀ c, c < nc → i0 c ≤ 32) :
    ∃ L, L ≤ sd_sum Q na ∧ (∀ j, j < L → sd_sch na nc s d p k cp i0 Q j < na) ∧ ¬ sd_sch na nc s d p k cp i0 Q L < na := by
  have no : ∀ i, (∀ j, j < i → sd_sch na nc s d p k cp i0 Q j < na) → i ≤ sd_sum Q na := fun i h => by
    obtain ⟨I1, I2, _⟩ := sd_I_sim (cp := cp) (Q := Q) G h32 i h
    rw [← I2]
    exact sd_sum_le na I1
  have ex : ∃ i, ¬ sd_sch na nc s d p k cp i0 Q i < na := by
    apply Classical.byContradiction
    intro hn
    have h := no (sd_sum Q na + 1) (fun j _ => Classical.byContradiction (fun hj => hn ⟨j, hj⟩))
    omega
  obtain ⟨L, h1, h2⟩ := pk_least (fun i => ¬ sd_sch na nc s d p k cp i0 Q i < na) ex
  have h3 : ∀ j, j < L → sd_sch na nc s d p k cp i0 Q j < na := fun j hj => Classical.byContradiction (fun hn => h2 j hj hn)
  exact ⟨L, no L h3, h3, h1⟩
theorem sd_B_mono {na nc : Nat} {s d p k cp i0 Q : Nat → Nat} {c i : Nat} : ∀ j, i ≤ j → (sd_sim na nc s d p k cp i0 Q i).2.2 c ≤ (sd_sim na nc s d p k cp i0 Q j).2.2 c := by
  intro j
  induction j with
  | zero => intro h; cases Nat.le_zero.mp h; exact Nat.le_refl _
  | succ j ih =>
    intro h
    by_cases e : i = j + 1
    · rw [e]
      exact Nat.le_refl _
    · have h1 := ih (by omega)
      have h2 := (sd_fB_bd (T := sd_fire s d p k (sd_sch na nc s d p k cp i0 Q j) (sd_sim na nc s d p k cp i0 Q j).2.1) (B := (sd_sim na nc s d p k cp i0 Q j).2.2) c).2.1
      exact Nat.le_trans h1 h2
/-- a whole period: what the executor lives on -/
def sd_Ex (na nc : Nat) (s d p k i0 B : Nat → Nat) (L : Nat) (sch : Nat → Nat) (T : Nat → Nat → Nat) : Prop :=
  (0 < L ∧ L ≤ 256) ∧ (∀ c, c < nc → T 0 c = i0 c ∧ T L c = i0 c) ∧ (∀ i, i < L → sch i < na ∧ ∀ c, c < nc → (d c = sch i → k c ≤ T i c) ∧ T (i + 1) c = sd_fire s d p k (sch i) (T i) c) ∧ (∀ i, i ≤ L → ∀ c, c < nc → T i c ≤ B c) ∧ sd_sum B nc ≤ 512
theorem sd_ex {na nc : Nat} {s d p k cp i0 Q : Nat → Nat} {L : Nat} (G : sd_G na nc s d p k) (h32 : ∀ c, c < nc → i0 c ≤ 32) (hL : L = sd_sum Q na) (h0 : 0 < L) (h256 : L ≤ 256) (hg : ∀ j, j < L → sd_sch na nc s d p k cp i0 Q j < na)
    (hb : ∀ c, c < nc → Q (s c) * p c = Q (d c) * k c) (hs : sd_sum (sd_sim na nc s d p k cp i0 Q L).2.2 nc ≤ 512) :
    sd_Ex na nc s d p k i0 (sd_sim na nc s d p k cp i0 Q L).2.2 L (sd_sch na nc s d p k cp i0 Q) (fun i => (sd_sim na nc s d p k cp i0 Q i).2.1) := by
  refine ⟨⟨h0, h256⟩, fun c hc => ⟨rfl, ?_⟩, fun i hi => ⟨hg i hi, fun c hc => ⟨((sd_sch_rdy (hg i hi)).2 c hc).1, rfl⟩⟩, fun i hi c hc => ?_, hs⟩
  · obtain ⟨I1, I2, I3, _⟩ := sd_I_sim (cp := cp) (Q := Q) G h32 L hg
    have e := sd_sum_tight na I1 (by omega)
    have h3 := I3 c hc
    rw [e _ (G c hc).1, e _ (G c hc).2.1] at h3
    have h4 := hb c hc
    rw [Nat.mul_comm (Q (s c)), Nat.mul_comm (Q (d c))] at h4
    show (sd_sim na nc s d p k cp i0 Q L).2.1 c = i0 c
    omega
  · have I := sd_I_sim (cp := cp) (Q := Q) G h32 i (fun j hj => hg j (by omega))
    exact Nat.le_trans (I.2.2.2 c hc).1 (sd_B_mono L hi)
