/-! numbers -/
theorem sd_cell (c h q : Nat) (hq : h + q < 2 ^ 32) : nI c * 512 + ((nI h + nI q) &&& 511) = nI (c * 512 + (h + q) % 512) := by
  have e5 : (512 : Int32) = nI 512 := rfl
  rw [nI_add, pk_andN hq 9 (by decide), e5, pk_mul, nI_add]
theorem sd_and (h q : Nat) (hq : h + q < 2 ^ 32) : (nI h + nI q) &&& 511 = nI ((h + q) % 512) := by
  rw [nI_add, pk_andN hq 9 (by decide)]
theorem sd_ne1 {a : Nat} (h : a < 2 ^ 31) : ¬ nI a = -1 := by
  intro e
  have h1 := congrArg Int32.toInt e
  rw [nI_toInt h] at h1
  have h2 : (-1 : Int32).toInt = -1 := by decide
  omega
theorem sd_m1neg : (-1 : Int32) < 0 := by decide
theorem sd_0 : (0 : Int32) = nI 0 := rfl
theorem sd_l0 : (0 : Int64) = lN 0 := rfl
theorem sd_l1 : (1 : Int64) = lN 1 := rfl
theorem sd_eq0 {a : Nat} (h : a < 2 ^ 31) : nI a = 0 ↔ a = 0 := by
  rw [sd_0, nI_eq h (by decide)]
theorem sd_leq0 {a : Nat} (h : a < 2 ^ 63) : lN a = 0 ↔ a = 0 := by
  rw [sd_l0, pk_lEQ h (by decide)]
/-- Euclid: after two rounds the lesser number is halved -/
theorem sd_half {b r m : Nat} (h0 : 0 < r) (hr : r < b) (hb : b < 2 ^ (m + 1)) : b % r < 2 ^ m := by
  have h1 := Nat.mod_lt b h0
  have h2 := Nat.div_add_mod b r
  have h3 : 0 < b / r := Nat.div_pos (Nat.le_of_lt hr) h0
  have h4 : r ≤ r * (b / r) := Nat.le_mul_of_pos_right r h3
  rw [Nat.pow_succ] at hb
  omega
theorem sd_gcd_step (a b : Nat) : Nat.gcd b (a % b) = Nat.gcd a b := by
  rw [Nat.gcd_comm a b, Nat.gcd_rec b a, Nat.gcd_comm]
