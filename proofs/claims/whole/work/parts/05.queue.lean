/-! the channels' contents: N c tokens, V c i the value at place i; the component's rings and the reference's one row -/
def sd_uN (N : Nat → Nat) (c m : Nat) : Nat → Nat := fun x => if x = c then m else N x
theorem sd_uN_s {N : Nat → Nat} {c m : Nat} : sd_uN N c m c = m := if_pos rfl
theorem sd_uN_o {N : Nat → Nat} {c m x : Nat} (h : x ≠ c) : sd_uN N c m x = N x := if_neg h
theorem sd_uN_u {N : Nat → Nat} {c m m' : Nat} : sd_uN (sd_uN N c m) c m' = sd_uN N c m' := by
  funext x
  by_cases h : x = c
  · rw [h, sd_uN_s, sd_uN_s]
  · rw [sd_uN_o h, sd_uN_o h, sd_uN_o h]
theorem sd_uN_id {N : Nat → Nat} {c m : Nat} (e : m = N c) : sd_uN N c m = N := by
  funext x
  by_cases h : x = c
  · rw [h, sd_uN_s, e]
  · rw [sd_uN_o h]
theorem sd_sum_uN {N : Nat → Nat} {c m n : Nat} (h : c < n) : sd_sum (sd_uN N c m) n + N c = sd_sum N n + m := by
  have := sd_sum_ch (f := N) (g := sd_uN N c m) (a := c) n h (fun j hj => sd_uN_o hj)
  rw [sd_uN_s] at this
  exact this
theorem sd_sum_uNl {N : Nat → Nat} {c m n : Nat} (h : n ≤ c) : sd_sum (sd_uN N c m) n = sd_sum N n := sd_sum_hi n h (fun j hj => sd_uN_o hj)
/-- j tokens off the head of c -/
def sd_dV (V : Nat → Nat → Int32) (c j : Nat) : Nat → Nat → Int32 := fun x i => if x = c then V x (i + j) else V x i
/-- v behind the first n tokens of c -/
def sd_eV (V : Nat → Nat → Int32) (c n : Nat) (v : Int32) : Nat → Nat → Int32 := fun x i => if x = c ∧ n ≤ i then v else V x i
theorem sd_dV_s {V : Nat → Nat → Int32} {c j i : Nat} : sd_dV V c j c i = V c (i + j) := if_pos rfl
theorem sd_dV_o {V : Nat → Nat → Int32} {c j x i : Nat} (h : x ≠ c) : sd_dV V c j x i = V x i := if_neg h
theorem sd_dV_0 {V : Nat → Nat → Int32} {c : Nat} : sd_dV V c 0 = V := by
  funext x i
  by_cases h : x = c
  · rw [h, sd_dV_s]
    rfl
  · rw [sd_dV_o h]
theorem sd_dV_d {V : Nat → Nat → Int32} {c j : Nat} : sd_dV (sd_dV V c j) c 1 = sd_dV V c (j + 1) := by
  funext x i
  by_cases h : x = c
  · rw [h, sd_dV_s, sd_dV_s, sd_dV_s]
    exact congrArg (V c) (by omega)
  · rw [sd_dV_o h, sd_dV_o h, sd_dV_o h]
theorem sd_eV_s {V : Nat → Nat → Int32} {c n i : Nat} {v : Int32} (h : n ≤ i) : sd_eV V c n v c i = v := if_pos ⟨rfl, h⟩
theorem sd_eV_l {V : Nat → Nat → Int32} {c n x i : Nat} {v : Int32} (h : i < n) : sd_eV V c n v x i = V x i := if_neg (fun e => by omega)
theorem sd_eV_o {V : Nat → Nat → Int32} {c n x i : Nat} {v : Int32} (h : x ≠ c) : sd_eV V c n v x i = V x i := if_neg (fun e => h e.1)
theorem sd_eV_e {V : Nat → Nat → Int32} {c n j : Nat} {v : Int32} : sd_eV (sd_eV V c n v) c (n + j) v = sd_eV V c n v := by
  funext x i
  by_cases h : x = c
  · rw [h]
    by_cases h2 : n + j ≤ i
    · rw [sd_eV_s h2, sd_eV_s (by omega)]
    · rw [sd_eV_l (by omega)]
  · rw [sd_eV_o h]
/-! the reference's row -/
def sd_YS (nc : Nat) (N : Nat → Nat) (V : Nat → Nat → Int32) (st : Nat → Int32) : Prop := ∀ c, c < nc → ∀ i, i < N c → st (sd_sum N c + i) = V c i
theorem sd_YS_deq {nc : Nat} {N : Nat → Nat} {V : Nat → Nat → Int32} {st st' : Nat → Int32} {c : Nat} (h : sd_YS nc N V st) (hc : c < nc) (h0 : 0 < N c)
    (h1 : ∀ j, j < sd_sum N c → st' j = st j) (h2 : ∀ j, sd_sum N c ≤ j → j + 1 < sd_sum N nc → st' j = st (j + 1)) : sd_YS nc (sd_uN N c (N c - 1)) (sd_dV V c 1) st' := by
  intro x hx i hi
  by_cases e : x = c
  · subst e
    rw [sd_uN_s] at hi
    rw [sd_dV_s, sd_sum_uNl (Nat.le_refl _)]
    have h3 := sd_sum_at (f := N) hx
    rw [h2 _ (by omega) (by omega), Nat.add_assoc]
    exact h x hx (i + 1) (by omega)
  · rw [sd_uN_o e] at hi
    rw [sd_dV_o e]
    by_cases l : x < c
    · rw [sd_sum_uNl (by omega)]
      have h3 := sd_sum_at (f := N) l
      rw [h1 _ (by omega)]
      exact h x hx i hi
    · have h3 := sd_sum_at (f := N) (c := c) (n := x) (by omega)
      have h4 := sd_sum_uN (N := N) (m := N c - 1) (c := c) (n := x) (by omega)
      have h5 := sd_sum_at (f := N) hx
      have h6 : sd_sum (sd_uN N c (N c - 1)) x + 1 = sd_sum N x := by omega
      rw [h2 _ (by omega) (by omega), show sd_sum (sd_uN N c (N c - 1)) x + i + 1 = sd_sum N x + i by omega]
      exact h x hx i hi
theorem sd_YS_enq {nc : Nat} {N : Nat → Nat} {V : Nat → Nat → Int32} {st st' : Nat → Int32} {c : Nat} {v : Int32} (h : sd_YS nc N V st) (hc : c < nc)
    (h1 : ∀ j, j < sd_sum N c + N c → st' j = st j) (h2 : st' (sd_sum N c + N c) = v) (h3 : ∀ j, sd_sum N c + N c ≤ j → j < sd_sum N nc → st' (j + 1) = st j) : sd_YS nc (sd_uN N c (N c + 1)) (sd_eV V c (N c) v) st' := by
  intro x hx i hi
  by_cases e : x = c
  · subst e
    rw [sd_uN_s] at hi
    rw [sd_sum_uNl (Nat.le_refl _)]
    by_cases l : i < N x
    · rw [sd_eV_l l, h1 _ (by omega)]
      exact h x hx i l
    · have e2 : i = N x := by omega
      rw [e2, sd_eV_s (Nat.le_refl _)]
      exact h2
  · rw [sd_uN_o e] at hi
    rw [sd_eV_o e]
    by_cases l : x < c
    · rw [sd_sum_uNl (by omega)]
      have h4 := sd_sum_at (f := N) l
      rw [h1 _ (by omega)]
      exact h x hx i hi
    · have h4 := sd_sum_at (f := N) (c := c) (n := x) (by omega)
      have h5 := sd_sum_uN (N := N) (m := N c + 1) (c := c) (n := x) (by omega)
      have h6 := sd_sum_at (f := N) hx
      rw [show sd_sum (sd_uN N c (N c + 1)) x + i = (sd_sum N x + i) + 1 by omega, h3 _ (by omega) (by omega)]
      exact h x hx i hi
/-! the component's rings -/
def sd_XS (nc : Nat) (N hd : Nat → Nat) (V : Nat → Nat → Int32) (st : Nat → Int32) : Prop := ∀ c, c < nc → ∀ i, i < N c → st (c * 512 + (hd c + i) % 512) = V c i
theorem sd_XS_deq {nc : Nat} {N hd : Nat → Nat} {V : Nat → Nat → Int32} {st : Nat → Int32} {c j : Nat} (h : sd_XS nc N hd V st) (hj : j ≤ N c) : sd_XS nc (sd_uN N c (N c - j)) (sd_uN hd c ((hd c + j) % 512)) (sd_dV V c j) st := by
  intro x hx i hi
  by_cases e : x = c
  · subst e
    rw [sd_uN_s] at hi
    rw [sd_dV_s, sd_uN_s, show ((hd x + j) % 512 + i) % 512 = (hd x + (i + j)) % 512 by omega]
    exact h x hx (i + j) (by omega)
  · rw [sd_uN_o e] at hi
    rw [sd_dV_o e, sd_uN_o e]
    exact h x hx i hi
theorem sd_XS_enq {nc : Nat} {N hd : Nat → Nat} {V : Nat → Nat → Int32} {st : Nat → Int32} {c : Nat} {v : Int32} (h : sd_XS nc N hd V st) (hb : ∀ x, x < nc → N x ≤ 512) (h5 : N c < 512) : sd_XS nc (sd_uN N c (N c + 1)) hd (sd_eV V c (N c) v) (upd st (c * 512 + (hd c + N c) % 512) v) := by
  intro x hx i hi
  by_cases e : x = c
  · subst e
    rw [sd_uN_s] at hi
    by_cases l : i < N x
    · rw [sd_eV_l l, pk_un (by omega)]
      exact h x hx i l
    · have e2 : i = N x := by omega
      rw [e2, sd_eV_s (Nat.le_refl _), pk_us]
  · rw [sd_uN_o e] at hi
    rw [sd_eV_o e, pk_un (by omega)]
    exact h x hx i hi
/-! the sums of what is taken, the counts and contents after the takes, after the puts -/
def sd_ts (f : Nat → Int32) (s : Int32) : Nat → Int32
  | 0 => s
  | j + 1 => sd_ts f s j + f j
def sd_tS (d k : Nat → Nat) (a : Nat) (V : Nat → Nat → Int32) : Nat → Int32
  | 0 => 0
  | n + 1 => if d n = a then sd_ts (V n) (sd_tS d k a V n) (k n) else sd_tS d k a V n
def sd_tN (d k : Nat → Nat) (a : Nat) (N : Nat → Nat) (n : Nat) : Nat → Nat := fun c => if c < n ∧ d c = a then N c - k c else N c
def sd_tV (d k : Nat → Nat) (a : Nat) (V : Nat → Nat → Int32) (n : Nat) : Nat → Nat → Int32 := fun c i => if c < n ∧ d c = a then V c (i + k c) else V c i
def sd_pN (s p : Nat → Nat) (a : Nat) (N : Nat → Nat) (n : Nat) : Nat → Nat := fun c => if c < n ∧ s c = a then N c + p c else N c
def sd_pV (s : Nat → Nat) (a : Nat) (v : Int32) (N : Nat → Nat) (V : Nat → Nat → Int32) (n : Nat) : Nat → Nat → Int32 := fun c i => if c < n ∧ s c = a ∧ N c ≤ i then v else V c i
theorem sd_tN_0 {d k N : Nat → Nat} {a : Nat} : sd_tN d k a N 0 = N := by
  funext c
  exact if_neg (fun h => by omega)
theorem sd_tV_0 {d k : Nat → Nat} {V : Nat → Nat → Int32} {a : Nat} : sd_tV d k a V 0 = V := by
  funext c i
  exact if_neg (fun h => by omega)
theorem sd_pN_0 {s p N : Nat → Nat} {a : Nat} : sd_pN s p a N 0 = N := by
  funext c
  exact if_neg (fun h => by omega)
theorem sd_pV_0 {s N : Nat → Nat} {V : Nat → Nat → Int32} {a : Nat} {v : Int32} : sd_pV s a v N V 0 = V := by
  funext c i
  exact if_neg (fun h => by omega)
theorem sd_tN_hi {d k N : Nat → Nat} {a n c : Nat} (h : n ≤ c) : sd_tN d k a N n c = N c := if_neg (fun e => by omega)
theorem sd_tV_hi {d k : Nat → Nat} {V : Nat → Nat → Int32} {a n c : Nat} (h : n ≤ c) : sd_tV d k a V n c = V c := by
  funext i
  exact if_neg (fun e => by omega)
theorem sd_pN_hi {s p N : Nat → Nat} {a n c : Nat} (h : n ≤ c) : sd_pN s p a N n c = N c := if_neg (fun e => by omega)
theorem sd_tN_y {d k N : Nat → Nat} {a n : Nat} (h : d n = a) : sd_uN (sd_tN d k a N n) n (N n - k n) = sd_tN d k a N (n + 1) := by
  funext c
  unfold sd_tN
  by_cases e : c = n
  · rw [e, sd_uN_s, if_pos ⟨Nat.lt_succ_self n, h⟩]
  · rw [sd_uN_o e]
    by_cases l : c < n ∧ d c = a
    · rw [if_pos l, if_pos ⟨by omega, l.2⟩]
    · rw [if_neg l, if_neg (fun q => l ⟨by omega, q.2⟩)]
theorem sd_tN_n {d k N : Nat → Nat} {a n : Nat} (h : d n ≠ a) : sd_tN d k a N (n + 1) = sd_tN d k a N n := by
  funext c
  unfold sd_tN
  by_cases l : c < n ∧ d c = a
  · rw [if_pos l, if_pos ⟨by omega, l.2⟩]
  · rw [if_neg l, if_neg (fun q => l ⟨by
      have : c ≠ n := fun e => h (e ▸ q.2)
      omega, q.2⟩)]
theorem sd_tV_y {d k : Nat → Nat} {V : Nat → Nat → Int32} {a n : Nat} (h : d n = a) : sd_dV (sd_tV d k a V n) n (k n) = sd_tV d k a V (n + 1) := by
  funext c i
  by_cases e : c = n
  · rw [e, sd_dV_s, sd_tV_hi (Nat.le_refl _)]
    exact (if_pos ⟨Nat.lt_succ_self n, h⟩).symm
  · rw [sd_dV_o e]
    unfold sd_tV
    by_cases l : c < n ∧ d c = a
    · rw [if_pos l, if_pos ⟨by omega, l.2⟩]
    · rw [if_neg l, if_neg (fun q => l ⟨by omega, q.2⟩)]
theorem sd_tV_n {d k : Nat → Nat} {V : Nat → Nat → Int32} {a n : Nat} (h : d n ≠ a) : sd_tV d k a V (n + 1) = sd_tV d k a V n := by
  funext c i
  unfold sd_tV
  by_cases l : c < n ∧ d c = a
  · rw [if_pos l, if_pos ⟨by omega, l.2⟩]
  · rw [if_neg l, if_neg (fun q => l ⟨by
      have : c ≠ n := fun e => h (e ▸ q.2)
      omega, q.2⟩)]
theorem sd_pN_y {s p N : Nat → Nat} {a n : Nat} (h : s n = a) : sd_uN (sd_pN s p a N n) n (N n + p n) = sd_pN s p a N (n + 1) := by
  funext c
  unfold sd_pN
  by_cases e : c = n
  · rw [e, sd_uN_s, if_pos ⟨Nat.lt_succ_self n, h⟩]
  · rw [sd_uN_o e]
    by_cases l : c < n ∧ s c = a
    · rw [if_pos l, if_pos ⟨by omega, l.2⟩]
    · rw [if_neg l, if_neg (fun q => l ⟨by omega, q.2⟩)]
theorem sd_pN_n {s p N : Nat → Nat} {a n : Nat} (h : s n ≠ a) : sd_pN s p a N (n + 1) = sd_pN s p a N n := by
  funext c
  unfold sd_pN
  by_cases l : c < n ∧ s c = a
  · rw [if_pos l, if_pos ⟨by omega, l.2⟩]
  · rw [if_neg l, if_neg (fun q => l ⟨by
      have : c ≠ n := fun e => h (e ▸ q.2)
      omega, q.2⟩)]
theorem sd_pV_y {s N : Nat → Nat} {V : Nat → Nat → Int32} {a n : Nat} {v : Int32} (h : s n = a) : sd_eV (sd_pV s a v N V n) n (N n) v = sd_pV s a v N V (n + 1) := by
  funext c i
  unfold sd_eV sd_pV
  by_cases e : c = n
  · subst e
    by_cases l : N c ≤ i
    · rw [if_pos ⟨rfl, l⟩, if_pos ⟨Nat.lt_succ_self c, h, l⟩]
    · rw [if_neg (fun q => l q.2), if_neg (fun q => l q.2.2), if_neg (fun q => l q.2.2)]
  · rw [if_neg (fun q => e q.1)]
    by_cases l : c < n ∧ s c = a ∧ N c ≤ i
    · rw [if_pos l, if_pos ⟨by omega, l.2⟩]
    · rw [if_neg l, if_neg (fun q => l ⟨by omega, q.2⟩)]
theorem sd_pV_n {s N : Nat → Nat} {V : Nat → Nat → Int32} {a n : Nat} {v : Int32} (h : s n ≠ a) : sd_pV s a v N V (n + 1) = sd_pV s a v N V n := by
  funext c i
  unfold sd_pV
  by_cases l : c < n ∧ s c = a ∧ N c ≤ i
  · rw [if_pos l, if_pos ⟨by omega, l.2⟩]
  · rw [if_neg l, if_neg (fun q => l ⟨by
      have : c ≠ n := fun e => h (e ▸ q.2.1)
      omega, q.2⟩)]
theorem sd_tS_y {d k : Nat → Nat} {V : Nat → Nat → Int32} {a n : Nat} (h : d n = a) : sd_tS d k a V (n + 1) = sd_ts (V n) (sd_tS d k a V n) (k n) := if_pos h
theorem sd_tS_n {d k : Nat → Nat} {V : Nat → Nat → Int32} {a n : Nat} (h : d n ≠ a) : sd_tS d k a V (n + 1) = sd_tS d k a V n := if_neg h
/-- counts in the midst of the takes and of the puts stay below both ends -/
theorem sd_tN_le {d k N : Nat → Nat} {a n : Nat} (c : Nat) : sd_tN d k a N n c ≤ N c := by
  unfold sd_tN
  split <;> omega
theorem sd_pN_le {s p N : Nat → Nat} {a n m : Nat} (h : n ≤ m) (c : Nat) : sd_pN s p a N n c ≤ sd_pN s p a N m c := by
  unfold sd_pN
  by_cases l : c < n ∧ s c = a
  · rw [if_pos l, if_pos ⟨by omega, l.2⟩]
    omega
  · rw [if_neg l]
    split <;> omega
theorem sd_tp {nc : Nat} {s d p k N : Nat → Nat} {a c : Nat} (hc : c < nc) : sd_pN s p a (sd_tN d k a N nc) nc c = sd_fire s d p k a N c := by
  unfold sd_pN sd_fire sd_tN
  by_cases e1 : d c = a
  · by_cases e2 : s c = a
    · rw [if_pos ⟨hc, e2⟩, if_pos ⟨hc, e1⟩, if_pos e1, if_pos e2]
    · rw [if_neg (fun q => e2 q.2), if_pos ⟨hc, e1⟩, if_pos e1, if_neg e2]
      rfl
  · by_cases e2 : s c = a
    · rw [if_pos ⟨hc, e2⟩, if_neg (fun q => e1 q.2), if_neg e1, if_pos e2]
      rfl
    · rw [if_neg (fun q => e2 q.2), if_neg (fun q => e1 q.2), if_neg e1, if_neg e2]
      rfl
