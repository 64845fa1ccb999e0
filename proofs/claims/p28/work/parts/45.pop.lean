/-! the count of a long's bits, by lanes of eight -/
def mk8 (m : Nat) : Nat → Nat
  | 0 => 0
  | n + 1 => 256 * mk8 m n + m
theorem and_lane (a M m : Nat) (hm : m < 256) : a &&& (256 * M + m) = 256 * (a / 256 &&& M) + (a % 256 &&& m) := by
  have h1 : (a &&& (256 * M + m)) / 2 ^ 8 = a / 2 ^ 8 &&& (256 * M + m) / 2 ^ 8 := Nat.and_div_two_pow
  have h2 : (a &&& (256 * M + m)) % 2 ^ 8 = (a % 2 ^ 8) &&& ((256 * M + m) % 2 ^ 8) := Nat.and_mod_two_pow
  rw [show (2 : Nat) ^ 8 = 256 from rfl] at h1 h2
  rw [show (256 * M + m) / 256 = M by omega] at h1
  rw [show (256 * M + m) % 256 = m by omega] at h2
  have h3 := Nat.div_add_mod (a &&& (256 * M + m)) 256
  rw [h1, h2] at h3
  exact h3.symm
def p1 (c : Nat) : Nat := c - (c / 2 &&& 85)
def p2 (a : Nat) : Nat := (a &&& 51) + (a / 4 &&& 51)
def p3 (b : Nat) : Nat := (b + b / 16) &&& 15
def pc8 (c : Nat) : Nat := sm (fun p => bN (c.testBit p)) 8
def T1 : Nat → Nat → Nat
  | 0, _ => 0
  | n + 1, x => 256 * T1 n (x / 256) + p1 (x % 256)
def T2 : Nat → Nat → Nat
  | 0, _ => 0
  | n + 1, x => 256 * T2 n (x / 256) + p2 (x % 256)
def T3 : Nat → Nat → Nat
  | 0, _ => 0
  | n + 1, x => 256 * T3 n (x / 256) + p3 (x % 256)
def T4 : Nat → Nat → Nat
  | 0, _ => 0
  | n + 1, x => 256 * T4 n (x / 256) + pc8 (x % 256)
theorem l1 : ∀ c, c < 256 → (c / 2 &&& 85) ≤ c ∧ (128 + c / 2) &&& 85 = c / 2 &&& 85 := by decide +kernel
theorem st1 : ∀ n x, x < 256 ^ n → (x / 2 &&& mk8 85 n) ≤ x ∧ x - (x / 2 &&& mk8 85 n) = T1 n x := by
  intro n
  induction n with
  | zero =>
    intro x h
    rw [Nat.pow_zero] at h
    have : x = 0 := by omega
    subst this
    exact ⟨by decide, by decide⟩
  | succ n ih =>
    intro x h
    have hy : x / 256 < 256 ^ n := by
      rw [Nat.pow_succ] at h
      exact Nat.div_lt_of_lt_mul (by rw [Nat.mul_comm]; exact h)
    obtain ⟨i1, i2⟩ := ih _ hy
    have hc : x % 256 < 256 := Nat.mod_lt _ (by decide)
    obtain ⟨c1, c2⟩ := l1 _ hc
    have e : x / 2 &&& mk8 85 (n + 1) = 256 * (x / 256 / 2 &&& mk8 85 n) + (x % 256 / 2 &&& 85) := by
      show x / 2 &&& (256 * mk8 85 n + 85) = _
      rw [and_lane _ _ _ (by decide), show x / 2 / 256 = x / 256 / 2 by omega]
      congr 1
      rcases (show x / 2 % 256 = x % 256 / 2 ∨ x / 2 % 256 = 128 + x % 256 / 2 by omega) with z | z
      · rw [z]
      · rw [z, c2]
    rw [e]
    show _ ∧ _ = 256 * T1 n (x / 256) + p1 (x % 256)
    rw [← i2]
    unfold p1
    omega
theorem l2 : ∀ c, c < 256 → (64 + c / 4) &&& 51 = c / 4 &&& 51 ∧ (128 + c / 4) &&& 51 = c / 4 &&& 51 ∧ (192 + c / 4) &&& 51 = c / 4 &&& 51 := by decide +kernel
theorem st2 : ∀ n x, (x &&& mk8 51 n) + (x / 4 &&& mk8 51 n) = T2 n x := by
  intro n
  induction n with
  | zero => intro x; show (x &&& 0) + (x / 4 &&& 0) = 0; rw [Nat.and_zero, Nat.and_zero]
  | succ n ih =>
    intro x
    have hc : x % 256 < 256 := Nat.mod_lt _ (by decide)
    obtain ⟨c1, c2, c3⟩ := l2 _ hc
    have e : x / 4 &&& mk8 51 (n + 1) = 256 * (x / 256 / 4 &&& mk8 51 n) + (x % 256 / 4 &&& 51) := by
      show x / 4 &&& (256 * mk8 51 n + 51) = _
      rw [and_lane _ _ _ (by decide), show x / 4 / 256 = x / 256 / 4 by omega]
      congr 1
      rcases (show x / 4 % 256 = x % 256 / 4 ∨ x / 4 % 256 = 64 + x % 256 / 4 ∨ x / 4 % 256 = 128 + x % 256 / 4 ∨ x / 4 % 256 = 192 + x % 256 / 4 by omega) with z | z | z | z
      · rw [z]
      · rw [z, c1]
      · rw [z, c2]
      · rw [z, c3]
    have e2 : x &&& mk8 51 (n + 1) = 256 * (x / 256 &&& mk8 51 n) + (x % 256 &&& 51) := and_lane _ _ _ (by decide)
    rw [e, e2]
    show _ = 256 * T2 n (x / 256) + p2 (x % 256)
    rw [← ih]
    unfold p2
    omega
def nib : Nat → Nat → Prop
  | 0, x => x = 0
  | n + 1, x => x % 256 ≤ 68 ∧ x % 16 ≤ 4 ∧ nib n (x / 256)
theorem and15 (t k : Nat) : (16 * k + t) % 256 &&& 15 = t &&& 15 := by
  have h1 : (16 * k + t) % 256 &&& 15 = (16 * k + t) % 256 % 2 ^ 4 := Nat.and_two_pow_sub_one_eq_mod _ 4
  have h2 : t &&& 15 = t % 2 ^ 4 := Nat.and_two_pow_sub_one_eq_mod _ 4
  rw [h1, h2, show (2 : Nat) ^ 4 = 16 from rfl]
  omega
theorem st3 : ∀ n x, nib n x → (x + x / 16) &&& mk8 15 n = T3 n x := by
  intro n
  induction n with
  | zero => intro x _; show (x + x / 16) &&& 0 = 0; rw [Nat.and_zero]
  | succ n ih =>
    intro x ⟨h1, h2, h3⟩
    have h4 : x / 256 % 16 ≤ 4 := by
      cases n with
      | zero => have : x / 256 = 0 := h3; omega
      | succ n => exact h3.2.1
    show (x + x / 16) &&& (256 * mk8 15 n + 15) = _
    rw [and_lane _ _ _ (by decide), show (x + x / 16) / 256 = x / 256 + x / 256 / 16 by omega, ih _ h3]
    show _ = 256 * T3 n (x / 256) + p3 (x % 256)
    unfold p3
    congr 1
    have e : (x + x / 16) % 256 = (16 * (x / 256 % 16) + (x % 256 + x % 256 / 16)) % 256 := by omega
    rw [e, and15]
theorem l3 : ∀ c, c < 256 → p1 c < 256 ∧ p2 (p1 c) ≤ 68 ∧ p2 (p1 c) % 16 ≤ 4 ∧ p3 (p2 (p1 c)) = pc8 c ∧ pc8 c ≤ 8 := by decide +kernel
theorem T2_T1 : ∀ n x, nib n (T2 n (T1 n x)) ∧ T3 n (T2 n (T1 n x)) = T4 n x := by
  intro n
  induction n with
  | zero => intro x; exact ⟨rfl, rfl⟩
  | succ n ih =>
    intro x
    have hc : x % 256 < 256 := Nat.mod_lt _ (by decide)
    obtain ⟨c1, c2, c3, c4, c5⟩ := l3 _ hc
    obtain ⟨i1, i2⟩ := ih (x / 256)
    have e1 : T1 (n + 1) x / 256 = T1 n (x / 256) := by
      show (256 * T1 n (x / 256) + p1 (x % 256)) / 256 = _
      omega
    have e2 : T1 (n + 1) x % 256 = p1 (x % 256) := by
      show (256 * T1 n (x / 256) + p1 (x % 256)) % 256 = _
      omega
    have e3 : T2 (n + 1) (T1 (n + 1) x) = 256 * T2 n (T1 n (x / 256)) + p2 (p1 (x % 256)) := by
      show 256 * T2 n (T1 (n + 1) x / 256) + p2 (T1 (n + 1) x % 256) = _
      rw [e1, e2]
    have e4 : T2 (n + 1) (T1 (n + 1) x) / 256 = T2 n (T1 n (x / 256)) := by rw [e3]; omega
    have e5 : T2 (n + 1) (T1 (n + 1) x) % 256 = p2 (p1 (x % 256)) := by rw [e3]; omega
    refine ⟨⟨by rw [e5]; exact c2, ?_, by rw [e4]; exact i1⟩, ?_⟩
    · rw [e3]; omega
    · show 256 * T3 n (T2 (n + 1) (T1 (n + 1) x) / 256) + p3 (T2 (n + 1) (T1 (n + 1) x) % 256) = 256 * T4 n (x / 256) + pc8 (x % 256)
      rw [e4, e5, i2, c4]
theorem T1_le : ∀ n x, x < 256 ^ n → T1 n x ≤ x := fun n x h => by rw [← (st1 n x h).2]; exact Nat.sub_le _ _
theorem pc8_le (c : Nat) : pc8 c ≤ 8 := by
  unfold pc8
  have := sm_le (f := fun p => bN (c.testBit p)) (n := 8) (c := 1) (fun i _ => bN_le _)
  omega
/-- eight lanes -/
theorem T4_8 (x : Nat) : T4 8 x = pc8 (x % 256) + 256 * (pc8 (x / 256 % 256) + 256 * (pc8 (x / 256 / 256 % 256) + 256 * (pc8 (x / 256 / 256 / 256 % 256) + 256 * (pc8 (x / 256 / 256 / 256 / 256 % 256) + 256 * (pc8 (x / 256 / 256 / 256 / 256 / 256 % 256) + 256 * (pc8 (x / 256 / 256 / 256 / 256 / 256 / 256 % 256) + 256 * pc8 (x / 256 / 256 / 256 / 256 / 256 / 256 / 256 % 256))))))) := by
  simp only [T4, Nat.mul_zero, Nat.zero_add, Nat.add_comm]
theorem dv_low {m a y : Nat} (h : a < m) : (a + m * y) / m = y := by
  have hm : 0 < m := by omega
  rw [Nat.add_mul_div_left _ _ hm, Nat.div_eq_of_lt h, Nat.zero_add]
theorem low4 {a b c d X1 X2 X3 X4 x : Nat} (h0 : a ≤ 8) (h1 : b ≤ 8) (h2 : c ≤ 8) (h3 : d ≤ 8) (e0 : x = a + 256 * X1) (e1 : X1 = b + 256 * X2) (e2 : X2 = c + 256 * X3) (e3 : X3 = d + 256 * X4) : ∃ L, L ≤ 134744072 ∧ x = L + 4294967296 * X4 := ⟨a + 256 * b + 65536 * c + 16777216 * d, by omega, by subst e3; subst e2; subst e1; omega⟩
theorem low2 {a b X1 X2 x : Nat} (h0 : a ≤ 8) (h1 : b ≤ 8) (e0 : x = a + 256 * X1) (e1 : X1 = b + 256 * X2) : ∃ L, L ≤ 2056 ∧ x = L + 65536 * X2 := ⟨a + 256 * b, by omega, by subst e1; omega⟩
theorem sum8 {a b c d e f g h x X1 X2 X3 X4 X5 X6 X7 : Nat} (hx : x = a + 256 * X1) (y1 : X1 = b + 256 * X2) (y2 : X2 = c + 256 * X3) (y3 : X3 = d + 256 * X4) (y4 : X4 = e + 256 * X5) (y5 : X5 = f + 256 * X6) (y6 : X6 = g + 256 * X7) (y7 : X7 = h) : ∃ Y, x + X1 + (X2 + X3) + (X4 + X5 + X6 + X7) = (a + b + c + d + e + f + g + h) + 256 * Y := by
  refine ⟨X1 + X2 + X3 + X4 + X5 + X6 + X7, ?_⟩
  rw [Nat.mul_add, Nat.mul_add, Nat.mul_add, Nat.mul_add, Nat.mul_add, Nat.mul_add]
  generalize 256 * X1 = Z1 at *
  generalize 256 * X2 = Z2 at *
  generalize 256 * X3 = Z3 at *
  generalize 256 * X4 = Z4 at *
  generalize 256 * X5 = Z5 at *
  generalize 256 * X6 = Z6 at *
  generalize 256 * X7 = Z7 at *
  omega
theorem bd_step {a X x B : Nat} (h : a ≤ 8) (e : x = a + 256 * X) (hX : X ≤ B) : x ≤ 8 + 256 * B := by omega
theorem fold8 {a b c d e f g h : Nat} (h0 : a ≤ 8) (h1 : b ≤ 8) (h2 : c ≤ 8) (h3 : d ≤ 8) (h4 : e ≤ 8) (h5 : f ≤ 8) (h6 : g ≤ 8) (h7 : h ≤ 8) {x X1 X2 X3 X4 X5 X6 X7 i4 i5 i6 : Nat} (hx : x = a + 256 * X1) (y1 : X1 = b + 256 * X2) (y2 : X2 = c + 256 * X3) (y3 : X3 = d + 256 * X4) (y4 : X4 = e + 256 * X5) (y5 : X5 = f + 256 * X6) (y6 : X6 = g + 256 * X7) (y7 : X7 = h) (e4 : i4 = x + x / 256) (e5 : i5 = i4 + i4 / 65536) (e6 : i6 = i5 + i5 / 4294967296) : i6 < 2 ^ 64 ∧ i6 % 128 = a + b + c + d + e + f + g + h := by
  have d1 : x / 256 = X1 := by rw [hx]; exact dv_low (Nat.lt_of_le_of_lt h0 (by decide))
  rw [d1] at e4
  obtain ⟨A0, a0, u0⟩ := low2 h0 h1 hx y1
  obtain ⟨A1, a1, u1⟩ := low2 h1 h2 y1 y2
  have d2 : i4 / 65536 = X2 + X3 := by
    have e : i4 = (A0 + A1) + 65536 * (X2 + X3) := by
      rw [e4, u0, u1, Nat.mul_add]
      ac_rfl
    rw [e]
    exact dv_low (Nat.lt_of_le_of_lt (Nat.add_le_add a0 a1) (by decide))
  rw [d2, e4] at e5
  obtain ⟨B0, b0, v0⟩ := low4 h0 h1 h2 h3 hx y1 y2 y3
  obtain ⟨B1, b1, v1⟩ := low4 h1 h2 h3 h4 y1 y2 y3 y4
  obtain ⟨B2, b2, v2⟩ := low4 h2 h3 h4 h5 y2 y3 y4 y5
  obtain ⟨B3, b3, v3⟩ := low4 h3 h4 h5 h6 y3 y4 y5 y6
  have d3 : i5 / 4294967296 = X4 + X5 + X6 + X7 := by
    have e : i5 = (B0 + B1 + B2 + B3) + 4294967296 * (X4 + X5 + X6 + X7) := by
      rw [e5, v0, v1, v2, v3, Nat.mul_add, Nat.mul_add, Nat.mul_add]
      ac_rfl
    rw [e]
    exact dv_low (Nat.lt_of_le_of_lt (Nat.add_le_add (Nat.add_le_add (Nat.add_le_add b0 b1) b2) b3) (by decide))
  rw [d3, e5] at e6
  have z7 : X7 ≤ 8 := y7 ▸ h7
  have z6 := bd_step h6 y6 z7
  have z5 := bd_step h5 y5 z6
  have z4 := bd_step h4 y4 z5
  have z3 := bd_step h3 y3 z4
  have z2 := bd_step h2 y2 z3
  have z1 := bd_step h1 y1 z2
  have z0 := bd_step h0 hx z1
  obtain ⟨Y, hY⟩ := sum8 hx y1 y2 y3 y4 y5 y6 y7
  refine ⟨?_, ?_⟩
  · rw [e6]
    exact Nat.lt_of_le_of_lt (Nat.add_le_add (Nat.add_le_add (Nat.add_le_add z0 z1) (Nat.add_le_add z2 z3)) (Nat.add_le_add (Nat.add_le_add (Nat.add_le_add z4 z5) z6) z7)) (by decide)
  · rw [e6, hY]
    clear hY z0 z1 z2 z3 z4 z5 z6 z7 d1 d2 d3 u0 u1 v0 v1 v2 v3 b0 b1 b2 b3 a0 a1 e4 e5 e6 hx y1 y2 y3 y4 y5 y6 y7
    omega
