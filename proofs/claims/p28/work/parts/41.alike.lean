/-! alike, unfold -/
theorem least_cases (P : Nat → Bool) (n : Nat) : (∃ k, k < n ∧ P k = true ∧ ∀ j, j < k → P j = false) ∨ (∀ k, k < n → P k = false) := by
  induction n with
  | zero => exact Or.inr (fun k h => by omega)
  | succ n ih =>
    rcases ih with ⟨k, hk, h1, h2⟩ | h
    · exact Or.inl ⟨k, by omega, h1, h2⟩
    · cases hP : P n
      · refine Or.inr (fun k hk => ?_)
        rcases Nat.lt_or_ge k n with z | z
        · exact h k z
        · rw [show k = n by omega]; exact hP
      · exact Or.inl ⟨n, by omega, hP, h⟩
section ALIKE
variable {d : Nat} {σ : St} {A : Ab} {S : Sn}
theorem ct_rem {K : Int32 → St → Prop} {x m : Nat} (hx : x < 2 ^ 31) (h0 : 0 < m) (hm : m < 2 ^ 31) (k : K (nI (x % m)) σ) : CallI (d + 1) mX5_remainder [.int (nI x), .int (nI m)] σ K := by
  refine cgX5_remainder (br_f ?_ ⟨?_, ?_⟩)
  · rw [show (0 : Int32) = nI 0 from rfl, nI_leI (by omega) (by omega)]; omega
  · intro c
    have := (nI_eq (a := m) (b := 0) (by omega) (by omega)).mp c
    omega
  · rw [irem_nI hx h0 hm]; exact k
theorem irp {m : Nat} (h0 : 0 < m) (hm : m < 2 ^ 31) : ¬ nI m ≤ 0 := by
  rw [show (0 : Int32) = nI 0 from rfl, nI_leI (by omega) (by omega)]; omega
theorem ine {m : Nat} (h0 : 0 < m) (hm : m < 2 ^ 31) : ¬ nI m = 0 := fun c => by
  have := (nI_eq (a := m) (b := 0) (by omega) (by omega)).mp c
  omega
theorem ct_commonDivisor {K : Int32 → St → Prop} {x y : Nat} (hx : x < 2 ^ 31) (hy : y ≤ 50) (k : K (nI (Nat.gcd x y)) σ) : CallI (d + 2) mX5_commonDivisor [.int (nI x), .int (nI y)] σ K := by
  refine cgX5_commonDivisor ?_
  have loop : ∀ n (a b c : Nat), b ≤ n → b + c ≤ 50 → a < 2 ^ 31 → Nat.gcd a b = Nat.gcd x y → Go mX5_commonDivisor (d + 2) 7 [.int (nI x), .int (nI y), .int (nI a), .int (nI b), .int (nI c), .null] [] σ (QI K) := by
    intro n
    induction n with
    | zero =>
      intro a b c hb hc ha hg
      refine sgX5_commonDivisor_7 (br_f (nI_nlt (a := 50) (by omega) (by omega)) (br_t ?_ ?_))
      · rw [show b = 0 by omega]; decide
      · rw [show b = 0 by omega, Nat.gcd_zero_right] at hg
        rw [hg]; exact k
    | succ n ih =>
      intro a b c hb hc ha hg
      refine sgX5_commonDivisor_7 (br_f (nI_nlt (a := 50) (by omega) (by omega)) ?_)
      rcases Nat.eq_zero_or_pos b with z | z
      · refine br_t ?_ ?_
        · rw [z]; decide
        · rw [z, Nat.gcd_zero_right] at hg
          rw [hg]; exact k
      · have hlt := Nat.mod_lt a z
        refine br_f (irp z (by omega)) (ct_rem ha z (by omega) ?_)
        rw [nI1]
        refine ih b (a % b) (c + 1) (by omega) (by omega) (by omega) ?_
        rw [← hg, Nat.gcd_comm a b, Nat.gcd_rec b a, Nat.gcd_comm]
  exact loop y x y 0 (Nat.le_refl _) (by omega) hx rfl
theorem lcm_eq {x y : Nat} (h : 0 < x) : x / Nat.gcd x y * y = Nat.lcm x y := by
  have hg : 0 < Nat.gcd x y := Nat.gcd_pos_of_pos_left _ h
  obtain ⟨c, hc⟩ := Nat.gcd_dvd_left x y
  unfold Nat.lcm
  have h1 : x / Nat.gcd x y = c := by
    conv => lhs; lhs; rw [hc]
    rw [Nat.mul_div_cancel_left _ hg]
  have h2 : x * y / Nat.gcd x y = c * y := by
    conv => lhs; lhs; lhs; rw [hc]
    rw [Nat.mul_assoc, Nat.mul_div_cancel_left _ hg]
  rw [h1, h2]
theorem lcm_le (x y : Nat) : Nat.lcm x y ≤ x * y := by unfold Nat.lcm; exact Nat.div_le_self _ _
theorem lcm_p {x y : Nat} (hx : 0 < x) (hy : 0 < y) : 0 < Nat.lcm x y := Nat.lcm_pos hx hy
theorem ct_commonMultiple {K : Int32 → St → Prop} {x y : Nat} (hx : x < 2 ^ 31) (h0 : 0 < x) (hy : y ≤ 50) (hy0 : 0 < y) (k : K (nI (Nat.lcm x y)) σ) : CallI (d + 3) mX5_commonMultiple [.int (nI x), .int (nI y)] σ K := by
  have hg : 0 < Nat.gcd x y := Nat.gcd_pos_of_pos_left _ h0
  have hgl : Nat.gcd x y ≤ y := Nat.gcd_le_right _ hy0
  refine cgX5_commonMultiple (ct_commonDivisor hx hy (br_f (irp hg (by omega)) ⟨ine hg (by omega), ?_⟩))
  rw [pk_div hx hg (by omega), pk_mul, lcm_eq h0]
  exact k
theorem ct_firstCommon {K : Int32 → St → Prop} {x y : Nat} (h0 : 0 < x) (hy : y ≤ 50) (hy0 : 0 < y) (hxy : x * y < 2 ^ 31) (k : K (nI (Nat.lcm x y)) σ) : CallI (d + 2) mX5_firstCommonMultiple [.int (nI x), .int (nI y)] σ K := by
  have hg : 0 < Nat.gcd x y := Nat.gcd_pos_of_pos_left _ h0
  have hx : x < 2 ^ 31 := Nat.lt_of_le_of_lt (Nat.le_mul_of_pos_right x hy0) hxy
  obtain ⟨c, hc⟩ := Nat.dvd_lcm_left x y
  have hl := lcm_le x y
  have hp := lcm_p h0 hy0
  have hc0 : 0 < c := by
    rcases Nat.eq_zero_or_pos c with z | z
    · rw [z, Nat.mul_zero] at hc; omega
    · exact z
  have hcy : c ≤ y := by
    rw [hc] at hl
    exact Nat.le_of_mul_le_mul_left hl h0
  refine cgX5_firstCommonMultiple ?_
  have loop : ∀ n t, t + n = c → 0 < t → Go mX5_firstCommonMultiple (d + 2) 4 [.int (nI x), .int (nI y), .int (nI (t * x)), .int (nI t)] [] σ (QI K) := by
    intro n
    induction n with
    | zero =>
      intro t ht h0t
      have hk : K (nI (t * x)) σ := by
        rw [show t = c by omega, Nat.mul_comm, ← hc]; exact k
      refine sgX5_firstCommonMultiple_4 ⟨fun _ => hk, fun _ => ct_rem (Nat.lt_of_le_of_lt (Nat.mul_le_mul_right x (show t ≤ y by omega)) (by rw [Nat.mul_comm]; exact hxy)) hy0 (by omega) (br_t ?_ hk)⟩
      have : t * x % y = 0 := by
        rw [show t = c by omega, Nat.mul_comm, ← hc]
        exact Nat.mod_eq_zero_of_dvd (Nat.dvd_lcm_right x y)
      rw [this]
      rfl
    | succ n ih =>
      intro t ht h0t
      have hb : t * x < 2 ^ 31 := Nat.lt_of_le_of_lt (Nat.mul_le_mul_right x (show t ≤ y by omega)) (by rw [Nat.mul_comm]; exact hxy)
      have hne : ¬ t * x % y = 0 := by
        intro z
        have h1 : y ∣ t * x := Nat.dvd_of_mod_eq_zero z
        have h2 : Nat.lcm x y ∣ t * x := Nat.lcm_dvd (Nat.dvd_mul_left x t) h1
        have h3 := Nat.le_of_dvd (Nat.mul_pos h0t h0) h2
        rw [hc, Nat.mul_comm t x] at h3
        have := Nat.le_of_mul_le_mul_left h3 h0
        omega
      have hml := Nat.mod_lt (t * x) hy0
      refine sgX5_firstCommonMultiple_4 (br_f (nI_ge (by omega) (by omega)) (ct_rem hb hy0 (by omega) (br_f (ine (by omega) (by omega)) ?_)))
      rw [nI_add, nI1, show t * x + x = (t + 1) * x by rw [Nat.succ_mul]]
      exact ih (t + 1) (by omega) (by omega)
  have h1 := loop (c - 1) 1 (by omega) (by omega)
  rw [Nat.one_mul] at h1
  exact h1
/-- the spacings as numbers -/
theorem spN (hok : okS S) {j : Nat} (hj : j < S.2.1.length) : ∃ n, S.2.1[j]? = some (nI n) ∧ 10 ≤ n ∧ n ≤ 50 := by
  obtain ⟨s, hs⟩ := get_of hj
  have h := hok.2.2.2.2.1 s (List.mem_of_getElem? hs)
  obtain ⟨n, hn, rfl⟩ := pos_nI (x := s) (by omega)
  rw [nI_toInt hn] at h
  exact ⟨n, hs, by omega, by omega⟩
def Lm (S : Sn) : Nat → Nat
  | 0 => 1
  | j + 1 => Nat.lcm (Lm S j) (ix (S.2.1.getD j 0))
theorem Lm_bd (hok : okS S) : ∀ j, j ≤ S.2.1.length → 0 < Lm S j ∧ Lm S j ≤ 50 ^ j := by
  intro j
  induction j with
  | zero => intro _; show 0 < 1 ∧ 1 ≤ 50 ^ 0; exact ⟨by decide, by decide⟩
  | succ j ih =>
    intro hj
    obtain ⟨i1, i2⟩ := ih (by omega)
    obtain ⟨n, hn, h1, h2⟩ := spN hok (j := j) (by omega)
    have e : ix (S.2.1.getD j 0) = n := by
      rw [List.getD_eq_getElem?_getD, hn]
      exact ix_nI (by omega)
    show 0 < Nat.lcm (Lm S j) _ ∧ Nat.lcm (Lm S j) _ ≤ _
    rw [e]
    refine ⟨lcm_p i1 (by omega), ?_⟩
    rw [Nat.pow_succ]
    exact Nat.le_trans (lcm_le _ _) (Nat.mul_le_mul i2 h2)
theorem Lm_s {j n : Nat} (h : S.2.1[j]? = some (nI n)) (hn : n ≤ 50) : Lm S (j + 1) = Nat.lcm (Lm S j) n := by
  show Nat.lcm (Lm S j) _ = _
  rw [List.getD_eq_getElem?_getD, h]
  have : ix ((some (nI n)).getD 0) = n := ix_nI (by omega)
  rw [this]
theorem Lm_bd2 (hok : okS S) {j : Nat} (hj : j < S.2.1.length) : Lm S j ≤ 125000 := by
  have h := (Lm_bd hok j (by omega)).2
  have hm := hok.2.2.2.1
  have : 50 ^ j ≤ 50 ^ 3 := Nat.pow_le_pow_right (by decide) (by omega)
  have e : (50 : Nat) ^ 3 = 125000 := by decide
  omega
end ALIKE
