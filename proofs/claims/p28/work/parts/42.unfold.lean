/-! unfold -/
/-- the least place of the first spacing's row that looks like the second -/
def ufR (a s o : Nat) : Option Nat → Int32
  | some k => nI (a + k * s)
  | none => -4
section UNFOLD
variable {d : Nat} {σ : St} {A : Ab} {S : Sn}
theorem uf_bd {a s o k : Nat} (ha : a < s) (hk : k < o) : a + k * s < s * o := by
  have h1 : (k + 1) * s ≤ o * s := Nat.mul_le_mul_right s (by omega)
  rw [Nat.succ_mul, Nat.mul_comm o s] at h1
  omega
/-- the class, from a place on by steps: the next place that looks alike, or none -/
theorem ct_try {K : Int32 → St → Prop} {a s b o t x0 : Nat} (hs : 0 < s) (ho : 0 < o) (hso : s * o ≤ 2500) (hs2 : s ≤ 50) (ho2 : o ≤ 50) (ha : a < s) (hb : b < o) (ht : 1 ≤ t) (ht2 : t ≤ 50) (r : Int32)
    (hn : ∀ n, (∀ i, i < n → ¬ ((x0 + i * t) % s = a ∧ (x0 + i * t) % o = b)) → (s * o ≤ x0 + n * t → K (-4) σ) ∧ (x0 + n * t < s * o → (x0 + n * t) % s = a → (x0 + n * t) % o = b → K (nI (x0 + n * t)) σ)) (hx0 : x0 ≤ 50) : CallI (d + 2) mX5_tryDistances [.int (nI a), .int (nI s), .int (nI b), .int (nI o), .int (nI x0), .int (nI t)] σ K := by
  refine cgX5_tryDistances (br_t (nI_le (a := 1) (by omega) (by omega)) ?_)
  have loop : ∀ f n, s * o ≤ f + (x0 + n * t) → x0 + n * t ≤ 2600 → (∀ i, i < n → ¬ ((x0 + i * t) % s = a ∧ (x0 + i * t) % o = b)) → Go mX5_tryDistances (d + 2) 13 [.int (nI a), .int (nI s), .int (nI b), .int (nI o), .int (nI x0), .int (nI t), .int (nI (x0 + n * t))] [] σ (QI K) := by
    intro f
    induction f with
    | zero =>
      intro n hf hx hno
      refine sgX5_tryDistances_13 ?_
      rw [pk_mul]
      exact br_t (nI_le (by omega) (by omega)) ((hn n hno).1 (by omega))
    | succ f ih =>
      intro n hf hx hno
      refine sgX5_tryDistances_13 ?_
      rw [pk_mul]
      rcases Nat.lt_or_ge (x0 + n * t) (s * o) with hlt | hge
      · have hgo : ¬ ((x0 + n * t) % s = a ∧ (x0 + n * t) % o = b) → Go mX5_tryDistances (d + 2) 13 [.int (nI a), .int (nI s), .int (nI b), .int (nI o), .int (nI x0), .int (nI t), .int (nI (x0 + n * t) + nI t)] [] σ (QI K) := by
          intro hno2
          rw [nI_add, show x0 + n * t + t = x0 + (n + 1) * t by rw [Nat.succ_mul]; omega]
          refine ih (n + 1) (by rw [Nat.succ_mul]; omega) (by rw [Nat.succ_mul]; omega) (fun i hi => ?_)
          rcases Nat.lt_or_ge i n with z | z
          · exact hno i z
          · rw [show i = n by omega]; exact hno2
        have h1 := Nat.mod_lt (x0 + n * t) hs
        have h2 := Nat.mod_lt (x0 + n * t) ho
        refine br_f (nI_ge (by omega) (by omega)) (ct_rem (by omega) hs (by omega) (br_c' (fun c => hgo (fun z => c (by rw [z.1]))) (fun c => ct_rem (by omega) ho (by omega) (br_c' (fun c2 => hgo (fun z => c2 (by rw [z.2]))) (fun c2 => ?_)))))
        exact (hn n hno).2 hlt ((nI_eq (by omega) (by omega)).mp c) ((nI_eq (by omega) (by omega)).mp c2)
      · exact br_t (nI_le (by omega) (by omega)) ((hn n hno).1 hge)
  have h0 := loop (s * o) 0 (by omega) (by omega) (fun i hi => by omega)
  rw [Nat.zero_mul, Nat.add_zero] at h0
  exact h0
/-- both ways of the class come to the same -/
theorem ct_try2 {K : Int32 → St → Prop} {a s b o : Nat} {w : Bool} {R : Int32} (hs : 0 < s) (ho : 0 < o) (hs2 : s ≤ 50) (ho2 : o ≤ 50) (ha : a < s) (hb : b < o)
    (hR : (∃ k, k < o ∧ decide ((a + k * s) % o = b) = true ∧ (∀ j, j < k → decide ((a + j * s) % o = b) = false) ∧ R = nI (a + k * s)) ∨ ((∀ k, k < o → decide ((a + k * s) % o = b) = false) ∧ R = -4)) (k : K R σ) : CallI (d + 2) mX5_tryDistances [.int (nI a), .int (nI s), .int (nI b), .int (nI o), .int (nI (if w then a else 0)), .int (nI (if w then s else 1))] σ K := by
  have hso : s * o ≤ 50 * 50 := Nat.mul_le_mul hs2 ho2
  cases w
  · refine ct_try (x0 := 0) (t := 1) hs ho (by omega) hs2 ho2 ha hb (by omega) (by omega) R (fun n hno => ?_) (by omega)
    rw [Nat.mul_one, Nat.zero_add]
    have hno' : ∀ i, i < n → ¬ (i % s = a ∧ i % o = b) := fun i hi => by
      have := hno i hi
      rw [Nat.mul_one, Nat.zero_add] at this
      exact this
    refine ⟨fun hge => ?_, fun hlt h1 h2 => ?_⟩
    · rcases hR with ⟨k0, hk, hp, -, -⟩ | ⟨-, e⟩
      · have hlt := uf_bd (s := s) ha hk
        refine absurd ⟨?_, of_decide_eq_true hp⟩ (hno' (a + k0 * s) (by omega))
        rw [Nat.add_mul_mod_self_right, Nat.mod_eq_of_lt ha]
      · rw [e] at k; exact k
    · have hd := Nat.div_add_mod n s
      rw [h1] at hd
      have hq : n / s < o := Nat.div_lt_of_lt_mul hlt
      have hn : n = a + n / s * s := by rw [Nat.mul_comm (n / s) s]; omega
      rcases hR with ⟨k0, hk, hp, hmin, e⟩ | ⟨hz, -⟩
      · rcases Nat.lt_trichotomy (n / s) k0 with z | z | z
        · have := hmin _ z
          rw [← hn, decide_eq_false_iff_not] at this
          exact absurd h2 this
        · rw [e, ← z, ← hn] at k
          exact k
        · have hlt2 : a + k0 * s < n := by
            have : (k0 + 1) * s ≤ n / s * s := Nat.mul_le_mul_right s (by omega)
            rw [Nat.succ_mul] at this
            omega
          refine absurd ⟨?_, of_decide_eq_true hp⟩ (hno' (a + k0 * s) hlt2)
          rw [Nat.add_mul_mod_self_right, Nat.mod_eq_of_lt ha]
      · have := hz _ hq
        rw [← hn, decide_eq_false_iff_not] at this
        exact absurd h2 this
  · refine ct_try (x0 := a) (t := s) hs ho (by omega) hs2 ho2 ha hb (by omega) (by omega) R (fun n hno => ?_) (by omega)
    refine ⟨fun hge => ?_, fun hlt h1 h2 => ?_⟩
    · rcases hR with ⟨k0, hk, hp, -, -⟩ | ⟨-, e⟩
      · have hlt := uf_bd (s := s) ha hk
        have hkn : k0 < n := by
          rcases Nat.lt_or_ge k0 n with z | z
          · exact z
          · have : n * s ≤ k0 * s := Nat.mul_le_mul_right s z
            omega
        refine absurd ⟨?_, of_decide_eq_true hp⟩ (hno k0 hkn)
        rw [Nat.add_mul_mod_self_right, Nat.mod_eq_of_lt ha]
      · rw [e] at k; exact k
    · have hq : n < o := by
        rcases Nat.lt_or_ge n o with z | z
        · exact z
        · have : o * s ≤ n * s := Nat.mul_le_mul_right s z
          rw [Nat.mul_comm o s] at this
          omega
      rcases hR with ⟨k0, hk, hp, hmin, e⟩ | ⟨hz, -⟩
      · rcases Nat.lt_trichotomy n k0 with z | z | z
        · have := hmin _ z
          rw [decide_eq_false_iff_not] at this
          exact absurd h2 this
        · rw [e, ← z] at k
          exact k
        · refine absurd ⟨?_, of_decide_eq_true hp⟩ (hno k0 z)
          rw [Nat.add_mul_mod_self_right, Nat.mod_eq_of_lt ha]
      · have := hz _ hq
        rw [decide_eq_false_iff_not] at this
        exact absurd h2 this
theorem ufR_ex (a s b o : Nat) : ∃ R, (∃ k, k < o ∧ decide ((a + k * s) % o = b) = true ∧ (∀ j, j < k → decide ((a + j * s) % o = b) = false) ∧ R = nI (a + k * s)) ∨ ((∀ k, k < o → decide ((a + k * s) % o = b) = false) ∧ R = (-4 : Int32)) := by
  rcases least_cases (fun k => decide ((a + k * s) % o = b)) o with ⟨k, h1, h2, h3⟩ | h
  · exact ⟨_, Or.inl ⟨k, h1, h2, h3, rfl⟩⟩
  · exact ⟨_, Or.inr ⟨h, rfl⟩⟩
end UNFOLD
