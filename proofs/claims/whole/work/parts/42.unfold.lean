/-! unfold -/
/-- the least place of the first spacing's row that looks like the second -/
def ufR (a s o : Nat) : Option Nat → Int32
  | some k => nI (a + k * s)
  | none => -4
section UNFOLD
variable {d : Nat} {σ : St} {A : Ab} {S : Sn}
theorem uf_bd {a s o k : Nat} (ha : a < s) (hk : k < o) : a + k * s < s * o := by
  have h1 : (k + 1) * s ≤ o * s := Nat.mul_le_mul_right s (by omega)
  rw [Nat.succ_mul, Nat.mul_comm o s] at h1
  omega
/-- the class, from a place on by steps: the next place that looks alike, or none -/
theorem ct_try {K : Int32 → St → Prop} {a s b o t x0 : Nat} (hs : 0 < s) (ho : 0 < o) (hso : s * o ≤ 2500) (hs2 : s ≤ 50) (ho2 : o ≤ 50) (ha : a < s) (hb : b < o) (ht : 1 ≤ t) (ht2 : t ≤ 50) (r : Int32)
    (hn : ∀ n, (∀ i, i < n → ¬ ((x0 + i * t) % s = a ∧ (x0 + i * t) % o = b)) → (s * o ≤ x0 + n * t → K (-4) σ) ∧ (x0 + n * t < s * o → (x0 + n * t) % s = a → (x0 + n * t) % o = b → K (nI (x0 + n * t)) σ)) (hx0 : x0 ≤ 50) : CallI (d + 2) mX5_tryDistances [.int (nI a), .int (nI s), .int (nI b), .int (nI o), .int (nI x0), .int (nI t)] σ K := by
  refine cgX5_tryDistances (br_t (nI_le (a := 1) (by omega) (by omega)) ?_)
  have loop : ∀ f n, s * o ≤ f + (x0 + n * t) → x0 + n * t ≤ 2600 → (∀ i, i < n → ¬ ((x0 + i * t) % s = a ∧ (x0 + i * t) % o = b)) → Go mX5_tryDistances (d + 2) 13 [.int (nI a), .int (nI s), .int (nI b), .int (nI o), .int (nI x0), .int (nI t), .int (nI (x0 + n * t))] [] σ (QI K) := by
    intro f
    induction f with
    | zero =>
      intro n hf hx hno
      refine sgX5_tryDistances_13 ?_
      rw [pk_mul]
      exact br_t (nI_le (by omega) (by omega)) ((hn n hno).1 (by omega))
    | succ f ih =>
      intro n hf hx hno
      refine sgX5_tryDistances_13 ?_
      rw [pk_mul]
      rcases Nat.lt_or_ge (x0 + n * t) (s * o) with hlt | hge
      · have hgo : ¬ ((x0 + n * t) % s = a ∧ (x0 + n * t) % o = b) → Go mX5_tryDistances (d + 2) 13 [.int (nI a), .int (nI s), .int (nI b), .int (nI o), .int (nI x0), .int (nI t), .int (nI (x0 + n * t) + nI t)] [] σ (QI K) := by
          intro hno2
          rw [nI_add, show x0 + n * t + t = x0 + (n + 1) * t by rw [Nat.succ_mul]; omega]
          refine ih (n + 1) (by rw [Nat.succ_mul]; omega) (by rw [Nat.succ_mul]; omega) (fun i hi => ?_)
          rcases Nat.lt_or_ge i n with z | z
          · exact hno i z
          · rw [show i = n by omega]; exact hno2
        have h1 := Nat.mod_lt (x0 + n * t) hs
        have h2 := Nat.mod_lt (x0 + n * t) ho
        refine br_f (nI_ge (by omega) (by omega)) (ct_rem (by omega) hs (by omega) (br_c' (fun c => hgo (fun z => c (by rw [z.1]))) (fun c => ct_rem (by omega) ho (by omega) (br_c' (fun c2 => hgo (fun z => c2 (by rw [z.2]))) (fun c2 => ?_)))))
        exact (hn n hno).2 hlt ((nI_eq (by omega) (by omega)).mp c) ((nI_eq (by omega) (by omega)).mp c2)
      · exact br_t (nI_le (by omega) (by omega)) ((hn n hno).1 hge)
  have h0 := loop (s * o) 0 (by omega) (by omega) (fun i hi => by omega)
  rw [Nat.zero_mul, Nat.add_zero] at h0
  exact h0
/-- both ways of the class come to the same -/
theorem ct_try2 {K : Int32 → St → Prop} {a s b o : Nat} {w : Bool} {R : Int32} (hs : 0 < s) (ho : 0 < o) (hs2 : s ≤ 50) (ho2 : o ≤ 50) (ha : a < s) (hb : b < o)
    (hR : (∃ k, k < o ∧ decide ((a + k * s) % o = b) = true ∧ (∀ j, j < k → decide ((a + j * s) % o = b) = false) ∧ R = nI (a + k * s)) ∨ ((∀ k, k < o → decide ((a + k * s) % o = b) = false) ∧ R = -4)) (k : K R σ) : CallI (d + 2) mX5_tryDistances [.int (nI a), .int (nI s), .int (nI b), .int (nI o), .int (nI (if w then a else 0)), .int (nI (if w then s else 1))] σ K := by
  have hso : s * o ≤ 50 * 50 := Nat.mul_le_mul hs2 ho2
  cases w
  · refine ct_try (x0 := 0) (t := 1) hs ho (by omega) hs2 ho2 ha hb (by omega) (by omega) R (fun n hno => ?_) (by omega)
    rw [Nat.mul_one, Nat.zero_add]
    have hno' : ∀ i, i < n → ¬ (i % s = a ∧ i % o = b) := fun i hi => by
      have := hno i hi
      rw [Nat.mul_one, Nat.zero_add] at this
      exact this
    refine ⟨fun hge => ?_, fun hlt h1 h2 => ?_⟩
    · rcases hR with ⟨k0, hk, hp, -, -⟩ | ⟨-, e⟩
      · have hlt := uf_bd (s := s) ha hk
        refine absurd ⟨?_, of_decide_eq_true hp⟩ (hno' (a + k0 * s) (by omega))
        rw [Nat.add_mul_mod_self_right, Nat.mod_eq_of_lt ha]
      · rw [e] at k; exact k
    · have hd := Nat.div_add_mod n s
      rw [h1] at hd
      have hq : n / s < o := Nat.div_lt_of_lt_mul hlt
      have hn : n = a + n / s * s := by rw [Nat.mul_comm (n / s) s]; omega
      rcases hR with ⟨k0, hk, hp, hmin, e⟩ | ⟨hz, -⟩
      · rcases Nat.lt_trichotomy (n / s) k0 with z | z | z
        · have := hmin _ z
          rw [← hn, decide_eq_false_iff_not] at this
          exact absurd h2 this
        · rw [e, ← z, ← hn] at k
          exact k
        · have hlt2 : a + k0 * s < n := by
            have : (k0 + 1) * s ≤ n / s * s := Nat.mul_le_mul_right s (by omega)
            rw [Nat.succ_mul] at this
            omega
          refine absurd ⟨?_, of_decide_eq_true hp⟩ (hno' (a + k0 * s) hlt2)
          rw [Nat.add_mul_mod_self_right, Nat.mod_eq_of_lt ha]
      · have := hz _ hq
        rw [← hn, decide_eq_false_iff_not] at this
        exact absurd h2 this
  · refine ct_try (x0 := a) (t := s) hs ho (by omega) hs2 ho2 ha hb (by omega) (by omega) R (fun n hno => ?_) (by omega)
    refine ⟨fun hge => ?_, fun hlt h1 h2 => ?_⟩
    · rcases hR with ⟨k0, hk, hp, -, -⟩ | ⟨-, e⟩
      · have hlt := uf_bd (s := s) ha hk
        have hkn : k0 < n := by
          rcases Nat.lt_or_ge k0 n with z | z
          · exact z
          · have : n * s ≤ k0 * s := Nat.mul_le_mul_right s z
            omega
        refine absurd ⟨?_, of_decide_eq_true hp⟩ (hno k0 hkn)
        rw [Nat.add_mul_mod_self_right, Nat.mod_eq_of_lt ha]
      · rw [e] at k; exact k
    · have hq : n < o := by
        rcases Nat.lt_or_ge n o with z | z
        · exact z
        · have : o * s ≤ n * s := Nat.mul_le_mul_right s z
          rw [Nat.mul_comm o s] at this
          omega
      rcases hR with ⟨k0, hk, hp, hmin, e⟩ | ⟨hz, -⟩
      · rcases Nat.lt_trichotomy n k0 with z | z | z
        · have := hmin _ z
          rw [decide_eq_false_iff_not] at this
          exact absurd h2 this
        · rw [e, ← z] at k
          exact k
        · refine absurd ⟨?_, of_decide_eq_true hp⟩ (hno k0 z)
          rw [Nat.add_mul_mod_self_right, Nat.mod_eq_of_lt ha]
      · have := hz _ hq
        rw [decide_eq_false_iff_not] at this
        exact absurd h2 this
theorem uf_walk {K : Int32 → St → Prop} {a s b o : Nat} {w R : Int32} (hs : 0 < s) (ho : 0 < o) (hs2 : s ≤ 50) (ho2 : o ≤ 50) (ha : a < s) (hb : b < o)
    (hR : (∃ k, k < o ∧ decide ((a + k * s) % o = b) = true ∧ (∀ j, j < k → decide ((a + j * s) % o = b) = false) ∧ R = nI (a + k * s)) ∨ ((∀ k, k < o → decide ((a + k * s) % o = b) = false) ∧ R = -4)) (k : K R σ) : Go mX6_unfold (d + 1) 68 [.ref 64, .int (nI a), .int (nI b), .int w, .int (nI s), .int (nI o), .int 0] [] σ (QI K) := by
  have loop : ∀ k2 i, i + k2 = o → (∀ j, j < i → decide ((a + j * s) % o = b) = false) → Go mX6_unfold (d + 1) 68 [.ref 64, .int (nI a), .int (nI b), .int w, .int (nI s), .int (nI o), .int (nI i)] [] σ (QI K) := by
    intro k2
    induction k2 with
    | zero =>
      intro i hi hno
      refine sgX6_unfold_68 (br_t (nI_le (by omega) (by omega)) ?_)
      rcases hR with ⟨k0, hk, hp, -, -⟩ | ⟨-, e⟩
      · rw [hno k0 (by omega)] at hp; cases hp
      · rw [e] at k; exact k
    | succ k2 ih =>
      intro i hi hno
      have hbd := uf_bd (a := a) (s := s) (o := o) (k := i) ha (by omega)
      have hso : s * o ≤ 50 * 50 := Nat.mul_le_mul hs2 ho2
      have hml := Nat.mod_lt (a + i * s) ho
      refine sgX6_unfold_68 (br_f (nI_ge (by omega) (by omega)) ⟨ine ho (by omega), ?_⟩)
      rw [pk_mul, nI_add, irem_nI (by omega) ho (by omega), nI1]
      refine br_c' (fun c => ih (i + 1) (by omega) (fun j hj => ?_)) (fun c => ?_)
      · rcases Nat.lt_or_ge j i with z | z
        · exact hno j z
        · rw [show j = i by omega]
          exact decide_eq_false (fun z => c (by rw [z]))
      · have h2 := (nI_eq (by omega) (by omega)).mp c
        rcases hR with ⟨k0, hk, hp, hmin, e⟩ | ⟨hz, -⟩
        · rcases Nat.lt_trichotomy i k0 with z | z | z
          · have := hmin _ z
            rw [decide_eq_false_iff_not] at this
            exact absurd h2 this
          · rw [e, ← z] at k
            exact k
          · rw [hno k0 z] at hp; cases hp
        · have := hz i (by omega)
          rw [decide_eq_false_iff_not] at this
          exact absurd h2 this
  exact loop o 0 (by omega) (fun j hj => by omega)
theorem ufR_ex (a s b o : Nat) : ∃ R, (∃ k, k < o ∧ decide ((a + k * s) % o = b) = true ∧ (∀ j, j < k → decide ((a + j * s) % o = b) = false) ∧ R = nI (a + k * s)) ∨ ((∀ k, k < o → decide ((a + k * s) % o = b) = false) ∧ R = (-4 : Int32)) := by
  rcases least_cases (fun k => decide ((a + k * s) % o = b)) o with ⟨k, h1, h2, h3⟩ | h
  · exact ⟨_, Or.inl ⟨k, h1, h2, h3, rfl⟩⟩
  · exact ⟨_, Or.inr ⟨h, rfl⟩⟩
theorem lk_unfold (hA : okA A) (x y w : Int32) : ∃ r, LkC A r mX5_unfold [.ref 0, .int x, .int y, .int w] ∧ LkM A r mX6_unfold [.ref 64, .int x, .int y, .int w] := by
  have hok := hA.1
  have hm1 := hok.2.2.1
  have hm4 := hok.2.2.2.1
  obtain ⟨s, hs, s1, s2⟩ := spN hok (j := 0) (by omega)
  have es : nI s - 1 = nI (s - 1) := pk_sub (b := 1) (by omega)
  have h65 : ∀ σ, mR σ A → sA σ 65 2 = nI s := fun σ h => h.1.2.2.2.2.2 0 _ hs
  -- the second spacing, or 1
  have hsec : ∃ o, 1 ≤ o ∧ o ≤ 50 ∧ (∀ (r : Int32), (∀ (σ : St) (K : Int32 → St → Prop), cR σ A → K r σ → CallI 8 mX5_isWithin [.int x, .int 0, .int (nI (s - 1))] σ (fun r23 s22 => (r23 = 0 → K (-1) s22) ∧ (¬ r23 = 0 → CallI 8 mX5_isWithin [.int y, .int 0, .int (nI (o - 1))] s22 (fun r26 s25 => (r26 = 0 → K (-1) s25) ∧ (¬ r26 = 0 → CallI 8 mX5_isWithin [.int w, .int 0, .int 1] s25 (fun r29 s28 => (¬ r29 = 0 → (¬ w = 0 → CallI 8 mX5_tryDistances [.int x, .int (nI s), .int y, .int (nI o), .int x, .int (nI s)] s28 (fun r33 s32 => K r33 s32)) ∧ (w = 0 → CallI 8 mX5_tryDistances [.int x, .int (nI s), .int y, .int (nI o), .int 0, .int 1] s28 (fun r35 s34 => K r35 s34))) ∧ (r29 = 0 → K (-1) s28))))))) → LkC A r mX5_unfold [.ref 0, .int x, .int y, .int w]) ∧ (∀ (r : Int32), (∀ (σ : St) (K : Int32 → St → Prop), mR σ A → K r σ → CallI 8 mX6_in [.int x, .int 0, .int (nI (s - 1))] σ (fun r12 s11 => (r12 = 0 → K (-1) s11) ∧ (¬ r12 = 0 → CallI 8 mX6_in [.int y, .int 0, .int (nI (o - 1))] s11 (fun r15 s14 => (r15 = 0 → K (-1) s14) ∧ (¬ r15 = 0 → CallI 8 mX6_in [.int w, .int 0, .int 1] s14 (fun r18 s17 => (¬ r18 = 0 → Go mX6_unfold 9 68 [.ref 64, .int x, .int y, .int w, .int (nI s), .int (nI o), .int 0] [] s17 (QI K)) ∧ (r18 = 0 → K (-1) s17))))))) → LkM A r mX6_unfold [.ref 64, .int x, .int y, .int w]) := by
    rcases Nat.lt_or_ge 1 A.1.2.1.length with h2 | h2
    · obtain ⟨o, ho, o1, o2⟩ := spN hok (j := 1) (by omega)
      have eo : nI o - 1 = nI (o - 1) := pk_sub (b := 1) (by omega)
      refine ⟨o, by omega, by omega, fun r hr σ K h k => cgX5_unfold (ct_spacingOf (i := 0) one_sc h.1 hm4 hs (ct_hasTurn (i := 1) one_sc h.1 hm4 h2 (br_f one_ne (ct_spacingOf (i := 1) one_sc h.1 hm4 ho ?_)))), fun r hr σ K h k => cgX6_unfold ?_⟩
      · rw [es, eo]
        exact hr σ K h (k σ (Fr.rf σ) (FrM.rf σ))
      · have h3 : sA σ 65 3 = nI o := h.1.2.2.2.2.2 1 _ ho
        rw [h65 σ h, h3, h.1.2.1, es, eo]
        exact br_f (nI_ge (a := 1) (by omega) (by omega)) (hr σ K h (k σ (FrN.rf σ)))
    · refine ⟨1, by omega, by omega, fun r hr σ K h k => cgX5_unfold (ct_spacingOf (i := 0) one_sc h.1 hm4 hs (ct_hasTurn0 one_sc h.1 (Or.inr (nI_le (b := 1) (by omega) (by omega))) (br_t rfl ?_))), fun r hr σ K h k => cgX6_unfold ?_⟩
      · rw [es]
        exact hr σ K h (k σ (Fr.rf σ) (FrM.rf σ))
      · rw [h65 σ h, h.1.2.1, es]
        exact br_t (nI_le (b := 1) (by omega) (by omega)) (hr σ K h (k σ (FrN.rf σ)))
  obtain ⟨o, o1, o2, hC, hM⟩ := hsec
  rcases wi_cases (n := s - 1) x (by omega) with h1 | ⟨a, ha, rfl, h1⟩
  · exact ⟨-1, hC _ (fun σ K h k => ct_isWithin (by rw [h1]; exact br_t rfl k)), hM _ (fun σ K h k => ct_in (by rw [h1]; exact br_t rfl k))⟩
  rcases wi_cases (n := o - 1) y (by omega) with h2 | ⟨b, hb, rfl, h2⟩
  · exact ⟨-1, hC _ (fun σ K h k => ct_isWithin (by rw [h1]; exact br_f one_ne (ct_isWithin (by rw [h2]; exact br_t rfl k)))), hM _ (fun σ K h k => ct_in (by rw [h1]; exact br_f one_ne (ct_in (by rw [h2]; exact br_t rfl k))))⟩
  rcases wi_cases (n := 1) w (by decide) with h3 | ⟨m, hm, rfl, h3⟩
  · have h3' : decide ((0 : Int32).toInt ≤ w.toInt ∧ w.toInt ≤ (1 : Int32).toInt) = false := h3
    exact ⟨-1, hC _ (fun σ K h k => ct_isWithin (by rw [h1]; exact br_f one_ne (ct_isWithin (by rw [h2]; exact br_f one_ne (ct_isWithin (by rw [h3']; exact brf' rfl k)))))), hM _ (fun σ K h k => ct_in (by rw [h1]; exact br_f one_ne (ct_in (by rw [h2]; exact br_f one_ne (ct_in (by rw [h3']; exact brf' rfl k))))))⟩
  have h3' : decide ((0 : Int32).toInt ≤ (nI m).toInt ∧ (nI m).toInt ≤ (1 : Int32).toInt) = true := h3
  obtain ⟨R, hR⟩ := ufR_ex a s b o
  refine ⟨R, hC _ (fun σ K h k => ct_isWithin ?_), hM _ (fun σ K h k => ct_in ?_)⟩
  · rw [h1]
    refine br_f one_ne (ct_isWithin ?_)
    rw [h2]
    refine br_f one_ne (ct_isWithin ?_)
    rw [h3']
    refine brt' one_ne (br_c' (fun c => ?_) (fun c => ?_))
    · exact ct_try2 (w := true) (by omega) (by omega) s2 o2 (by omega) (by omega) hR k
    · exact ct_try2 (w := false) (by omega) (by omega) s2 o2 (by omega) (by omega) hR k
  · rw [h1]
    refine br_f one_ne (ct_in ?_)
    rw [h2]
    refine br_f one_ne (ct_in ?_)
    rw [h3']
    exact brt' one_ne (uf_walk (by omega) (by omega) s2 o2 (by omega) (by omega) hR k)
end UNFOLD
