/-! the law's low and numbers -/
theorem ct_Llow {d : Nat} {σ : St} {K : Int32 → St → Prop} {x : Int32} {n : Nat} (h0 : 0 < n) (hn : n < 2 ^ 31) (k : ∀ r, r < n → K (nI r) σ) : CallI (d + 1) mL_low [.int x, .int (nI n)] σ K := by
  obtain ⟨j, hj, e⟩ := pk_andE x (m := 2147483647) 31 (by decide)
  refine cgL_low ⟨fun z => ?_, ?_⟩
  · have := (nI_eq (a := n) (b := 0) (by omega) (by omega)).mp z
    omega
  · rw [e, irem_nI hj h0 hn]
    exact k _ (Nat.mod_lt _ h0)
/-- the least from 2501 - k to 2500 that holds, or -4 -/
def fdL (P : Nat → Bool) : Nat → Int32
  | 0 => -4
  | k + 1 => if P (2500 - k) then nI (2500 - k) else fdL P k
theorem fdL_spec (P : Nat → Bool) : ∀ k, k ≤ 2501 → (∃ x, 2501 - k ≤ x ∧ x ≤ 2500 ∧ P x = true ∧ (∀ y, 2501 - k ≤ y → y < x → P y = false) ∧ fdL P k = nI x) ∨ ((∀ y, 2501 - k ≤ y → y ≤ 2500 → P y = false) ∧ fdL P k = -4) := by
  intro k
  induction k with
  | zero => intro _; exact Or.inr ⟨fun y h1 h2 => by omega, rfl⟩
  | succ k ih =>
    intro hk
    have hu : fdL P (k + 1) = if P (2500 - k) then nI (2500 - k) else fdL P k := rfl
    cases hp : P (2500 - k)
    · rw [hp, if_neg (by decide)] at hu
      rw [hu]
      rcases ih (by omega) with ⟨x, h1, h2, h3, h4, h5⟩ | ⟨h1, h2⟩
      · refine Or.inl ⟨x, by omega, h2, h3, fun y a b => ?_, h5⟩
        rcases Nat.lt_or_ge y (2501 - k) with z | z
        · rw [show y = 2500 - k by omega]; exact hp
        · exact h4 y z b
      · refine Or.inr ⟨fun y a b => ?_, h2⟩
        rcases Nat.lt_or_ge y (2501 - k) with z | z
        · rw [show y = 2500 - k by omega]; exact hp
        · exact h1 y z b
    · rw [hp, if_pos rfl] at hu
      rw [hu]
      exact Or.inl ⟨2500 - k, by omega, by omega, hp, fun y a b => by omega, rfl⟩
/-- as the class has it -/
theorem fdL_R {a s b o : Nat} (hs : 0 < s) (ho : 0 < o) (hs2 : s ≤ 50) (ho2 : o ≤ 50) (ha : a < s) (hb : b < o) : (∃ k, k < o ∧ decide ((a + k * s) % o = b) = true ∧ (∀ j, j < k → decide ((a + j * s) % o = b) = false) ∧ fdL (fun x => decide (x % s = a) && decide (x % o = b)) 2501 = nI (a + k * s)) ∨ ((∀ k, k < o → decide ((a + k * s) % o = b) = false) ∧ fdL (fun x => decide (x % s = a) && decide (x % o = b)) 2501 = -4) := by
  have hso : s * o ≤ 50 * 50 := Nat.mul_le_mul hs2 ho2
  have hak : ∀ k, (a + k * s) % s = a := fun k => by rw [Nat.add_mul_mod_self_right, Nat.mod_eq_of_lt ha]
  rcases fdL_spec (fun x => decide (x % s = a) && decide (x % o = b)) 2501 (Nat.le_refl _) with ⟨x, h1, h2, h3, h4, h5⟩ | ⟨h1, h2⟩
  · simp only [Bool.and_eq_true, decide_eq_true_eq] at h3
    have hd := Nat.div_add_mod x s
    rw [h3.1] at hd
    have hx : x = a + x / s * s := by rw [Nat.mul_comm (x / s) s]; omega
    have hq : x / s < o := by
      rcases Nat.lt_or_ge (x / s) o with z | z
      · exact z
      · have h6 : s * o ≤ x := by
          have := Nat.mul_le_mul_left s z
          omega
        have hp : 0 < s * o := Nat.mul_pos hs ho
        have e1 : (x - s * o) % s = x % s := by
          have : x = (x - s * o) + s * o := by omega
          conv => rhs; rw [this]
          rw [Nat.add_mul_mod_self_left]
        have e2 : (x - s * o) % o = x % o := by
          have : x = (x - s * o) + s * o := by omega
          conv => rhs; rw [this]
          rw [Nat.add_mul_mod_self_right]
        have := h4 (x - s * o) (by omega) (by omega)
        rw [e1, e2, h3.1, h3.2] at this
        simp at this
    refine Or.inl ⟨x / s, hq, decide_eq_true (by rw [← hx]; exact h3.2), fun j hj => ?_, by rw [h5, ← hx]⟩
    have hlt : a + j * s < x := by
      have : (j + 1) * s ≤ x / s * s := Nat.mul_le_mul_right s (by omega)
      rw [Nat.succ_mul] at this
      omega
    have := h4 (a + j * s) (by omega) hlt
    rw [hak, decide_eq_true rfl, Bool.true_and] at this
    exact this
  · refine Or.inr ⟨fun k hk => ?_, h2⟩
    have := uf_bd (s := s) ha hk
    have := h1 (a + k * s) (by omega) (by omega)
    rw [hak, decide_eq_true rfl, Bool.true_and] at this
    exact this
section LNU
variable {σ : St} {A : Ab}
theorem sp2_bd {S : Sn} (hok : okS S) : 0 < sp2 S ∧ sp2 S ≤ 50 := by
  unfold sp2
  split
  · next c =>
    obtain ⟨o, ho, o1, o2⟩ := spN hok (j := 1) c
    rw [List.getD_eq_getElem?_getD, ho]
    have : ix ((some (nI o)).getD 0) = o := ix_nI (by omega)
    omega
  · omega
theorem sp2_row {S : Sn} (hok : okS S) (c : 1 < S.2.1.length) : S.2.1[1]? = some (nI (sp2 S)) := by
  obtain ⟨o, ho, o1, o2⟩ := spN hok (j := 1) c
  have e : sp2 S = o := by
    unfold sp2
    rw [if_pos c, List.getD_eq_getElem?_getD, ho]
    exact ix_nI (by omega)
  rw [e]
  exact ho
theorem ct_Lnumbers {K : Int32 → St → Prop} {x : Int32} (hA : okA A) (hs : lS σ A) (k : ∀ σ', lS σ' A → FrM σ σ' → K 1 σ') : CallI 10 mL_numbers [.ref 0, .ref 66, .int x] σ K := by
  have hok := hA.1
  have hm1 := hok.2.2.1
  have hm4 := hok.2.2.2.1
  have hE2 : (enS A.1).2.1.length = A.1.2.1.length := rfl
  obtain ⟨s, hs0, s1, s2⟩ := spN hok (j := 0) (by omega)
  obtain ⟨o1, o2⟩ := sp2_bd hok
  have r0 : sA σ 66 0 = nI s := hs.2.2.2.2.2.2 0 _ hs0
  have r7 : sA σ 66 7 = nI A.1.2.1.length := hs.2.2.2.1
  refine cgL_numbers ?_
  -- places by trying
  have down : ∀ a b, a < s → b < sp2 A.1 → ∀ k2 q, q + k2 = 2501 → Go mL_numbers 10 82 [.ref 0, .ref 66, .int x, .int (nI (Lm A.1 A.1.2.1.length)), .int (nI a), .int (nI b), .int (fdL (fun x => decide (x % s = a) && decide (x % sp2 A.1 = b)) q), .int (nI k2 - 1)] [] σ (QI K) := by
    intro a b ha hb k2
    induction k2 with
    | zero =>
      intro q hq
      refine sgL_numbers_82 (br_t (by decide) ?_)
      have hR := fdL_R (by omega) o1 s2 o2 ha hb
      rw [show q = 2501 by omega]
      refine hs.step (lc_alike hA (m := 0) (by omega)) (fun s3 hs3 f3 => brf' rfl ?_)
      refine hs3.step (lc_alike hA (m := 1) (by omega)) (fun s4 hs4 f4 => brf' rfl ?_)
      refine hs4.step (lc_unfold hA hs0 s1 s2 ha hb (m := 0) (by omega) hR) (fun s5 hs5 f5 => brf' rfl ?_)
      refine hs5.step (lc_unfold hA hs0 s1 s2 ha hb (m := 1) (by omega) hR) (fun s6 hs6 f6 => brf' rfl ?_)
      rw [show sA s6 66 0 = nI s from hs6.2.2.2.2.2.2 0 _ hs0]
      exact hs6.step (lc_unfoldx hA hs0 s1 s2) (fun s7 hs7 f7 => brf' rfl (k s7 hs7 ((((f3.tr f4).tr f5).tr f6).tr f7)))
    | succ k2 ih =>
      intro q hq
      have hk := ih (q + 1) (by omega)
      have hu : fdL (fun x => decide (x % s = a) && decide (x % sp2 A.1 = b)) (q + 1) = if (decide (k2 % s = a) && decide (k2 % sp2 A.1 = b)) = true then nI k2 else fdL (fun x => decide (x % s = a) && decide (x % sp2 A.1 = b)) q := by
        have h1 : fdL (fun x => decide (x % s = a) && decide (x % sp2 A.1 = b)) (q + 1) = if (decide ((2500 - q) % s = a) && decide ((2500 - q) % sp2 A.1 = b)) = true then nI (2500 - q) else fdL (fun x => decide (x % s = a) && decide (x % sp2 A.1 = b)) q := rfl
        rw [h1, show 2500 - q = k2 by omega]
      rw [hu] at hk
      have ek : nI (k2 + 1) - 1 = nI k2 := nI_pred k2
      rw [ek]
      have em : nI k2 + (-1) = nI k2 - 1 := by rw [Int32.sub_eq_add_neg]
      have h1 := Nat.mod_lt k2 (show 0 < s by omega)
      have h2 := Nat.mod_lt k2 o1
      refine sgL_numbers_82 (br_f (nI_pos (by omega)) ?_)
      rw [r0, r7, irem_nI (show k2 < 2 ^ 31 by omega) (show 0 < s by omega) (by omega), em]
      refine ⟨ine (by omega) (by omega), br_c' (fun c => ?_) (fun c => ?_)⟩
      · have c' : ¬ k2 % s = a := fun z => c (by rw [z])
        rw [decide_eq_false c', Bool.false_and, if_neg (by decide)] at hk
        exact hk
      · have c' : k2 % s = a := (nI_eq (by omega) (by omega)).mp c
        rw [decide_eq_true c', Bool.true_and] at hk
        refine br_c (fun c2 => ?_) (fun c2 => ?_)
        · have c2' : A.1.2.1.length < 2 := by
            rw [Int32.lt_iff_toInt_lt, nI_toInt (by omega), show (2 : Int32).toInt = 2 from rfl] at c2
            omega
          have e1 : sp2 A.1 = 1 := by unfold sp2; rw [if_neg (by omega)]
          rw [e1] at hk hb
          rw [if_pos (decide_eq_true (by rw [Nat.mod_one]; omega))] at hk
          exact hk
        · have c2' : 1 < A.1.2.1.length := by
            rw [Int32.lt_iff_toInt_lt, nI_toInt (by omega), show (2 : Int32).toInt = 2 from rfl] at c2
            omega
          have r1 : sA σ 66 1 = nI (sp2 A.1) := hs.2.2.2.2.2.2 1 _ (sp2_row hok c2')
          rw [r1, irem_nI (show k2 < 2 ^ 31 by omega) o1 (by omega)]
          refine ⟨ine (by omega) (by omega), br_c' (fun c3 => ?_) (fun c3 => ?_)⟩
          · have c3' : ¬ k2 % sp2 A.1 = b := fun z => c3 (by rw [z])
            rw [if_neg (by rw [decide_eq_false c3']; decide)] at hk
            exact hk
          · have c3' : k2 % sp2 A.1 = b := (nI_eq (by omega) (by omega)).mp c3
            rw [if_pos (decide_eq_true c3')] at hk
            exact hk
  have mult : ∀ k2 j, j + k2 = A.1.2.1.length → Go mL_numbers 10 5 [.ref 0, .ref 66, .int x, .int (nI (Lm A.1 j)), .int (nI j), .null, .null, .null] [] σ (QI K) := by
    intro k2
    induction k2 with
    | zero =>
      intro j hj
      refine sgL_numbers_5 ?_
      rw [r7, r0, show j = A.1.2.1.length by omega]
      refine br_t (nI_le (by omega) (by omega)) (ct_Llow (by omega) (by omega) (fun a ha => br_c (fun c => ?_) (fun c => ?_)))
      · have c2' : ¬ 1 < A.1.2.1.length := by
          rw [r7, show (1 : Int32) = nI 1 from rfl, nI_leI (by omega) (by omega)] at c
          omega
        have e1 : sp2 A.1 = 1 := by unfold sp2; rw [if_neg c2']
        exact down a 0 ha (by omega) 2501 0 rfl
      · have c2' : 1 < A.1.2.1.length := by
          rw [r7, show (1 : Int32) = nI 1 from rfl, nI_leI (by omega) (by omega)] at c
          omega
        have r1 : sA σ 66 1 = nI (sp2 A.1) := hs.2.2.2.2.2.2 1 _ (sp2_row hok c2')
        rw [r1]
        exact ct_Llow o1 (by omega) (fun b hb => down a b ha hb 2501 0 rfl)
    | succ k2 ih =>
      intro j hj
      obtain ⟨y, hy, y1, y2⟩ := spN hok (j := j) (by omega)
      have hk := ih (j + 1) (by omega)
      have hb := Lm_bd2 hok (j := j) (by omega)
      have hp := (Lm_bd hok j (by omega)).1
      rw [Lm_s hy y2] at hk
      have rj : sA σ 66 j = nI y := hs.2.2.2.2.2.2 j _ hy
      generalize Lm A.1 j = M at hk hb hp ⊢
      have hxy : M * y ≤ 125000 * 50 := Nat.mul_le_mul hb y2
      obtain ⟨c, hc⟩ := Nat.dvd_lcm_left M y
      have hl := lcm_le M y
      have hlp := lcm_p hp (show 0 < y by omega)
      have hc0 : 0 < c := by
        rcases Nat.eq_zero_or_pos c with z | z
        · rw [z, Nat.mul_zero] at hc; omega
        · exact z
      have hcy : c ≤ y := by
        rw [hc] at hl
        exact Nat.le_of_mul_le_mul_left hl hp
      have loop : ∀ n t, t + n = c → 0 < t → Go mL_numbers 10 17 [.ref 0, .ref 66, .int x, .int (nI (t * M)), .int (nI j), .int (nI M), .null, .null] [] σ (QI K) := by
        intro n
        induction n with
        | zero =>
          intro t ht h0t
          have hbt : t * M < 2 ^ 31 := by
            have := Nat.mul_le_mul_right M (show t ≤ y by omega)
            rw [Nat.mul_comm y M] at this
            omega
          refine sgL_numbers_17 ?_
          rw [ix_nI (show j < 2 ^ 31 by omega), rj, irem_nI hbt (show 0 < y by omega) (by omega), nI1]
          have h0 : t * M % y = 0 := by
            rw [show t = c by omega, Nat.mul_comm, ← hc]
            exact Nat.mod_eq_zero_of_dvd (Nat.dvd_lcm_right M y)
          rw [h0]
          refine ⟨vp_in_nI (by omega) (by omega), ine (by omega) (by omega), br_t rfl ?_⟩
          rw [show t * M = Nat.lcm M y by rw [show t = c by omega, Nat.mul_comm, ← hc]]
          exact hk
        | succ n ih2 =>
          intro t ht h0t
          have hbt : t * M < 2 ^ 31 := by
            have := Nat.mul_le_mul_right M (show t ≤ y by omega)
            rw [Nat.mul_comm y M] at this
            omega
          have hne : ¬ t * M % y = 0 := by
            intro z
            have h1 : y ∣ t * M := Nat.dvd_of_mod_eq_zero z
            have h2 : Nat.lcm M y ∣ t * M := Nat.lcm_dvd (Nat.dvd_mul_left M t) h1
            have h3 := Nat.le_of_dvd (Nat.mul_pos h0t hp) h2
            rw [hc, Nat.mul_comm t M] at h3
            have := Nat.le_of_mul_le_mul_left h3 hp
            omega
          have hml := Nat.mod_lt (t * M) (show 0 < y by omega)
          refine sgL_numbers_17 ?_
          rw [ix_nI (show j < 2 ^ 31 by omega), rj, irem_nI hbt (show 0 < y by omega) (by omega)]
          refine ⟨vp_in_nI (by omega) (by omega), ine (by omega) (by omega), br_f (ine (by omega) (by omega)) ?_⟩
          rw [nI_add, show t * M + M = (t + 1) * M by rw [Nat.succ_mul]]
          exact ih2 (t + 1) (by omega) (by omega)
      refine sgL_numbers_5 ?_
      rw [r7]
      refine br_f (nI_ge (by omega) (by omega)) ?_
      have h1 := loop (c - 1) 1 (by omega) (by omega)
      rw [Nat.one_mul] at h1
      exact h1
  exact mult A.1.2.1.length 0 (by omega)
end LNU
