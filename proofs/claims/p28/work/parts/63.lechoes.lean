/-! the law's echoes -/
def eN (E : En) (j : Nat) : Nat := (List.range 550).countP (hdP E j)
theorem eN_le (E : En) (j : Nat) : eN E j ≤ 550 := by
  unfold eN
  have := List.countP_le_length (p := hdP E j) (l := List.range 550)
  rw [List.length_range] at this
  exact this
theorem echN_all {E : En} (hE : okE E) : sm (echN E) 2200 = sm (eN E) E.2.1.length := by
  have hm := hE.2.2.1
  rw [show (2200 : Nat) = 4 * 550 from rfl, sm_split]
  have hz : ∀ j, E.2.1.length ≤ j → j < 4 → sm (fun k => echN E (j * 550 + k)) 550 = 0 := by
    intro j h1 h2
    rw [sm_congr (g := fun _ => 0) (fun k hk => ?_), sm_zero]
    unfold echN
    rw [show (j * 550 + k) / 550 = j by omega, decide_eq_false (by omega)]
    rfl
  rw [sm_tail hm hz]
  apply sm_congr
  intro j hj
  unfold eN
  rw [countP_sm]
  apply sm_congr
  intro k hk
  unfold echN hdP
  rw [show (j * 550 + k) / 550 = j by omega, show (j * 550 + k) % 11 = k % 11 by omega, show (j * 550 + k) / 11 % 50 = k / 11 by omega, decide_eq_true hj, Bool.true_and]
theorem pl_lts {n : Nat} {x v : Int32} {j : Nat} (h0 : 0 < n) (hn : n ≤ 50) : ∃ p, p < n ∧ pl (nI n) x v j = nI p := by
  unfold pl
  split
  next hc =>
    obtain ⟨m, hm, e⟩ := pos_nI (x := x + v * nI j) (by rw [Int32.lt_iff_toInt_lt, k0] at hc; omega)
    rw [e]
    exact ⟨m % n, Nat.mod_lt _ h0, irem_nI hm h0 (by omega)⟩
  · exact ⟨0, h0, rfl⟩
theorem hbE_far {E : En} {j n p : Nat} {v : Int32} (hs : spE E j = nI n) (h0 : 0 < n) (hn : n ≤ 50) (h1 : n ≤ p) (h2 : p < 64) : hbE E j v (nI p) = false := by
  unfold hbE hb
  rw [List.any_eq_false]
  intro b _ z
  simp only [Bool.and_eq_true, decide_eq_true_eq] at z
  obtain ⟨p0, hp0, e⟩ := pl_lts (x := b.1) (v := b.2.2.1) (j := j) h0 hn
  have h3 := z.1.2
  rw [hs, e] at h3
  have := (nI_eq (a := p0) (b := p) (by omega) (by omega)).mp h3
  omega
theorem eN_sp {E : En} {j n : Nat} (hs : spE E j = nI n) (h0 : 0 < n) (hn : n ≤ 50) : (List.range (11 * n)).countP (hdP E j) = eN E j := by
  unfold eN
  rw [countP_sm, countP_sm]
  refine (sm_tail (by omega) (fun k h1 h2 => ?_)).symm
  unfold hdP
  rw [hbE_far hs h0 hn (p := k / 11) (by omega) (by omega)]
  rfl
section LEC
variable {σ : St} {A : Ab} {E : En}
theorem hrd_pos' {j : Nat} {v p : Int32} (hE : okE E) : (hrd E j v p false ≤ 0 ↔ hbE E j v p = false) := by
  by_cases hp : p < E.2.2.1
  · refine ⟨fun _ => ?_, fun _ => ?_⟩
    · unfold hbE hb
      rw [List.any_eq_false]
      intro b _ z
      rw [decide_eq_true hp] at z
      simp at z
    · unfold hrd
      rw [if_pos hp]
      decide
  · exact hrd_pos hE hp
theorem nlt_of_le {a b : Int32} (h : b ≤ a) : ¬ a < b := fun z => by
  rw [Int32.le_iff_toInt_le] at h
  rw [Int32.lt_iff_toInt_lt] at z
  omega
theorem lt_of_nle {a b : Int32} (h : ¬ b ≤ a) : a < b := by
  rw [Int32.le_iff_toInt_le] at h
  rw [Int32.lt_iff_toInt_lt]
  omega
theorem ct_Lechoes {K : Int32 → St → Prop} (hA : okA A) (hs : lS σ A) (k : ∀ σ', lS σ' A → FrM σ σ' → K 1 σ') : CallI 10 mL_echoes [.ref 0, .ref 65, .ref 66] σ K := by
  have hE := okE_S hA.1
  have h21 := hE.1
  have hm := hE.2.2.1
  have hE2 : (enS A.1).2.1.length = A.1.2.1.length := rfl
  generalize hEE : enS A.1 = E at hE h21 hm hE2
  have hj4 : ∀ j, j < E.2.1.length → j < A.1.2.1.length := fun j h => by omega
  refine cgL_echoes ?_
  -- what is too faint, and the end
  have ends : ∀ k2 i, i + k2 = E.1.length → ∀ s, lS s A → FrM σ s → Go mL_echoes 10 263 [.ref 0, .ref 65, .ref 66, .int (nI (sm (eN E) E.2.1.length)), .int (nI (sm (fun j => E.1.countP (ltJ E j)) E.2.1.length)), .int (nI ((E.1.take i).countP (fun b => decide (b.2.1 < E.2.2.2)))), .int (nI i), .null, .null, .null, .null] [] s (QI K) := by
    intro k2
    induction k2 with
    | zero =>
      intro i hi s hs f
      have hl := hs.2.2
      rw [hEE] at hl
      refine sgL_echoes_263 ?_
      rw [hl.1.1]
      refine br_t (nI_le (by omega) (by omega)) ?_
      rw [List.take_of_length_le (by omega)]
      refine hs.step (lc_ct8 hA) (fun s1 hs1 f1 => brf' (by rw [hEE, echN_all hE]) ?_)
      refine hs1.step (lc_ct9 hA) (fun s2 hs2 f2 => brf' (by rw [hEE]) ?_)
      refine hs2.step (lc_ct10 hA) (fun s3 hs3 f3 => brf' (by rw [hEE]) ?_)
      have hl3 := hs3.2.2
      rw [hEE] at hl3
      rw [hl3.2.1]
      have ff := ((f.tr f1).tr f2).tr f3
      refine br_c (fun _ => k s3 hs3 ff) (fun c => ?_)
      have c4 : ¬ E.2.1.length = 4 := fun z => c (by rw [z]; rfl)
      rw [show (4 : Int32) + nI E.2.1.length = nI (4 + E.2.1.length) from nI_add 4 _, hE2]
      exact hs3.step (lc_ct4x hA (by omega)) (fun s4 hs4 f4 => brf' rfl (k s4 hs4 (ff.tr f4)))
    | succ k2 ih =>
      intro i hi s hs f
      have hl := hs.2.2
      rw [hEE] at hl
      obtain ⟨b, hb⟩ := get_of (l := E.1) (i := i) (by omega)
      have hk := ih (i + 1) (by omega) s hs f
      rw [take_s hb, List.countP_append] at hk
      have hb' : (enS A.1).1[i]? = some b := by rw [hEE]; exact hb
      refine sgL_echoes_263 ?_
      rw [hl.1.1, lb1 hA hs hb', hl.2.2.2.1, nI1 i]
      refine br_f (nI_ge (by omega) (by omega)) ⟨v3i _ 1 (by omega), br_c (fun c => ?_) (fun c => ?_)⟩
      · rw [Int32.add_zero]
        have : [b].countP (fun b => decide (b.2.1 < E.2.2.2)) = 0 := by simp [nlt_of_le c]
        rw [this, Nat.add_zero] at hk
        exact hk
      · rw [nI1]
        have : [b].countP (fun b => decide (b.2.1 < E.2.2.2)) = 1 := by simp [lt_of_nle c]
        rw [this] at hk
        exact hk
  have turns : ∀ k2 j, j + k2 = E.2.1.length → ∀ s, lS s A → FrM σ s → Go mL_echoes 10 11 [.ref 0, .ref 65, .ref 66, .int (nI (sm (eN E) j)), .int (nI (sm (fun j => E.1.countP (ltJ E j)) j)), .int 0, .int (nI j), .null, .null, .null, .null] [] s (QI K) := by
    intro k2
    induction k2 with
    | zero =>
      intro j hj s hs f
      have hl := hs.2.2
      rw [hEE] at hl
      refine sgL_echoes_11 ?_
      rw [hl.2.1]
      refine br_t (nI_le (by omega) (by omega)) ?_
      rw [show j = E.2.1.length by omega]
      exact ends E.1.length 0 (by omega) s hs f
    | succ k2 ih =>
      intro j hj s hs f
      have hjl : j < E.2.1.length := by omega
      have hl := hs.2.2
      rw [hEE] at hl
      obtain ⟨sj, hsj⟩ := get_of hjl
      obtain ⟨n, hn31, en⟩ := pos_nI (x := sj) (by have := hE.2.2.2.1 sj (List.mem_of_getElem? hsj); omega)
      have hsp := hE.2.2.2.1 sj (List.mem_of_getElem? hsj)
      rw [en, nI_toInt hn31] at hsp
      have hspE : spE E j = nI n := by rw [spE_get hsj, en]
      have hsjA : A.1.2.1[j]? = some (nI n) := by
        have : (enS A.1).2.1[j]? = some sj := by rw [hEE]; exact hsj
        rw [← en]; exact this
      have hrow : ∀ s, lS s A → sA s 66 j = nI n := fun s hs => by
        have hl := hs.2.2
        rw [hEE] at hl
        rw [← en]
        exact hl.2.2.2.2 j sj hsj
      -- what is lost in this turn
      have losts : ∀ k3 i, i + k3 = E.1.length → ∀ s, lS s A → FrM σ s → Go mL_echoes 10 158 [.ref 0, .ref 65, .ref 66, .int (nI (sm (eN E) (j + 1))), .int (nI (sm (fun j => E.1.countP (ltJ E j)) j + (E.1.take i).countP (ltJ E j))), .int 0, .int (nI j), .int (nI (eN E j)), .int (nI i), .null, .null] [] s (QI K) := by
        intro k3
        induction k3 with
        | zero =>
          intro i hi s hs f
          have hl := hs.2.2
          rw [hEE] at hl
          refine sgL_echoes_158 ?_
          rw [hl.1.1]
          refine br_t (nI_le (by omega) (by omega)) ?_
          refine hs.step (lc_ecx hA (hj4 j hjl) (by have := eN_le E j; omega) (by rw [hEE]; exact filter_none (Nat.le_refl _))) (fun s1 hs1 f1 => brf' rfl ?_)
          rw [show (4 : Int32) + nI j = nI (4 + j) from nI_add 4 j, ix_nI (show j < 2 ^ 31 by omega)]
          refine hs1.step (lc_ct4 hA hsjA) (fun s2 hs2 f2 => ⟨vp_in_nI (by omega) (by omega), br_t (hrow s2 hs2).symm ?_⟩)
          have hk := ih (j + 1) (by omega) s2 hs2 ((f.tr f1).tr f2)
          rw [nI1]
          rw [List.take_of_length_le (by omega)]
          exact hk
        | succ k3 ih3 =>
          intro i hi s hs f
          have hl := hs.2.2
          rw [hEE] at hl
          obtain ⟨b, hb⟩ := get_of (l := E.1) (i := i) (by omega)
          have hb' : (enS A.1).1[i]? = some b := by rw [hEE]; exact hb
          have hk := ih3 (i + 1) (by omega) s hs f
          rw [take_s hb, List.countP_append, ← Nat.add_assoc] at hk
          refine sgL_echoes_158 ?_
          rw [hl.1.1, lb1 hA hs hb', lb0 hA hs hb', lb2 hA hs hb', hl.2.2.2.1, nI1 i]
          refine br_f (nI_ge (by omega) (by omega)) ⟨v3i _ 1 (by omega), br_c (fun c => ?_) (fun c => ⟨v30 _ (by omega), v3i _ 2 (by omega), ct_Lplace hE hl.2 hjl ?_⟩)⟩
          · rw [Int32.add_zero]
            have : [b].countP (ltJ E j) = 0 := by simp [ltJ, c]
            rw [this, Nat.add_zero] at hk
            exact hk
          · rw [hl.2.2.1]
            refine br_c (fun c2 => ?_) (fun c2 => ?_)
            · rw [Int32.add_zero]
              have : [b].countP (ltJ E j) = 0 := by simp [ltJ, nlt_of_le c2]
              rw [this, Nat.add_zero] at hk
              exact hk
            · rw [nI1]
              have : [b].countP (ltJ E j) = 1 := by simp [ltJ, c, lt_of_nle c2]
              rw [this] at hk
              exact hk
      have places : ∀ k3 p, p + k3 = n → ∀ s, lS s A → FrM σ s → Go mL_echoes 10 26 [.ref 0, .ref 65, .ref 66, .int (nI (sm (eN E) j)), .int (nI (sm (fun j => E.1.countP (ltJ E j)) j)), .int 0, .int (nI j), .int (nI ((List.range (11 * p)).countP (hdP E j))), .int (nI p), .null, .null] [] s (QI K) := by
        intro k3
        induction k3 with
        | zero =>
          intro p hp s hs f
          refine sgL_echoes_26 ?_
          rw [ix_nI (show j < 2 ^ 31 by omega), hrow s hs]
          refine ⟨vp_in_nI (by omega) (by omega), br_t (nI_le (by omega) (by omega)) ?_⟩
          rw [show p = n by omega, eN_sp hspE (by omega) (by omega), nI_add]
          exact losts E.1.length 0 (by omega) s hs f
        | succ k3 ih3 =>
          intro p hp s hs f
          refine sgL_echoes_26 ?_
          rw [ix_nI (show j < 2 ^ 31 by omega), hrow s hs]
          refine ⟨vp_in_nI (by omega) (by omega), br_f (nI_ge (by omega) (by omega)) ?_⟩
          have inner : ∀ k4 q, q + k4 = 11 → ∀ s, lS s A → FrM σ s → Go mL_echoes 10 39 [.ref 0, .ref 65, .ref 66, .int (nI (sm (eN E) j)), .int (nI (sm (fun j => E.1.countP (ltJ E j)) j)), .int 0, .int (nI j), .int (nI ((List.range (11 * p + q)).countP (hdP E j))), .int (nI p), .int (pv q), .null] [] s (QI K) := by
            intro k4
            induction k4 with
            | zero =>
              intro q hq s hs f
              refine sgL_echoes_39 (br_t ?_ ?_)
              · rw [Int32.le_iff_toInt_le, pv_toInt (by omega), show (6 : Int32).toInt = 6 from rfl]; omega
              · rw [nI1, show 11 * p + q = 11 * (p + 1) by omega]
                exact ih3 (p + 1) (by omega) s hs f
            | succ k4 ih4 =>
              intro q hq s hs f
              have hk := ih4 (q + 1) (by omega)
              rw [show 11 * p + (q + 1) = 11 * p + q + 1 by omega, countP_rs] at hk
              have hhd : hdP E j (11 * p + q) = hbE E j (pv q) (nI p) := by
                unfold hdP
                rw [show (11 * p + q) % 11 = q by omega, show (11 * p + q) / 11 = p by omega]
              have hl := hs.2.2
              rw [hEE] at hl
              refine sgL_echoes_39 (br_f ?_ (ct_Lheard (src := false) hE hl hjl (br_c (fun c => ?_) (fun c => ?_))))
              · rw [Int32.le_iff_toInt_le, pv_toInt (by omega), show (6 : Int32).toInt = 6 from rfl]; omega
              · rw [hhd, (hrd_pos' hE).mp c, if_neg (by decide), Nat.add_zero] at hk
                rw [pv_s]
                exact hk s hs f
              · have hd : hbE E j (pv q) (nI p) = true := by
                  cases hh : hbE E j (pv q) (nI p)
                  · exact absurd ((hrd_pos' hE).mpr hh) c
                  · rfl
                have hnp : ¬ nI p < E.2.2.1 := hb_nlt hd
                rw [hhd, hd, if_pos rfl] at hk
                have hle : (List.range (11 * p + q)).countP (hdP E j) ≤ 11 * p + q := by
                  have := List.countP_le_length (p := hdP E j) (l := List.range (11 * p + q))
                  rw [List.length_range] at this
                  exact this
                have hT : (hdL (enS A.1) j)[(List.range (11 * p + q)).countP (hdP E j)]? = some (11 * p + q) := by
                  rw [hEE]
                  exact filter_get (by omega) (by rw [hhd]; exact hd) rfl
                generalize (List.range (11 * p + q)).countP (hdP E j) = e at hk hle hT ⊢
                refine hs.step (lc_ec0 hA (hj4 j hjl) (by omega) hT (by omega)) (fun s1 hs1 f1 => brf' (by rw [show (11 * p + q) / 11 = p by omega]) ?_)
                refine hs1.step (lc_ec1 hA (hj4 j hjl) (by omega) hT (by omega)) (fun s2 hs2 f2 => brf' (by rw [show (11 * p + q) % 11 = q by omega]) ?_)
                refine hs2.step (lc_ec2 hA (hj4 j hjl) (by omega) hT (by omega)) (fun s3 hs3 f3 => brf' ?_ ?_)
                · rw [hEE, show (11 * p + q) / 11 = p by omega, show (11 * p + q) % 11 = q by omega]
                  unfold hrd
                  rw [if_neg hnp, if_neg (by decide)]
                refine hs3.step (lc_ec3 hA (hj4 j hjl) (by omega) hT (by omega)) (fun s4 hs4 f4 => ?_)
                have hl4 := hs4.2.2
                rw [hEE] at hl4
                refine ct_Lheard (src := true) hE hl4 hjl (br_t ?_ ?_)
                · rw [hEE, show (11 * p + q) / 11 = p by omega, show (11 * p + q) % 11 = q by omega]
                  unfold hrd
                  rw [if_neg hnp, if_pos rfl]
                · rw [nI1, pv_s]
                  exact hk s4 hs4 ((((f.tr f1).tr f2).tr f3).tr f4)
          have h0 := inner 11 0 rfl s hs f
          rw [Nat.add_zero] at h0
          exact h0
      refine sgL_echoes_11 ?_
      rw [hl.2.1]
      exact br_f (nI_ge (by omega) (by omega)) (places n 0 (by omega) s hs f)
  exact turns E.2.1.length 0 (by omega) σ hs (FrM.rf σ)
end LEC
