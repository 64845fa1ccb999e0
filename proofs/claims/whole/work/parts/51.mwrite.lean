/-! the model's write; sign -/
def mrow (σ : St) (i : Nat) (t : Tg) : Prop := sA σ 65 (8 + 4 * i) = t.1 ∧ sA σ 65 (8 + 4 * i + 1) = t.2.1 ∧ sA σ 65 (8 + 4 * i + 2) = t.2.2.1 ∧ sA σ 65 (8 + 4 * i + 3) = t.2.2.2
theorem mrow.u {σ σ' : St} {i : Nat} {t : Tg} (h : mrow σ i t) (f : FrU σ σ') : mrow σ' i t := by
  unfold mrow
  rw [f.2.1 65 (by omega)]
  exact h
section MWRITE
variable {d : Nat} {σ : St} {S : Sn} {L : List Int32} {A : Ab}
theorem ct_of2 {K : Int32 → St → Prop} {i : Nat} {t : Tg} (hi : i < 6) (h : mrow σ i t) (k : K t.2.2.1 σ) : CallI (d + 1) mX6_of [.ref 64, .int (nI i), .int 2] σ K := ct_of (w := 2) hi (by omega) (by rw [h.2.2.1]; exact k)
theorem ct_of1 {K : Int32 → St → Prop} {i : Nat} {t : Tg} (hi : i < 6) (h : mrow σ i t) (k : K t.2.1 σ) : CallI (d + 1) mX6_of [.ref 64, .int (nI i), .int 1] σ K := ct_of (w := 1) hi (by omega) (by rw [h.2.1]; exact k)
theorem ct_of3 {K : Int32 → St → Prop} {i : Nat} {t : Tg} (hi : i < 6) (h : mrow σ i t) (k : K t.2.2.2 σ) : CallI (d + 1) mX6_of [.ref 64, .int (nI i), .int 3] σ K := ct_of (w := 3) hi (by omega) (by rw [h.2.2.2]; exact k)
theorem mw_tail {G : St → Prop} {t : Tg} {i : Nat} (hi : i < 6) (hr : mrow σ i t) (hok : okT t) (h : txt σ 64 12 72 L) (hl : L.length + 8 ≤ 90) (k : ∀ σ', FrU σ σ' → txt σ' 64 12 72 (L ++ numS (ix t.1) ++ [42] ++ numS (ix t.2.1) ++ mvS t.2.2.1) → G σ') :
    CallI (d + 2) mX6_of [.ref 64, .int (nI i), .int 0] σ (fun r8 s7 => CallU (d + 2) mX6_setsNumber [.ref 64, .int r8] s7 (fun s9 => CallU (d + 2) mX6_sets [.ref 64, .int 42] s9 (fun s10 => CallI (d + 2) mX6_of [.ref 64, .int (nI i), .int 1] s10 (fun r12 s11 => CallU (d + 2) mX6_setsNumber [.ref 64, .int r12] s11 (fun s13 => CallI (d + 2) mX6_of [.ref 64, .int (nI i), .int 2] s13 (fun r15 s14 => (r15 = 0 → G s14) ∧ (¬ r15 = 0 → CallI (d + 2) mX6_of [.ref 64, .int (nI i), .int 2] s14 (fun r18 s17 => (0 ≤ r18 → CallU (d + 2) mX6_sets [.ref 64, .int 43] s17 (fun s20 => CallI (d + 2) mX6_of [.ref 64, .int (nI i), .int 2] s20 (fun r22 s21 => (0 ≤ r22 → CallI (d + 2) mX6_of [.ref 64, .int (nI i), .int 2] s21 (fun r25 s24 => CallU (d + 2) mX6_sets [.ref 64, .int (48 + r25)] s24 (fun s26 => G s26))) ∧ (¬ 0 ≤ r22 → CallI (d + 2) mX6_of [.ref 64, .int (nI i), .int 2] s21 (fun r28 s27 => CallU (d + 2) mX6_sets [.ref 64, .int (48 + (-r28))] s27 (fun s29 => G s29)))))) ∧ (¬ 0 ≤ r18 → CallU (d + 2) mX6_sets [.ref 64, .int 45] s17 (fun s30 => CallI (d + 2) mX6_of [.ref 64, .int (nI i), .int 2] s30 (fun r32 s31 => (0 ≤ r32 → CallI (d + 2) mX6_of [.ref 64, .int (nI i), .int 2] s31 (fun r35 s34 => CallU (d + 2) mX6_sets [.ref 64, .int (48 + r35)] s34 (fun s36 => G s36))) ∧ (¬ 0 ≤ r32 → CallI (d + 2) mX6_of [.ref 64, .int (nI i), .int 2] s31 (fun r38 s37 => CallU (d + 2) mX6_sets [.ref 64, .int (48 + (-r38))] s37 (fun s39 => G s39)))))))))))))) := by
  obtain ⟨⟨a, ea, a1, a2⟩, ⟨s, es, s1, s2⟩, hv⟩ := okT_nat hok
  have n1 := numS_3 a
  have n2 : (numS s).length ≤ 2 := numS_2 (by omega)
  have c42 : chr 42 := chr_nI 42 (by decide)
  have c43 : chr 43 := chr_nI 43 (by decide)
  have c45 : chr 45 := chr_nI 45 (by decide)
  rw [ea, es, ix_nI (by omega), ix_nI (by omega)] at k
  refine ct_of0 hi hr.1 ?_
  rw [ea]
  refine ct_snum h (by omega) (by omega) (fun σ1 f1 h1 => ct_sets h1 (by rw [List.length_append]; omega) c42 (fun σ2 f2 h2 => ct_of1 hi ((hr.u f1).u f2) ?_))
  rw [es]
  have l2 : (L ++ numS a ++ [42]).length + (numS s).length ≤ L.length + 6 := by simp only [List.length_append, List.length_singleton]; omega
  refine ct_snum h2 (by omega) (by omega) (fun σ3 f3 h3 => ?_)
  have l3 : (L ++ numS a ++ [42] ++ numS s).length ≤ L.length + 6 := by rw [List.length_append]; exact l2
  have f : FrU σ σ3 := (FrX.tr f1 f2).tr f3
  have hr3 := hr.u f
  refine ct_of2 hi hr3 ?_
  unfold mvS at k
  rcases hv with z | ⟨v, e, v1, v2⟩ | ⟨v, e, v1, v2, v3, v4⟩
  · rw [if_pos z, List.append_nil] at k
    exact br_t z (k σ3 f h3)
  · have hz : ¬ t.2.2.1 = 0 := by rw [e]; exact ine (by omega) (by omega)
    have hp : 0 ≤ t.2.2.1 := by rw [e]; exact nI_le (a := 0) (by omega) (by omega)
    have ev : (48 : Int32) + t.2.2.1 = dgt v := by
      rw [e]
      show _ = nI (48 + v % 10)
      rw [show v % 10 = v by omega]
      exact nI_add 48 v
    rw [if_neg hz, if_pos hp, e, ix_nI (by omega), numS_1 (n := v) (by omega)] at k
    refine br_f hz (ct_of2 hi hr3 (br_t hp (ct_sets h3 (by omega) c43 (fun σ4 f4 h4 => ct_of2 hi (hr3.u f4) (br_t hp (ct_of2 hi (hr3.u f4) ?_))))))
    rw [ev]
    refine ct_sets h4 (by rw [List.length_append, List.length_singleton]; omega) (dgt_chr _) (fun σ5 f5 h5 => k σ5 ((f.tr f4).tr f5) ?_)
    rw [List.append_assoc] at h5
    exact h5
  · have ev : (48 : Int32) + -t.2.2.1 = dgt v := by
      rw [e]
      show _ = nI (48 + v % 10)
      rw [show v % 10 = v by omega]
      exact nI_add 48 v
    rw [if_neg v4, if_neg v3, e, ix_nI (by omega), numS_1 (n := v) (by omega)] at k
    refine br_f v4 (ct_of2 hi hr3 (br_f v3 (ct_sets h3 (by omega) c45 (fun σ4 f4 h4 => ct_of2 hi (hr3.u f4) (br_f v3 (ct_of2 hi (hr3.u f4) ?_))))))
    rw [ev]
    refine ct_sets h4 (by rw [List.length_append, List.length_singleton]; omega) (dgt_chr _) (fun σ5 f5 h5 => k σ5 ((f.tr f4).tr f5) ?_)
    rw [List.append_assoc] at h5
    exact h5
theorem ct_mwrite {K : St → Prop} (hS : mSc (sA σ 65) S) (hok : okS S) (k : ∀ σ', FrU σ σ' → txt σ' 64 12 72 (txS S) → K σ') : CallU (d + 3) mX6_write [.ref 64] σ K := by
  have hn := hok.1
  have hm := hok.2.2.2.1
  have c44 : chr 44 := chr_nI 44 (by decide)
  have c47 : chr 47 := chr_nI 47 (by decide)
  have c59 : chr 59 := chr_nI 59 (by decide)
  have c116 : chr 116 := chr_nI 116 (by decide)
  have c119 : chr 119 := chr_nI 119 (by decide)
  refine cgX6_write ?_
  rintro _ rfl
  have f0 : FrU σ (setF σ 64 12 0) := (FrX.rf (P := fun c k => c = 64 ∧ k = 12) (C := fun c => c = 72) (l := False) σ).toF ⟨rfl, rfl⟩
  have h0 : txt (setF σ 64 12 0) 64 12 72 [] := ⟨by rw [sF_setF, if_pos ⟨rfl, rfl⟩]; rfl, fun i c hc => by cases hc⟩
  have e65 : ∀ σ1, FrU σ σ1 → sA σ1 65 = sA σ 65 := fun σ1 f => f.2.1 65 (by omega)
  have jb := jn_len hok.2.1 S.1.length (Nat.le_refl _)
  unfold txS at k
  have turns : ∀ k2 j, j + k2 = S.2.1.length → ∀ σ1, FrU σ σ1 → txt σ1 64 12 72 (if S.1.length = 0 then [] else jn S.1 S.1.length ++ js S.2.1 j) → Go mX6_write (d + 3) 143 [.ref 64, .int (nI j)] [] σ1 (QU K) := by
    intro k2
    induction k2 with
    | zero =>
      intro j hj σ1 f1 h1
      refine sgX6_write_143 ?_
      rw [e65 σ1 f1, hS.2.1]
      refine br_t (nI_le (by omega) (by omega)) (k σ1 f1 ?_)
      rw [show S.2.1.length = j by omega]
      exact h1
    | succ k2 ih =>
      intro j hj σ1 f1 h1
      obtain ⟨n, hs, n1, n2⟩ := spN hok (j := j) (by omega)
      have e2 : (2 : Int32) + nI j = nI (2 + j) := nI_add 2 j
      refine sgX6_write_143 ?_
      rw [e65 σ1 f1, hS.2.1, hS.1, e2, ix_nI (by omega)]
      refine br_f (nI_ge (by omega) (by omega)) ⟨fun c => ?_, fun c => ?_⟩
      · have hn0 : S.1.length = 0 := by
          rw [show (0 : Int32) = nI 0 from rfl, nI_leI (by omega) (by omega)] at c
          omega
        rw [if_pos hn0] at h1 k
        exact k σ1 f1 h1
      · have hn0 : ¬ S.1.length = 0 := fun z => c (by rw [z]; decide)
        rw [if_neg hn0] at h1
        have jl := js_len S.2.1 hok.2.2.2.2.1 j (by omega)
        have nl : (numS n).length ≤ 2 := numS_2 (by omega)
        have ll : (jn S.1 S.1.length ++ js S.2.1 j).length ≤ 60 + 3 * j := by rw [List.length_append]; omega
        have hk := ih (j + 1) (by omega)
        rw [if_neg hn0, js_s hs n2] at hk
        have h65 : ∀ σ2, FrU σ1 σ2 → sA σ2 65 (2 + j) = nI n := fun σ2 f2 => by rw [e65 σ2 (FrX.tr f1 f2)]; exact hS.2.2.2.2.2 j _ hs
        refine br_c' (fun c2 => ?_) (fun c2 => ?_)
        · have hj0 : ¬ j = 0 := fun z => c2 (by rw [z]; rfl)
          rw [if_neg hj0] at hk
          refine ct_sets h1 (by omega) c47 (fun σ2 f2 h2 => ⟨vp_in_nI (by omega) (by omega), ?_⟩)
          rw [h65 σ2 f2]
          refine ct_snum h2 (by omega) (by rw [List.length_append, List.length_singleton]; omega) (fun σ3 f3 h3 => ?_)
          rw [nI1]
          refine hk σ3 ((FrX.tr f1 f2).tr f3) ?_
          simpa only [List.append_assoc] using h3
        · have hj0 : j = 0 := (nI_eq (a := j) (b := 0) (by omega) (by omega)).mp c2
          rw [if_pos hj0] at hk
          refine ct_sets h1 (by omega) c59 (fun σ2 f2 h2 => ⟨vp_in_nI (by omega) (by omega), ?_⟩)
          rw [h65 σ2 f2]
          refine ct_snum h2 (by omega) (by rw [List.length_append, List.length_singleton]; omega) (fun σ3 f3 h3 => ?_)
          rw [nI1]
          refine hk σ3 ((FrX.tr f1 f2).tr f3) ?_
          simpa only [List.append_assoc] using h3
  have tgts : ∀ k2 i, i + k2 = S.1.length → ∀ σ1, FrU σ σ1 → txt σ1 64 12 72 (jn S.1 i) → Go mX6_write (d + 3) 7 [.ref 64, .int (nI i)] [] σ1 (QU K) := by
    intro k2
    induction k2 with
    | zero =>
      intro i hi σ1 f1 h1
      refine sgX6_write_7 ?_
      rw [e65 σ1 f1, hS.1]
      refine br_t (nI_le (by omega) (by omega)) (turns S.2.1.length 0 (by omega) σ1 f1 ?_)
      rw [show S.1.length = i by omega]
      by_cases z : i = 0
      · rw [if_pos z]
        rw [z] at h1
        exact h1
      · rw [if_neg z]
        show txt σ1 64 12 72 (jn S.1 i ++ [])
        rw [List.append_nil]
        exact h1
    | succ k2 ih =>
      intro i hi σ1 f1 h1
      obtain ⟨t, ht⟩ := get_of (l := S.1) (i := i) (by omega)
      have hokt := hok.2.1 t (List.mem_of_getElem? ht)
      have il := jn_len hok.2.1 i (by omega)
      have hr : mrow σ1 i t := by
        unfold mrow
        rw [e65 σ1 f1]
        exact hS.2.2.2.2.1 i t ht
      have hk := ih (i + 1) (by omega)
      rw [jn_s ht, tgS_eq] at hk
      refine sgX6_write_7 ?_
      rw [e65 σ1 f1, hS.1, nI1]
      -- the body from a state on
      have body : ∀ σ2, FrU σ1 σ2 → txt σ2 64 12 72 (jn S.1 i ++ (if i = 0 then ([] : List Int32) else [44])) → ∀ c, c = (if t.2.2.2 = 1 then (119 : Int32) else 116) → CallU (d + 2) mX6_sets [.ref 64, .int c] σ2 (fun s6 => CallI (d + 2) mX6_of [.ref 64, .int (nI i), .int 0] s6 (fun r8 s7 => CallU (d + 2) mX6_setsNumber [.ref 64, .int r8] s7 (fun s9 => CallU (d + 2) mX6_sets [.ref 64, .int 42] s9 (fun s10 => CallI (d + 2) mX6_of [.ref 64, .int (nI i), .int 1] s10 (fun r12 s11 => CallU (d + 2) mX6_setsNumber [.ref 64, .int r12] s11 (fun s13 => CallI (d + 2) mX6_of [.ref 64, .int (nI i), .int 2] s13 (fun r15 s14 => (r15 = 0 → Go mX6_write (d + 3) 7 [.ref 64, .int (nI (i + 1))] [] s14 (QU K)) ∧ (¬ r15 = 0 → CallI (d + 2) mX6_of [.ref 64, .int (nI i), .int 2] s14 (fun r18 s17 => (0 ≤ r18 → CallU (d + 2) mX6_sets [.ref 64, .int 43] s17 (fun s20 => CallI (d + 2) mX6_of [.ref 64, .int (nI i), .int 2] s20 (fun r22 s21 => (0 ≤ r22 → CallI (d + 2) mX6_of [.ref 64, .int (nI i), .int 2] s21 (fun r25 s24 => CallU (d + 2) mX6_sets [.ref 64, .int (48 + r25)] s24 (fun s26 => Go mX6_write (d + 3) 7 [.ref 64, .int (nI (i + 1))] [] s26 (QU K)))) ∧ (¬ 0 ≤ r22 → CallI (d + 2) mX6_of [.ref 64, .int (nI i), .int 2] s21 (fun r28 s27 => CallU (d + 2) mX6_sets [.ref 64, .int (48 + (-r28))] s27 (fun s29 => Go mX6_write (d + 3) 7 [.ref 64, .int (nI (i + 1))] [] s29 (QU K))))))) ∧ (¬ 0 ≤ r18 → CallU (d + 2) mX6_sets [.ref 64, .int 45] s17 (fun s30 => CallI (d + 2) mX6_of [.ref 64, .int (nI i), .int 2] s30 (fun r32 s31 => (0 ≤ r32 → CallI (d + 2) mX6_of [.ref 64, .int (nI i), .int 2] s31 (fun r35 s34 => CallU (d + 2) mX6_sets [.ref 64, .int (48 + r35)] s34 (fun s36 => Go mX6_write (d + 3) 7 [.ref 64, .int (nI (i + 1))] [] s36 (QU K)))) ∧ (¬ 0 ≤ r32 → CallI (d + 2) mX6_of [.ref 64, .int (nI i), .int 2] s31 (fun r38 s37 => CallU (d + 2) mX6_sets [.ref 64, .int (48 + (-r38))] s37 (fun s39 => Go mX6_write (d + 3) 7 [.ref 64, .int (nI (i + 1))] [] s39 (QU K)))))))))))))))) := by
        intro σ2 f2 h2 c hc
        have hlen : (jn S.1 i ++ (if i = 0 then ([] : List Int32) else [44])).length ≤ 10 * i + 1 := by
          rw [List.length_append]
          have : (if i = 0 then ([] : List Int32) else [44]).length ≤ 1 := by split <;> decide
          omega
        have hch : chr c := by rw [hc]; split <;> assumption
        refine ct_sets h2 (by omega) hch (fun σ3 f3 h3 => mw_tail (by omega) ((hr.u f2).u f3) hokt h3 (by rw [List.length_append, List.length_singleton]; omega) (fun σ4 f4 h4 => hk σ4 (((FrX.tr f1 f2).tr f3).tr f4) ?_))
        rw [hc] at h4
        simpa only [List.append_assoc] using h4
      refine br_f (nI_ge (by omega) (by omega)) (br_c (fun c2 => ?_) (fun c2 => ?_))
      · have hi0 : i = 0 := by
          rw [show (0 : Int32) = nI 0 from rfl, nI_leI (by omega) (by omega)] at c2
          omega
        have hb := body σ1 (FrX.rf σ1) (by rw [if_pos hi0, List.append_nil]; exact h1)
        refine ct_of3 (by omega) hr (br_c' (fun c3 => hb 116 ?_) (fun c3 => hb 119 ?_))
        · rw [if_neg c3]
        · rw [if_pos c3]
      · have hi0 : ¬ i = 0 := fun z => c2 (by rw [z]; decide)
        refine ct_sets h1 (by omega) c44 (fun σ2 f2 h2 => ?_)
        have hb := body σ2 f2 (by rw [if_neg hi0]; exact h2)
        refine ct_of3 (by omega) (hr.u f2) (br_c' (fun c3 => hb 116 ?_) (fun c3 => hb 119 ?_))
        · rw [if_neg c3]
        · rw [if_pos c3]
  exact tgts S.1.length 0 (by omega) _ f0 h0
theorem txS_len (hok : okS S) : (txS S).length ≤ 72 := by
  have h1 := jn_len hok.2.1 S.1.length (Nat.le_refl _)
  have h2 := js_len S.2.1 hok.2.2.2.2.1 S.2.1.length (Nat.le_refl _)
  have hn := hok.1
  have hm := hok.2.2.2.1
  unfold txS
  split
  · exact Nat.zero_le _
  · rw [List.length_append]; omega
theorem lk_sign (hA : okA A) (x : Int32) : ∃ r, LkC A r mX5_sign [.ref 0, .int x] ∧ LkM A r mX6_sign [.ref 64, .int x] := by
  have hok := hA.1
  have hl := txS_len hok
  rcases neg_cases x with hx | ⟨g, hg, rfl, hx⟩
  · have hx' : ¬ 0 ≤ x := Int32.not_le.mpr hx
    exact ⟨-1, fun σ K h k => cgX5_sign (br_f hx' (k σ (Fr.rf σ) (FrM.rf σ))), fun σ K h k => cgX6_sign (br_f hx' (k σ (FrN.rf σ)))⟩
  have hx' : 0 ≤ nI g := Int32.not_lt.mp hx
  rcases hT : (txS A.1)[g]? with _ | c
  · have hge : (txS A.1).length ≤ g := List.getElem?_eq_none_iff.mp hT
    refine ⟨-4, fun σ K h k => cgX5_sign (br_t hx' (ct_write one_sc h.1 hok (fun σ' f e => cgX4_length ?_))), fun σ K h k => cgX6_sign (br_t hx' (ct_mwrite h.1 hok (fun σ' f e => ?_)))⟩
    · rw [e.1]
      exact br_t (nI_le (by omega) (by omega)) (k σ' f.S f.M)
    · rw [e.1]
      exact br_t (nI_le (by omega) (by omega)) (k σ' f.N)
  · have hlt := lt_of hT
    refine ⟨c, fun σ K h k => cgX5_sign (br_t hx' (ct_write one_sc h.1 hok (fun σ' f e => cgX4_length ?_))), fun σ K h k => cgX6_sign (br_t hx' (ct_mwrite h.1 hok (fun σ' f e => ?_)))⟩
    · rw [e.1]
      refine br_f (nI_ge (by omega) (by omega)) (cgX4_codeAt (br_f hx (br_f (nI_ge (b := 72) (by omega) (by omega)) ⟨vp_in_nI (by omega) (by omega), ?_⟩)))
      rw [ix_nI (by omega), e.2 g c hT]
      exact k σ' f.S f.M
    · rw [e.1, ix_nI (by omega), e.2 g c hT]
      exact br_f (nI_ge (by omega) (by omega)) ⟨vp_in_nI (by omega) (by omega), k σ' f.N⟩
end MWRITE
