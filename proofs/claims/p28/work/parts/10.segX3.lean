set_option maxHeartbeats 4000000 in
set_option maxRecDepth 100000 in
theorem sgX3_become_0 {d : Nat} {σ : St} {K : St → Prop} {a : Nat} (h_a : isSc a) {b : Nat} (h_b : isSc b) (h : ∀ s1, s1 = setR σ (a + 1) (va_cpy (sA σ (b + 1)) (sA σ (a + 1)) (ix 0) (ix 0) (ix 6)) → ∀ s2, s2 = setR s1 (a + 2) (va_cpy (sA s1 (b + 2)) (sA s1 (a + 2)) (ix 0) (ix 0) (ix 6)) → ∀ s3, s3 = setR s2 (a + 3) (va_cpy (sA s2 (b + 3)) (sA s2 (a + 3)) (ix 0) (ix 0) (ix 6)) → ∀ s4, s4 = setR s3 (a + 5) (va_cpy (sA s3 (b + 5)) (sA s3 (a + 5)) (ix 0) (ix 0) (ix 4)) → Go mX3_become (d + 1) 61 [.ref a, .ref b, .int 0] [] s4 (QU K)) : Go mX3_become (d + 1) 0 [.ref a, .ref b, .null] [] σ (QU K) := by
  refine Go.aload_n 1 dX3_become_0 rfl rfl (?_ : Go _ _ 1 _ _ _ _)
  refine Go.getR fk_X3_9 (sc_0 h_b) (scr_0 h_b) dX3_become_1 (?_ : Go _ _ 4 _ _ _ _)
  refine Go.iconst dX3_become_4 k_ic_0 (?_ : Go _ _ 5 _ _ _ _)
  refine Go.aload_n 0 dX3_become_5 rfl rfl (?_ : Go _ _ 6 _ _ _ _)
  refine Go.getR fk_X3_9 (sc_0 h_a) (scr_0 h_a) dX3_become_6 (?_ : Go _ _ 9 _ _ _ _)
  refine Go.iconst dX3_become_9 k_ic_0 (?_ : Go _ _ 10 _ _ _ _)
  refine Go.bipush dX3_become_10 k_bi_6 (?_ : Go _ _ 12 _ _ _ _)
  refine Go.acopy (sc_1 h_b) (sc_1 h_a) (by decide) wl_X3_41 wn_copy wt_copy wi_Sys (by decide) (by decide) (by decide) (by decide +kernel) (by decide +kernel) (Nat.le_of_ble_eq_true rfl) dX3_become_12 (?_ : Go _ _ 15 _ _ _ _)
  generalize es1 : setR σ (a + 1) (va_cpy (sA σ (b + 1)) (sA σ (a + 1)) (ix 0) (ix 0) (ix 6)) = s1
  have h := h s1 es1.symm
  refine Go.aload_n 1 dX3_become_15 rfl rfl (?_ : Go _ _ 16 _ _ _ _)
  refine Go.getR fk_X3_15 (sc_0 h_b) (scr_1 h_b) dX3_become_16 (?_ : Go _ _ 19 _ _ _ _)
  refine Go.iconst dX3_become_19 k_ic_0 (?_ : Go _ _ 20 _ _ _ _)
  refine Go.aload_n 0 dX3_become_20 rfl rfl (?_ : Go _ _ 21 _ _ _ _)
  refine Go.getR fk_X3_15 (sc_0 h_a) (scr_1 h_a) dX3_become_21 (?_ : Go _ _ 24 _ _ _ _)
  refine Go.iconst dX3_become_24 k_ic_0 (?_ : Go _ _ 25 _ _ _ _)
  refine Go.bipush dX3_become_25 k_bi_6 (?_ : Go _ _ 27 _ _ _ _)
  refine Go.acopy (sc_2 h_b) (sc_2 h_a) (by decide) wl_X3_41 wn_copy wt_copy wi_Sys (by decide) (by decide) (by decide) (by decide +kernel) (by decide +kernel) (Nat.le_of_ble_eq_true rfl) dX3_become_27 (?_ : Go _ _ 30 _ _ _ _)
  generalize es2 : setR s1 (a + 2) (va_cpy (sA s1 (b + 2)) (sA s1 (a + 2)) (ix 0) (ix 0) (ix 6)) = s2
  have h := h s2 es2.symm
  refine Go.aload_n 1 dX3_become_30 rfl rfl (?_ : Go _ _ 31 _ _ _ _)
  refine Go.getR fk_X3_18 (sc_0 h_b) (scr_2 h_b) dX3_become_31 (?_ : Go _ _ 34 _ _ _ _)
  refine Go.iconst dX3_become_34 k_ic_0 (?_ : Go _ _ 35 _ _ _ _)
  refine Go.aload_n 0 dX3_become_35 rfl rfl (?_ : Go _ _ 36 _ _ _ _)
  refine Go.getR fk_X3_18 (sc_0 h_a) (scr_2 h_a) dX3_become_36 (?_ : Go _ _ 39 _ _ _ _)
  refine Go.iconst dX3_become_39 k_ic_0 (?_ : Go _ _ 40 _ _ _ _)
  refine Go.bipush dX3_become_40 k_bi_6 (?_ : Go _ _ 42 _ _ _ _)
  refine Go.acopy (sc_3 h_b) (sc_3 h_a) (by decide) wl_X3_41 wn_copy wt_copy wi_Sys (by decide) (by decide) (by decide) (by decide +kernel) (by decide +kernel) (Nat.le_of_ble_eq_true rfl) dX3_become_42 (?_ : Go _ _ 45 _ _ _ _)
  generalize es3 : setR s2 (a + 3) (va_cpy (sA s2 (b + 3)) (sA s2 (a + 3)) (ix 0) (ix 0) (ix 6)) = s3
  have h := h s3 es3.symm
  refine Go.aload_n 1 dX3_become_45 rfl rfl (?_ : Go _ _ 46 _ _ _ _)
  refine Go.getR fk_X3_25 (sc_0 h_b) (scr_4 h_b) dX3_become_46 (?_ : Go _ _ 49 _ _ _ _)
  refine Go.iconst dX3_become_49 k_ic_0 (?_ : Go _ _ 50 _ _ _ _)
  refine Go.aload_n 0 dX3_become_50 rfl rfl (?_ : Go _ _ 51 _ _ _ _)
  refine Go.getR fk_X3_25 (sc_0 h_a) (scr_4 h_a) dX3_become_51 (?_ : Go _ _ 54 _ _ _ _)
  refine Go.iconst dX3_become_54 k_ic_0 (?_ : Go _ _ 55 _ _ _ _)
  refine Go.iconst dX3_become_55 k_ic_4 (?_ : Go _ _ 56 _ _ _ _)
  refine Go.acopy (sc_5 h_b) (sc_5 h_a) (by decide) wl_X3_41 wn_copy wt_copy wi_Sys (by decide) (by decide) (by decide) (by decide +kernel) (by decide +kernel) (Nat.le_of_ble_eq_true rfl) dX3_become_56 (?_ : Go _ _ 59 _ _ _ _)
  generalize es4 : setR s3 (a + 5) (va_cpy (sA s3 (b + 5)) (sA s3 (a + 5)) (ix 0) (ix 0) (ix 4)) = s4
  have h := h s4 es4.symm
  refine Go.iconst dX3_become_59 k_ic_0 (?_ : Go _ _ 60 _ _ _ _)
  refine Go.istore_n 2 dX3_become_60 rfl (by decide) rfl rfl (?_ : Go _ _ 61 [.ref a, .ref b, .int 0] _ _ _)
  exact h
theorem cgX3_become {d : Nat} {σ : St} {K : St → Prop} {a : Nat} (h_a : isSc a) {b : Nat} (h_b : isSc b) (h : ∀ s1, s1 = setR σ (a + 1) (va_cpy (sA σ (b + 1)) (sA σ (a + 1)) (ix 0) (ix 0) (ix 6)) → ∀ s2, s2 = setR s1 (a + 2) (va_cpy (sA s1 (b + 2)) (sA s1 (a + 2)) (ix 0) (ix 0) (ix 6)) → ∀ s3, s3 = setR s2 (a + 3) (va_cpy (sA s2 (b + 3)) (sA s2 (a + 3)) (ix 0) (ix 0) (ix 6)) → ∀ s4, s4 = setR s3 (a + 5) (va_cpy (sA s3 (b + 5)) (sA s3 (a + 5)) (ix 0) (ix 0) (ix 4)) → Go mX3_become (d + 1) 61 [.ref a, .ref b, .int 0] [] s4 (QU K)) : CallU (d + 1) mX3_become [.ref a, .ref b] σ K := Call_of_Go (by decide +kernel) (ls := [.ref a, .ref b, .null]) rfl (Nat.le_of_ble_eq_true rfl) (sgX3_become_0 h_a h_b h)
set_option maxHeartbeats 4000000 in
set_option maxRecDepth 100000 in
theorem sgX3_become_61 {d : Nat} {σ : St} {v2 : Int32} {K : St → Prop} {a : Nat} (h_a : isSc a) {b : Nat} (h_b : isSc b) (h : (6 ≤ v2 → ∀ s2, s2 = setF σ a 5 (sF σ b 5) → ∀ s3, s3 = setF s2 a 6 (sF s2 b 6) → ∀ s4, s4 = setF s3 a 7 (sF s3 b 7) → ∀ s5, s5 = setF s4 a 8 (sF s4 b 8) → K s5) ∧ (¬ 6 ≤ v2 → vp_in v2 6 ∧ vp_in v2 6 ∧ ∀ s6, s6 = setA σ (a + 4) (ix v2) (nbo (sA σ (b + 4) (ix v2))) → Go mX3_become (d + 1) 61 [.ref a, .ref b, .int (v2 + 1)] [] s6 (QU K))) : Go mX3_become (d + 1) 61 [.ref a, .ref b, .int v2] [] σ (QU K) := by
  refine Go.iload_n 2 dX3_become_61 rfl rfl (?_ : Go _ _ 62 _ _ _ _)
  refine Go.bipush dX3_become_62 k_bi_6 (?_ : Go _ _ 64 _ _ _ _)
  refine Go.icmp_ge 85 dX3_become_64 rfl ⟨fun c1 => ?_, fun c1 => (?_ : Go _ _ 67 _ _ _ _)⟩
  · have h := h.1 c1
    refine Go.aload_n 0 dX3_become_85 rfl rfl (?_ : Go _ _ 86 _ _ _ _)
    refine Go.aload_n 1 dX3_become_86 rfl rfl (?_ : Go _ _ 87 _ _ _ _)
    refine Go.getI fk_X3_28 (sc_0 h_b) (scr_5 h_b) dX3_become_87 (?_ : Go _ _ 90 _ _ _ _)
    refine Go.putI fp_X3_28 (sc_0 h_a) (scr_5 h_a) dX3_become_90 (?_ : Go _ _ 93 _ _ _ _)
    generalize es2 : setF σ a 5 (sF σ b 5) = s2
    have h := h s2 es2.symm
    refine Go.aload_n 0 dX3_become_93 rfl rfl (?_ : Go _ _ 94 _ _ _ _)
    refine Go.aload_n 1 dX3_become_94 rfl rfl (?_ : Go _ _ 95 _ _ _ _)
    refine Go.getI fk_X3_32 (sc_0 h_b) (scr_6 h_b) dX3_become_95 (?_ : Go _ _ 98 _ _ _ _)
    refine Go.putI fp_X3_32 (sc_0 h_a) (scr_6 h_a) dX3_become_98 (?_ : Go _ _ 101 _ _ _ _)
    generalize es3 : setF s2 a 6 (sF s2 b 6) = s3
    have h := h s3 es3.symm
    refine Go.aload_n 0 dX3_become_101 rfl rfl (?_ : Go _ _ 102 _ _ _ _)
    refine Go.aload_n 1 dX3_become_102 rfl rfl (?_ : Go _ _ 103 _ _ _ _)
    refine Go.getI fk_X3_35 (sc_0 h_b) (scr_7 h_b) dX3_become_103 (?_ : Go _ _ 106 _ _ _ _)
    refine Go.putI fp_X3_35 (sc_0 h_a) (scr_7 h_a) dX3_become_106 (?_ : Go _ _ 109 _ _ _ _)
    generalize es4 : setF s3 a 7 (sF s3 b 7) = s4
    have h := h s4 es4.symm
    refine Go.aload_n 0 dX3_become_109 rfl rfl (?_ : Go _ _ 110 _ _ _ _)
    refine Go.aload_n 1 dX3_become_110 rfl rfl (?_ : Go _ _ 111 _ _ _ _)
    refine Go.getI fk_X3_38 (sc_0 h_b) (scr_8 h_b) dX3_become_111 (?_ : Go _ _ 114 _ _ _ _)
    refine Go.putI fp_X3_38 (sc_0 h_a) (scr_8 h_a) dX3_become_114 (?_ : Go _ _ 117 _ _ _ _)
    generalize es5 : setF s4 a 8 (sF s4 b 8) = s5
    have h := h s5 es5.symm
    exact Go.vret rfl dX3_become_117 ⟨rfl, h⟩
  · have h := h.2 c1
    refine Go.aload_n 0 dX3_become_67 rfl rfl (?_ : Go _ _ 68 _ _ _ _)
    refine Go.getR fk_X3_21 (sc_0 h_a) (scr_3 h_a) dX3_become_68 (?_ : Go _ _ 71 _ _ _ _)
    refine Go.iload_n 2 dX3_become_71 rfl rfl (?_ : Go _ _ 72 _ _ _ _)
    refine Go.aload_n 1 dX3_become_72 rfl rfl (?_ : Go _ _ 73 _ _ _ _)
    refine Go.getR fk_X3_21 (sc_0 h_b) (scr_3 h_b) dX3_become_73 (?_ : Go _ _ 76 _ _ _ _)
    refine Go.iload_n 2 dX3_become_76 rfl rfl (?_ : Go _ _ 77 _ _ _ _)
    refine Go.zald (sc_4 h_b) dX3_become_77 ⟨h.1, (?_ : Go _ _ 78 _ _ _ _)⟩
    have h := h.2
    refine Go.zast (sc_4 h_a) dX3_become_78 ⟨h.1, (?_ : Go _ _ 79 _ _ _ _)⟩
    generalize es6 : setA σ (a + 4) (ix v2) (nbo (sA σ (b + 4) (ix v2))) = s6
    have h := h.2 s6 es6.symm
    refine Go.iinc dX3_become_79 rfl (congrArg (fun z => v2 + z) k_ic_1) (by decide) rfl rfl (?_ : Go _ _ 82 [.ref a, .ref b, .int (v2 + 1)] _ _ _)
    refine Go.goto 61 dX3_become_82 rfl ?_
    exact h
set_option maxHeartbeats 4000000 in
set_option maxRecDepth 100000 in
theorem sgX3_targetCount_0 {d : Nat} {σ : St} {K : Int32 → St → Prop} {a : Nat} (h_a : isSc a) (h : K (sF σ a 5) σ) : Go mX3_targetCount (d + 1) 0 [.ref a] [] σ (QI K) := by
  refine Go.aload_n 0 dX3_targetCount_0 rfl rfl (?_ : Go _ _ 1 _ _ _ _)
  refine Go.getI fk_X3_28 (sc_0 h_a) (scr_5 h_a) dX3_targetCount_1 (?_ : Go _ _ 4 _ _ _ _)
  exact Go.iret rfl dX3_targetCount_4 ⟨_, rfl, h⟩
theorem cgX3_targetCount {d : Nat} {σ : St} {K : Int32 → St → Prop} {a : Nat} (h_a : isSc a) (h : K (sF σ a 5) σ) : CallI (d + 1) mX3_targetCount [.ref a] σ K := Call_of_Go (by decide +kernel) (ls := [.ref a]) rfl (Nat.le_of_ble_eq_true rfl) (sgX3_targetCount_0 h_a h)
set_option maxHeartbeats 4000000 in
set_option maxRecDepth 100000 in
theorem sgX3_turnCount_0 {d : Nat} {σ : St} {K : Int32 → St → Prop} {a : Nat} (h_a : isSc a) (h : K (sF σ a 6) σ) : Go mX3_turnCount (d + 1) 0 [.ref a] [] σ (QI K) := by
  refine Go.aload_n 0 dX3_turnCount_0 rfl rfl (?_ : Go _ _ 1 _ _ _ _)
  refine Go.getI fk_X3_32 (sc_0 h_a) (scr_6 h_a) dX3_turnCount_1 (?_ : Go _ _ 4 _ _ _ _)
  exact Go.iret rfl dX3_turnCount_4 ⟨_, rfl, h⟩
theorem cgX3_turnCount {d : Nat} {σ : St} {K : Int32 → St → Prop} {a : Nat} (h_a : isSc a) (h : K (sF σ a 6) σ) : CallI (d + 1) mX3_turnCount [.ref a] σ K := Call_of_Go (by decide +kernel) (ls := [.ref a]) rfl (Nat.le_of_ble_eq_true rfl) (sgX3_turnCount_0 h_a h)
set_option maxHeartbeats 4000000 in
set_option maxRecDepth 100000 in
theorem sgX3_blindBelow_0 {d : Nat} {σ : St} {K : Int32 → St → Prop} {a : Nat} (h_a : isSc a) (h : K (sF σ a 7) σ) : Go mX3_blindBelow (d + 1) 0 [.ref a] [] σ (QI K) := by
  refine Go.aload_n 0 dX3_blindBelow_0 rfl rfl (?_ : Go _ _ 1 _ _ _ _)
  refine Go.getI fk_X3_35 (sc_0 h_a) (scr_7 h_a) dX3_blindBelow_1 (?_ : Go _ _ 4 _ _ _ _)
  exact Go.iret rfl dX3_blindBelow_4 ⟨_, rfl, h⟩
theorem cgX3_blindBelow {d : Nat} {σ : St} {K : Int32 → St → Prop} {a : Nat} (h_a : isSc a) (h : K (sF σ a 7) σ) : CallI (d + 1) mX3_blindBelow [.ref a] σ K := Call_of_Go (by decide +kernel) (ls := [.ref a]) rfl (Nat.le_of_ble_eq_true rfl) (sgX3_blindBelow_0 h_a h)
set_option maxHeartbeats 4000000 in
set_option maxRecDepth 100000 in
theorem sgX3_loudFrom_0 {d : Nat} {σ : St} {K : Int32 → St → Prop} {a : Nat} (h_a : isSc a) (h : K (sF σ a 8) σ) : Go mX3_loudFrom (d + 1) 0 [.ref a] [] σ (QI K) := by
  refine Go.aload_n 0 dX3_loudFrom_0 rfl rfl (?_ : Go _ _ 1 _ _ _ _)
  refine Go.getI fk_X3_38 (sc_0 h_a) (scr_8 h_a) dX3_loudFrom_1 (?_ : Go _ _ 4 _ _ _ _)
  exact Go.iret rfl dX3_loudFrom_4 ⟨_, rfl, h⟩
theorem cgX3_loudFrom {d : Nat} {σ : St} {K : Int32 → St → Prop} {a : Nat} (h_a : isSc a) (h : K (sF σ a 8) σ) : CallI (d + 1) mX3_loudFrom [.ref a] σ K := Call_of_Go (by decide +kernel) (ls := [.ref a]) rfl (Nat.le_of_ble_eq_true rfl) (sgX3_loudFrom_0 h_a h)
set_option maxHeartbeats 4000000 in
set_option maxRecDepth 100000 in
theorem sgX3_has_0 {d : Nat} {σ : St} {x1 : Int32} {K : Int32 → St → Prop} {a : Nat} (h_a : isSc a) (h : (x1 < 0 → K 0 σ) ∧ (¬ x1 < 0 → ((sF σ a 5) ≤ x1 → K 0 σ) ∧ (¬ (sF σ a 5) ≤ x1 → (6 ≤ x1 → K 0 σ) ∧ (¬ 6 ≤ x1 → K 1 σ)))) : Go mX3_has (d + 1) 0 [.ref a, .int x1] [] σ (QI K) := by
  refine Go.iload_n 1 dX3_has_0 rfl rfl (?_ : Go _ _ 1 _ _ _ _)
  refine Go.if_lt 22 dX3_has_1 rfl ⟨fun c1 => ?_, fun c1 => (?_ : Go _ _ 4 _ _ _ _)⟩
  · have h := h.1 c1
    refine Go.iconst dX3_has_22 k_ic_0 (?_ : Go _ _ 23 _ _ _ _)
    exact Go.zret rfl rfl dX3_has_23 ⟨_, rfl, h⟩
  · have h := h.2 c1
    refine Go.iload_n 1 dX3_has_4 rfl rfl (?_ : Go _ _ 5 _ _ _ _)
    refine Go.aload_n 0 dX3_has_5 rfl rfl (?_ : Go _ _ 6 _ _ _ _)
    refine Go.getI fk_X3_28 (sc_0 h_a) (scr_5 h_a) dX3_has_6 (?_ : Go _ _ 9 _ _ _ _)
    refine Go.icmp_ge 22 dX3_has_9 rfl ⟨fun c2 => ?_, fun c2 => (?_ : Go _ _ 12 _ _ _ _)⟩
    · have h := h.1 c2
      refine Go.iconst dX3_has_22 k_ic_0 (?_ : Go _ _ 23 _ _ _ _)
      exact Go.zret rfl rfl dX3_has_23 ⟨_, rfl, h⟩
    · have h := h.2 c2
      refine Go.iload_n 1 dX3_has_12 rfl rfl (?_ : Go _ _ 13 _ _ _ _)
      refine Go.bipush dX3_has_13 k_bi_6 (?_ : Go _ _ 15 _ _ _ _)
      refine Go.icmp_ge 22 dX3_has_15 rfl ⟨fun c3 => ?_, fun c3 => (?_ : Go _ _ 18 _ _ _ _)⟩
      · have h := h.1 c3
        refine Go.iconst dX3_has_22 k_ic_0 (?_ : Go _ _ 23 _ _ _ _)
        exact Go.zret rfl rfl dX3_has_23 ⟨_, rfl, h⟩
      · have h := h.2 c3
        refine Go.iconst dX3_has_18 k_ic_1 (?_ : Go _ _ 19 _ _ _ _)
        refine Go.goto 23 dX3_has_19 rfl ?_
        exact Go.zret rfl rfl dX3_has_23 ⟨_, rfl, h⟩
theorem cgX3_has {d : Nat} {σ : St} {x1 : Int32} {K : Int32 → St → Prop} {a : Nat} (h_a : isSc a) (h : (x1 < 0 → K 0 σ) ∧ (¬ x1 < 0 → ((sF σ a 5) ≤ x1 → K 0 σ) ∧ (¬ (sF σ a 5) ≤ x1 → (6 ≤ x1 → K 0 σ) ∧ (¬ 6 ≤ x1 → K 1 σ)))) : CallI (d + 1) mX3_has [.ref a, .int x1] σ K := Call_of_Go (by decide +kernel) (ls := [.ref a, .int x1]) rfl (Nat.le_of_ble_eq_true rfl) (sgX3_has_0 h_a h)
set_option maxHeartbeats 4000000 in
set_option maxRecDepth 100000 in
theorem sgX3_hasTurn_0 {d : Nat} {σ : St} {x1 : Int32} {K : Int32 → St → Prop} {a : Nat} (h_a : isSc a) (h : (x1 < 0 → K 0 σ) ∧ (¬ x1 < 0 → ((sF σ a 6) ≤ x1 → K 0 σ) ∧ (¬ (sF σ a 6) ≤ x1 → (4 ≤ x1 → K 0 σ) ∧ (¬ 4 ≤ x1 → K 1 σ)))) : Go mX3_hasTurn (d + 1) 0 [.ref a, .int x1] [] σ (QI K) := by
  refine Go.iload_n 1 dX3_hasTurn_0 rfl rfl (?_ : Go _ _ 1 _ _ _ _)
  refine Go.if_lt 21 dX3_hasTurn_1 rfl ⟨fun c1 => ?_, fun c1 => (?_ : Go _ _ 4 _ _ _ _)⟩
  · have h := h.1 c1
    refine Go.iconst dX3_hasTurn_21 k_ic_0 (?_ : Go _ _ 22 _ _ _ _)
    exact Go.zret rfl rfl dX3_hasTurn_22 ⟨_, rfl, h⟩
  · have h := h.2 c1
    refine Go.iload_n 1 dX3_hasTurn_4 rfl rfl (?_ : Go _ _ 5 _ _ _ _)
    refine Go.aload_n 0 dX3_hasTurn_5 rfl rfl (?_ : Go _ _ 6 _ _ _ _)
    refine Go.getI fk_X3_32 (sc_0 h_a) (scr_6 h_a) dX3_hasTurn_6 (?_ : Go _ _ 9 _ _ _ _)
    refine Go.icmp_ge 21 dX3_hasTurn_9 rfl ⟨fun c2 => ?_, fun c2 => (?_ : Go _ _ 12 _ _ _ _)⟩
    · have h := h.1 c2
      refine Go.iconst dX3_hasTurn_21 k_ic_0 (?_ : Go _ _ 22 _ _ _ _)
      exact Go.zret rfl rfl dX3_hasTurn_22 ⟨_, rfl, h⟩
    · have h := h.2 c2
      refine Go.iload_n 1 dX3_hasTurn_12 rfl rfl (?_ : Go _ _ 13 _ _ _ _)
      refine Go.iconst dX3_hasTurn_13 k_ic_4 (?_ : Go _ _ 14 _ _ _ _)
      refine Go.icmp_ge 21 dX3_hasTurn_14 rfl ⟨fun c3 => ?_, fun c3 => (?_ : Go _ _ 17 _ _ _ _)⟩
      · have h := h.1 c3
        refine Go.iconst dX3_hasTurn_21 k_ic_0 (?_ : Go _ _ 22 _ _ _ _)
        exact Go.zret rfl rfl dX3_hasTurn_22 ⟨_, rfl, h⟩
      · have h := h.2 c3
        refine Go.iconst dX3_hasTurn_17 k_ic_1 (?_ : Go _ _ 18 _ _ _ _)
        refine Go.goto 22 dX3_hasTurn_18 rfl ?_
        exact Go.zret rfl rfl dX3_hasTurn_22 ⟨_, rfl, h⟩
theorem cgX3_hasTurn {d : Nat} {σ : St} {x1 : Int32} {K : Int32 → St → Prop} {a : Nat} (h_a : isSc a) (h : (x1 < 0 → K 0 σ) ∧ (¬ x1 < 0 → ((sF σ a 6) ≤ x1 → K 0 σ) ∧ (¬ (sF σ a 6) ≤ x1 → (4 ≤ x1 → K 0 σ) ∧ (¬ 4 ≤ x1 → K 1 σ)))) : CallI (d + 1) mX3_hasTurn [.ref a, .int x1] σ K := Call_of_Go (by decide +kernel) (ls := [.ref a, .int x1]) rfl (Nat.le_of_ble_eq_true rfl) (sgX3_hasTurn_0 h_a h)
set_option maxHeartbeats 4000000 in
set_option maxRecDepth 100000 in
theorem sgX3_distanceOf_0 {d : Nat} {σ : St} {x1 : Int32} {K : Int32 → St → Prop} {a : Nat} (h_a : isSc a) (h : CallI d mX3_has [.ref a, .int x1] σ (fun r2 s1 => (r2 = 0 → K 0 s1) ∧ (¬ r2 = 0 → vp_in x1 6 ∧ K (sA s1 (a + 1) (ix x1)) s1))) : Go mX3_distanceOf (d + 1) 0 [.ref a, .int x1] [] σ (QI K) := by
  refine Go.aload_n 0 dX3_distanceOf_0 rfl rfl (?_ : Go _ _ 1 _ _ _ _)
  refine Go.iload_n 1 dX3_distanceOf_1 rfl rfl (?_ : Go _ _ 2 _ _ _ _)
  refine Go.callV (as := [.int x1]) (st := []) mk_X3_has wl_X3_47 (sc_0 h_a) rfl rfl (Nat.le_of_ble_eq_true rfl) dX3_distanceOf_2 h ?_
  rintro _ s1 ⟨r2, rfl, h⟩
  show Go _ _ 5 _ [.int r2] _ _
  refine Go.if_eq 17 dX3_distanceOf_5 rfl ⟨fun c3 => ?_, fun c3 => (?_ : Go _ _ 8 _ _ _ _)⟩
  · have h := h.1 c3
    refine Go.iconst dX3_distanceOf_17 k_ic_0 (?_ : Go _ _ 18 _ _ _ _)
    exact Go.iret rfl dX3_distanceOf_18 ⟨_, rfl, h⟩
  · have h := h.2 c3
    refine Go.aload_n 0 dX3_distanceOf_8 rfl rfl (?_ : Go _ _ 9 _ _ _ _)
    refine Go.getR fk_X3_9 (sc_0 h_a) (scr_0 h_a) dX3_distanceOf_9 (?_ : Go _ _ 12 _ _ _ _)
    refine Go.iload_n 1 dX3_distanceOf_12 rfl rfl (?_ : Go _ _ 13 _ _ _ _)
    refine Go.iald (sc_1 h_a) dX3_distanceOf_13 ⟨h.1, (?_ : Go _ _ 14 _ _ _ _)⟩
    have h := h.2
    refine Go.goto 18 dX3_distanceOf_14 rfl ?_
    exact Go.iret rfl dX3_distanceOf_18 ⟨_, rfl, h⟩
theorem cgX3_distanceOf {d : Nat} {σ : St} {x1 : Int32} {K : Int32 → St → Prop} {a : Nat} (h_a : isSc a) (h : CallI d mX3_has [.ref a, .int x1] σ (fun r2 s1 => (r2 = 0 → K 0 s1) ∧ (¬ r2 = 0 → vp_in x1 6 ∧ K (sA s1 (a + 1) (ix x1)) s1))) : CallI (d + 1) mX3_distanceOf [.ref a, .int x1] σ K := Call_of_Go (by decide +kernel) (ls := [.ref a, .int x1]) rfl (Nat.le_of_ble_eq_true rfl) (sgX3_distanceOf_0 h_a h)
set_option maxHeartbeats 4000000 in
set_option maxRecDepth 100000 in
theorem sgX3_strengthOf_0 {d : Nat} {σ : St} {x1 : Int32} {K : Int32 → St → Prop} {a : Nat} (h_a : isSc a) (h : CallI d mX3_has [.ref a, .int x1] σ (fun r2 s1 => (r2 = 0 → K 0 s1) ∧ (¬ r2 = 0 → vp_in x1 6 ∧ K (sA s1 (a + 2) (ix x1)) s1))) : Go mX3_strengthOf (d + 1) 0 [.ref a, .int x1] [] σ (QI K) := by
  refine Go.aload_n 0 dX3_strengthOf_0 rfl rfl (?_ : Go _ _ 1 _ _ _ _)
  refine Go.iload_n 1 dX3_strengthOf_1 rfl rfl (?_ : Go _ _ 2 _ _ _ _)
  refine Go.callV (as := [.int x1]) (st := []) mk_X3_has wl_X3_47 (sc_0 h_a) rfl rfl (Nat.le_of_ble_eq_true rfl) dX3_strengthOf_2 h ?_
  rintro _ s1 ⟨r2, rfl, h⟩
  show Go _ _ 5 _ [.int r2] _ _
  refine Go.if_eq 17 dX3_strengthOf_5 rfl ⟨fun c3 => ?_, fun c3 => (?_ : Go _ _ 8 _ _ _ _)⟩
  · have h := h.1 c3
    refine Go.iconst dX3_strengthOf_17 k_ic_0 (?_ : Go _ _ 18 _ _ _ _)
    exact Go.iret rfl dX3_strengthOf_18 ⟨_, rfl, h⟩
  · have h := h.2 c3
    refine Go.aload_n 0 dX3_strengthOf_8 rfl rfl (?_ : Go _ _ 9 _ _ _ _)
    refine Go.getR fk_X3_15 (sc_0 h_a) (scr_1 h_a) dX3_strengthOf_9 (?_ : Go _ _ 12 _ _ _ _)
    refine Go.iload_n 1 dX3_strengthOf_12 rfl rfl (?_ : Go _ _ 13 _ _ _ _)
    refine Go.iald (sc_2 h_a) dX3_strengthOf_13 ⟨h.1, (?_ : Go _ _ 14 _ _ _ _)⟩
    have h := h.2
    refine Go.goto 18 dX3_strengthOf_14 rfl ?_
    exact Go.iret rfl dX3_strengthOf_18 ⟨_, rfl, h⟩
theorem cgX3_strengthOf {d : Nat} {σ : St} {x1 : Int32} {K : Int32 → St → Prop} {a : Nat} (h_a : isSc a) (h : CallI d mX3_has [.ref a, .int x1] σ (fun r2 s1 => (r2 = 0 → K 0 s1) ∧ (¬ r2 = 0 → vp_in x1 6 ∧ K (sA s1 (a + 2) (ix x1)) s1))) : CallI (d + 1) mX3_strengthOf [.ref a, .int x1] σ K := Call_of_Go (by decide +kernel) (ls := [.ref a, .int x1]) rfl (Nat.le_of_ble_eq_true rfl) (sgX3_strengthOf_0 h_a h)
set_option maxHeartbeats 4000000 in
set_option maxRecDepth 100000 in
theorem sgX3_movementOf_0 {d : Nat} {σ : St} {x1 : Int32} {K : Int32 → St → Prop} {a : Nat} (h_a : isSc a) (h : CallI d mX3_has [.ref a, .int x1] σ (fun r2 s1 => (r2 = 0 → K 0 s1) ∧ (¬ r2 = 0 → vp_in x1 6 ∧ K (sA s1 (a + 3) (ix x1)) s1))) : Go mX3_movementOf (d + 1) 0 [.ref a, .int x1] [] σ (QI K) := by
  refine Go.aload_n 0 dX3_movementOf_0 rfl rfl (?_ : Go _ _ 1 _ _ _ _)
  refine Go.iload_n 1 dX3_movementOf_1 rfl rfl (?_ : Go _ _ 2 _ _ _ _)
  refine Go.callV (as := [.int x1]) (st := []) mk_X3_has wl_X3_47 (sc_0 h_a) rfl rfl (Nat.le_of_ble_eq_true rfl) dX3_movementOf_2 h ?_
  rintro _ s1 ⟨r2, rfl, h⟩
  show Go _ _ 5 _ [.int r2] _ _
  refine Go.if_eq 17 dX3_movementOf_5 rfl ⟨fun c3 => ?_, fun c3 => (?_ : Go _ _ 8 _ _ _ _)⟩
  · have h := h.1 c3
    refine Go.iconst dX3_movementOf_17 k_ic_0 (?_ : Go _ _ 18 _ _ _ _)
    exact Go.iret rfl dX3_movementOf_18 ⟨_, rfl, h⟩
  · have h := h.2 c3
    refine Go.aload_n 0 dX3_movementOf_8 rfl rfl (?_ : Go _ _ 9 _ _ _ _)
    refine Go.getR fk_X3_18 (sc_0 h_a) (scr_2 h_a) dX3_movementOf_9 (?_ : Go _ _ 12 _ _ _ _)
    refine Go.iload_n 1 dX3_movementOf_12 rfl rfl (?_ : Go _ _ 13 _ _ _ _)
    refine Go.iald (sc_3 h_a) dX3_movementOf_13 ⟨h.1, (?_ : Go _ _ 14 _ _ _ _)⟩
    have h := h.2
    refine Go.goto 18 dX3_movementOf_14 rfl ?_
    exact Go.iret rfl dX3_movementOf_18 ⟨_, rfl, h⟩
theorem cgX3_movementOf {d : Nat} {σ : St} {x1 : Int32} {K : Int32 → St → Prop} {a : Nat} (h_a : isSc a) (h : CallI d mX3_has [.ref a, .int x1] σ (fun r2 s1 => (r2 = 0 → K 0 s1) ∧ (¬ r2 = 0 → vp_in x1 6 ∧ K (sA s1 (a + 3) (ix x1)) s1))) : CallI (d + 1) mX3_movementOf [.ref a, .int x1] σ K := Call_of_Go (by decide +kernel) (ls := [.ref a, .int x1]) rfl (Nat.le_of_ble_eq_true rfl) (sgX3_movementOf_0 h_a h)
set_option maxHeartbeats 4000000 in
set_option maxRecDepth 100000 in
theorem sgX3_isWall_0 {d : Nat} {σ : St} {x1 : Int32} {K : Int32 → St → Prop} {a : Nat} (h_a : isSc a) (h : CallI d mX3_has [.ref a, .int x1] σ (fun r2 s1 => (r2 = 0 → K 0 s1) ∧ (¬ r2 = 0 → vp_in x1 6 ∧ ((sA s1 (a + 4) (ix x1)) = 0 → K 0 s1) ∧ (¬ (sA s1 (a + 4) (ix x1)) = 0 → K 1 s1)))) : Go mX3_isWall (d + 1) 0 [.ref a, .int x1] [] σ (QI K) := by
  refine Go.aload_n 0 dX3_isWall_0 rfl rfl (?_ : Go _ _ 1 _ _ _ _)
  refine Go.iload_n 1 dX3_isWall_1 rfl rfl (?_ : Go _ _ 2 _ _ _ _)
  refine Go.callV (as := [.int x1]) (st := []) mk_X3_has wl_X3_47 (sc_0 h_a) rfl rfl (Nat.le_of_ble_eq_true rfl) dX3_isWall_2 h ?_
  rintro _ s1 ⟨r2, rfl, h⟩
  show Go _ _ 5 _ [.int r2] _ _
  refine Go.if_eq 21 dX3_isWall_5 rfl ⟨fun c3 => ?_, fun c3 => (?_ : Go _ _ 8 _ _ _ _)⟩
  · have h := h.1 c3
    refine Go.iconst dX3_isWall_21 k_ic_0 (?_ : Go _ _ 22 _ _ _ _)
    exact Go.zret rfl rfl dX3_isWall_22 ⟨_, rfl, h⟩
  · have h := h.2 c3
    refine Go.aload_n 0 dX3_isWall_8 rfl rfl (?_ : Go _ _ 9 _ _ _ _)
    refine Go.getR fk_X3_21 (sc_0 h_a) (scr_3 h_a) dX3_isWall_9 (?_ : Go _ _ 12 _ _ _ _)
    refine Go.iload_n 1 dX3_isWall_12 rfl rfl (?_ : Go _ _ 13 _ _ _ _)
    refine Go.zald (sc_4 h_a) dX3_isWall_13 ⟨h.1, (?_ : Go _ _ 14 _ _ _ _)⟩
    have h := h.2
    refine Go.if_eq 21 dX3_isWall_14 rfl ⟨fun c4 => ?_, fun c4 => (?_ : Go _ _ 17 _ _ _ _)⟩
    · have h := h.1 c4
      refine Go.iconst dX3_isWall_21 k_ic_0 (?_ : Go _ _ 22 _ _ _ _)
      exact Go.zret rfl rfl dX3_isWall_22 ⟨_, rfl, h⟩
    · have h := h.2 c4
      refine Go.iconst dX3_isWall_17 k_ic_1 (?_ : Go _ _ 18 _ _ _ _)
      refine Go.goto 22 dX3_isWall_18 rfl ?_
      exact Go.zret rfl rfl dX3_isWall_22 ⟨_, rfl, h⟩
theorem cgX3_isWall {d : Nat} {σ : St} {x1 : Int32} {K : Int32 → St → Prop} {a : Nat} (h_a : isSc a) (h : CallI d mX3_has [.ref a, .int x1] σ (fun r2 s1 => (r2 = 0 → K 0 s1) ∧ (¬ r2 = 0 → vp_in x1 6 ∧ ((sA s1 (a + 4) (ix x1)) = 0 → K 0 s1) ∧ (¬ (sA s1 (a + 4) (ix x1)) = 0 → K 1 s1)))) : CallI (d + 1) mX3_isWall [.ref a, .int x1] σ K := Call_of_Go (by decide +kernel) (ls := [.ref a, .int x1]) rfl (Nat.le_of_ble_eq_true rfl) (sgX3_isWall_0 h_a h)
set_option maxHeartbeats 4000000 in
set_option maxRecDepth 100000 in
theorem sgX3_spacingOf_0 {d : Nat} {σ : St} {x1 : Int32} {K : Int32 → St → Prop} {a : Nat} (h_a : isSc a) (h : CallI d mX3_hasTurn [.ref a, .int x1] σ (fun r2 s1 => (r2 = 0 → K 0 s1) ∧ (¬ r2 = 0 → vp_in x1 4 ∧ K (sA s1 (a + 5) (ix x1)) s1))) : Go mX3_spacingOf (d + 1) 0 [.ref a, .int x1] [] σ (QI K) := by
  refine Go.aload_n 0 dX3_spacingOf_0 rfl rfl (?_ : Go _ _ 1 _ _ _ _)
  refine Go.iload_n 1 dX3_spacingOf_1 rfl rfl (?_ : Go _ _ 2 _ _ _ _)
  refine Go.callV (as := [.int x1]) (st := []) mk_X3_hasTurn wl_X3_51 (sc_0 h_a) rfl rfl (Nat.le_of_ble_eq_true rfl) dX3_spacingOf_2 h ?_
  rintro _ s1 ⟨r2, rfl, h⟩
  show Go _ _ 5 _ [.int r2] _ _
  refine Go.if_eq 17 dX3_spacingOf_5 rfl ⟨fun c3 => ?_, fun c3 => (?_ : Go _ _ 8 _ _ _ _)⟩
  · have h := h.1 c3
    refine Go.iconst dX3_spacingOf_17 k_ic_0 (?_ : Go _ _ 18 _ _ _ _)
    exact Go.iret rfl dX3_spacingOf_18 ⟨_, rfl, h⟩
  · have h := h.2 c3
    refine Go.aload_n 0 dX3_spacingOf_8 rfl rfl (?_ : Go _ _ 9 _ _ _ _)
    refine Go.getR fk_X3_25 (sc_0 h_a) (scr_4 h_a) dX3_spacingOf_9 (?_ : Go _ _ 12 _ _ _ _)
    refine Go.iload_n 1 dX3_spacingOf_12 rfl rfl (?_ : Go _ _ 13 _ _ _ _)
    refine Go.iald (sc_5 h_a) dX3_spacingOf_13 ⟨h.1, (?_ : Go _ _ 14 _ _ _ _)⟩
    have h := h.2
    refine Go.goto 18 dX3_spacingOf_14 rfl ?_
    exact Go.iret rfl dX3_spacingOf_18 ⟨_, rfl, h⟩
theorem cgX3_spacingOf {d : Nat} {σ : St} {x1 : Int32} {K : Int32 → St → Prop} {a : Nat} (h_a : isSc a) (h : CallI d mX3_hasTurn [.ref a, .int x1] σ (fun r2 s1 => (r2 = 0 → K 0 s1) ∧ (¬ r2 = 0 → vp_in x1 4 ∧ K (sA s1 (a + 5) (ix x1)) s1))) : CallI (d + 1) mX3_spacingOf [.ref a, .int x1] σ K := Call_of_Go (by decide +kernel) (ls := [.ref a, .int x1]) rfl (Nat.le_of_ble_eq_true rfl) (sgX3_spacingOf_0 h_a h)
set_option maxHeartbeats 4000000 in
set_option maxRecDepth 100000 in
theorem sgX3_wallCount_0 {d : Nat} {σ : St} {K : Int32 → St → Prop} {a : Nat} (h_a : isSc a) (h : Go mX3_wallCount (d + 1) 4 [.ref a, .int 0, .int 0] [] σ (QI K)) : Go mX3_wallCount (d + 1) 0 [.ref a, .null, .null] [] σ (QI K) := by
  refine Go.iconst dX3_wallCount_0 k_ic_0 (?_ : Go _ _ 1 _ _ _ _)
  refine Go.istore_n 1 dX3_wallCount_1 rfl (by decide) rfl rfl (?_ : Go _ _ 2 [.ref a, .int 0, .null] _ _ _)
  refine Go.iconst dX3_wallCount_2 k_ic_0 (?_ : Go _ _ 3 _ _ _ _)
  refine Go.istore_n 2 dX3_wallCount_3 rfl (by decide) rfl rfl (?_ : Go _ _ 4 [.ref a, .int 0, .int 0] _ _ _)
  exact h
theorem cgX3_wallCount {d : Nat} {σ : St} {K : Int32 → St → Prop} {a : Nat} (h_a : isSc a) (h : Go mX3_wallCount (d + 1) 4 [.ref a, .int 0, .int 0] [] σ (QI K)) : CallI (d + 1) mX3_wallCount [.ref a] σ K := Call_of_Go (by decide +kernel) (ls := [.ref a, .null, .null]) rfl (Nat.le_of_ble_eq_true rfl) (sgX3_wallCount_0 h_a h)
set_option maxHeartbeats 4000000 in
set_option maxRecDepth 100000 in
theorem sgX3_wallCount_4 {d : Nat} {σ : St} {v1 : Int32} {v2 : Int32} {K : Int32 → St → Prop} {a : Nat} (h_a : isSc a) (h : ((sF σ a 5) ≤ v2 → K v1 σ) ∧ (¬ (sF σ a 5) ≤ v2 → CallI d mX3_isWall [.ref a, .int v2] σ (fun r3 s2 => (r3 = 0 → Go mX3_wallCount (d + 1) 4 [.ref a, .int (v1 + 0), .int (v2 + 1)] [] s2 (QI K)) ∧ (¬ r3 = 0 → Go mX3_wallCount (d + 1) 4 [.ref a, .int (v1 + 1), .int (v2 + 1)] [] s2 (QI K))))) : Go mX3_wallCount (d + 1) 4 [.ref a, .int v1, .int v2] [] σ (QI K) := by
  refine Go.iload_n 2 dX3_wallCount_4 rfl rfl (?_ : Go _ _ 5 _ _ _ _)
  refine Go.aload_n 0 dX3_wallCount_5 rfl rfl (?_ : Go _ _ 6 _ _ _ _)
  refine Go.getI fk_X3_28 (sc_0 h_a) (scr_5 h_a) dX3_wallCount_6 (?_ : Go _ _ 9 _ _ _ _)
  refine Go.icmp_ge 34 dX3_wallCount_9 rfl ⟨fun c1 => ?_, fun c1 => (?_ : Go _ _ 12 _ _ _ _)⟩
  · have h := h.1 c1
    refine Go.iload_n 1 dX3_wallCount_34 rfl rfl (?_ : Go _ _ 35 _ _ _ _)
    exact Go.iret rfl dX3_wallCount_35 ⟨_, rfl, h⟩
  · have h := h.2 c1
    refine Go.iload_n 1 dX3_wallCount_12 rfl rfl (?_ : Go _ _ 13 _ _ _ _)
    refine Go.aload_n 0 dX3_wallCount_13 rfl rfl (?_ : Go _ _ 14 _ _ _ _)
    refine Go.iload_n 2 dX3_wallCount_14 rfl rfl (?_ : Go _ _ 15 _ _ _ _)
    refine Go.callV (as := [.int v2]) (st := [.int v1]) mk_X3_isWall wl_X3_54 (sc_0 h_a) rfl rfl (Nat.le_of_ble_eq_true rfl) dX3_wallCount_15 h ?_
    rintro _ s2 ⟨r3, rfl, h⟩
    show Go _ _ 18 _ [.int r3, .int v1] _ _
    refine Go.if_eq 25 dX3_wallCount_18 rfl ⟨fun c4 => ?_, fun c4 => (?_ : Go _ _ 21 _ _ _ _)⟩
    · have h := h.1 c4
      refine Go.iconst dX3_wallCount_25 k_ic_0 (?_ : Go _ _ 26 _ _ _ _)
      refine Go.iadd dX3_wallCount_26 (?_ : Go _ _ 27 _ _ _ _)
      refine Go.istore_n 1 dX3_wallCount_27 rfl (by decide) rfl rfl (?_ : Go _ _ 28 [.ref a, .int (v1 + 0), .int v2] _ _ _)
      refine Go.iinc dX3_wallCount_28 rfl (congrArg (fun z => v2 + z) k_ic_1) (by decide) rfl rfl (?_ : Go _ _ 31 [.ref a, .int (v1 + 0), .int (v2 + 1)] _ _ _)
      refine Go.goto 4 dX3_wallCount_31 rfl ?_
      exact h
    · have h := h.2 c4
      refine Go.iconst dX3_wallCount_21 k_ic_1 (?_ : Go _ _ 22 _ _ _ _)
      refine Go.goto 26 dX3_wallCount_22 rfl ?_
      refine Go.iadd dX3_wallCount_26 (?_ : Go _ _ 27 _ _ _ _)
      refine Go.istore_n 1 dX3_wallCount_27 rfl (by decide) rfl rfl (?_ : Go _ _ 28 [.ref a, .int (v1 + 1), .int v2] _ _ _)
      refine Go.iinc dX3_wallCount_28 rfl (congrArg (fun z => v2 + z) k_ic_1) (by decide) rfl rfl (?_ : Go _ _ 31 [.ref a, .int (v1 + 1), .int (v2 + 1)] _ _ _)
      refine Go.goto 4 dX3_wallCount_31 rfl ?_
      exact h
set_option maxHeartbeats 4000000 in
set_option maxRecDepth 100000 in
theorem sgX3_holds_0 {d : Nat} {σ : St} {x1 : Int32} {x2 : Int32} {K : Int32 → St → Prop} {a : Nat} (h_a : isSc a) (h : Go mX3_holds (d + 1) 2 [.ref a, .int x1, .int x2, .int 0] [] σ (QI K)) : Go mX3_holds (d + 1) 0 [.ref a, .int x1, .int x2, .null] [] σ (QI K) := by
  refine Go.iconst dX3_holds_0 k_ic_0 (?_ : Go _ _ 1 _ _ _ _)
  refine Go.istore_n 3 dX3_holds_1 rfl (by decide) rfl rfl (?_ : Go _ _ 2 [.ref a, .int x1, .int x2, .int 0] _ _ _)
  exact h
theorem cgX3_holds {d : Nat} {σ : St} {x1 : Int32} {x2 : Int32} {K : Int32 → St → Prop} {a : Nat} (h_a : isSc a) (h : Go mX3_holds (d + 1) 2 [.ref a, .int x1, .int x2, .int 0] [] σ (QI K)) : CallI (d + 1) mX3_holds [.ref a, .int x1, .int x2] σ K := Call_of_Go (by decide +kernel) (ls := [.ref a, .int x1, .int x2, .null]) rfl (Nat.le_of_ble_eq_true rfl) (sgX3_holds_0 h_a h)
set_option maxHeartbeats 4000000 in
set_option maxRecDepth 100000 in
theorem sgX3_holds_2 {d : Nat} {σ : St} {v1 : Int32} {v2 : Int32} {v3 : Int32} {K : Int32 → St → Prop} {a : Nat} (h_a : isSc a) (h : ((sF σ a 5) ≤ v3 → K 0 σ) ∧ (¬ (sF σ a 5) ≤ v3 → CallI d mX3_distanceOf [.ref a, .int v3] σ (fun r3 s2 => (¬ r3 = v1 → Go mX3_holds (d + 1) 2 [.ref a, .int v1, .int v2, .int (v3 + 1)] [] s2 (QI K)) ∧ (r3 = v1 → CallI d mX3_movementOf [.ref a, .int v3] s2 (fun r6 s5 => (¬ r6 = v2 → Go mX3_holds (d + 1) 2 [.ref a, .int v1, .int v2, .int (v3 + 1)] [] s5 (QI K)) ∧ (r6 = v2 → K 1 s5)))))) : Go mX3_holds (d + 1) 2 [.ref a, .int v1, .int v2, .int v3] [] σ (QI K) := by
  refine Go.iload_n 3 dX3_holds_2 rfl rfl (?_ : Go _ _ 3 _ _ _ _)
  refine Go.aload_n 0 dX3_holds_3 rfl rfl (?_ : Go _ _ 4 _ _ _ _)
  refine Go.getI fk_X3_28 (sc_0 h_a) (scr_5 h_a) dX3_holds_4 (?_ : Go _ _ 7 _ _ _ _)
  refine Go.icmp_ge 36 dX3_holds_7 rfl ⟨fun c1 => ?_, fun c1 => (?_ : Go _ _ 10 _ _ _ _)⟩
  · have h := h.1 c1
    refine Go.iconst dX3_holds_36 k_ic_0 (?_ : Go _ _ 37 _ _ _ _)
    exact Go.zret rfl rfl dX3_holds_37 ⟨_, rfl, h⟩
  · have h := h.2 c1
    refine Go.aload_n 0 dX3_holds_10 rfl rfl (?_ : Go _ _ 11 _ _ _ _)
    refine Go.iload_n 3 dX3_holds_11 rfl rfl (?_ : Go _ _ 12 _ _ _ _)
    refine Go.callV (as := [.int v3]) (st := []) mk_X3_distanceOf wl_X3_57 (sc_0 h_a) rfl rfl (Nat.le_of_ble_eq_true rfl) dX3_holds_12 h ?_
    rintro _ s2 ⟨r3, rfl, h⟩
    show Go _ _ 15 _ [.int r3] _ _
    refine Go.iload_n 1 dX3_holds_15 rfl rfl (?_ : Go _ _ 16 _ _ _ _)
    refine Go.icmp_ne 30 dX3_holds_16 rfl ⟨fun c4 => ?_, fun c4 => (?_ : Go _ _ 19 _ _ _ _)⟩
    · have h := h.1 c4
      refine Go.iinc dX3_holds_30 rfl (congrArg (fun z => v3 + z) k_ic_1) (by decide) rfl rfl (?_ : Go _ _ 33 [.ref a, .int v1, .int v2, .int (v3 + 1)] _ _ _)
      refine Go.goto 2 dX3_holds_33 rfl ?_
      exact h
    · have h := h.2 c4
      refine Go.aload_n 0 dX3_holds_19 rfl rfl (?_ : Go _ _ 20 _ _ _ _)
      refine Go.iload_n 3 dX3_holds_20 rfl rfl (?_ : Go _ _ 21 _ _ _ _)
      refine Go.callV (as := [.int v3]) (st := []) mk_X3_movementOf wl_X3_61 (sc_0 h_a) rfl rfl (Nat.le_of_ble_eq_true rfl) dX3_holds_21 h ?_
      rintro _ s5 ⟨r6, rfl, h⟩
      show Go _ _ 24 _ [.int r6] _ _
      refine Go.iload_n 2 dX3_holds_24 rfl rfl (?_ : Go _ _ 25 _ _ _ _)
      refine Go.icmp_ne 30 dX3_holds_25 rfl ⟨fun c7 => ?_, fun c7 => (?_ : Go _ _ 28 _ _ _ _)⟩
      · have h := h.1 c7
        refine Go.iinc dX3_holds_30 rfl (congrArg (fun z => v3 + z) k_ic_1) (by decide) rfl rfl (?_ : Go _ _ 33 [.ref a, .int v1, .int v2, .int (v3 + 1)] _ _ _)
        refine Go.goto 2 dX3_holds_33 rfl ?_
        exact h
      · have h := h.2 c7
        refine Go.iconst dX3_holds_28 k_ic_1 (?_ : Go _ _ 29 _ _ _ _)
        exact Go.zret rfl rfl dX3_holds_29 ⟨_, rfl, h⟩
set_option maxHeartbeats 4000000 in
set_option maxRecDepth 100000 in
theorem sgX3_join_0 {d : Nat} {σ : St} {x1 : Int32} {x2 : Int32} {x3 : Int32} {x4 : Int32} {K : Int32 → St → Prop} {a : Nat} (h_a : isSc a) (h : ((sF σ a 5) < 6 → ∀ s2, s2 = setF σ a 5 ((sF σ a 5) + 1) → CallU d mX3_put [.ref a, .int ((sF s2 a 5) - 1), .int x1, .int x2, .int x3, .int x4] s2 (fun s3 => K ((sF s3 a 5) - 1) s3)) ∧ (¬ (sF σ a 5) < 6 → K (-3) σ)) : Go mX3_join (d + 1) 0 [.ref a, .int x1, .int x2, .int x3, .int x4] [] σ (QI K) := by
  refine Go.aload_n 0 dX3_join_0 rfl rfl (?_ : Go _ _ 1 _ _ _ _)
  refine Go.getI fk_X3_28 (sc_0 h_a) (scr_5 h_a) dX3_join_1 (?_ : Go _ _ 4 _ _ _ _)
  refine Go.bipush dX3_join_4 k_bi_6 (?_ : Go _ _ 6 _ _ _ _)
  refine Go.icmp_lt 12 dX3_join_6 rfl ⟨fun c1 => ?_, fun c1 => (?_ : Go _ _ 9 _ _ _ _)⟩
  · have h := h.1 c1
    refine Go.aload_n 0 dX3_join_12 rfl rfl (?_ : Go _ _ 13 _ _ _ _)
    refine Go.dup dX3_join_13 rfl (?_ : Go _ _ 14 _ _ _ _)
    refine Go.getI fk_X3_28 (sc_0 h_a) (scr_5 h_a) dX3_join_14 (?_ : Go _ _ 17 _ _ _ _)
    refine Go.iconst dX3_join_17 k_ic_1 (?_ : Go _ _ 18 _ _ _ _)
    refine Go.iadd dX3_join_18 (?_ : Go _ _ 19 _ _ _ _)
    refine Go.putI fp_X3_28 (sc_0 h_a) (scr_5 h_a) dX3_join_19 (?_ : Go _ _ 22 _ _ _ _)
    generalize es2 : setF σ a 5 ((sF σ a 5) + 1) = s2
    have h := h s2 es2.symm
    refine Go.aload_n 0 dX3_join_22 rfl rfl (?_ : Go _ _ 23 _ _ _ _)
    refine Go.aload_n 0 dX3_join_23 rfl rfl (?_ : Go _ _ 24 _ _ _ _)
    refine Go.getI fk_X3_28 (sc_0 h_a) (scr_5 h_a) dX3_join_24 (?_ : Go _ _ 27 _ _ _ _)
    refine Go.iconst dX3_join_27 k_ic_1 (?_ : Go _ _ 28 _ _ _ _)
    refine Go.isub dX3_join_28 (?_ : Go _ _ 29 _ _ _ _)
    refine Go.iload_n 1 dX3_join_29 rfl rfl (?_ : Go _ _ 30 _ _ _ _)
    refine Go.iload_n 2 dX3_join_30 rfl rfl (?_ : Go _ _ 31 _ _ _ _)
    refine Go.iload_n 3 dX3_join_31 rfl rfl (?_ : Go _ _ 32 _ _ _ _)
    refine Go.iload dX3_join_32 rfl (?_ : Go _ _ 34 _ _ _ _)
    refine Go.callV (as := [.int ((sF s2 a 5) - 1), .int x1, .int x2, .int x3, .int x4]) (st := []) mk_X3_put wl_X3_64 (sc_0 h_a) rfl rfl (Nat.le_of_ble_eq_true rfl) dX3_join_34 h ?_
    rintro _ s3 ⟨rfl, h⟩
    show Go _ _ 37 _ [] _ _
    refine Go.aload_n 0 dX3_join_37 rfl rfl (?_ : Go _ _ 38 _ _ _ _)
    refine Go.getI fk_X3_28 (sc_0 h_a) (scr_5 h_a) dX3_join_38 (?_ : Go _ _ 41 _ _ _ _)
    refine Go.iconst dX3_join_41 k_ic_1 (?_ : Go _ _ 42 _ _ _ _)
    refine Go.isub dX3_join_42 (?_ : Go _ _ 43 _ _ _ _)
    exact Go.iret rfl dX3_join_43 ⟨_, rfl, h⟩
  · have h := h.2 c1
    refine Go.bipush dX3_join_9 k_bi_m3 (?_ : Go _ _ 11 _ _ _ _)
    exact Go.iret rfl dX3_join_11 ⟨_, rfl, h⟩
theorem cgX3_join {d : Nat} {σ : St} {x1 : Int32} {x2 : Int32} {x3 : Int32} {x4 : Int32} {K : Int32 → St → Prop} {a : Nat} (h_a : isSc a) (h : ((sF σ a 5) < 6 → ∀ s2, s2 = setF σ a 5 ((sF σ a 5) + 1) → CallU d mX3_put [.ref a, .int ((sF s2 a 5) - 1), .int x1, .int x2, .int x3, .int x4] s2 (fun s3 => K ((sF s3 a 5) - 1) s3)) ∧ (¬ (sF σ a 5) < 6 → K (-3) σ)) : CallI (d + 1) mX3_join [.ref a, .int x1, .int x2, .int x3, .int x4] σ K := Call_of_Go (by decide +kernel) (ls := [.ref a, .int x1, .int x2, .int x3, .int x4]) rfl (Nat.le_of_ble_eq_true rfl) (sgX3_join_0 h_a h)
set_option maxHeartbeats 4000000 in
set_option maxRecDepth 100000 in
theorem sgX3_put_0 {d : Nat} {σ : St} {x1 : Int32} {x2 : Int32} {x3 : Int32} {x4 : Int32} {x5 : Int32} {K : St → Prop} {a : Nat} (h_a : isSc a) (h : CallI d mX3_has [.ref a, .int x1] σ (fun r2 s1 => (r2 = 0 → K s1) ∧ (¬ r2 = 0 → vp_in x1 6 ∧ ∀ s4, s4 = setA s1 (a + 1) (ix x1) x2 → vp_in x1 6 ∧ ∀ s5, s5 = setA s4 (a + 2) (ix x1) x3 → vp_in x1 6 ∧ ∀ s6, s6 = setA s5 (a + 3) (ix x1) x4 → vp_in x1 6 ∧ ∀ s7, s7 = setA s6 (a + 4) (ix x1) (nbo x5) → K s7))) : Go mX3_put (d + 1) 0 [.ref a, .int x1, .int x2, .int x3, .int x4, .int x5] [] σ (QU K) := by
  refine Go.aload_n 0 dX3_put_0 rfl rfl (?_ : Go _ _ 1 _ _ _ _)
  refine Go.iload_n 1 dX3_put_1 rfl rfl (?_ : Go _ _ 2 _ _ _ _)
  refine Go.callV (as := [.int x1]) (st := []) mk_X3_has wl_X3_47 (sc_0 h_a) rfl rfl (Nat.le_of_ble_eq_true rfl) dX3_put_2 h ?_
  rintro _ s1 ⟨r2, rfl, h⟩
  show Go _ _ 5 _ [.int r2] _ _
  refine Go.if_eq 38 dX3_put_5 rfl ⟨fun c3 => ?_, fun c3 => (?_ : Go _ _ 8 _ _ _ _)⟩
  · have h := h.1 c3
    exact Go.vret rfl dX3_put_38 ⟨rfl, h⟩
  · have h := h.2 c3
    refine Go.aload_n 0 dX3_put_8 rfl rfl (?_ : Go _ _ 9 _ _ _ _)
    refine Go.getR fk_X3_9 (sc_0 h_a) (scr_0 h_a) dX3_put_9 (?_ : Go _ _ 12 _ _ _ _)
    refine Go.iload_n 1 dX3_put_12 rfl rfl (?_ : Go _ _ 13 _ _ _ _)
    refine Go.iload_n 2 dX3_put_13 rfl rfl (?_ : Go _ _ 14 _ _ _ _)
    refine Go.iast (sc_1 h_a) dX3_put_14 ⟨h.1, (?_ : Go _ _ 15 _ _ _ _)⟩
    generalize es4 : setA s1 (a + 1) (ix x1) x2 = s4
    have h := h.2 s4 es4.symm
    refine Go.aload_n 0 dX3_put_15 rfl rfl (?_ : Go _ _ 16 _ _ _ _)
    refine Go.getR fk_X3_15 (sc_0 h_a) (scr_1 h_a) dX3_put_16 (?_ : Go _ _ 19 _ _ _ _)
    refine Go.iload_n 1 dX3_put_19 rfl rfl (?_ : Go _ _ 20 _ _ _ _)
    refine Go.iload_n 3 dX3_put_20 rfl rfl (?_ : Go _ _ 21 _ _ _ _)
    refine Go.iast (sc_2 h_a) dX3_put_21 ⟨h.1, (?_ : Go _ _ 22 _ _ _ _)⟩
    generalize es5 : setA s4 (a + 2) (ix x1) x3 = s5
    have h := h.2 s5 es5.symm
    refine Go.aload_n 0 dX3_put_22 rfl rfl (?_ : Go _ _ 23 _ _ _ _)
    refine Go.getR fk_X3_18 (sc_0 h_a) (scr_2 h_a) dX3_put_23 (?_ : Go _ _ 26 _ _ _ _)
    refine Go.iload_n 1 dX3_put_26 rfl rfl (?_ : Go _ _ 27 _ _ _ _)
    refine Go.iload dX3_put_27 rfl (?_ : Go _ _ 29 _ _ _ _)
    refine Go.iast (sc_3 h_a) dX3_put_29 ⟨h.1, (?_ : Go _ _ 30 _ _ _ _)⟩
    generalize es6 : setA s5 (a + 3) (ix x1) x4 = s6
    have h := h.2 s6 es6.symm
    refine Go.aload_n 0 dX3_put_30 rfl rfl (?_ : Go _ _ 31 _ _ _ _)
    refine Go.getR fk_X3_21 (sc_0 h_a) (scr_3 h_a) dX3_put_31 (?_ : Go _ _ 34 _ _ _ _)
    refine Go.iload_n 1 dX3_put_34 rfl rfl (?_ : Go _ _ 35 _ _ _ _)
    refine Go.iload dX3_put_35 rfl (?_ : Go _ _ 37 _ _ _ _)
    refine Go.zast (sc_4 h_a) dX3_put_37 ⟨h.1, (?_ : Go _ _ 38 _ _ _ _)⟩
    generalize es7 : setA s6 (a + 4) (ix x1) (nbo x5) = s7
    have h := h.2 s7 es7.symm
    exact Go.vret rfl dX3_put_38 ⟨rfl, h⟩
theorem cgX3_put {d : Nat} {σ : St} {x1 : Int32} {x2 : Int32} {x3 : Int32} {x4 : Int32} {x5 : Int32} {K : St → Prop} {a : Nat} (h_a : isSc a) (h : CallI d mX3_has [.ref a, .int x1] σ (fun r2 s1 => (r2 = 0 → K s1) ∧ (¬ r2 = 0 → vp_in x1 6 ∧ ∀ s4, s4 = setA s1 (a + 1) (ix x1) x2 → vp_in x1 6 ∧ ∀ s5, s5 = setA s4 (a + 2) (ix x1) x3 → vp_in x1 6 ∧ ∀ s6, s6 = setA s5 (a + 3) (ix x1) x4 → vp_in x1 6 ∧ ∀ s7, s7 = setA s6 (a + 4) (ix x1) (nbo x5) → K s7))) : CallU (d + 1) mX3_put [.ref a, .int x1, .int x2, .int x3, .int x4, .int x5] σ K := Call_of_Go (by decide +kernel) (ls := [.ref a, .int x1, .int x2, .int x3, .int x4, .int x5]) rfl (Nat.le_of_ble_eq_true rfl) (sgX3_put_0 h_a h)
set_option maxHeartbeats 4000000 in
set_option maxRecDepth 100000 in
theorem sgX3_putAs_0 {d : Nat} {σ : St} {x1 : Int32} {x2 : Int32} {x3 : Int32} {K : St → Prop} {a : Nat} (h_a : isSc a) (h : CallI d mX3_strengthOf [.ref a, .int x1] σ (fun r2 s1 => CallI d mX3_movementOf [.ref a, .int x1] s1 (fun r4 s3 => CallI d mX3_isWall [.ref a, .int x1] s3 (fun r6 s5 => CallU d mX3_put [.ref a, .int x2, .int x3, .int r2, .int r4, .int r6] s5 (fun s7 => K s7))))) : Go mX3_putAs (d + 1) 0 [.ref a, .int x1, .int x2, .int x3] [] σ (QU K) := by
  refine Go.aload_n 0 dX3_putAs_0 rfl rfl (?_ : Go _ _ 1 _ _ _ _)
  refine Go.iload_n 2 dX3_putAs_1 rfl rfl (?_ : Go _ _ 2 _ _ _ _)
  refine Go.iload_n 3 dX3_putAs_2 rfl rfl (?_ : Go _ _ 3 _ _ _ _)
  refine Go.aload_n 0 dX3_putAs_3 rfl rfl (?_ : Go _ _ 4 _ _ _ _)
  refine Go.iload_n 1 dX3_putAs_4 rfl rfl (?_ : Go _ _ 5 _ _ _ _)
  refine Go.callV (as := [.int x1]) (st := [.int x3, .int x2, .ref a]) mk_X3_strengthOf wl_X3_68 (sc_0 h_a) rfl rfl (Nat.le_of_ble_eq_true rfl) dX3_putAs_5 h ?_
  rintro _ s1 ⟨r2, rfl, h⟩
  show Go _ _ 8 _ [.int r2, .int x3, .int x2, .ref a] _ _
  refine Go.aload_n 0 dX3_putAs_8 rfl rfl (?_ : Go _ _ 9 _ _ _ _)
  refine Go.iload_n 1 dX3_putAs_9 rfl rfl (?_ : Go _ _ 10 _ _ _ _)
  refine Go.callV (as := [.int x1]) (st := [.int r2, .int x3, .int x2, .ref a]) mk_X3_movementOf wl_X3_61 (sc_0 h_a) rfl rfl (Nat.le_of_ble_eq_true rfl) dX3_putAs_10 h ?_
  rintro _ s3 ⟨r4, rfl, h⟩
  show Go _ _ 13 _ [.int r4, .int r2, .int x3, .int x2, .ref a] _ _
  refine Go.aload_n 0 dX3_putAs_13 rfl rfl (?_ : Go _ _ 14 _ _ _ _)
  refine Go.iload_n 1 dX3_putAs_14 rfl rfl (?_ : Go _ _ 15 _ _ _ _)
  refine Go.callV (as := [.int x1]) (st := [.int r4, .int r2, .int x3, .int x2, .ref a]) mk_X3_isWall wl_X3_54 (sc_0 h_a) rfl rfl (Nat.le_of_ble_eq_true rfl) dX3_putAs_15 h ?_
  rintro _ s5 ⟨r6, rfl, h⟩
  show Go _ _ 18 _ [.int r6, .int r4, .int r2, .int x3, .int x2, .ref a] _ _
  refine Go.callV (as := [.int x2, .int x3, .int r2, .int r4, .int r6]) (st := []) mk_X3_put wl_X3_64 (sc_0 h_a) rfl rfl (Nat.le_of_ble_eq_true rfl) dX3_putAs_18 h ?_
  rintro _ s7 ⟨rfl, h⟩
  show Go _ _ 21 _ [] _ _
  exact Go.vret rfl dX3_putAs_21 ⟨rfl, h⟩
theorem cgX3_putAs {d : Nat} {σ : St} {x1 : Int32} {x2 : Int32} {x3 : Int32} {K : St → Prop} {a : Nat} (h_a : isSc a) (h : CallI d mX3_strengthOf [.ref a, .int x1] σ (fun r2 s1 => CallI d mX3_movementOf [.ref a, .int x1] s1 (fun r4 s3 => CallI d mX3_isWall [.ref a, .int x1] s3 (fun r6 s5 => CallU d mX3_put [.ref a, .int x2, .int x3, .int r2, .int r4, .int r6] s5 (fun s7 => K s7))))) : CallU (d + 1) mX3_putAs [.ref a, .int x1, .int x2, .int x3] σ K := Call_of_Go (by decide +kernel) (ls := [.ref a, .int x1, .int x2, .int x3]) rfl (Nat.le_of_ble_eq_true rfl) (sgX3_putAs_0 h_a h)
set_option maxHeartbeats 4000000 in
set_option maxRecDepth 100000 in
theorem sgX3_leave_0 {d : Nat} {σ : St} {x1 : Int32} {K : St → Prop} {a : Nat} (h_a : isSc a) (h : CallI d mX3_has [.ref a, .int x1] σ (fun r2 s1 => (¬ r2 = 0 → Go mX3_leave (d + 1) 13 [.ref a, .int x1, .int (x1 + 1)] [] s1 (QU K)) ∧ (r2 = 0 → K s1))) : Go mX3_leave (d + 1) 0 [.ref a, .int x1, .null] [] σ (QU K) := by
  refine Go.aload_n 0 dX3_leave_0 rfl rfl (?_ : Go _ _ 1 _ _ _ _)
  refine Go.iload_n 1 dX3_leave_1 rfl rfl (?_ : Go _ _ 2 _ _ _ _)
  refine Go.callV (as := [.int x1]) (st := []) mk_X3_has wl_X3_47 (sc_0 h_a) rfl rfl (Nat.le_of_ble_eq_true rfl) dX3_leave_2 h ?_
  rintro _ s1 ⟨r2, rfl, h⟩
  show Go _ _ 5 _ [.int r2] _ _
  refine Go.if_ne 9 dX3_leave_5 rfl ⟨fun c3 => ?_, fun c3 => (?_ : Go _ _ 8 _ _ _ _)⟩
  · have h := h.1 c3
    refine Go.iload_n 1 dX3_leave_9 rfl rfl (?_ : Go _ _ 10 _ _ _ _)
    refine Go.iconst dX3_leave_10 k_ic_1 (?_ : Go _ _ 11 _ _ _ _)
    refine Go.iadd dX3_leave_11 (?_ : Go _ _ 12 _ _ _ _)
    refine Go.istore_n 2 dX3_leave_12 rfl (by decide) rfl rfl (?_ : Go _ _ 13 [.ref a, .int x1, .int (x1 + 1)] _ _ _)
    exact h
  · have h := h.2 c3
    exact Go.vret rfl dX3_leave_8 ⟨rfl, h⟩
theorem cgX3_leave {d : Nat} {σ : St} {x1 : Int32} {K : St → Prop} {a : Nat} (h_a : isSc a) (h : CallI d mX3_has [.ref a, .int x1] σ (fun r2 s1 => (¬ r2 = 0 → Go mX3_leave (d + 1) 13 [.ref a, .int x1, .int (x1 + 1)] [] s1 (QU K)) ∧ (r2 = 0 → K s1))) : CallU (d + 1) mX3_leave [.ref a, .int x1] σ K := Call_of_Go (by decide +kernel) (ls := [.ref a, .int x1, .null]) rfl (Nat.le_of_ble_eq_true rfl) (sgX3_leave_0 h_a h)
set_option maxHeartbeats 4000000 in
set_option maxRecDepth 100000 in
theorem sgX3_leave_13 {d : Nat} {σ : St} {v1 : Int32} {v2 : Int32} {K : St → Prop} {a : Nat} (h_a : isSc a) (h : ((sF σ a 5) ≤ v2 → ∀ s2, s2 = setF σ a 5 ((sF σ a 5) - 1) → K s2) ∧ (¬ (sF σ a 5) ≤ v2 → CallI d mX3_distanceOf [.ref a, .int v2] σ (fun r4 s3 => CallU d mX3_putAs [.ref a, .int v2, .int (v2 - 1), .int r4] s3 (fun s5 => Go mX3_leave (d + 1) 13 [.ref a, .int v1, .int (v2 + 1)] [] s5 (QU K))))) : Go mX3_leave (d + 1) 13 [.ref a, .int v1, .int v2] [] σ (QU K) := by
  refine Go.iload_n 2 dX3_leave_13 rfl rfl (?_ : Go _ _ 14 _ _ _ _)
  refine Go.aload_n 0 dX3_leave_14 rfl rfl (?_ : Go _ _ 15 _ _ _ _)
  refine Go.getI fk_X3_28 (sc_0 h_a) (scr_5 h_a) dX3_leave_15 (?_ : Go _ _ 18 _ _ _ _)
  refine Go.icmp_ge 40 dX3_leave_18 rfl ⟨fun c1 => ?_, fun c1 => (?_ : Go _ _ 21 _ _ _ _)⟩
  · have h := h.1 c1
    refine Go.aload_n 0 dX3_leave_40 rfl rfl (?_ : Go _ _ 41 _ _ _ _)
    refine Go.dup dX3_leave_41 rfl (?_ : Go _ _ 42 _ _ _ _)
    refine Go.getI fk_X3_28 (sc_0 h_a) (scr_5 h_a) dX3_leave_42 (?_ : Go _ _ 45 _ _ _ _)
    refine Go.iconst dX3_leave_45 k_ic_1 (?_ : Go _ _ 46 _ _ _ _)
    refine Go.isub dX3_leave_46 (?_ : Go _ _ 47 _ _ _ _)
    refine Go.putI fp_X3_28 (sc_0 h_a) (scr_5 h_a) dX3_leave_47 (?_ : Go _ _ 50 _ _ _ _)
    generalize es2 : setF σ a 5 ((sF σ a 5) - 1) = s2
    have h := h s2 es2.symm
    exact Go.vret rfl dX3_leave_50 ⟨rfl, h⟩
  · have h := h.2 c1
    refine Go.aload_n 0 dX3_leave_21 rfl rfl (?_ : Go _ _ 22 _ _ _ _)
    refine Go.iload_n 2 dX3_leave_22 rfl rfl (?_ : Go _ _ 23 _ _ _ _)
    refine Go.iload_n 2 dX3_leave_23 rfl rfl (?_ : Go _ _ 24 _ _ _ _)
    refine Go.iconst dX3_leave_24 k_ic_1 (?_ : Go _ _ 25 _ _ _ _)
    refine Go.isub dX3_leave_25 (?_ : Go _ _ 26 _ _ _ _)
    refine Go.aload_n 0 dX3_leave_26 rfl rfl (?_ : Go _ _ 27 _ _ _ _)
    refine Go.iload_n 2 dX3_leave_27 rfl rfl (?_ : Go _ _ 28 _ _ _ _)
    refine Go.callV (as := [.int v2]) (st := [.int (v2 - 1), .int v2, .ref a]) mk_X3_distanceOf wl_X3_57 (sc_0 h_a) rfl rfl (Nat.le_of_ble_eq_true rfl) dX3_leave_28 h ?_
    rintro _ s3 ⟨r4, rfl, h⟩
    show Go _ _ 31 _ [.int r4, .int (v2 - 1), .int v2, .ref a] _ _
    refine Go.callV (as := [.int v2, .int (v2 - 1), .int r4]) (st := []) mk_X3_putAs wl_X3_71 (sc_0 h_a) rfl rfl (Nat.le_of_ble_eq_true rfl) dX3_leave_31 h ?_
    rintro _ s5 ⟨rfl, h⟩
    show Go _ _ 34 _ [] _ _
    refine Go.iinc dX3_leave_34 rfl (congrArg (fun z => v2 + z) k_ic_1) (by decide) rfl rfl (?_ : Go _ _ 37 [.ref a, .int v1, .int (v2 + 1)] _ _ _)
    refine Go.goto 13 dX3_leave_37 rfl ?_
    exact h
set_option maxHeartbeats 4000000 in
set_option maxRecDepth 100000 in
theorem sgX3_moveAll_0 {d : Nat} {σ : St} {K : St → Prop} {a : Nat} (h_a : isSc a) (h : Go mX3_moveAll (d + 1) 4 [.ref a, .int 0, .int 0, .null] [] σ (QU K)) : Go mX3_moveAll (d + 1) 0 [.ref a, .null, .null, .null] [] σ (QU K) := by
  refine Go.iconst dX3_moveAll_0 k_ic_0 (?_ : Go _ _ 1 _ _ _ _)
  refine Go.istore_n 1 dX3_moveAll_1 rfl (by decide) rfl rfl (?_ : Go _ _ 2 [.ref a, .int 0, .null, .null] _ _ _)
  refine Go.iconst dX3_moveAll_2 k_ic_0 (?_ : Go _ _ 3 _ _ _ _)
  refine Go.istore_n 2 dX3_moveAll_3 rfl (by decide) rfl rfl (?_ : Go _ _ 4 [.ref a, .int 0, .int 0, .null] _ _ _)
  exact h
theorem cgX3_moveAll {d : Nat} {σ : St} {K : St → Prop} {a : Nat} (h_a : isSc a) (h : Go mX3_moveAll (d + 1) 4 [.ref a, .int 0, .int 0, .null] [] σ (QU K)) : CallU (d + 1) mX3_moveAll [.ref a] σ K := Call_of_Go (by decide +kernel) (ls := [.ref a, .null, .null, .null]) rfl (Nat.le_of_ble_eq_true rfl) (sgX3_moveAll_0 h_a h)
set_option maxHeartbeats 4000000 in
set_option maxRecDepth 100000 in
theorem sgX3_moveAll_4 {d : Nat} {σ : St} {v1 : Int32} {v2 : Int32} {K : St → Prop} {a : Nat} (h_a : isSc a) (h : ((sF σ a 5) ≤ v2 → ∀ s2, s2 = setF σ a 5 v1 → K s2) ∧ (¬ (sF σ a 5) ≤ v2 → CallI d mX3_distanceOf [.ref a, .int v2] σ (fun r4 s3 => CallI d mX3_movementOf [.ref a, .int v2] s3 (fun r6 s5 => CallI d mX5_isWithin [.int (r4 + (r6 * (sF s5 a 6))), .int 1, .int 300] s5 (fun r8 s7 => (r8 = 0 → Go mX3_moveAll (d + 1) 4 [.ref a, .int v1, .int (v2 + 1), .null] [] s7 (QU K)) ∧ (¬ r8 = 0 → CallU d mX3_putAs [.ref a, .int v2, .int v1, .int (r4 + (r6 * (sF s5 a 6)))] s7 (fun s10 => Go mX3_moveAll (d + 1) 4 [.ref a, .int (v1 + 1), .int (v2 + 1), .null] [] s10 (QU K)))))))) : Go mX3_moveAll (d + 1) 4 [.ref a, .int v1, .int v2, .null] [] σ (QU K) := by
  refine Go.iload_n 2 dX3_moveAll_4 rfl rfl (?_ : Go _ _ 5 _ _ _ _)
  refine Go.aload_n 0 dX3_moveAll_5 rfl rfl (?_ : Go _ _ 6 _ _ _ _)
  refine Go.getI fk_X3_28 (sc_0 h_a) (scr_5 h_a) dX3_moveAll_6 (?_ : Go _ _ 9 _ _ _ _)
  refine Go.icmp_ge 56 dX3_moveAll_9 rfl ⟨fun c1 => ?_, fun c1 => (?_ : Go _ _ 12 _ _ _ _)⟩
  · have h := h.1 c1
    refine Go.aload_n 0 dX3_moveAll_56 rfl rfl (?_ : Go _ _ 57 _ _ _ _)
    refine Go.iload_n 1 dX3_moveAll_57 rfl rfl (?_ : Go _ _ 58 _ _ _ _)
    refine Go.putI fp_X3_28 (sc_0 h_a) (scr_5 h_a) dX3_moveAll_58 (?_ : Go _ _ 61 _ _ _ _)
    generalize es2 : setF σ a 5 v1 = s2
    have h := h s2 es2.symm
    exact Go.vret rfl dX3_moveAll_61 ⟨rfl, h⟩
  · have h := h.2 c1
    refine Go.aload_n 0 dX3_moveAll_12 rfl rfl (?_ : Go _ _ 13 _ _ _ _)
    refine Go.iload_n 2 dX3_moveAll_13 rfl rfl (?_ : Go _ _ 14 _ _ _ _)
    refine Go.callV (as := [.int v2]) (st := []) mk_X3_distanceOf wl_X3_57 (sc_0 h_a) rfl rfl (Nat.le_of_ble_eq_true rfl) dX3_moveAll_14 h ?_
    rintro _ s3 ⟨r4, rfl, h⟩
    show Go _ _ 17 _ [.int r4] _ _
    refine Go.aload_n 0 dX3_moveAll_17 rfl rfl (?_ : Go _ _ 18 _ _ _ _)
    refine Go.iload_n 2 dX3_moveAll_18 rfl rfl (?_ : Go _ _ 19 _ _ _ _)
    refine Go.callV (as := [.int v2]) (st := [.int r4]) mk_X3_movementOf wl_X3_61 (sc_0 h_a) rfl rfl (Nat.le_of_ble_eq_true rfl) dX3_moveAll_19 h ?_
    rintro _ s5 ⟨r6, rfl, h⟩
    show Go _ _ 22 _ [.int r6, .int r4] _ _
    refine Go.aload_n 0 dX3_moveAll_22 rfl rfl (?_ : Go _ _ 23 _ _ _ _)
    refine Go.getI fk_X3_32 (sc_0 h_a) (scr_6 h_a) dX3_moveAll_23 (?_ : Go _ _ 26 _ _ _ _)
    refine Go.imul dX3_moveAll_26 (?_ : Go _ _ 27 _ _ _ _)
    refine Go.iadd dX3_moveAll_27 (?_ : Go _ _ 28 _ _ _ _)
    refine Go.istore_n 3 dX3_moveAll_28 rfl (by decide) rfl rfl (?_ : Go _ _ 29 [.ref a, .int v1, .int v2, .int (r4 + (r6 * (sF s5 a 6)))] _ _ _)
    refine Go.iload_n 3 dX3_moveAll_29 rfl rfl (?_ : Go _ _ 30 _ _ _ _)
    refine Go.iconst dX3_moveAll_30 k_ic_1 (?_ : Go _ _ 31 _ _ _ _)
    refine Go.sipush dX3_moveAll_31 k_si_300 (?_ : Go _ _ 34 _ _ _ _)
    refine Go.callSN (as := [.int (r4 + (r6 * (sF s5 a 6))), .int 1, .int 300]) (st := []) mk_X5_isWithin wn_X3_75 rfl rfl (Nat.le_of_ble_eq_true rfl) dX3_moveAll_34 h ?_
    rintro _ s7 ⟨r8, rfl, h⟩
    show Go _ _ 37 _ [.int r8] _ _
    refine Go.if_eq 50 dX3_moveAll_37 rfl ⟨fun c9 => ?_, fun c9 => (?_ : Go _ _ 40 _ _ _ _)⟩
    · have h := h.1 c9
      refine Go.iinc dX3_moveAll_50 rfl (congrArg (fun z => v2 + z) k_ic_1) (by decide) rfl rfl (?_ : Go _ _ 53 [.ref a, .int v1, .int (v2 + 1), .int (r4 + (r6 * (sF s5 a 6)))] _ _ _)
      refine Go.goto 4 dX3_moveAll_53 rfl ?_
      refine Go.drop (ls' := [.ref a, .int v1, .int (v2 + 1), .null]) 3 rfl ?_
      exact h
    · have h := h.2 c9
      refine Go.aload_n 0 dX3_moveAll_40 rfl rfl (?_ : Go _ _ 41 _ _ _ _)
      refine Go.iload_n 2 dX3_moveAll_41 rfl rfl (?_ : Go _ _ 42 _ _ _ _)
      refine Go.iload_n 1 dX3_moveAll_42 rfl rfl (?_ : Go _ _ 43 _ _ _ _)
      refine Go.iload_n 3 dX3_moveAll_43 rfl rfl (?_ : Go _ _ 44 _ _ _ _)
      refine Go.callV (as := [.int v2, .int v1, .int (r4 + (r6 * (sF s5 a 6)))]) (st := []) mk_X3_putAs wl_X3_71 (sc_0 h_a) rfl rfl (Nat.le_of_ble_eq_true rfl) dX3_moveAll_44 h ?_
      rintro _ s10 ⟨rfl, h⟩
      show Go _ _ 47 _ [] _ _
      refine Go.iinc dX3_moveAll_47 rfl (congrArg (fun z => v1 + z) k_ic_1) (by decide) rfl rfl (?_ : Go _ _ 50 [.ref a, .int (v1 + 1), .int v2, .int (r4 + (r6 * (sF s5 a 6)))] _ _ _)
      refine Go.iinc dX3_moveAll_50 rfl (congrArg (fun z => v2 + z) k_ic_1) (by decide) rfl rfl (?_ : Go _ _ 53 [.ref a, .int (v1 + 1), .int (v2 + 1), .int (r4 + (r6 * (sF s5 a 6)))] _ _ _)
      refine Go.goto 4 dX3_moveAll_53 rfl ?_
      refine Go.drop (ls' := [.ref a, .int (v1 + 1), .int (v2 + 1), .null]) 3 rfl ?_
      exact h
set_option maxHeartbeats 4000000 in
set_option maxRecDepth 100000 in
theorem sgX3_forgetTurns_0 {d : Nat} {σ : St} {K : St → Prop} {a : Nat} (h_a : isSc a) (h : ∀ s1, s1 = setF σ a 6 0 → K s1) : Go mX3_forgetTurns (d + 1) 0 [.ref a] [] σ (QU K) := by
  refine Go.aload_n 0 dX3_forgetTurns_0 rfl rfl (?_ : Go _ _ 1 _ _ _ _)
  refine Go.iconst dX3_forgetTurns_1 k_ic_0 (?_ : Go _ _ 2 _ _ _ _)
  refine Go.putI fp_X3_32 (sc_0 h_a) (scr_6 h_a) dX3_forgetTurns_2 (?_ : Go _ _ 5 _ _ _ _)
  generalize es1 : setF σ a 6 0 = s1
  have h := h s1 es1.symm
  exact Go.vret rfl dX3_forgetTurns_5 ⟨rfl, h⟩
theorem cgX3_forgetTurns {d : Nat} {σ : St} {K : St → Prop} {a : Nat} (h_a : isSc a) (h : ∀ s1, s1 = setF σ a 6 0 → K s1) : CallU (d + 1) mX3_forgetTurns [.ref a] σ K := Call_of_Go (by decide +kernel) (ls := [.ref a]) rfl (Nat.le_of_ble_eq_true rfl) (sgX3_forgetTurns_0 h_a h)
set_option maxHeartbeats 4000000 in
set_option maxRecDepth 100000 in
theorem sgX3_addTurn_0 {d : Nat} {σ : St} {x1 : Int32} {K : St → Prop} {a : Nat} (h_a : isSc a) (h : (x1 ≤ 0 → K σ) ∧ (¬ x1 ≤ 0 → ((sF σ a 6) < 0 → K σ) ∧ (¬ (sF σ a 6) < 0 → (4 ≤ (sF σ a 6) → K σ) ∧ (¬ 4 ≤ (sF σ a 6) → vp_in (sF σ a 6) 4 ∧ ∀ s4, s4 = setA σ (a + 5) (ix (sF σ a 6)) x1 → ∀ s5, s5 = setF s4 a 6 ((sF s4 a 6) + 1) → K s5)))) : Go mX3_addTurn (d + 1) 0 [.ref a, .int x1] [] σ (QU K) := by
  refine Go.iload_n 1 dX3_addTurn_0 rfl rfl (?_ : Go _ _ 1 _ _ _ _)
  refine Go.if_le 39 dX3_addTurn_1 rfl ⟨fun c1 => ?_, fun c1 => (?_ : Go _ _ 4 _ _ _ _)⟩
  · have h := h.1 c1
    exact Go.vret rfl dX3_addTurn_39 ⟨rfl, h⟩
  · have h := h.2 c1
    refine Go.aload_n 0 dX3_addTurn_4 rfl rfl (?_ : Go _ _ 5 _ _ _ _)
    refine Go.getI fk_X3_32 (sc_0 h_a) (scr_6 h_a) dX3_addTurn_5 (?_ : Go _ _ 8 _ _ _ _)
    refine Go.if_lt 39 dX3_addTurn_8 rfl ⟨fun c2 => ?_, fun c2 => (?_ : Go _ _ 11 _ _ _ _)⟩
    · have h := h.1 c2
      exact Go.vret rfl dX3_addTurn_39 ⟨rfl, h⟩
    · have h := h.2 c2
      refine Go.aload_n 0 dX3_addTurn_11 rfl rfl (?_ : Go _ _ 12 _ _ _ _)
      refine Go.getI fk_X3_32 (sc_0 h_a) (scr_6 h_a) dX3_addTurn_12 (?_ : Go _ _ 15 _ _ _ _)
      refine Go.iconst dX3_addTurn_15 k_ic_4 (?_ : Go _ _ 16 _ _ _ _)
      refine Go.icmp_ge 39 dX3_addTurn_16 rfl ⟨fun c3 => ?_, fun c3 => (?_ : Go _ _ 19 _ _ _ _)⟩
      · have h := h.1 c3
        exact Go.vret rfl dX3_addTurn_39 ⟨rfl, h⟩
      · have h := h.2 c3
        refine Go.aload_n 0 dX3_addTurn_19 rfl rfl (?_ : Go _ _ 20 _ _ _ _)
        refine Go.getR fk_X3_25 (sc_0 h_a) (scr_4 h_a) dX3_addTurn_20 (?_ : Go _ _ 23 _ _ _ _)
        refine Go.aload_n 0 dX3_addTurn_23 rfl rfl (?_ : Go _ _ 24 _ _ _ _)
        refine Go.getI fk_X3_32 (sc_0 h_a) (scr_6 h_a) dX3_addTurn_24 (?_ : Go _ _ 27 _ _ _ _)
        refine Go.iload_n 1 dX3_addTurn_27 rfl rfl (?_ : Go _ _ 28 _ _ _ _)
        refine Go.iast (sc_5 h_a) dX3_addTurn_28 ⟨h.1, (?_ : Go _ _ 29 _ _ _ _)⟩
        generalize es4 : setA σ (a + 5) (ix (sF σ a 6)) x1 = s4
        have h := h.2 s4 es4.symm
        refine Go.aload_n 0 dX3_addTurn_29 rfl rfl (?_ : Go _ _ 30 _ _ _ _)
        refine Go.dup dX3_addTurn_30 rfl (?_ : Go _ _ 31 _ _ _ _)
        refine Go.getI fk_X3_32 (sc_0 h_a) (scr_6 h_a) dX3_addTurn_31 (?_ : Go _ _ 34 _ _ _ _)
        refine Go.iconst dX3_addTurn_34 k_ic_1 (?_ : Go _ _ 35 _ _ _ _)
        refine Go.iadd dX3_addTurn_35 (?_ : Go _ _ 36 _ _ _ _)
        refine Go.putI fp_X3_32 (sc_0 h_a) (scr_6 h_a) dX3_addTurn_36 (?_ : Go _ _ 39 _ _ _ _)
        generalize es5 : setF s4 a 6 ((sF s4 a 6) + 1) = s5
        have h := h s5 es5.symm
        exact Go.vret rfl dX3_addTurn_39 ⟨rfl, h⟩
theorem cgX3_addTurn {d : Nat} {σ : St} {x1 : Int32} {K : St → Prop} {a : Nat} (h_a : isSc a) (h : (x1 ≤ 0 → K σ) ∧ (¬ x1 ≤ 0 → ((sF σ a 6) < 0 → K σ) ∧ (¬ (sF σ a 6) < 0 → (4 ≤ (sF σ a 6) → K σ) ∧ (¬ 4 ≤ (sF σ a 6) → vp_in (sF σ a 6) 4 ∧ ∀ s4, s4 = setA σ (a + 5) (ix (sF σ a 6)) x1 → ∀ s5, s5 = setF s4 a 6 ((sF s4 a 6) + 1) → K s5)))) : CallU (d + 1) mX3_addTurn [.ref a, .int x1] σ K := Call_of_Go (by decide +kernel) (ls := [.ref a, .int x1]) rfl (Nat.le_of_ble_eq_true rfl) (sgX3_addTurn_0 h_a h)
set_option maxHeartbeats 4000000 in
set_option maxRecDepth 100000 in
theorem sgX3_changeBlind_0 {d : Nat} {σ : St} {x1 : Int32} {K : Int32 → St → Prop} {a : Nat} (h_a : isSc a) (h : ∀ s1, s1 = setF σ a 7 x1 → K (sF σ a 7) s1) : Go mX3_changeBlind (d + 1) 0 [.ref a, .int x1, .null] [] σ (QI K) := by
  refine Go.aload_n 0 dX3_changeBlind_0 rfl rfl (?_ : Go _ _ 1 _ _ _ _)
  refine Go.getI fk_X3_35 (sc_0 h_a) (scr_7 h_a) dX3_changeBlind_1 (?_ : Go _ _ 4 _ _ _ _)
  refine Go.istore_n 2 dX3_changeBlind_4 rfl (by decide) rfl rfl (?_ : Go _ _ 5 [.ref a, .int x1, .int (sF σ a 7)] _ _ _)
  refine Go.aload_n 0 dX3_changeBlind_5 rfl rfl (?_ : Go _ _ 6 _ _ _ _)
  refine Go.iload_n 1 dX3_changeBlind_6 rfl rfl (?_ : Go _ _ 7 _ _ _ _)
  refine Go.putI fp_X3_35 (sc_0 h_a) (scr_7 h_a) dX3_changeBlind_7 (?_ : Go _ _ 10 _ _ _ _)
  generalize es1 : setF σ a 7 x1 = s1
  have h := h s1 es1.symm
  refine Go.iload_n 2 dX3_changeBlind_10 rfl rfl (?_ : Go _ _ 11 _ _ _ _)
  exact Go.iret rfl dX3_changeBlind_11 ⟨_, rfl, h⟩
theorem cgX3_changeBlind {d : Nat} {σ : St} {x1 : Int32} {K : Int32 → St → Prop} {a : Nat} (h_a : isSc a) (h : ∀ s1, s1 = setF σ a 7 x1 → K (sF σ a 7) s1) : CallI (d + 1) mX3_changeBlind [.ref a, .int x1] σ K := Call_of_Go (by decide +kernel) (ls := [.ref a, .int x1, .null]) rfl (Nat.le_of_ble_eq_true rfl) (sgX3_changeBlind_0 h_a h)
set_option maxHeartbeats 4000000 in
set_option maxRecDepth 100000 in
theorem sgX3_changeLoud_0 {d : Nat} {σ : St} {x1 : Int32} {K : Int32 → St → Prop} {a : Nat} (h_a : isSc a) (h : ∀ s1, s1 = setF σ a 8 x1 → K (sF σ a 8) s1) : Go mX3_changeLoud (d + 1) 0 [.ref a, .int x1, .null] [] σ (QI K) := by
  refine Go.aload_n 0 dX3_changeLoud_0 rfl rfl (?_ : Go _ _ 1 _ _ _ _)
  refine Go.getI fk_X3_38 (sc_0 h_a) (scr_8 h_a) dX3_changeLoud_1 (?_ : Go _ _ 4 _ _ _ _)
  refine Go.istore_n 2 dX3_changeLoud_4 rfl (by decide) rfl rfl (?_ : Go _ _ 5 [.ref a, .int x1, .int (sF σ a 8)] _ _ _)
  refine Go.aload_n 0 dX3_changeLoud_5 rfl rfl (?_ : Go _ _ 6 _ _ _ _)
  refine Go.iload_n 1 dX3_changeLoud_6 rfl rfl (?_ : Go _ _ 7 _ _ _ _)
  refine Go.putI fp_X3_38 (sc_0 h_a) (scr_8 h_a) dX3_changeLoud_7 (?_ : Go _ _ 10 _ _ _ _)
  generalize es1 : setF σ a 8 x1 = s1
  have h := h s1 es1.symm
  refine Go.iload_n 2 dX3_changeLoud_10 rfl rfl (?_ : Go _ _ 11 _ _ _ _)
  exact Go.iret rfl dX3_changeLoud_11 ⟨_, rfl, h⟩
theorem cgX3_changeLoud {d : Nat} {σ : St} {x1 : Int32} {K : Int32 → St → Prop} {a : Nat} (h_a : isSc a) (h : ∀ s1, s1 = setF σ a 8 x1 → K (sF σ a 8) s1) : CallI (d + 1) mX3_changeLoud [.ref a, .int x1] σ K := Call_of_Go (by decide +kernel) (ls := [.ref a, .int x1, .null]) rfl (Nat.le_of_ble_eq_true rfl) (sgX3_changeLoud_0 h_a h)
