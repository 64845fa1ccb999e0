set_option maxHeartbeats 4000000 in
set_option maxRecDepth 100000 in
theorem sgX6_in_0 {d : Nat} {σ : St} {x0 : Int32} {x1 : Int32} {x2 : Int32} {K : Int32 → St → Prop} (h : (x0 < x1 → K 0 σ) ∧ (¬ x0 < x1 → (x2 < x0 → K 0 σ) ∧ (¬ x2 < x0 → K 1 σ))) : Go mX6_in (d + 1) 0 [.int x0, .int x1, .int x2] [] σ (QI K) := by
  refine Go.iload_n 0 dX6_in_0 rfl rfl (?_ : Go _ _ 1 _ _ _ _)
  refine Go.iload_n 1 dX6_in_1 rfl rfl (?_ : Go _ _ 2 _ _ _ _)
  refine Go.icmp_lt 14 dX6_in_2 rfl ⟨fun c1 => ?_, fun c1 => (?_ : Go _ _ 5 _ _ _ _)⟩
  · have h := h.1 c1
    refine Go.iconst dX6_in_14 k_ic_0 (?_ : Go _ _ 15 _ _ _ _)
    exact Go.zret rfl rfl dX6_in_15 ⟨_, rfl, h⟩
  · have h := h.2 c1
    refine Go.iload_n 0 dX6_in_5 rfl rfl (?_ : Go _ _ 6 _ _ _ _)
    refine Go.iload_n 2 dX6_in_6 rfl rfl (?_ : Go _ _ 7 _ _ _ _)
    refine Go.icmp_gt 14 dX6_in_7 rfl ⟨fun c2 => ?_, fun c2 => (?_ : Go _ _ 10 _ _ _ _)⟩
    · have h := h.1 c2
      refine Go.iconst dX6_in_14 k_ic_0 (?_ : Go _ _ 15 _ _ _ _)
      exact Go.zret rfl rfl dX6_in_15 ⟨_, rfl, h⟩
    · have h := h.2 c2
      refine Go.iconst dX6_in_10 k_ic_1 (?_ : Go _ _ 11 _ _ _ _)
      refine Go.goto 15 dX6_in_11 rfl ?_
      exact Go.zret rfl rfl dX6_in_15 ⟨_, rfl, h⟩
theorem cgX6_in {d : Nat} {σ : St} {x0 : Int32} {x1 : Int32} {x2 : Int32} {K : Int32 → St → Prop} (h : (x0 < x1 → K 0 σ) ∧ (¬ x0 < x1 → (x2 < x0 → K 0 σ) ∧ (¬ x2 < x0 → K 1 σ))) : CallI (d + 1) mX6_in [.int x0, .int x1, .int x2] σ K := Call_of_Go (by decide +kernel) (ls := [.int x0, .int x1, .int x2]) rfl (Nat.le_of_ble_eq_true rfl) (sgX6_in_0 h)
set_option maxHeartbeats 4000000 in
set_option maxRecDepth 100000 in
theorem sgX6_of_0 {d : Nat} {σ : St} {x1 : Int32} {x2 : Int32} {K : Int32 → St → Prop} (h : vp_in ((8 + (4 * x1)) + x2) 32 ∧ K (sA σ 65 (ix ((8 + (4 * x1)) + x2))) σ) : Go mX6_of (d + 1) 0 [.ref 64, .int x1, .int x2] [] σ (QI K) := by
  refine Go.aload_n 0 dX6_of_0 rfl rfl (?_ : Go _ _ 1 _ _ _ _)
  refine Go.getR fk_X6_7 shq_64 frq_64_0 dX6_of_1 (?_ : Go _ _ 4 _ _ _ _)
  refine Go.bipush dX6_of_4 k_bi_8 (?_ : Go _ _ 6 _ _ _ _)
  refine Go.iconst dX6_of_6 k_ic_4 (?_ : Go _ _ 7 _ _ _ _)
  refine Go.iload_n 1 dX6_of_7 rfl rfl (?_ : Go _ _ 8 _ _ _ _)
  refine Go.imul dX6_of_8 (?_ : Go _ _ 9 _ _ _ _)
  refine Go.iadd dX6_of_9 (?_ : Go _ _ 10 _ _ _ _)
  refine Go.iload_n 2 dX6_of_10 rfl rfl (?_ : Go _ _ 11 _ _ _ _)
  refine Go.iadd dX6_of_11 (?_ : Go _ _ 12 _ _ _ _)
  refine Go.iald shq_65 dX6_of_12 ⟨h.1, (?_ : Go _ _ 13 _ _ _ _)⟩
  have h := h.2
  exact Go.iret rfl dX6_of_13 ⟨_, rfl, h⟩
theorem cgX6_of {d : Nat} {σ : St} {x1 : Int32} {x2 : Int32} {K : Int32 → St → Prop} (h : vp_in ((8 + (4 * x1)) + x2) 32 ∧ K (sA σ 65 (ix ((8 + (4 * x1)) + x2))) σ) : CallI (d + 1) mX6_of [.ref 64, .int x1, .int x2] σ K := Call_of_Go (by decide +kernel) (ls := [.ref 64, .int x1, .int x2]) rfl (Nat.le_of_ble_eq_true rfl) (sgX6_of_0 h)
set_option maxHeartbeats 4000000 in
set_option maxRecDepth 100000 in
theorem sgX6_isTarget_0 {d : Nat} {σ : St} {x1 : Int32} {K : Int32 → St → Prop} (h : CallI d mX6_in [.int x1, .int 0, .int ((sA σ 65 0) - 1)] σ (fun r2 s1 => (narrow .boolean (.int r2) = .int r2) ∧ K r2 s1)) : Go mX6_isTarget (d + 1) 0 [.ref 64, .int x1] [] σ (QI K) := by
  refine Go.iload_n 1 dX6_isTarget_0 rfl rfl (?_ : Go _ _ 1 _ _ _ _)
  refine Go.iconst dX6_isTarget_1 k_ic_0 (?_ : Go _ _ 2 _ _ _ _)
  refine Go.aload_n 0 dX6_isTarget_2 rfl rfl (?_ : Go _ _ 3 _ _ _ _)
  refine Go.getR fk_X6_7 shq_64 frq_64_0 dX6_isTarget_3 (?_ : Go _ _ 6 _ _ _ _)
  refine Go.iconst dX6_isTarget_6 k_ic_0 (?_ : Go _ _ 7 _ _ _ _)
  refine Go.ialdK ixk_0 vik_0_32 shq_65 dX6_isTarget_7 (?_ : Go _ _ 8 _ _ _ _)
  refine Go.iconst dX6_isTarget_8 k_ic_1 (?_ : Go _ _ 9 _ _ _ _)
  refine Go.isub dX6_isTarget_9 (?_ : Go _ _ 10 _ _ _ _)
  refine Go.callS (as := [.int x1, .int 0, .int ((sA σ 65 0) - 1)]) (st := []) mk_X6_in wl_X6_41 rfl rfl (Nat.le_of_ble_eq_true rfl) dX6_isTarget_10 h ?_
  rintro _ s1 ⟨r2, rfl, h⟩
  show Go _ _ 13 _ [.int r2] _ _
  exact Go.zret rfl h.1 dX6_isTarget_13 ⟨_, rfl, h.2⟩
theorem cgX6_isTarget {d : Nat} {σ : St} {x1 : Int32} {K : Int32 → St → Prop} (h : CallI d mX6_in [.int x1, .int 0, .int ((sA σ 65 0) - 1)] σ (fun r2 s1 => (narrow .boolean (.int r2) = .int r2) ∧ K r2 s1)) : CallI (d + 1) mX6_isTarget [.ref 64, .int x1] σ K := Call_of_Go (by decide +kernel) (ls := [.ref 64, .int x1]) rfl (Nat.le_of_ble_eq_true rfl) (sgX6_isTarget_0 h)
set_option maxHeartbeats 4000000 in
set_option maxRecDepth 100000 in
theorem sgX6_isTurn_0 {d : Nat} {σ : St} {x1 : Int32} {K : Int32 → St → Prop} (h : CallI d mX6_in [.int x1, .int 0, .int ((sA σ 65 1) - 1)] σ (fun r2 s1 => (narrow .boolean (.int r2) = .int r2) ∧ K r2 s1)) : Go mX6_isTurn (d + 1) 0 [.ref 64, .int x1] [] σ (QI K) := by
  refine Go.iload_n 1 dX6_isTurn_0 rfl rfl (?_ : Go _ _ 1 _ _ _ _)
  refine Go.iconst dX6_isTurn_1 k_ic_0 (?_ : Go _ _ 2 _ _ _ _)
  refine Go.aload_n 0 dX6_isTurn_2 rfl rfl (?_ : Go _ _ 3 _ _ _ _)
  refine Go.getR fk_X6_7 shq_64 frq_64_0 dX6_isTurn_3 (?_ : Go _ _ 6 _ _ _ _)
  refine Go.iconst dX6_isTurn_6 k_ic_1 (?_ : Go _ _ 7 _ _ _ _)
  refine Go.ialdK ixk_1 vik_1_32 shq_65 dX6_isTurn_7 (?_ : Go _ _ 8 _ _ _ _)
  refine Go.iconst dX6_isTurn_8 k_ic_1 (?_ : Go _ _ 9 _ _ _ _)
  refine Go.isub dX6_isTurn_9 (?_ : Go _ _ 10 _ _ _ _)
  refine Go.callS (as := [.int x1, .int 0, .int ((sA σ 65 1) - 1)]) (st := []) mk_X6_in wl_X6_41 rfl rfl (Nat.le_of_ble_eq_true rfl) dX6_isTurn_10 h ?_
  rintro _ s1 ⟨r2, rfl, h⟩
  show Go _ _ 13 _ [.int r2] _ _
  exact Go.zret rfl h.1 dX6_isTurn_13 ⟨_, rfl, h.2⟩
theorem cgX6_isTurn {d : Nat} {σ : St} {x1 : Int32} {K : Int32 → St → Prop} (h : CallI d mX6_in [.int x1, .int 0, .int ((sA σ 65 1) - 1)] σ (fun r2 s1 => (narrow .boolean (.int r2) = .int r2) ∧ K r2 s1)) : CallI (d + 1) mX6_isTurn [.ref 64, .int x1] σ K := Call_of_Go (by decide +kernel) (ls := [.ref 64, .int x1]) rfl (Nat.le_of_ble_eq_true rfl) (sgX6_isTurn_0 h)
set_option maxHeartbeats 4000000 in
set_option maxRecDepth 100000 in
theorem sgX6_record_0 {d : Nat} {σ : St} {K : St → Prop} (h : (¬ (sF σ 64 2) = 4 → Go mX6_record (d + 1) 49 [.ref 64, .int 0] [] σ (QU K)) ∧ ((sF σ 64 2) = 4 → Go mX6_record (d + 1) 10 [.ref 64, .int 0] [] σ (QU K))) : Go mX6_record (d + 1) 0 [.ref 64, .null] [] σ (QU K) := by
  refine Go.aload_n 0 dX6_record_0 rfl rfl (?_ : Go _ _ 1 _ _ _ _)
  refine Go.getI fk_X6_45 shq_64 frq_64_2 dX6_record_1 (?_ : Go _ _ 4 _ _ _ _)
  refine Go.iconst dX6_record_4 k_ic_4 (?_ : Go _ _ 5 _ _ _ _)
  refine Go.icmp_ne 47 dX6_record_5 rfl ⟨fun c1 => ?_, fun c1 => (?_ : Go _ _ 8 _ _ _ _)⟩
  · have h := h.1 c1
    refine Go.iconst dX6_record_47 k_ic_0 (?_ : Go _ _ 48 _ _ _ _)
    refine Go.istore_n 1 dX6_record_48 rfl (by decide) rfl rfl (?_ : Go _ _ 49 [.ref 64, .int 0] _ _ _)
    exact h
  · have h := h.2 c1
    refine Go.iconst dX6_record_8 k_ic_0 (?_ : Go _ _ 9 _ _ _ _)
    refine Go.istore_n 1 dX6_record_9 rfl (by decide) rfl rfl (?_ : Go _ _ 10 [.ref 64, .int 0] _ _ _)
    exact h
theorem cgX6_record {d : Nat} {σ : St} {K : St → Prop} (h : (¬ (sF σ 64 2) = 4 → Go mX6_record (d + 1) 49 [.ref 64, .int 0] [] σ (QU K)) ∧ ((sF σ 64 2) = 4 → Go mX6_record (d + 1) 10 [.ref 64, .int 0] [] σ (QU K))) : CallU (d + 1) mX6_record [.ref 64] σ K := Call_of_Go (by decide +kernel) (ls := [.ref 64, .null]) rfl (Nat.le_of_ble_eq_true rfl) (sgX6_record_0 h)
set_option maxHeartbeats 4000000 in
set_option maxRecDepth 100000 in
theorem sgX6_record_10 {d : Nat} {σ : St} {v1 : Int32} {K : St → Prop} (h : (96 ≤ v1 → ∀ s2, s2 = setF σ 64 2 ((sF σ 64 2) - 1) → Go mX6_record (d + 1) 49 [.ref 64, .int 0] [] s2 (QU K)) ∧ (¬ 96 ≤ v1 → vp_in (v1 + 32) 128 ∧ vp_in v1 128 ∧ ∀ s3, s3 = setA σ 66 (ix v1) (sA σ 66 (ix (v1 + 32))) → Go mX6_record (d + 1) 10 [.ref 64, .int (v1 + 1)] [] s3 (QU K))) : Go mX6_record (d + 1) 10 [.ref 64, .int v1] [] σ (QU K) := by
  refine Go.iload_n 1 dX6_record_10 rfl rfl (?_ : Go _ _ 11 _ _ _ _)
  refine Go.bipush dX6_record_11 k_bi_96 (?_ : Go _ _ 13 _ _ _ _)
  refine Go.icmp_ge 37 dX6_record_13 rfl ⟨fun c1 => ?_, fun c1 => (?_ : Go _ _ 16 _ _ _ _)⟩
  · have h := h.1 c1
    refine Go.aload_n 0 dX6_record_37 rfl rfl (?_ : Go _ _ 38 _ _ _ _)
    refine Go.dup dX6_record_38 rfl (?_ : Go _ _ 39 _ _ _ _)
    refine Go.getI fk_X6_45 shq_64 frq_64_2 dX6_record_39 (?_ : Go _ _ 42 _ _ _ _)
    refine Go.iconst dX6_record_42 k_ic_1 (?_ : Go _ _ 43 _ _ _ _)
    refine Go.isub dX6_record_43 (?_ : Go _ _ 44 _ _ _ _)
    refine Go.putI fp_X6_45 shq_64 frq_64_2 dX6_record_44 (?_ : Go _ _ 47 _ _ _ _)
    generalize es2 : setF σ 64 2 ((sF σ 64 2) - 1) = s2
    have h := h s2 es2.symm
    refine Go.iconst dX6_record_47 k_ic_0 (?_ : Go _ _ 48 _ _ _ _)
    refine Go.istore_n 1 dX6_record_48 rfl (by decide) rfl rfl (?_ : Go _ _ 49 [.ref 64, .int 0] _ _ _)
    exact h
  · have h := h.2 c1
    refine Go.aload_n 0 dX6_record_16 rfl rfl (?_ : Go _ _ 17 _ _ _ _)
    refine Go.getR fk_X6_13 shq_64 frq_64_1 dX6_record_17 (?_ : Go _ _ 20 _ _ _ _)
    refine Go.iload_n 1 dX6_record_20 rfl rfl (?_ : Go _ _ 21 _ _ _ _)
    refine Go.aload_n 0 dX6_record_21 rfl rfl (?_ : Go _ _ 22 _ _ _ _)
    refine Go.getR fk_X6_13 shq_64 frq_64_1 dX6_record_22 (?_ : Go _ _ 25 _ _ _ _)
    refine Go.iload_n 1 dX6_record_25 rfl rfl (?_ : Go _ _ 26 _ _ _ _)
    refine Go.bipush dX6_record_26 k_bi_32 (?_ : Go _ _ 28 _ _ _ _)
    refine Go.iadd dX6_record_28 (?_ : Go _ _ 29 _ _ _ _)
    refine Go.iald shq_66 dX6_record_29 ⟨h.1, (?_ : Go _ _ 30 _ _ _ _)⟩
    have h := h.2
    refine Go.iast shq_66 dX6_record_30 ⟨h.1, (?_ : Go _ _ 31 _ _ _ _)⟩
    generalize es3 : setA σ 66 (ix v1) (sA σ 66 (ix (v1 + 32))) = s3
    have h := h.2 s3 es3.symm
    refine Go.iinc dX6_record_31 rfl (congrArg (fun z => v1 + z) k_ic_1) (by decide) rfl rfl (?_ : Go _ _ 34 [.ref 64, .int (v1 + 1)] _ _ _)
    refine Go.goto 10 dX6_record_34 rfl ?_
    exact h
set_option maxHeartbeats 4000000 in
set_option maxRecDepth 100000 in
theorem sgX6_record_49 {d : Nat} {σ : St} {v1 : Int32} {K : St → Prop} (h : (32 ≤ v1 → ∀ s2, s2 = setF σ 64 2 ((sF σ 64 2) + 1) → K s2) ∧ (¬ 32 ≤ v1 → vp_in v1 32 ∧ vp_in (((sF σ 64 2) * 32) + v1) 128 ∧ ∀ s3, s3 = setA σ 66 (ix (((sF σ 64 2) * 32) + v1)) (sA σ 65 (ix v1)) → Go mX6_record (d + 1) 49 [.ref 64, .int (v1 + 1)] [] s3 (QU K))) : Go mX6_record (d + 1) 49 [.ref 64, .int v1] [] σ (QU K) := by
  refine Go.iload_n 1 dX6_record_49 rfl rfl (?_ : Go _ _ 50 _ _ _ _)
  refine Go.bipush dX6_record_50 k_bi_32 (?_ : Go _ _ 52 _ _ _ _)
  refine Go.icmp_ge 81 dX6_record_52 rfl ⟨fun c1 => ?_, fun c1 => (?_ : Go _ _ 55 _ _ _ _)⟩
  · have h := h.1 c1
    refine Go.aload_n 0 dX6_record_81 rfl rfl (?_ : Go _ _ 82 _ _ _ _)
    refine Go.dup dX6_record_82 rfl (?_ : Go _ _ 83 _ _ _ _)
    refine Go.getI fk_X6_45 shq_64 frq_64_2 dX6_record_83 (?_ : Go _ _ 86 _ _ _ _)
    refine Go.iconst dX6_record_86 k_ic_1 (?_ : Go _ _ 87 _ _ _ _)
    refine Go.iadd dX6_record_87 (?_ : Go _ _ 88 _ _ _ _)
    refine Go.putI fp_X6_45 shq_64 frq_64_2 dX6_record_88 (?_ : Go _ _ 91 _ _ _ _)
    generalize es2 : setF σ 64 2 ((sF σ 64 2) + 1) = s2
    have h := h s2 es2.symm
    exact Go.vret rfl dX6_record_91 ⟨rfl, h⟩
  · have h := h.2 c1
    refine Go.aload_n 0 dX6_record_55 rfl rfl (?_ : Go _ _ 56 _ _ _ _)
    refine Go.getR fk_X6_13 shq_64 frq_64_1 dX6_record_56 (?_ : Go _ _ 59 _ _ _ _)
    refine Go.aload_n 0 dX6_record_59 rfl rfl (?_ : Go _ _ 60 _ _ _ _)
    refine Go.getI fk_X6_45 shq_64 frq_64_2 dX6_record_60 (?_ : Go _ _ 63 _ _ _ _)
    refine Go.bipush dX6_record_63 k_bi_32 (?_ : Go _ _ 65 _ _ _ _)
    refine Go.imul dX6_record_65 (?_ : Go _ _ 66 _ _ _ _)
    refine Go.iload_n 1 dX6_record_66 rfl rfl (?_ : Go _ _ 67 _ _ _ _)
    refine Go.iadd dX6_record_67 (?_ : Go _ _ 68 _ _ _ _)
    refine Go.aload_n 0 dX6_record_68 rfl rfl (?_ : Go _ _ 69 _ _ _ _)
    refine Go.getR fk_X6_7 shq_64 frq_64_0 dX6_record_69 (?_ : Go _ _ 72 _ _ _ _)
    refine Go.iload_n 1 dX6_record_72 rfl rfl (?_ : Go _ _ 73 _ _ _ _)
    refine Go.iald shq_65 dX6_record_73 ⟨h.1, (?_ : Go _ _ 74 _ _ _ _)⟩
    have h := h.2
    refine Go.iast shq_66 dX6_record_74 ⟨h.1, (?_ : Go _ _ 75 _ _ _ _)⟩
    generalize es3 : setA σ 66 (ix (((sF σ 64 2) * 32) + v1)) (sA σ 65 (ix v1)) = s3
    have h := h.2 s3 es3.symm
    refine Go.iinc dX6_record_75 rfl (congrArg (fun z => v1 + z) k_ic_1) (by decide) rfl rfl (?_ : Go _ _ 78 [.ref 64, .int (v1 + 1)] _ _ _)
    refine Go.goto 49 dX6_record_78 rfl ?_
    exact h
set_option maxHeartbeats 4000000 in
set_option maxRecDepth 100000 in
theorem sgX6_undo_0 {d : Nat} {σ : St} {K : Int32 → St → Prop} (h : (¬ (sF σ 64 2) = 0 → ∀ s2, s2 = setF σ 64 2 ((sF σ 64 2) - 1) → Go mX6_undo (d + 1) 22 [.ref 64, .int 0] [] s2 (QI K)) ∧ ((sF σ 64 2) = 0 → K (-2) σ)) : Go mX6_undo (d + 1) 0 [.ref 64, .null] [] σ (QI K) := by
  refine Go.aload_n 0 dX6_undo_0 rfl rfl (?_ : Go _ _ 1 _ _ _ _)
  refine Go.getI fk_X6_45 shq_64 frq_64_2 dX6_undo_1 (?_ : Go _ _ 4 _ _ _ _)
  refine Go.if_ne 10 dX6_undo_4 rfl ⟨fun c1 => ?_, fun c1 => (?_ : Go _ _ 7 _ _ _ _)⟩
  · have h := h.1 c1
    refine Go.aload_n 0 dX6_undo_10 rfl rfl (?_ : Go _ _ 11 _ _ _ _)
    refine Go.dup dX6_undo_11 rfl (?_ : Go _ _ 12 _ _ _ _)
    refine Go.getI fk_X6_45 shq_64 frq_64_2 dX6_undo_12 (?_ : Go _ _ 15 _ _ _ _)
    refine Go.iconst dX6_undo_15 k_ic_1 (?_ : Go _ _ 16 _ _ _ _)
    refine Go.isub dX6_undo_16 (?_ : Go _ _ 17 _ _ _ _)
    refine Go.putI fp_X6_45 shq_64 frq_64_2 dX6_undo_17 (?_ : Go _ _ 20 _ _ _ _)
    generalize es2 : setF σ 64 2 ((sF σ 64 2) - 1) = s2
    have h := h s2 es2.symm
    refine Go.iconst dX6_undo_20 k_ic_0 (?_ : Go _ _ 21 _ _ _ _)
    refine Go.istore_n 1 dX6_undo_21 rfl (by decide) rfl rfl (?_ : Go _ _ 22 [.ref 64, .int 0] _ _ _)
    exact h
  · have h := h.2 c1
    refine Go.bipush dX6_undo_7 k_bi_m2 (?_ : Go _ _ 9 _ _ _ _)
    exact Go.iret rfl dX6_undo_9 ⟨_, rfl, h⟩
theorem cgX6_undo {d : Nat} {σ : St} {K : Int32 → St → Prop} (h : (¬ (sF σ 64 2) = 0 → ∀ s2, s2 = setF σ 64 2 ((sF σ 64 2) - 1) → Go mX6_undo (d + 1) 22 [.ref 64, .int 0] [] s2 (QI K)) ∧ ((sF σ 64 2) = 0 → K (-2) σ)) : CallI (d + 1) mX6_undo [.ref 64] σ K := Call_of_Go (by decide +kernel) (ls := [.ref 64, .null]) rfl (Nat.le_of_ble_eq_true rfl) (sgX6_undo_0 h)
set_option maxHeartbeats 4000000 in
set_option maxRecDepth 100000 in
theorem sgX6_undo_22 {d : Nat} {σ : St} {v1 : Int32} {K : Int32 → St → Prop} (h : (32 ≤ v1 → K (sF σ 64 2) σ) ∧ (¬ 32 ≤ v1 → vp_in (((sF σ 64 2) * 32) + v1) 128 ∧ vp_in v1 32 ∧ ∀ s2, s2 = setA σ 65 (ix v1) (sA σ 66 (ix (((sF σ 64 2) * 32) + v1))) → Go mX6_undo (d + 1) 22 [.ref 64, .int (v1 + 1)] [] s2 (QI K))) : Go mX6_undo (d + 1) 22 [.ref 64, .int v1] [] σ (QI K) := by
  refine Go.iload_n 1 dX6_undo_22 rfl rfl (?_ : Go _ _ 23 _ _ _ _)
  refine Go.bipush dX6_undo_23 k_bi_32 (?_ : Go _ _ 25 _ _ _ _)
  refine Go.icmp_ge 54 dX6_undo_25 rfl ⟨fun c1 => ?_, fun c1 => (?_ : Go _ _ 28 _ _ _ _)⟩
  · have h := h.1 c1
    refine Go.aload_n 0 dX6_undo_54 rfl rfl (?_ : Go _ _ 55 _ _ _ _)
    refine Go.getI fk_X6_45 shq_64 frq_64_2 dX6_undo_55 (?_ : Go _ _ 58 _ _ _ _)
    exact Go.iret rfl dX6_undo_58 ⟨_, rfl, h⟩
  · have h := h.2 c1
    refine Go.aload_n 0 dX6_undo_28 rfl rfl (?_ : Go _ _ 29 _ _ _ _)
    refine Go.getR fk_X6_7 shq_64 frq_64_0 dX6_undo_29 (?_ : Go _ _ 32 _ _ _ _)
    refine Go.iload_n 1 dX6_undo_32 rfl rfl (?_ : Go _ _ 33 _ _ _ _)
    refine Go.aload_n 0 dX6_undo_33 rfl rfl (?_ : Go _ _ 34 _ _ _ _)
    refine Go.getR fk_X6_13 shq_64 frq_64_1 dX6_undo_34 (?_ : Go _ _ 37 _ _ _ _)
    refine Go.aload_n 0 dX6_undo_37 rfl rfl (?_ : Go _ _ 38 _ _ _ _)
    refine Go.getI fk_X6_45 shq_64 frq_64_2 dX6_undo_38 (?_ : Go _ _ 41 _ _ _ _)
    refine Go.bipush dX6_undo_41 k_bi_32 (?_ : Go _ _ 43 _ _ _ _)
    refine Go.imul dX6_undo_43 (?_ : Go _ _ 44 _ _ _ _)
    refine Go.iload_n 1 dX6_undo_44 rfl rfl (?_ : Go _ _ 45 _ _ _ _)
    refine Go.iadd dX6_undo_45 (?_ : Go _ _ 46 _ _ _ _)
    refine Go.iald shq_66 dX6_undo_46 ⟨h.1, (?_ : Go _ _ 47 _ _ _ _)⟩
    have h := h.2
    refine Go.iast shq_65 dX6_undo_47 ⟨h.1, (?_ : Go _ _ 48 _ _ _ _)⟩
    generalize es2 : setA σ 65 (ix v1) (sA σ 66 (ix (((sF σ 64 2) * 32) + v1))) = s2
    have h := h.2 s2 es2.symm
    refine Go.iinc dX6_undo_48 rfl (congrArg (fun z => v1 + z) k_ic_1) (by decide) rfl rfl (?_ : Go _ _ 51 [.ref 64, .int (v1 + 1)] _ _ _)
    refine Go.goto 22 dX6_undo_51 rfl ?_
    exact h
set_option maxHeartbeats 4000000 in
set_option maxRecDepth 100000 in
theorem sgX6_save_0 {d : Nat} {σ : St} {K : Int32 → St → Prop} (h : ∀ s1, s1 = setF σ 64 4 1 → Go mX6_save (d + 1) 7 [.ref 64, .int 0] [] s1 (QI K)) : Go mX6_save (d + 1) 0 [.ref 64, .null] [] σ (QI K) := by
  refine Go.aload_n 0 dX6_save_0 rfl rfl (?_ : Go _ _ 1 _ _ _ _)
  refine Go.iconst dX6_save_1 k_ic_1 (?_ : Go _ _ 2 _ _ _ _)
  refine Go.putZ (by decide) fp_X6_49 shq_64 frq_64_4 dX6_save_2 (?_ : Go _ _ 5 _ _ _ _)
  generalize es1 : setF σ 64 4 1 = s1
  have h := h s1 es1.symm
  refine Go.iconst dX6_save_5 k_ic_0 (?_ : Go _ _ 6 _ _ _ _)
  refine Go.istore_n 1 dX6_save_6 rfl (by decide) rfl rfl (?_ : Go _ _ 7 [.ref 64, .int 0] _ _ _)
  exact h
theorem cgX6_save {d : Nat} {σ : St} {K : Int32 → St → Prop} (h : ∀ s1, s1 = setF σ 64 4 1 → Go mX6_save (d + 1) 7 [.ref 64, .int 0] [] s1 (QI K)) : CallI (d + 1) mX6_save [.ref 64] σ K := Call_of_Go (by decide +kernel) (ls := [.ref 64, .null]) rfl (Nat.le_of_ble_eq_true rfl) (sgX6_save_0 h)
set_option maxHeartbeats 4000000 in
set_option maxRecDepth 100000 in
theorem sgX6_save_7 {d : Nat} {σ : St} {v1 : Int32} {K : Int32 → St → Prop} (h : (32 ≤ v1 → K (sA σ 65 0) σ) ∧ (¬ 32 ≤ v1 → vp_in v1 32 ∧ vp_in v1 32 ∧ ∀ s2, s2 = setA σ 67 (ix v1) (sA σ 65 (ix v1)) → Go mX6_save (d + 1) 7 [.ref 64, .int (v1 + 1)] [] s2 (QI K))) : Go mX6_save (d + 1) 7 [.ref 64, .int v1] [] σ (QI K) := by
  refine Go.iload_n 1 dX6_save_7 rfl rfl (?_ : Go _ _ 8 _ _ _ _)
  refine Go.bipush dX6_save_8 k_bi_32 (?_ : Go _ _ 10 _ _ _ _)
  refine Go.icmp_ge 31 dX6_save_10 rfl ⟨fun c1 => ?_, fun c1 => (?_ : Go _ _ 13 _ _ _ _)⟩
  · have h := h.1 c1
    refine Go.aload_n 0 dX6_save_31 rfl rfl (?_ : Go _ _ 32 _ _ _ _)
    refine Go.getR fk_X6_7 shq_64 frq_64_0 dX6_save_32 (?_ : Go _ _ 35 _ _ _ _)
    refine Go.iconst dX6_save_35 k_ic_0 (?_ : Go _ _ 36 _ _ _ _)
    refine Go.ialdK ixk_0 vik_0_32 shq_65 dX6_save_36 (?_ : Go _ _ 37 _ _ _ _)
    exact Go.iret rfl dX6_save_37 ⟨_, rfl, h⟩
  · have h := h.2 c1
    refine Go.aload_n 0 dX6_save_13 rfl rfl (?_ : Go _ _ 14 _ _ _ _)
    refine Go.getR fk_X6_16 shq_64 frq_64_3 dX6_save_14 (?_ : Go _ _ 17 _ _ _ _)
    refine Go.iload_n 1 dX6_save_17 rfl rfl (?_ : Go _ _ 18 _ _ _ _)
    refine Go.aload_n 0 dX6_save_18 rfl rfl (?_ : Go _ _ 19 _ _ _ _)
    refine Go.getR fk_X6_7 shq_64 frq_64_0 dX6_save_19 (?_ : Go _ _ 22 _ _ _ _)
    refine Go.iload_n 1 dX6_save_22 rfl rfl (?_ : Go _ _ 23 _ _ _ _)
    refine Go.iald shq_65 dX6_save_23 ⟨h.1, (?_ : Go _ _ 24 _ _ _ _)⟩
    have h := h.2
    refine Go.iast shq_67 dX6_save_24 ⟨h.1, (?_ : Go _ _ 25 _ _ _ _)⟩
    generalize es2 : setA σ 67 (ix v1) (sA σ 65 (ix v1)) = s2
    have h := h.2 s2 es2.symm
    refine Go.iinc dX6_save_25 rfl (congrArg (fun z => v1 + z) k_ic_1) (by decide) rfl rfl (?_ : Go _ _ 28 [.ref 64, .int (v1 + 1)] _ _ _)
    refine Go.goto 7 dX6_save_28 rfl ?_
    exact h
set_option maxHeartbeats 4000000 in
set_option maxRecDepth 100000 in
theorem sgX6_restore_0 {d : Nat} {σ : St} {K : Int32 → St → Prop} (h : (¬ (sF σ 64 4) = 0 → CallU d mX6_record [.ref 64] σ (fun s2 => Go mX6_restore (d + 1) 16 [.ref 64, .int 0] [] s2 (QI K))) ∧ ((sF σ 64 4) = 0 → K (-2) σ)) : Go mX6_restore (d + 1) 0 [.ref 64, .null] [] σ (QI K) := by
  refine Go.aload_n 0 dX6_restore_0 rfl rfl (?_ : Go _ _ 1 _ _ _ _)
  refine Go.getI fk_X6_49 shq_64 frq_64_4 dX6_restore_1 (?_ : Go _ _ 4 _ _ _ _)
  refine Go.if_ne 10 dX6_restore_4 rfl ⟨fun c1 => ?_, fun c1 => (?_ : Go _ _ 7 _ _ _ _)⟩
  · have h := h.1 c1
    refine Go.aload_n 0 dX6_restore_10 rfl rfl (?_ : Go _ _ 11 _ _ _ _)
    refine Go.callV (as := []) (st := []) mk_X6_record wl_X6_53 shq_64 rfl rfl (Nat.le_of_ble_eq_true rfl) dX6_restore_11 h ?_
    rintro _ s2 ⟨rfl, h⟩
    show Go _ _ 14 _ [] _ _
    refine Go.iconst dX6_restore_14 k_ic_0 (?_ : Go _ _ 15 _ _ _ _)
    refine Go.istore_n 1 dX6_restore_15 rfl (by decide) rfl rfl (?_ : Go _ _ 16 [.ref 64, .int 0] _ _ _)
    exact h
  · have h := h.2 c1
    refine Go.bipush dX6_restore_7 k_bi_m2 (?_ : Go _ _ 9 _ _ _ _)
    exact Go.iret rfl dX6_restore_9 ⟨_, rfl, h⟩
theorem cgX6_restore {d : Nat} {σ : St} {K : Int32 → St → Prop} (h : (¬ (sF σ 64 4) = 0 → CallU d mX6_record [.ref 64] σ (fun s2 => Go mX6_restore (d + 1) 16 [.ref 64, .int 0] [] s2 (QI K))) ∧ ((sF σ 64 4) = 0 → K (-2) σ)) : CallI (d + 1) mX6_restore [.ref 64] σ K := Call_of_Go (by decide +kernel) (ls := [.ref 64, .null]) rfl (Nat.le_of_ble_eq_true rfl) (sgX6_restore_0 h)
set_option maxHeartbeats 4000000 in
set_option maxRecDepth 100000 in
theorem sgX6_restore_16 {d : Nat} {σ : St} {v1 : Int32} {K : Int32 → St → Prop} (h : (32 ≤ v1 → K (sA σ 65 0) σ) ∧ (¬ 32 ≤ v1 → vp_in v1 32 ∧ vp_in v1 32 ∧ ∀ s2, s2 = setA σ 65 (ix v1) (sA σ 67 (ix v1)) → Go mX6_restore (d + 1) 16 [.ref 64, .int (v1 + 1)] [] s2 (QI K))) : Go mX6_restore (d + 1) 16 [.ref 64, .int v1] [] σ (QI K) := by
  refine Go.iload_n 1 dX6_restore_16 rfl rfl (?_ : Go _ _ 17 _ _ _ _)
  refine Go.bipush dX6_restore_17 k_bi_32 (?_ : Go _ _ 19 _ _ _ _)
  refine Go.icmp_ge 40 dX6_restore_19 rfl ⟨fun c1 => ?_, fun c1 => (?_ : Go _ _ 22 _ _ _ _)⟩
  · have h := h.1 c1
    refine Go.aload_n 0 dX6_restore_40 rfl rfl (?_ : Go _ _ 41 _ _ _ _)
    refine Go.getR fk_X6_7 shq_64 frq_64_0 dX6_restore_41 (?_ : Go _ _ 44 _ _ _ _)
    refine Go.iconst dX6_restore_44 k_ic_0 (?_ : Go _ _ 45 _ _ _ _)
    refine Go.ialdK ixk_0 vik_0_32 shq_65 dX6_restore_45 (?_ : Go _ _ 46 _ _ _ _)
    exact Go.iret rfl dX6_restore_46 ⟨_, rfl, h⟩
  · have h := h.2 c1
    refine Go.aload_n 0 dX6_restore_22 rfl rfl (?_ : Go _ _ 23 _ _ _ _)
    refine Go.getR fk_X6_7 shq_64 frq_64_0 dX6_restore_23 (?_ : Go _ _ 26 _ _ _ _)
    refine Go.iload_n 1 dX6_restore_26 rfl rfl (?_ : Go _ _ 27 _ _ _ _)
    refine Go.aload_n 0 dX6_restore_27 rfl rfl (?_ : Go _ _ 28 _ _ _ _)
    refine Go.getR fk_X6_16 shq_64 frq_64_3 dX6_restore_28 (?_ : Go _ _ 31 _ _ _ _)
    refine Go.iload_n 1 dX6_restore_31 rfl rfl (?_ : Go _ _ 32 _ _ _ _)
    refine Go.iald shq_67 dX6_restore_32 ⟨h.1, (?_ : Go _ _ 33 _ _ _ _)⟩
    have h := h.2
    refine Go.iast shq_65 dX6_restore_33 ⟨h.1, (?_ : Go _ _ 34 _ _ _ _)⟩
    generalize es2 : setA σ 65 (ix v1) (sA σ 67 (ix v1)) = s2
    have h := h.2 s2 es2.symm
    refine Go.iinc dX6_restore_34 rfl (congrArg (fun z => v1 + z) k_ic_1) (by decide) rfl rfl (?_ : Go _ _ 37 [.ref 64, .int (v1 + 1)] _ _ _)
    refine Go.goto 16 dX6_restore_37 rfl ?_
    exact h
set_option maxHeartbeats 4000000 in
set_option maxRecDepth 100000 in
theorem sgX6_isThere_0 {d : Nat} {σ : St} {x1 : Int32} {x2 : Int32} {K : Int32 → St → Prop} (h : Go mX6_isThere (d + 1) 5 [.ref 64, .int x1, .int x2, .int 0, .int 0] [] σ (QI K)) : Go mX6_isThere (d + 1) 0 [.ref 64, .int x1, .int x2, .null, .null] [] σ (QI K) := by
  refine Go.iconst dX6_isThere_0 k_ic_0 (?_ : Go _ _ 1 _ _ _ _)
  refine Go.istore_n 3 dX6_isThere_1 rfl (by decide) rfl rfl (?_ : Go _ _ 2 [.ref 64, .int x1, .int x2, .int 0, .null] _ _ _)
  refine Go.iconst dX6_isThere_2 k_ic_0 (?_ : Go _ _ 3 _ _ _ _)
  refine Go.istore dX6_isThere_3 (by decide) rfl rfl (?_ : Go _ _ 5 [.ref 64, .int x1, .int x2, .int 0, .int 0] _ _ _)
  exact h
theorem cgX6_isThere {d : Nat} {σ : St} {x1 : Int32} {x2 : Int32} {K : Int32 → St → Prop} (h : Go mX6_isThere (d + 1) 5 [.ref 64, .int x1, .int x2, .int 0, .int 0] [] σ (QI K)) : CallI (d + 1) mX6_isThere [.ref 64, .int x1, .int x2] σ K := Call_of_Go (by decide +kernel) (ls := [.ref 64, .int x1, .int x2, .null, .null]) rfl (Nat.le_of_ble_eq_true rfl) (sgX6_isThere_0 h)
set_option maxHeartbeats 4000000 in
set_option maxRecDepth 100000 in
theorem sgX6_isThere_5 {d : Nat} {σ : St} {v1 : Int32} {v2 : Int32} {v3 : Int32} {v4 : Int32} {K : Int32 → St → Prop} (h : ((sA σ 65 0) ≤ v4 → (narrow .boolean (.int v3) = .int v3) ∧ K v3 σ) ∧ (¬ (sA σ 65 0) ≤ v4 → (¬ v3 = 0 → Go mX6_isThere (d + 1) 5 [.ref 64, .int v1, .int v2, .int 1, .int (v4 + 1)] [] σ (QI K)) ∧ (v3 = 0 → CallI d mX6_of [.ref 64, .int v4, .int 0] σ (fun r4 s3 => (¬ r4 = v1 → Go mX6_isThere (d + 1) 5 [.ref 64, .int v1, .int v2, .int 0, .int (v4 + 1)] [] s3 (QI K)) ∧ (r4 = v1 → CallI d mX6_of [.ref 64, .int v4, .int 2] s3 (fun r7 s6 => (¬ r7 = v2 → Go mX6_isThere (d + 1) 5 [.ref 64, .int v1, .int v2, .int 0, .int (v4 + 1)] [] s6 (QI K)) ∧ (r7 = v2 → Go mX6_isThere (d + 1) 5 [.ref 64, .int v1, .int v2, .int 1, .int (v4 + 1)] [] s6 (QI K)))))))) : Go mX6_isThere (d + 1) 5 [.ref 64, .int v1, .int v2, .int v3, .int v4] [] σ (QI K) := by
  refine Go.iload dX6_isThere_5 rfl (?_ : Go _ _ 7 _ _ _ _)
  refine Go.aload_n 0 dX6_isThere_7 rfl rfl (?_ : Go _ _ 8 _ _ _ _)
  refine Go.getR fk_X6_7 shq_64 frq_64_0 dX6_isThere_8 (?_ : Go _ _ 11 _ _ _ _)
  refine Go.iconst dX6_isThere_11 k_ic_0 (?_ : Go _ _ 12 _ _ _ _)
  refine Go.ialdK ixk_0 vik_0_32 shq_65 dX6_isThere_12 (?_ : Go _ _ 13 _ _ _ _)
  refine Go.icmp_ge 54 dX6_isThere_13 rfl ⟨fun c1 => ?_, fun c1 => (?_ : Go _ _ 16 _ _ _ _)⟩
  · have h := h.1 c1
    refine Go.iload_n 3 dX6_isThere_54 rfl rfl (?_ : Go _ _ 55 _ _ _ _)
    exact Go.zret rfl h.1 dX6_isThere_55 ⟨_, rfl, h.2⟩
  · have h := h.2 c1
    refine Go.iload_n 3 dX6_isThere_16 rfl rfl (?_ : Go _ _ 17 _ _ _ _)
    refine Go.if_ne 42 dX6_isThere_17 rfl ⟨fun c2 => ?_, fun c2 => (?_ : Go _ _ 20 _ _ _ _)⟩
    · have h := h.1 c2
      refine Go.iconst dX6_isThere_42 k_ic_1 (?_ : Go _ _ 43 _ _ _ _)
      refine Go.goto 47 dX6_isThere_43 rfl ?_
      refine Go.istore_n 3 dX6_isThere_47 rfl (by decide) rfl rfl (?_ : Go _ _ 48 [.ref 64, .int v1, .int v2, .int 1, .int v4] _ _ _)
      refine Go.iinc dX6_isThere_48 rfl (congrArg (fun z => v4 + z) k_ic_1) (by decide) rfl rfl (?_ : Go _ _ 51 [.ref 64, .int v1, .int v2, .int 1, .int (v4 + 1)] _ _ _)
      refine Go.goto 5 dX6_isThere_51 rfl ?_
      exact h
    · have h := h.2 c2
      refine Go.aload_n 0 dX6_isThere_20 rfl rfl (?_ : Go _ _ 21 _ _ _ _)
      refine Go.iload dX6_isThere_21 rfl (?_ : Go _ _ 23 _ _ _ _)
      refine Go.iconst dX6_isThere_23 k_ic_0 (?_ : Go _ _ 24 _ _ _ _)
      refine Go.callV (as := [.int v4, .int 0]) (st := []) mk_X6_of wl_X6_56 shq_64 rfl rfl (Nat.le_of_ble_eq_true rfl) dX6_isThere_24 h ?_
      rintro _ s3 ⟨r4, rfl, h⟩
      show Go _ _ 27 _ [.int r4] _ _
      refine Go.iload_n 1 dX6_isThere_27 rfl rfl (?_ : Go _ _ 28 _ _ _ _)
      refine Go.icmp_ne 46 dX6_isThere_28 rfl ⟨fun c5 => ?_, fun c5 => (?_ : Go _ _ 31 _ _ _ _)⟩
      · have h := h.1 c5
        refine Go.iconst dX6_isThere_46 k_ic_0 (?_ : Go _ _ 47 _ _ _ _)
        refine Go.istore_n 3 dX6_isThere_47 rfl (by decide) rfl rfl (?_ : Go _ _ 48 [.ref 64, .int v1, .int v2, .int 0, .int v4] _ _ _)
        refine Go.iinc dX6_isThere_48 rfl (congrArg (fun z => v4 + z) k_ic_1) (by decide) rfl rfl (?_ : Go _ _ 51 [.ref 64, .int v1, .int v2, .int 0, .int (v4 + 1)] _ _ _)
        refine Go.goto 5 dX6_isThere_51 rfl ?_
        exact h
      · have h := h.2 c5
        refine Go.aload_n 0 dX6_isThere_31 rfl rfl (?_ : Go _ _ 32 _ _ _ _)
        refine Go.iload dX6_isThere_32 rfl (?_ : Go _ _ 34 _ _ _ _)
        refine Go.iconst dX6_isThere_34 k_ic_2 (?_ : Go _ _ 35 _ _ _ _)
        refine Go.callV (as := [.int v4, .int 2]) (st := []) mk_X6_of wl_X6_56 shq_64 rfl rfl (Nat.le_of_ble_eq_true rfl) dX6_isThere_35 h ?_
        rintro _ s6 ⟨r7, rfl, h⟩
        show Go _ _ 38 _ [.int r7] _ _
        refine Go.iload_n 2 dX6_isThere_38 rfl rfl (?_ : Go _ _ 39 _ _ _ _)
        refine Go.icmp_ne 46 dX6_isThere_39 rfl ⟨fun c8 => ?_, fun c8 => (?_ : Go _ _ 42 _ _ _ _)⟩
        · have h := h.1 c8
          refine Go.iconst dX6_isThere_46 k_ic_0 (?_ : Go _ _ 47 _ _ _ _)
          refine Go.istore_n 3 dX6_isThere_47 rfl (by decide) rfl rfl (?_ : Go _ _ 48 [.ref 64, .int v1, .int v2, .int 0, .int v4] _ _ _)
          refine Go.iinc dX6_isThere_48 rfl (congrArg (fun z => v4 + z) k_ic_1) (by decide) rfl rfl (?_ : Go _ _ 51 [.ref 64, .int v1, .int v2, .int 0, .int (v4 + 1)] _ _ _)
          refine Go.goto 5 dX6_isThere_51 rfl ?_
          exact h
        · have h := h.2 c8
          refine Go.iconst dX6_isThere_42 k_ic_1 (?_ : Go _ _ 43 _ _ _ _)
          refine Go.goto 47 dX6_isThere_43 rfl ?_
          refine Go.istore_n 3 dX6_isThere_47 rfl (by decide) rfl rfl (?_ : Go _ _ 48 [.ref 64, .int v1, .int v2, .int 1, .int v4] _ _ _)
          refine Go.iinc dX6_isThere_48 rfl (congrArg (fun z => v4 + z) k_ic_1) (by decide) rfl rfl (?_ : Go _ _ 51 [.ref 64, .int v1, .int v2, .int 1, .int (v4 + 1)] _ _ _)
          refine Go.goto 5 dX6_isThere_51 rfl ?_
          exact h
set_option maxHeartbeats 4000000 in
set_option maxRecDepth 100000 in
theorem sgX6_add_0 {d : Nat} {σ : St} {x1 : Int32} {x2 : Int32} {x3 : Int32} {x4 : Int32} {K : St → Prop} (h : vp_in (8 + (4 * (sA σ 65 0))) 32 ∧ ∀ s1, s1 = setA σ 65 (ix (8 + (4 * (sA σ 65 0)))) x1 → vp_in ((8 + (4 * (sA σ 65 0))) + 1) 32 ∧ ∀ s2, s2 = setA s1 65 (ix ((8 + (4 * (sA σ 65 0))) + 1)) x2 → vp_in ((8 + (4 * (sA σ 65 0))) + 2) 32 ∧ ∀ s3, s3 = setA s2 65 (ix ((8 + (4 * (sA σ 65 0))) + 2)) x3 → vp_in ((8 + (4 * (sA σ 65 0))) + 3) 32 ∧ ∀ s4, s4 = setA s3 65 (ix ((8 + (4 * (sA σ 65 0))) + 3)) x4 → ∀ s5, s5 = setA s4 65 0 ((sA s4 65 0) + 1) → K s5) : Go mX6_add (d + 1) 0 [.ref 64, .int x1, .int x2, .int x3, .int x4, .null] [] σ (QU K) := by
  refine Go.bipush dX6_add_0 k_bi_8 (?_ : Go _ _ 2 _ _ _ _)
  refine Go.iconst dX6_add_2 k_ic_4 (?_ : Go _ _ 3 _ _ _ _)
  refine Go.aload_n 0 dX6_add_3 rfl rfl (?_ : Go _ _ 4 _ _ _ _)
  refine Go.getR fk_X6_7 shq_64 frq_64_0 dX6_add_4 (?_ : Go _ _ 7 _ _ _ _)
  refine Go.iconst dX6_add_7 k_ic_0 (?_ : Go _ _ 8 _ _ _ _)
  refine Go.ialdK ixk_0 vik_0_32 shq_65 dX6_add_8 (?_ : Go _ _ 9 _ _ _ _)
  refine Go.imul dX6_add_9 (?_ : Go _ _ 10 _ _ _ _)
  refine Go.iadd dX6_add_10 (?_ : Go _ _ 11 _ _ _ _)
  refine Go.istore dX6_add_11 (by decide) rfl rfl (?_ : Go _ _ 13 [.ref 64, .int x1, .int x2, .int x3, .int x4, .int (8 + (4 * (sA σ 65 0)))] _ _ _)
  refine Go.aload_n 0 dX6_add_13 rfl rfl (?_ : Go _ _ 14 _ _ _ _)
  refine Go.getR fk_X6_7 shq_64 frq_64_0 dX6_add_14 (?_ : Go _ _ 17 _ _ _ _)
  refine Go.iload dX6_add_17 rfl (?_ : Go _ _ 19 _ _ _ _)
  refine Go.iload_n 1 dX6_add_19 rfl rfl (?_ : Go _ _ 20 _ _ _ _)
  refine Go.iast shq_65 dX6_add_20 ⟨h.1, (?_ : Go _ _ 21 _ _ _ _)⟩
  generalize es1 : setA σ 65 (ix (8 + (4 * (sA σ 65 0)))) x1 = s1
  have h := h.2 s1 es1.symm
  refine Go.aload_n 0 dX6_add_21 rfl rfl (?_ : Go _ _ 22 _ _ _ _)
  refine Go.getR fk_X6_7 shq_64 frq_64_0 dX6_add_22 (?_ : Go _ _ 25 _ _ _ _)
  refine Go.iload dX6_add_25 rfl (?_ : Go _ _ 27 _ _ _ _)
  refine Go.iconst dX6_add_27 k_ic_1 (?_ : Go _ _ 28 _ _ _ _)
  refine Go.iadd dX6_add_28 (?_ : Go _ _ 29 _ _ _ _)
  refine Go.iload_n 2 dX6_add_29 rfl rfl (?_ : Go _ _ 30 _ _ _ _)
  refine Go.iast shq_65 dX6_add_30 ⟨h.1, (?_ : Go _ _ 31 _ _ _ _)⟩
  generalize es2 : setA s1 65 (ix ((8 + (4 * (sA σ 65 0))) + 1)) x2 = s2
  have h := h.2 s2 es2.symm
  refine Go.aload_n 0 dX6_add_31 rfl rfl (?_ : Go _ _ 32 _ _ _ _)
  refine Go.getR fk_X6_7 shq_64 frq_64_0 dX6_add_32 (?_ : Go _ _ 35 _ _ _ _)
  refine Go.iload dX6_add_35 rfl (?_ : Go _ _ 37 _ _ _ _)
  refine Go.iconst dX6_add_37 k_ic_2 (?_ : Go _ _ 38 _ _ _ _)
  refine Go.iadd dX6_add_38 (?_ : Go _ _ 39 _ _ _ _)
  refine Go.iload_n 3 dX6_add_39 rfl rfl (?_ : Go _ _ 40 _ _ _ _)
  refine Go.iast shq_65 dX6_add_40 ⟨h.1, (?_ : Go _ _ 41 _ _ _ _)⟩
  generalize es3 : setA s2 65 (ix ((8 + (4 * (sA σ 65 0))) + 2)) x3 = s3
  have h := h.2 s3 es3.symm
  refine Go.aload_n 0 dX6_add_41 rfl rfl (?_ : Go _ _ 42 _ _ _ _)
  refine Go.getR fk_X6_7 shq_64 frq_64_0 dX6_add_42 (?_ : Go _ _ 45 _ _ _ _)
  refine Go.iload dX6_add_45 rfl (?_ : Go _ _ 47 _ _ _ _)
  refine Go.iconst dX6_add_47 k_ic_3 (?_ : Go _ _ 48 _ _ _ _)
  refine Go.iadd dX6_add_48 (?_ : Go _ _ 49 _ _ _ _)
  refine Go.iload dX6_add_49 rfl (?_ : Go _ _ 51 _ _ _ _)
  refine Go.iast shq_65 dX6_add_51 ⟨h.1, (?_ : Go _ _ 52 _ _ _ _)⟩
  generalize es4 : setA s3 65 (ix ((8 + (4 * (sA σ 65 0))) + 3)) x4 = s4
  have h := h.2 s4 es4.symm
  refine Go.aload_n 0 dX6_add_52 rfl rfl (?_ : Go _ _ 53 _ _ _ _)
  refine Go.getR fk_X6_7 shq_64 frq_64_0 dX6_add_53 (?_ : Go _ _ 56 _ _ _ _)
  refine Go.iconst dX6_add_56 k_ic_0 (?_ : Go _ _ 57 _ _ _ _)
  refine Go.dup2 dX6_add_57 rfl rfl (?_ : Go _ _ 58 _ _ _ _)
  refine Go.ialdK ixk_0 vik_0_32 shq_65 dX6_add_58 (?_ : Go _ _ 59 _ _ _ _)
  refine Go.iconst dX6_add_59 k_ic_1 (?_ : Go _ _ 60 _ _ _ _)
  refine Go.iadd dX6_add_60 (?_ : Go _ _ 61 _ _ _ _)
  refine Go.iastK ixk_0 vik_0_32 shq_65 dX6_add_61 (?_ : Go _ _ 62 _ _ _ _)
  generalize es5 : setA s4 65 0 ((sA s4 65 0) + 1) = s5
  have h := h s5 es5.symm
  exact Go.vret rfl dX6_add_62 ⟨rfl, h⟩
theorem cgX6_add {d : Nat} {σ : St} {x1 : Int32} {x2 : Int32} {x3 : Int32} {x4 : Int32} {K : St → Prop} (h : vp_in (8 + (4 * (sA σ 65 0))) 32 ∧ ∀ s1, s1 = setA σ 65 (ix (8 + (4 * (sA σ 65 0)))) x1 → vp_in ((8 + (4 * (sA σ 65 0))) + 1) 32 ∧ ∀ s2, s2 = setA s1 65 (ix ((8 + (4 * (sA σ 65 0))) + 1)) x2 → vp_in ((8 + (4 * (sA σ 65 0))) + 2) 32 ∧ ∀ s3, s3 = setA s2 65 (ix ((8 + (4 * (sA σ 65 0))) + 2)) x3 → vp_in ((8 + (4 * (sA σ 65 0))) + 3) 32 ∧ ∀ s4, s4 = setA s3 65 (ix ((8 + (4 * (sA σ 65 0))) + 3)) x4 → ∀ s5, s5 = setA s4 65 0 ((sA s4 65 0) + 1) → K s5) : CallU (d + 1) mX6_add [.ref 64, .int x1, .int x2, .int x3, .int x4] σ K := Call_of_Go (by decide +kernel) (ls := [.ref 64, .int x1, .int x2, .int x3, .int x4, .null]) rfl (Nat.le_of_ble_eq_true rfl) (sgX6_add_0 h)
set_option maxHeartbeats 4000000 in
set_option maxRecDepth 100000 in
theorem sgX6_isBody_0 {d : Nat} {σ : St} {x0 : Int32} {x1 : Int32} {x2 : Int32} {K : Int32 → St → Prop} (h : CallI d mX6_in [.int x0, .int 1, .int 300] σ (fun r2 s1 => (r2 = 0 → K 0 s1) ∧ (¬ r2 = 0 → CallI d mX6_in [.int x1, .int 1, .int 99] s1 (fun r5 s4 => (r5 = 0 → K 0 s4) ∧ (¬ r5 = 0 → CallI d mX6_in [.int x2, .int (-5), .int 5] s4 (fun r8 s7 => (r8 = 0 → K 0 s7) ∧ (¬ r8 = 0 → K 1 s7))))))) : Go mX6_isBody (d + 1) 0 [.int x0, .int x1, .int x2] [] σ (QI K) := by
  refine Go.iload_n 0 dX6_isBody_0 rfl rfl (?_ : Go _ _ 1 _ _ _ _)
  refine Go.iconst dX6_isBody_1 k_ic_1 (?_ : Go _ _ 2 _ _ _ _)
  refine Go.sipush dX6_isBody_2 k_si_300 (?_ : Go _ _ 5 _ _ _ _)
  refine Go.callS (as := [.int x0, .int 1, .int 300]) (st := []) mk_X6_in wl_X6_41 rfl rfl (Nat.le_of_ble_eq_true rfl) dX6_isBody_5 h ?_
  rintro _ s1 ⟨r2, rfl, h⟩
  show Go _ _ 8 _ [.int r2] _ _
  refine Go.if_eq 35 dX6_isBody_8 rfl ⟨fun c3 => ?_, fun c3 => (?_ : Go _ _ 11 _ _ _ _)⟩
  · have h := h.1 c3
    refine Go.iconst dX6_isBody_35 k_ic_0 (?_ : Go _ _ 36 _ _ _ _)
    exact Go.zret rfl rfl dX6_isBody_36 ⟨_, rfl, h⟩
  · have h := h.2 c3
    refine Go.iload_n 1 dX6_isBody_11 rfl rfl (?_ : Go _ _ 12 _ _ _ _)
    refine Go.iconst dX6_isBody_12 k_ic_1 (?_ : Go _ _ 13 _ _ _ _)
    refine Go.bipush dX6_isBody_13 k_bi_99 (?_ : Go _ _ 15 _ _ _ _)
    refine Go.callS (as := [.int x1, .int 1, .int 99]) (st := []) mk_X6_in wl_X6_41 rfl rfl (Nat.le_of_ble_eq_true rfl) dX6_isBody_15 h ?_
    rintro _ s4 ⟨r5, rfl, h⟩
    show Go _ _ 18 _ [.int r5] _ _
    refine Go.if_eq 35 dX6_isBody_18 rfl ⟨fun c6 => ?_, fun c6 => (?_ : Go _ _ 21 _ _ _ _)⟩
    · have h := h.1 c6
      refine Go.iconst dX6_isBody_35 k_ic_0 (?_ : Go _ _ 36 _ _ _ _)
      exact Go.zret rfl rfl dX6_isBody_36 ⟨_, rfl, h⟩
    · have h := h.2 c6
      refine Go.iload_n 2 dX6_isBody_21 rfl rfl (?_ : Go _ _ 22 _ _ _ _)
      refine Go.bipush dX6_isBody_22 k_bi_m5 (?_ : Go _ _ 24 _ _ _ _)
      refine Go.iconst dX6_isBody_24 k_ic_5 (?_ : Go _ _ 25 _ _ _ _)
      refine Go.callS (as := [.int x2, .int (-5), .int 5]) (st := []) mk_X6_in wl_X6_41 rfl rfl (Nat.le_of_ble_eq_true rfl) dX6_isBody_25 h ?_
      rintro _ s7 ⟨r8, rfl, h⟩
      show Go _ _ 28 _ [.int r8] _ _
      refine Go.if_eq 35 dX6_isBody_28 rfl ⟨fun c9 => ?_, fun c9 => (?_ : Go _ _ 31 _ _ _ _)⟩
      · have h := h.1 c9
        refine Go.iconst dX6_isBody_35 k_ic_0 (?_ : Go _ _ 36 _ _ _ _)
        exact Go.zret rfl rfl dX6_isBody_36 ⟨_, rfl, h⟩
      · have h := h.2 c9
        refine Go.iconst dX6_isBody_31 k_ic_1 (?_ : Go _ _ 32 _ _ _ _)
        refine Go.goto 36 dX6_isBody_32 rfl ?_
        exact Go.zret rfl rfl dX6_isBody_36 ⟨_, rfl, h⟩
theorem cgX6_isBody {d : Nat} {σ : St} {x0 : Int32} {x1 : Int32} {x2 : Int32} {K : Int32 → St → Prop} (h : CallI d mX6_in [.int x0, .int 1, .int 300] σ (fun r2 s1 => (r2 = 0 → K 0 s1) ∧ (¬ r2 = 0 → CallI d mX6_in [.int x1, .int 1, .int 99] s1 (fun r5 s4 => (r5 = 0 → K 0 s4) ∧ (¬ r5 = 0 → CallI d mX6_in [.int x2, .int (-5), .int 5] s4 (fun r8 s7 => (r8 = 0 → K 0 s7) ∧ (¬ r8 = 0 → K 1 s7))))))) : CallI (d + 1) mX6_isBody [.int x0, .int x1, .int x2] σ K := Call_of_Go (by decide +kernel) (ls := [.int x0, .int x1, .int x2]) rfl (Nat.le_of_ble_eq_true rfl) (sgX6_isBody_0 h)
set_option maxHeartbeats 4000000 in
set_option maxRecDepth 100000 in
theorem sgX6_target_0 {d : Nat} {σ : St} {x1 : Int32} {x2 : Int32} {x3 : Int32} {x4 : Int32} {K : Int32 → St → Prop} (h : CallI d mX6_isBody [.int x1, .int x2, .int x3] σ (fun r2 s1 => (r2 = 0 → K (-1) s1) ∧ (¬ r2 = 0 → (x4 = 0 → CallI d mX6_isThere [.ref 64, .int x1, .int x3] s1 (fun r6 s5 => (r6 = 0 → (¬ (sA s5 65 0) = 6 → CallU d mX6_record [.ref 64] s5 (fun s9 => (x4 = 0 → CallU d mX6_add [.ref 64, .int x1, .int x2, .int x3, .int 0] s9 (fun s11 => K ((sA s11 65 0) - 1) s11)) ∧ (¬ x4 = 0 → CallU d mX6_add [.ref 64, .int x1, .int x2, .int x3, .int 1] s9 (fun s12 => K ((sA s12 65 0) - 1) s12)))) ∧ ((sA s5 65 0) = 6 → K (-3) s5)) ∧ (¬ r6 = 0 → K (-2) s5))) ∧ (¬ x4 = 0 → (x3 = 0 → CallI d mX6_isThere [.ref 64, .int x1, .int x3] s1 (fun r15 s14 => (r15 = 0 → (¬ (sA s14 65 0) = 6 → CallU d mX6_record [.ref 64] s14 (fun s18 => (x4 = 0 → CallU d mX6_add [.ref 64, .int x1, .int x2, .int x3, .int 0] s18 (fun s20 => K ((sA s20 65 0) - 1) s20)) ∧ (¬ x4 = 0 → CallU d mX6_add [.ref 64, .int x1, .int x2, .int x3, .int 1] s18 (fun s21 => K ((sA s21 65 0) - 1) s21)))) ∧ ((sA s14 65 0) = 6 → K (-3) s14)) ∧ (¬ r15 = 0 → K (-2) s14))) ∧ (¬ x3 = 0 → K (-1) s1))))) : Go mX6_target (d + 1) 0 [.ref 64, .int x1, .int x2, .int x3, .int x4] [] σ (QI K) := by
  refine Go.iload_n 1 dX6_target_0 rfl rfl (?_ : Go _ _ 1 _ _ _ _)
  refine Go.iload_n 2 dX6_target_1 rfl rfl (?_ : Go _ _ 2 _ _ _ _)
  refine Go.iload_n 3 dX6_target_2 rfl rfl (?_ : Go _ _ 3 _ _ _ _)
  refine Go.callS (as := [.int x1, .int x2, .int x3]) (st := []) mk_X6_isBody wl_X6_60 rfl rfl (Nat.le_of_ble_eq_true rfl) dX6_target_3 h ?_
  rintro _ s1 ⟨r2, rfl, h⟩
  show Go _ _ 6 _ [.int r2] _ _
  refine Go.if_eq 18 dX6_target_6 rfl ⟨fun c3 => ?_, fun c3 => (?_ : Go _ _ 9 _ _ _ _)⟩
  · have h := h.1 c3
    refine Go.iconst dX6_target_18 k_ic_m1 (?_ : Go _ _ 19 _ _ _ _)
    exact Go.iret rfl dX6_target_19 ⟨_, rfl, h⟩
  · have h := h.2 c3
    refine Go.iload dX6_target_9 rfl (?_ : Go _ _ 11 _ _ _ _)
    refine Go.if_eq 20 dX6_target_11 rfl ⟨fun c4 => ?_, fun c4 => (?_ : Go _ _ 14 _ _ _ _)⟩
    · have h := h.1 c4
      refine Go.aload_n 0 dX6_target_20 rfl rfl (?_ : Go _ _ 21 _ _ _ _)
      refine Go.iload_n 1 dX6_target_21 rfl rfl (?_ : Go _ _ 22 _ _ _ _)
      refine Go.iload_n 3 dX6_target_22 rfl rfl (?_ : Go _ _ 23 _ _ _ _)
      refine Go.callV (as := [.int x1, .int x3]) (st := []) mk_X6_isThere wl_X6_63 shq_64 rfl rfl (Nat.le_of_ble_eq_true rfl) dX6_target_23 h ?_
      rintro _ s5 ⟨r6, rfl, h⟩
      show Go _ _ 26 _ [.int r6] _ _
      refine Go.if_eq 32 dX6_target_26 rfl ⟨fun c7 => ?_, fun c7 => (?_ : Go _ _ 29 _ _ _ _)⟩
      · have h := h.1 c7
        refine Go.aload_n 0 dX6_target_32 rfl rfl (?_ : Go _ _ 33 _ _ _ _)
        refine Go.getR fk_X6_7 shq_64 frq_64_0 dX6_target_33 (?_ : Go _ _ 36 _ _ _ _)
        refine Go.iconst dX6_target_36 k_ic_0 (?_ : Go _ _ 37 _ _ _ _)
        refine Go.ialdK ixk_0 vik_0_32 shq_65 dX6_target_37 (?_ : Go _ _ 38 _ _ _ _)
        refine Go.bipush dX6_target_38 k_bi_6 (?_ : Go _ _ 40 _ _ _ _)
        refine Go.icmp_ne 46 dX6_target_40 rfl ⟨fun c8 => ?_, fun c8 => (?_ : Go _ _ 43 _ _ _ _)⟩
        · have h := h.1 c8
          refine Go.aload_n 0 dX6_target_46 rfl rfl (?_ : Go _ _ 47 _ _ _ _)
          refine Go.callV (as := []) (st := []) mk_X6_record wl_X6_53 shq_64 rfl rfl (Nat.le_of_ble_eq_true rfl) dX6_target_47 h ?_
          rintro _ s9 ⟨rfl, h⟩
          show Go _ _ 50 _ [] _ _
          refine Go.aload_n 0 dX6_target_50 rfl rfl (?_ : Go _ _ 51 _ _ _ _)
          refine Go.iload_n 1 dX6_target_51 rfl rfl (?_ : Go _ _ 52 _ _ _ _)
          refine Go.iload_n 2 dX6_target_52 rfl rfl (?_ : Go _ _ 53 _ _ _ _)
          refine Go.iload_n 3 dX6_target_53 rfl rfl (?_ : Go _ _ 54 _ _ _ _)
          refine Go.iload dX6_target_54 rfl (?_ : Go _ _ 56 _ _ _ _)
          refine Go.if_eq 63 dX6_target_56 rfl ⟨fun c10 => ?_, fun c10 => (?_ : Go _ _ 59 _ _ _ _)⟩
          · have h := h.1 c10
            refine Go.iconst dX6_target_63 k_ic_0 (?_ : Go _ _ 64 _ _ _ _)
            refine Go.callV (as := [.int x1, .int x2, .int x3, .int 0]) (st := []) mk_X6_add wl_X6_67 shq_64 rfl rfl (Nat.le_of_ble_eq_true rfl) dX6_target_64 h ?_
            rintro _ s11 ⟨rfl, h⟩
            show Go _ _ 67 _ [] _ _
            refine Go.aload_n 0 dX6_target_67 rfl rfl (?_ : Go _ _ 68 _ _ _ _)
            refine Go.getR fk_X6_7 shq_64 frq_64_0 dX6_target_68 (?_ : Go _ _ 71 _ _ _ _)
            refine Go.iconst dX6_target_71 k_ic_0 (?_ : Go _ _ 72 _ _ _ _)
            refine Go.ialdK ixk_0 vik_0_32 shq_65 dX6_target_72 (?_ : Go _ _ 73 _ _ _ _)
            refine Go.iconst dX6_target_73 k_ic_1 (?_ : Go _ _ 74 _ _ _ _)
            refine Go.isub dX6_target_74 (?_ : Go _ _ 75 _ _ _ _)
            exact Go.iret rfl dX6_target_75 ⟨_, rfl, h⟩
          · have h := h.2 c10
            refine Go.iconst dX6_target_59 k_ic_1 (?_ : Go _ _ 60 _ _ _ _)
            refine Go.goto 64 dX6_target_60 rfl ?_
            refine Go.callV (as := [.int x1, .int x2, .int x3, .int 1]) (st := []) mk_X6_add wl_X6_67 shq_64 rfl rfl (Nat.le_of_ble_eq_true rfl) dX6_target_64 h ?_
            rintro _ s12 ⟨rfl, h⟩
            show Go _ _ 67 _ [] _ _
            refine Go.aload_n 0 dX6_target_67 rfl rfl (?_ : Go _ _ 68 _ _ _ _)
            refine Go.getR fk_X6_7 shq_64 frq_64_0 dX6_target_68 (?_ : Go _ _ 71 _ _ _ _)
            refine Go.iconst dX6_target_71 k_ic_0 (?_ : Go _ _ 72 _ _ _ _)
            refine Go.ialdK ixk_0 vik_0_32 shq_65 dX6_target_72 (?_ : Go _ _ 73 _ _ _ _)
            refine Go.iconst dX6_target_73 k_ic_1 (?_ : Go _ _ 74 _ _ _ _)
            refine Go.isub dX6_target_74 (?_ : Go _ _ 75 _ _ _ _)
            exact Go.iret rfl dX6_target_75 ⟨_, rfl, h⟩
        · have h := h.2 c8
          refine Go.bipush dX6_target_43 k_bi_m3 (?_ : Go _ _ 45 _ _ _ _)
          exact Go.iret rfl dX6_target_45 ⟨_, rfl, h⟩
      · have h := h.2 c7
        refine Go.bipush dX6_target_29 k_bi_m2 (?_ : Go _ _ 31 _ _ _ _)
        exact Go.iret rfl dX6_target_31 ⟨_, rfl, h⟩
    · have h := h.2 c4
      refine Go.iload_n 3 dX6_target_14 rfl rfl (?_ : Go _ _ 15 _ _ _ _)
      refine Go.if_eq 20 dX6_target_15 rfl ⟨fun c13 => ?_, fun c13 => (?_ : Go _ _ 18 _ _ _ _)⟩
      · have h := h.1 c13
        refine Go.aload_n 0 dX6_target_20 rfl rfl (?_ : Go _ _ 21 _ _ _ _)
        refine Go.iload_n 1 dX6_target_21 rfl rfl (?_ : Go _ _ 22 _ _ _ _)
        refine Go.iload_n 3 dX6_target_22 rfl rfl (?_ : Go _ _ 23 _ _ _ _)
        refine Go.callV (as := [.int x1, .int x3]) (st := []) mk_X6_isThere wl_X6_63 shq_64 rfl rfl (Nat.le_of_ble_eq_true rfl) dX6_target_23 h ?_
        rintro _ s14 ⟨r15, rfl, h⟩
        show Go _ _ 26 _ [.int r15] _ _
        refine Go.if_eq 32 dX6_target_26 rfl ⟨fun c16 => ?_, fun c16 => (?_ : Go _ _ 29 _ _ _ _)⟩
        · have h := h.1 c16
          refine Go.aload_n 0 dX6_target_32 rfl rfl (?_ : Go _ _ 33 _ _ _ _)
          refine Go.getR fk_X6_7 shq_64 frq_64_0 dX6_target_33 (?_ : Go _ _ 36 _ _ _ _)
          refine Go.iconst dX6_target_36 k_ic_0 (?_ : Go _ _ 37 _ _ _ _)
          refine Go.ialdK ixk_0 vik_0_32 shq_65 dX6_target_37 (?_ : Go _ _ 38 _ _ _ _)
          refine Go.bipush dX6_target_38 k_bi_6 (?_ : Go _ _ 40 _ _ _ _)
          refine Go.icmp_ne 46 dX6_target_40 rfl ⟨fun c17 => ?_, fun c17 => (?_ : Go _ _ 43 _ _ _ _)⟩
          · have h := h.1 c17
            refine Go.aload_n 0 dX6_target_46 rfl rfl (?_ : Go _ _ 47 _ _ _ _)
            refine Go.callV (as := []) (st := []) mk_X6_record wl_X6_53 shq_64 rfl rfl (Nat.le_of_ble_eq_true rfl) dX6_target_47 h ?_
            rintro _ s18 ⟨rfl, h⟩
            show Go _ _ 50 _ [] _ _
            refine Go.aload_n 0 dX6_target_50 rfl rfl (?_ : Go _ _ 51 _ _ _ _)
            refine Go.iload_n 1 dX6_target_51 rfl rfl (?_ : Go _ _ 52 _ _ _ _)
            refine Go.iload_n 2 dX6_target_52 rfl rfl (?_ : Go _ _ 53 _ _ _ _)
            refine Go.iload_n 3 dX6_target_53 rfl rfl (?_ : Go _ _ 54 _ _ _ _)
            refine Go.iload dX6_target_54 rfl (?_ : Go _ _ 56 _ _ _ _)
            refine Go.if_eq 63 dX6_target_56 rfl ⟨fun c19 => ?_, fun c19 => (?_ : Go _ _ 59 _ _ _ _)⟩
            · have h := h.1 c19
              refine Go.iconst dX6_target_63 k_ic_0 (?_ : Go _ _ 64 _ _ _ _)
              refine Go.callV (as := [.int x1, .int x2, .int x3, .int 0]) (st := []) mk_X6_add wl_X6_67 shq_64 rfl rfl (Nat.le_of_ble_eq_true rfl) dX6_target_64 h ?_
              rintro _ s20 ⟨rfl, h⟩
              show Go _ _ 67 _ [] _ _
              refine Go.aload_n 0 dX6_target_67 rfl rfl (?_ : Go _ _ 68 _ _ _ _)
              refine Go.getR fk_X6_7 shq_64 frq_64_0 dX6_target_68 (?_ : Go _ _ 71 _ _ _ _)
              refine Go.iconst dX6_target_71 k_ic_0 (?_ : Go _ _ 72 _ _ _ _)
              refine Go.ialdK ixk_0 vik_0_32 shq_65 dX6_target_72 (?_ : Go _ _ 73 _ _ _ _)
              refine Go.iconst dX6_target_73 k_ic_1 (?_ : Go _ _ 74 _ _ _ _)
              refine Go.isub dX6_target_74 (?_ : Go _ _ 75 _ _ _ _)
              exact Go.iret rfl dX6_target_75 ⟨_, rfl, h⟩
            · have h := h.2 c19
              refine Go.iconst dX6_target_59 k_ic_1 (?_ : Go _ _ 60 _ _ _ _)
              refine Go.goto 64 dX6_target_60 rfl ?_
              refine Go.callV (as := [.int x1, .int x2, .int x3, .int 1]) (st := []) mk_X6_add wl_X6_67 shq_64 rfl rfl (Nat.le_of_ble_eq_true rfl) dX6_target_64 h ?_
              rintro _ s21 ⟨rfl, h⟩
              show Go _ _ 67 _ [] _ _
              refine Go.aload_n 0 dX6_target_67 rfl rfl (?_ : Go _ _ 68 _ _ _ _)
              refine Go.getR fk_X6_7 shq_64 frq_64_0 dX6_target_68 (?_ : Go _ _ 71 _ _ _ _)
              refine Go.iconst dX6_target_71 k_ic_0 (?_ : Go _ _ 72 _ _ _ _)
              refine Go.ialdK ixk_0 vik_0_32 shq_65 dX6_target_72 (?_ : Go _ _ 73 _ _ _ _)
              refine Go.iconst dX6_target_73 k_ic_1 (?_ : Go _ _ 74 _ _ _ _)
              refine Go.isub dX6_target_74 (?_ : Go _ _ 75 _ _ _ _)
              exact Go.iret rfl dX6_target_75 ⟨_, rfl, h⟩
          · have h := h.2 c17
            refine Go.bipush dX6_target_43 k_bi_m3 (?_ : Go _ _ 45 _ _ _ _)
            exact Go.iret rfl dX6_target_45 ⟨_, rfl, h⟩
        · have h := h.2 c16
          refine Go.bipush dX6_target_29 k_bi_m2 (?_ : Go _ _ 31 _ _ _ _)
          exact Go.iret rfl dX6_target_31 ⟨_, rfl, h⟩
      · have h := h.2 c13
        refine Go.iconst dX6_target_18 k_ic_m1 (?_ : Go _ _ 19 _ _ _ _)
        exact Go.iret rfl dX6_target_19 ⟨_, rfl, h⟩
theorem cgX6_target {d : Nat} {σ : St} {x1 : Int32} {x2 : Int32} {x3 : Int32} {x4 : Int32} {K : Int32 → St → Prop} (h : CallI d mX6_isBody [.int x1, .int x2, .int x3] σ (fun r2 s1 => (r2 = 0 → K (-1) s1) ∧ (¬ r2 = 0 → (x4 = 0 → CallI d mX6_isThere [.ref 64, .int x1, .int x3] s1 (fun r6 s5 => (r6 = 0 → (¬ (sA s5 65 0) = 6 → CallU d mX6_record [.ref 64] s5 (fun s9 => (x4 = 0 → CallU d mX6_add [.ref 64, .int x1, .int x2, .int x3, .int 0] s9 (fun s11 => K ((sA s11 65 0) - 1) s11)) ∧ (¬ x4 = 0 → CallU d mX6_add [.ref 64, .int x1, .int x2, .int x3, .int 1] s9 (fun s12 => K ((sA s12 65 0) - 1) s12)))) ∧ ((sA s5 65 0) = 6 → K (-3) s5)) ∧ (¬ r6 = 0 → K (-2) s5))) ∧ (¬ x4 = 0 → (x3 = 0 → CallI d mX6_isThere [.ref 64, .int x1, .int x3] s1 (fun r15 s14 => (r15 = 0 → (¬ (sA s14 65 0) = 6 → CallU d mX6_record [.ref 64] s14 (fun s18 => (x4 = 0 → CallU d mX6_add [.ref 64, .int x1, .int x2, .int x3, .int 0] s18 (fun s20 => K ((sA s20 65 0) - 1) s20)) ∧ (¬ x4 = 0 → CallU d mX6_add [.ref 64, .int x1, .int x2, .int x3, .int 1] s18 (fun s21 => K ((sA s21 65 0) - 1) s21)))) ∧ ((sA s14 65 0) = 6 → K (-3) s14)) ∧ (¬ r15 = 0 → K (-2) s14))) ∧ (¬ x3 = 0 → K (-1) s1))))) : CallI (d + 1) mX6_target [.ref 64, .int x1, .int x2, .int x3, .int x4] σ K := Call_of_Go (by decide +kernel) (ls := [.ref 64, .int x1, .int x2, .int x3, .int x4]) rfl (Nat.le_of_ble_eq_true rfl) (sgX6_target_0 h)
set_option maxHeartbeats 4000000 in
set_option maxRecDepth 100000 in
theorem sgX6_takeOut_0 {d : Nat} {σ : St} {x1 : Int32} {K : St → Prop} (h : Go mX6_takeOut (d + 1) 7 [.ref 64, .int x1, .int (8 + (4 * x1))] [] σ (QU K)) : Go mX6_takeOut (d + 1) 0 [.ref 64, .int x1, .null] [] σ (QU K) := by
  refine Go.bipush dX6_takeOut_0 k_bi_8 (?_ : Go _ _ 2 _ _ _ _)
  refine Go.iconst dX6_takeOut_2 k_ic_4 (?_ : Go _ _ 3 _ _ _ _)
  refine Go.iload_n 1 dX6_takeOut_3 rfl rfl (?_ : Go _ _ 4 _ _ _ _)
  refine Go.imul dX6_takeOut_4 (?_ : Go _ _ 5 _ _ _ _)
  refine Go.iadd dX6_takeOut_5 (?_ : Go _ _ 6 _ _ _ _)
  refine Go.istore_n 2 dX6_takeOut_6 rfl (by decide) rfl rfl (?_ : Go _ _ 7 [.ref 64, .int x1, .int (8 + (4 * x1))] _ _ _)
  exact h
theorem cgX6_takeOut {d : Nat} {σ : St} {x1 : Int32} {K : St → Prop} (h : Go mX6_takeOut (d + 1) 7 [.ref 64, .int x1, .int (8 + (4 * x1))] [] σ (QU K)) : CallU (d + 1) mX6_takeOut [.ref 64, .int x1] σ K := Call_of_Go (by decide +kernel) (ls := [.ref 64, .int x1, .null]) rfl (Nat.le_of_ble_eq_true rfl) (sgX6_takeOut_0 h)
set_option maxHeartbeats 4000000 in
set_option maxRecDepth 100000 in
theorem sgX6_takeOut_7 {d : Nat} {σ : St} {v1 : Int32} {v2 : Int32} {K : St → Prop} (h : (28 ≤ v2 → ∀ s2, s2 = setA σ 65 0 ((sA σ 65 0) - 1) → K s2) ∧ (¬ 28 ≤ v2 → vp_in (v2 + 4) 32 ∧ vp_in v2 32 ∧ ∀ s3, s3 = setA σ 65 (ix v2) (sA σ 65 (ix (v2 + 4))) → Go mX6_takeOut (d + 1) 7 [.ref 64, .int v1, .int (v2 + 1)] [] s3 (QU K))) : Go mX6_takeOut (d + 1) 7 [.ref 64, .int v1, .int v2] [] σ (QU K) := by
  refine Go.iload_n 2 dX6_takeOut_7 rfl rfl (?_ : Go _ _ 8 _ _ _ _)
  refine Go.bipush dX6_takeOut_8 k_bi_28 (?_ : Go _ _ 10 _ _ _ _)
  refine Go.icmp_ge 33 dX6_takeOut_10 rfl ⟨fun c1 => ?_, fun c1 => (?_ : Go _ _ 13 _ _ _ _)⟩
  · have h := h.1 c1
    refine Go.aload_n 0 dX6_takeOut_33 rfl rfl (?_ : Go _ _ 34 _ _ _ _)
    refine Go.getR fk_X6_7 shq_64 frq_64_0 dX6_takeOut_34 (?_ : Go _ _ 37 _ _ _ _)
    refine Go.iconst dX6_takeOut_37 k_ic_0 (?_ : Go _ _ 38 _ _ _ _)
    refine Go.dup2 dX6_takeOut_38 rfl rfl (?_ : Go _ _ 39 _ _ _ _)
    refine Go.ialdK ixk_0 vik_0_32 shq_65 dX6_takeOut_39 (?_ : Go _ _ 40 _ _ _ _)
    refine Go.iconst dX6_takeOut_40 k_ic_1 (?_ : Go _ _ 41 _ _ _ _)
    refine Go.isub dX6_takeOut_41 (?_ : Go _ _ 42 _ _ _ _)
    refine Go.iastK ixk_0 vik_0_32 shq_65 dX6_takeOut_42 (?_ : Go _ _ 43 _ _ _ _)
    generalize es2 : setA σ 65 0 ((sA σ 65 0) - 1) = s2
    have h := h s2 es2.symm
    exact Go.vret rfl dX6_takeOut_43 ⟨rfl, h⟩
  · have h := h.2 c1
    refine Go.aload_n 0 dX6_takeOut_13 rfl rfl (?_ : Go _ _ 14 _ _ _ _)
    refine Go.getR fk_X6_7 shq_64 frq_64_0 dX6_takeOut_14 (?_ : Go _ _ 17 _ _ _ _)
    refine Go.iload_n 2 dX6_takeOut_17 rfl rfl (?_ : Go _ _ 18 _ _ _ _)
    refine Go.aload_n 0 dX6_takeOut_18 rfl rfl (?_ : Go _ _ 19 _ _ _ _)
    refine Go.getR fk_X6_7 shq_64 frq_64_0 dX6_takeOut_19 (?_ : Go _ _ 22 _ _ _ _)
    refine Go.iload_n 2 dX6_takeOut_22 rfl rfl (?_ : Go _ _ 23 _ _ _ _)
    refine Go.iconst dX6_takeOut_23 k_ic_4 (?_ : Go _ _ 24 _ _ _ _)
    refine Go.iadd dX6_takeOut_24 (?_ : Go _ _ 25 _ _ _ _)
    refine Go.iald shq_65 dX6_takeOut_25 ⟨h.1, (?_ : Go _ _ 26 _ _ _ _)⟩
    have h := h.2
    refine Go.iast shq_65 dX6_takeOut_26 ⟨h.1, (?_ : Go _ _ 27 _ _ _ _)⟩
    generalize es3 : setA σ 65 (ix v2) (sA σ 65 (ix (v2 + 4))) = s3
    have h := h.2 s3 es3.symm
    refine Go.iinc dX6_takeOut_27 rfl (congrArg (fun z => v2 + z) k_ic_1) (by decide) rfl rfl (?_ : Go _ _ 30 [.ref 64, .int v1, .int (v2 + 1)] _ _ _)
    refine Go.goto 7 dX6_takeOut_30 rfl ?_
    exact h
set_option maxHeartbeats 4000000 in
set_option maxRecDepth 100000 in
theorem sgX6_drop_0 {d : Nat} {σ : St} {x1 : Int32} {K : Int32 → St → Prop} (h : CallI d mX6_isTarget [.ref 64, .int x1] σ (fun r2 s1 => (¬ r2 = 0 → CallU d mX6_record [.ref 64] s1 (fun s4 => CallU d mX6_takeOut [.ref 64, .int x1] s4 (fun s5 => K (sA s5 65 0) s5))) ∧ (r2 = 0 → K (-1) s1))) : Go mX6_drop (d + 1) 0 [.ref 64, .int x1] [] σ (QI K) := by
  refine Go.aload_n 0 dX6_drop_0 rfl rfl (?_ : Go _ _ 1 _ _ _ _)
  refine Go.iload_n 1 dX6_drop_1 rfl rfl (?_ : Go _ _ 2 _ _ _ _)
  refine Go.callV (as := [.int x1]) (st := []) mk_X6_isTarget wl_X6_71 shq_64 rfl rfl (Nat.le_of_ble_eq_true rfl) dX6_drop_2 h ?_
  rintro _ s1 ⟨r2, rfl, h⟩
  show Go _ _ 5 _ [.int r2] _ _
  refine Go.if_ne 10 dX6_drop_5 rfl ⟨fun c3 => ?_, fun c3 => (?_ : Go _ _ 8 _ _ _ _)⟩
  · have h := h.1 c3
    refine Go.aload_n 0 dX6_drop_10 rfl rfl (?_ : Go _ _ 11 _ _ _ _)
    refine Go.callV (as := []) (st := []) mk_X6_record wl_X6_53 shq_64 rfl rfl (Nat.le_of_ble_eq_true rfl) dX6_drop_11 h ?_
    rintro _ s4 ⟨rfl, h⟩
    show Go _ _ 14 _ [] _ _
    refine Go.aload_n 0 dX6_drop_14 rfl rfl (?_ : Go _ _ 15 _ _ _ _)
    refine Go.iload_n 1 dX6_drop_15 rfl rfl (?_ : Go _ _ 16 _ _ _ _)
    refine Go.callV (as := [.int x1]) (st := []) mk_X6_takeOut wl_X6_75 shq_64 rfl rfl (Nat.le_of_ble_eq_true rfl) dX6_drop_16 h ?_
    rintro _ s5 ⟨rfl, h⟩
    show Go _ _ 19 _ [] _ _
    refine Go.aload_n 0 dX6_drop_19 rfl rfl (?_ : Go _ _ 20 _ _ _ _)
    refine Go.getR fk_X6_7 shq_64 frq_64_0 dX6_drop_20 (?_ : Go _ _ 23 _ _ _ _)
    refine Go.iconst dX6_drop_23 k_ic_0 (?_ : Go _ _ 24 _ _ _ _)
    refine Go.ialdK ixk_0 vik_0_32 shq_65 dX6_drop_24 (?_ : Go _ _ 25 _ _ _ _)
    exact Go.iret rfl dX6_drop_25 ⟨_, rfl, h⟩
  · have h := h.2 c3
    refine Go.iconst dX6_drop_8 k_ic_m1 (?_ : Go _ _ 9 _ _ _ _)
    exact Go.iret rfl dX6_drop_9 ⟨_, rfl, h⟩
theorem cgX6_drop {d : Nat} {σ : St} {x1 : Int32} {K : Int32 → St → Prop} (h : CallI d mX6_isTarget [.ref 64, .int x1] σ (fun r2 s1 => (¬ r2 = 0 → CallU d mX6_record [.ref 64] s1 (fun s4 => CallU d mX6_takeOut [.ref 64, .int x1] s4 (fun s5 => K (sA s5 65 0) s5))) ∧ (r2 = 0 → K (-1) s1))) : CallI (d + 1) mX6_drop [.ref 64, .int x1] σ K := Call_of_Go (by decide +kernel) (ls := [.ref 64, .int x1]) rfl (Nat.le_of_ble_eq_true rfl) (sgX6_drop_0 h)
set_option maxHeartbeats 4000000 in
set_option maxRecDepth 100000 in
theorem sgX6_go_0 {d : Nat} {σ : St} {K : Int32 → St → Prop} (h : CallU d mX6_record [.ref 64] σ (fun s1 => Go mX6_go (d + 1) 13 [.ref 64, .int ((sA s1 65 0) - 1), .null] [] s1 (QI K))) : Go mX6_go (d + 1) 0 [.ref 64, .null, .null] [] σ (QI K) := by
  refine Go.aload_n 0 dX6_go_0 rfl rfl (?_ : Go _ _ 1 _ _ _ _)
  refine Go.callV (as := []) (st := []) mk_X6_record wl_X6_53 shq_64 rfl rfl (Nat.le_of_ble_eq_true rfl) dX6_go_1 h ?_
  rintro _ s1 ⟨rfl, h⟩
  show Go _ _ 4 _ [] _ _
  refine Go.aload_n 0 dX6_go_4 rfl rfl (?_ : Go _ _ 5 _ _ _ _)
  refine Go.getR fk_X6_7 shq_64 frq_64_0 dX6_go_5 (?_ : Go _ _ 8 _ _ _ _)
  refine Go.iconst dX6_go_8 k_ic_0 (?_ : Go _ _ 9 _ _ _ _)
  refine Go.ialdK ixk_0 vik_0_32 shq_65 dX6_go_9 (?_ : Go _ _ 10 _ _ _ _)
  refine Go.iconst dX6_go_10 k_ic_1 (?_ : Go _ _ 11 _ _ _ _)
  refine Go.isub dX6_go_11 (?_ : Go _ _ 12 _ _ _ _)
  refine Go.istore_n 1 dX6_go_12 rfl (by decide) rfl rfl (?_ : Go _ _ 13 [.ref 64, .int ((sA s1 65 0) - 1), .null] _ _ _)
  exact h
theorem cgX6_go {d : Nat} {σ : St} {K : Int32 → St → Prop} (h : CallU d mX6_record [.ref 64] σ (fun s1 => Go mX6_go (d + 1) 13 [.ref 64, .int ((sA s1 65 0) - 1), .null] [] s1 (QI K))) : CallI (d + 1) mX6_go [.ref 64] σ K := Call_of_Go (by decide +kernel) (ls := [.ref 64, .null, .null]) rfl (Nat.le_of_ble_eq_true rfl) (sgX6_go_0 h)
set_option maxHeartbeats 4000000 in
set_option maxRecDepth 100000 in
theorem sgX6_go_13 {d : Nat} {σ : St} {v1 : Int32} {K : Int32 → St → Prop} (h : (v1 < 0 → K (sA σ 65 0) σ) ∧ (¬ v1 < 0 → CallI d mX6_of [.ref 64, .int v1, .int 0] σ (fun r3 s2 => CallI d mX6_of [.ref 64, .int v1, .int 2] s2 (fun r5 s4 => vp_in (8 + (4 * v1)) 32 ∧ ∀ s6, s6 = setA s4 65 (ix (8 + (4 * v1))) (r3 + (r5 * (sA s4 65 1))) → CallI d mX6_in [.int (r3 + (r5 * (sA s4 65 1))), .int 1, .int 300] s6 (fun r8 s7 => (¬ r8 = 0 → Go mX6_go (d + 1) 13 [.ref 64, .int (v1 + (-1)), .null] [] s7 (QI K)) ∧ (r8 = 0 → CallU d mX6_takeOut [.ref 64, .int v1] s7 (fun s10 => Go mX6_go (d + 1) 13 [.ref 64, .int (v1 + (-1)), .null] [] s10 (QI K)))))))) : Go mX6_go (d + 1) 13 [.ref 64, .int v1, .null] [] σ (QI K) := by
  refine Go.iload_n 1 dX6_go_13 rfl rfl (?_ : Go _ _ 14 _ _ _ _)
  refine Go.if_lt 72 dX6_go_14 rfl ⟨fun c1 => ?_, fun c1 => (?_ : Go _ _ 17 _ _ _ _)⟩
  · have h := h.1 c1
    refine Go.aload_n 0 dX6_go_72 rfl rfl (?_ : Go _ _ 73 _ _ _ _)
    refine Go.getR fk_X6_7 shq_64 frq_64_0 dX6_go_73 (?_ : Go _ _ 76 _ _ _ _)
    refine Go.iconst dX6_go_76 k_ic_0 (?_ : Go _ _ 77 _ _ _ _)
    refine Go.ialdK ixk_0 vik_0_32 shq_65 dX6_go_77 (?_ : Go _ _ 78 _ _ _ _)
    exact Go.iret rfl dX6_go_78 ⟨_, rfl, h⟩
  · have h := h.2 c1
    refine Go.aload_n 0 dX6_go_17 rfl rfl (?_ : Go _ _ 18 _ _ _ _)
    refine Go.iload_n 1 dX6_go_18 rfl rfl (?_ : Go _ _ 19 _ _ _ _)
    refine Go.iconst dX6_go_19 k_ic_0 (?_ : Go _ _ 20 _ _ _ _)
    refine Go.callV (as := [.int v1, .int 0]) (st := []) mk_X6_of wl_X6_56 shq_64 rfl rfl (Nat.le_of_ble_eq_true rfl) dX6_go_20 h ?_
    rintro _ s2 ⟨r3, rfl, h⟩
    show Go _ _ 23 _ [.int r3] _ _
    refine Go.aload_n 0 dX6_go_23 rfl rfl (?_ : Go _ _ 24 _ _ _ _)
    refine Go.iload_n 1 dX6_go_24 rfl rfl (?_ : Go _ _ 25 _ _ _ _)
    refine Go.iconst dX6_go_25 k_ic_2 (?_ : Go _ _ 26 _ _ _ _)
    refine Go.callV (as := [.int v1, .int 2]) (st := [.int r3]) mk_X6_of wl_X6_56 shq_64 rfl rfl (Nat.le_of_ble_eq_true rfl) dX6_go_26 h ?_
    rintro _ s4 ⟨r5, rfl, h⟩
    show Go _ _ 29 _ [.int r5, .int r3] _ _
    refine Go.aload_n 0 dX6_go_29 rfl rfl (?_ : Go _ _ 30 _ _ _ _)
    refine Go.getR fk_X6_7 shq_64 frq_64_0 dX6_go_30 (?_ : Go _ _ 33 _ _ _ _)
    refine Go.iconst dX6_go_33 k_ic_1 (?_ : Go _ _ 34 _ _ _ _)
    refine Go.ialdK ixk_1 vik_1_32 shq_65 dX6_go_34 (?_ : Go _ _ 35 _ _ _ _)
    refine Go.imul dX6_go_35 (?_ : Go _ _ 36 _ _ _ _)
    refine Go.iadd dX6_go_36 (?_ : Go _ _ 37 _ _ _ _)
    refine Go.istore_n 2 dX6_go_37 rfl (by decide) rfl rfl (?_ : Go _ _ 38 [.ref 64, .int v1, .int (r3 + (r5 * (sA s4 65 1)))] _ _ _)
    refine Go.aload_n 0 dX6_go_38 rfl rfl (?_ : Go _ _ 39 _ _ _ _)
    refine Go.getR fk_X6_7 shq_64 frq_64_0 dX6_go_39 (?_ : Go _ _ 42 _ _ _ _)
    refine Go.bipush dX6_go_42 k_bi_8 (?_ : Go _ _ 44 _ _ _ _)
    refine Go.iconst dX6_go_44 k_ic_4 (?_ : Go _ _ 45 _ _ _ _)
    refine Go.iload_n 1 dX6_go_45 rfl rfl (?_ : Go _ _ 46 _ _ _ _)
    refine Go.imul dX6_go_46 (?_ : Go _ _ 47 _ _ _ _)
    refine Go.iadd dX6_go_47 (?_ : Go _ _ 48 _ _ _ _)
    refine Go.iload_n 2 dX6_go_48 rfl rfl (?_ : Go _ _ 49 _ _ _ _)
    refine Go.iast shq_65 dX6_go_49 ⟨h.1, (?_ : Go _ _ 50 _ _ _ _)⟩
    generalize es6 : setA s4 65 (ix (8 + (4 * v1))) (r3 + (r5 * (sA s4 65 1))) = s6
    have h := h.2 s6 es6.symm
    refine Go.iload_n 2 dX6_go_50 rfl rfl (?_ : Go _ _ 51 _ _ _ _)
    refine Go.iconst dX6_go_51 k_ic_1 (?_ : Go _ _ 52 _ _ _ _)
    refine Go.sipush dX6_go_52 k_si_300 (?_ : Go _ _ 55 _ _ _ _)
    refine Go.callS (as := [.int (r3 + (r5 * (sA s4 65 1))), .int 1, .int 300]) (st := []) mk_X6_in wl_X6_41 rfl rfl (Nat.le_of_ble_eq_true rfl) dX6_go_55 h ?_
    rintro _ s7 ⟨r8, rfl, h⟩
    show Go _ _ 58 _ [.int r8] _ _
    refine Go.if_ne 66 dX6_go_58 rfl ⟨fun c9 => ?_, fun c9 => (?_ : Go _ _ 61 _ _ _ _)⟩
    · have h := h.1 c9
      refine Go.iinc dX6_go_66 rfl (congrArg (fun z => v1 + z) k_ic_m1) (by decide) rfl rfl (?_ : Go _ _ 69 [.ref 64, .int (v1 + (-1)), .int (r3 + (r5 * (sA s4 65 1)))] _ _ _)
      refine Go.goto 13 dX6_go_69 rfl ?_
      refine Go.drop (ls' := [.ref 64, .int (v1 + (-1)), .null]) 2 rfl ?_
      exact h
    · have h := h.2 c9
      refine Go.aload_n 0 dX6_go_61 rfl rfl (?_ : Go _ _ 62 _ _ _ _)
      refine Go.iload_n 1 dX6_go_62 rfl rfl (?_ : Go _ _ 63 _ _ _ _)
      refine Go.callV (as := [.int v1]) (st := []) mk_X6_takeOut wl_X6_75 shq_64 rfl rfl (Nat.le_of_ble_eq_true rfl) dX6_go_63 h ?_
      rintro _ s10 ⟨rfl, h⟩
      show Go _ _ 66 _ [] _ _
      refine Go.iinc dX6_go_66 rfl (congrArg (fun z => v1 + z) k_ic_m1) (by decide) rfl rfl (?_ : Go _ _ 69 [.ref 64, .int (v1 + (-1)), .int (r3 + (r5 * (sA s4 65 1)))] _ _ _)
      refine Go.goto 13 dX6_go_69 rfl ?_
      refine Go.drop (ls' := [.ref 64, .int (v1 + (-1)), .null]) 2 rfl ?_
      exact h
set_option maxHeartbeats 4000000 in
set_option maxRecDepth 100000 in
theorem sgX6_isSpacing_0 {d : Nat} {σ : St} {x0 : Int32} {K : Int32 → St → Prop} (h : CallI d mX6_in [.int x0, .int 10, .int 50] σ (fun r2 s1 => (narrow .boolean (.int r2) = .int r2) ∧ K r2 s1)) : Go mX6_isSpacing (d + 1) 0 [.int x0] [] σ (QI K) := by
  refine Go.iload_n 0 dX6_isSpacing_0 rfl rfl (?_ : Go _ _ 1 _ _ _ _)
  refine Go.bipush dX6_isSpacing_1 k_bi_10 (?_ : Go _ _ 3 _ _ _ _)
  refine Go.bipush dX6_isSpacing_3 k_bi_50 (?_ : Go _ _ 5 _ _ _ _)
  refine Go.callS (as := [.int x0, .int 10, .int 50]) (st := []) mk_X6_in wl_X6_41 rfl rfl (Nat.le_of_ble_eq_true rfl) dX6_isSpacing_5 h ?_
  rintro _ s1 ⟨r2, rfl, h⟩
  show Go _ _ 8 _ [.int r2] _ _
  exact Go.zret rfl h.1 dX6_isSpacing_8 ⟨_, rfl, h.2⟩
theorem cgX6_isSpacing {d : Nat} {σ : St} {x0 : Int32} {K : Int32 → St → Prop} (h : CallI d mX6_in [.int x0, .int 10, .int 50] σ (fun r2 s1 => (narrow .boolean (.int r2) = .int r2) ∧ K r2 s1)) : CallI (d + 1) mX6_isSpacing [.int x0] σ K := Call_of_Go (by decide +kernel) (ls := [.int x0]) rfl (Nat.le_of_ble_eq_true rfl) (sgX6_isSpacing_0 h)
set_option maxHeartbeats 4000000 in
set_option maxRecDepth 100000 in
theorem sgX6_spacings_0 {d : Nat} {σ : St} {x1 : Int32} {x2 : Int32} {x3 : Int32} {x4 : Int32} {K : Int32 → St → Prop} (h : CallI d mX6_isSpacing [.int x1] σ (fun r2 s1 => (r2 = 0 → Go mX6_spacings (d + 1) 54 [.ref 64, .int x1, .int x2, .int x3, .int x4, .null] [] s1 (QI K)) ∧ (¬ r2 = 0 → (x2 = 0 → Go mX6_spacings (d + 1) 18 [.ref 64, .int x1, .int x2, .int x3, .int x4, .null] [] s1 (QI K)) ∧ (¬ x2 = 0 → CallI d mX6_isSpacing [.int x2] s1 (fun r6 s5 => (r6 = 0 → Go mX6_spacings (d + 1) 54 [.ref 64, .int x1, .int x2, .int x3, .int x4, .null] [] s5 (QI K)) ∧ (¬ r6 = 0 → Go mX6_spacings (d + 1) 18 [.ref 64, .int x1, .int x2, .int x3, .int x4, .null] [] s5 (QI K))))))) : Go mX6_spacings (d + 1) 0 [.ref 64, .int x1, .int x2, .int x3, .int x4, .null] [] σ (QI K) := by
  refine Go.iload_n 1 dX6_spacings_0 rfl rfl (?_ : Go _ _ 1 _ _ _ _)
  refine Go.callS (as := [.int x1]) (st := []) mk_X6_isSpacing wl_X6_79 rfl rfl (Nat.le_of_ble_eq_true rfl) dX6_spacings_1 h ?_
  rintro _ s1 ⟨r2, rfl, h⟩
  show Go _ _ 4 _ [.int r2] _ _
  refine Go.if_eq 54 dX6_spacings_4 rfl ⟨fun c3 => ?_, fun c3 => (?_ : Go _ _ 7 _ _ _ _)⟩
  · have h := h.1 c3
    exact h
  · have h := h.2 c3
    refine Go.iload_n 2 dX6_spacings_7 rfl rfl (?_ : Go _ _ 8 _ _ _ _)
    refine Go.if_eq 18 dX6_spacings_8 rfl ⟨fun c4 => ?_, fun c4 => (?_ : Go _ _ 11 _ _ _ _)⟩
    · have h := h.1 c4
      exact h
    · have h := h.2 c4
      refine Go.iload_n 2 dX6_spacings_11 rfl rfl (?_ : Go _ _ 12 _ _ _ _)
      refine Go.callS (as := [.int x2]) (st := []) mk_X6_isSpacing wl_X6_79 rfl rfl (Nat.le_of_ble_eq_true rfl) dX6_spacings_12 h ?_
      rintro _ s5 ⟨r6, rfl, h⟩
      show Go _ _ 15 _ [.int r6] _ _
      refine Go.if_eq 54 dX6_spacings_15 rfl ⟨fun c7 => ?_, fun c7 => (?_ : Go _ _ 18 _ _ _ _)⟩
      · have h := h.1 c7
        exact h
      · have h := h.2 c7
        exact h
theorem cgX6_spacings {d : Nat} {σ : St} {x1 : Int32} {x2 : Int32} {x3 : Int32} {x4 : Int32} {K : Int32 → St → Prop} (h : CallI d mX6_isSpacing [.int x1] σ (fun r2 s1 => (r2 = 0 → Go mX6_spacings (d + 1) 54 [.ref 64, .int x1, .int x2, .int x3, .int x4, .null] [] s1 (QI K)) ∧ (¬ r2 = 0 → (x2 = 0 → Go mX6_spacings (d + 1) 18 [.ref 64, .int x1, .int x2, .int x3, .int x4, .null] [] s1 (QI K)) ∧ (¬ x2 = 0 → CallI d mX6_isSpacing [.int x2] s1 (fun r6 s5 => (r6 = 0 → Go mX6_spacings (d + 1) 54 [.ref 64, .int x1, .int x2, .int x3, .int x4, .null] [] s5 (QI K)) ∧ (¬ r6 = 0 → Go mX6_spacings (d + 1) 18 [.ref 64, .int x1, .int x2, .int x3, .int x4, .null] [] s5 (QI K))))))) : CallI (d + 1) mX6_spacings [.ref 64, .int x1, .int x2, .int x3, .int x4] σ K := Call_of_Go (by decide +kernel) (ls := [.ref 64, .int x1, .int x2, .int x3, .int x4, .null]) rfl (Nat.le_of_ble_eq_true rfl) (sgX6_spacings_0 h)
set_option maxHeartbeats 4000000 in
set_option maxRecDepth 100000 in
theorem sgX6_spacings_18 {d : Nat} {σ : St} {v1 : Int32} {v2 : Int32} {v3 : Int32} {v4 : Int32} {K : Int32 → St → Prop} (h : (v3 = 0 → Go mX6_spacings (d + 1) 33 [.ref 64, .int v1, .int v2, .int v3, .int v4, .null] [] σ (QI K)) ∧ (¬ v3 = 0 → CallI d mX6_isSpacing [.int v3] σ (fun r3 s2 => (r3 = 0 → Go mX6_spacings (d + 1) 54 [.ref 64, .int v1, .int v2, .int v3, .int v4, .null] [] s2 (QI K)) ∧ (¬ r3 = 0 → (v2 ≤ 0 → Go mX6_spacings (d + 1) 54 [.ref 64, .int v1, .int v2, .int v3, .int v4, .null] [] s2 (QI K)) ∧ (¬ v2 ≤ 0 → Go mX6_spacings (d + 1) 33 [.ref 64, .int v1, .int v2, .int v3, .int v4, .null] [] s2 (QI K)))))) : Go mX6_spacings (d + 1) 18 [.ref 64, .int v1, .int v2, .int v3, .int v4, .null] [] σ (QI K) := by
  refine Go.iload_n 3 dX6_spacings_18 rfl rfl (?_ : Go _ _ 19 _ _ _ _)
  refine Go.if_eq 33 dX6_spacings_19 rfl ⟨fun c1 => ?_, fun c1 => (?_ : Go _ _ 22 _ _ _ _)⟩
  · have h := h.1 c1
    exact h
  · have h := h.2 c1
    refine Go.iload_n 3 dX6_spacings_22 rfl rfl (?_ : Go _ _ 23 _ _ _ _)
    refine Go.callS (as := [.int v3]) (st := []) mk_X6_isSpacing wl_X6_79 rfl rfl (Nat.le_of_ble_eq_true rfl) dX6_spacings_23 h ?_
    rintro _ s2 ⟨r3, rfl, h⟩
    show Go _ _ 26 _ [.int r3] _ _
    refine Go.if_eq 54 dX6_spacings_26 rfl ⟨fun c4 => ?_, fun c4 => (?_ : Go _ _ 29 _ _ _ _)⟩
    · have h := h.1 c4
      exact h
    · have h := h.2 c4
      refine Go.iload_n 2 dX6_spacings_29 rfl rfl (?_ : Go _ _ 30 _ _ _ _)
      refine Go.if_le 54 dX6_spacings_30 rfl ⟨fun c5 => ?_, fun c5 => (?_ : Go _ _ 33 _ _ _ _)⟩
      · have h := h.1 c5
        exact h
      · have h := h.2 c5
        exact h
set_option maxHeartbeats 4000000 in
set_option maxRecDepth 100000 in
theorem sgX6_spacings_33 {d : Nat} {σ : St} {v1 : Int32} {v2 : Int32} {v3 : Int32} {v4 : Int32} {K : Int32 → St → Prop} (h : (v4 = 0 → Go mX6_spacings (d + 1) 50 [.ref 64, .int v1, .int v2, .int v3, .int v4, .null] [] σ (QI K)) ∧ (¬ v4 = 0 → CallI d mX6_isSpacing [.int v4] σ (fun r3 s2 => (r3 = 0 → Go mX6_spacings (d + 1) 54 [.ref 64, .int v1, .int v2, .int v3, .int v4, .null] [] s2 (QI K)) ∧ (¬ r3 = 0 → (v3 ≤ 0 → Go mX6_spacings (d + 1) 54 [.ref 64, .int v1, .int v2, .int v3, .int v4, .null] [] s2 (QI K)) ∧ (¬ v3 ≤ 0 → Go mX6_spacings (d + 1) 50 [.ref 64, .int v1, .int v2, .int v3, .int v4, .null] [] s2 (QI K)))))) : Go mX6_spacings (d + 1) 33 [.ref 64, .int v1, .int v2, .int v3, .int v4, .null] [] σ (QI K) := by
  refine Go.iload dX6_spacings_33 rfl (?_ : Go _ _ 35 _ _ _ _)
  refine Go.if_eq 50 dX6_spacings_35 rfl ⟨fun c1 => ?_, fun c1 => (?_ : Go _ _ 38 _ _ _ _)⟩
  · have h := h.1 c1
    exact h
  · have h := h.2 c1
    refine Go.iload dX6_spacings_38 rfl (?_ : Go _ _ 40 _ _ _ _)
    refine Go.callS (as := [.int v4]) (st := []) mk_X6_isSpacing wl_X6_79 rfl rfl (Nat.le_of_ble_eq_true rfl) dX6_spacings_40 h ?_
    rintro _ s2 ⟨r3, rfl, h⟩
    show Go _ _ 43 _ [.int r3] _ _
    refine Go.if_eq 54 dX6_spacings_43 rfl ⟨fun c4 => ?_, fun c4 => (?_ : Go _ _ 46 _ _ _ _)⟩
    · have h := h.1 c4
      exact h
    · have h := h.2 c4
      refine Go.iload_n 3 dX6_spacings_46 rfl rfl (?_ : Go _ _ 47 _ _ _ _)
      refine Go.if_le 54 dX6_spacings_47 rfl ⟨fun c5 => ?_, fun c5 => (?_ : Go _ _ 50 _ _ _ _)⟩
      · have h := h.1 c5
        exact h
      · have h := h.2 c5
        exact h
set_option maxHeartbeats 4000000 in
set_option maxRecDepth 100000 in
theorem sgX6_spacings_50 {d : Nat} {σ : St} {v1 : Int32} {v2 : Int32} {v3 : Int32} {v4 : Int32} {K : Int32 → St → Prop} (h : Go mX6_spacings (d + 1) 55 [.ref 64, .int v1, .int v2, .int v3, .int v4, .null] [.int 1] σ (QI K)) : Go mX6_spacings (d + 1) 50 [.ref 64, .int v1, .int v2, .int v3, .int v4, .null] [] σ (QI K) := by
  refine Go.iconst dX6_spacings_50 k_ic_1 (?_ : Go _ _ 51 _ _ _ _)
  refine Go.goto 55 dX6_spacings_51 rfl ?_
  exact h
set_option maxHeartbeats 4000000 in
set_option maxRecDepth 100000 in
theorem sgX6_spacings_54 {d : Nat} {σ : St} {v1 : Int32} {v2 : Int32} {v3 : Int32} {v4 : Int32} {K : Int32 → St → Prop} (h : Go mX6_spacings (d + 1) 55 [.ref 64, .int v1, .int v2, .int v3, .int v4, .null] [.int 0] σ (QI K)) : Go mX6_spacings (d + 1) 54 [.ref 64, .int v1, .int v2, .int v3, .int v4, .null] [] σ (QI K) := by
  refine Go.iconst dX6_spacings_54 k_ic_0 (?_ : Go _ _ 55 _ _ _ _)
  exact h
set_option maxHeartbeats 4000000 in
set_option maxRecDepth 100000 in
theorem sgX6_spacings_55 {d : Nat} {σ : St} {v1 : Int32} {v2 : Int32} {v3 : Int32} {v4 : Int32} {w0 : Int32} {K : Int32 → St → Prop} (h : (¬ w0 = 0 → CallU d mX6_record [.ref 64] σ (fun s2 => ∀ s3, s3 = setA s2 65 2 v1 → ∀ s4, s4 = setA s3 65 3 v2 → ∀ s5, s5 = setA s4 65 4 v3 → ∀ s6, s6 = setA s5 65 5 v4 → (¬ v2 = 0 → (¬ v3 = 0 → (¬ v4 = 0 → Go mX6_spacings (d + 1) 128 [.ref 64, .int v1, .int v2, .int v3, .int v4, .int w0] [.int 4, .int 1, .ref 65] s6 (QI K)) ∧ (v4 = 0 → Go mX6_spacings (d + 1) 128 [.ref 64, .int v1, .int v2, .int v3, .int v4, .int w0] [.int 3, .int 1, .ref 65] s6 (QI K))) ∧ (v3 = 0 → Go mX6_spacings (d + 1) 128 [.ref 64, .int v1, .int v2, .int v3, .int v4, .int w0] [.int 2, .int 1, .ref 65] s6 (QI K))) ∧ (v2 = 0 → Go mX6_spacings (d + 1) 128 [.ref 64, .int v1, .int v2, .int v3, .int v4, .int w0] [.int 1, .int 1, .ref 65] s6 (QI K)))) ∧ (w0 = 0 → K (-1) σ)) : Go mX6_spacings (d + 1) 55 [.ref 64, .int v1, .int v2, .int v3, .int v4, .null] [.int w0] σ (QI K) := by
  refine Go.istore dX6_spacings_55 (by decide) rfl rfl (?_ : Go _ _ 57 [.ref 64, .int v1, .int v2, .int v3, .int v4, .int w0] _ _ _)
  refine Go.iload dX6_spacings_57 rfl (?_ : Go _ _ 59 _ _ _ _)
  refine Go.if_ne 64 dX6_spacings_59 rfl ⟨fun c1 => ?_, fun c1 => (?_ : Go _ _ 62 _ _ _ _)⟩
  · have h := h.1 c1
    refine Go.aload_n 0 dX6_spacings_64 rfl rfl (?_ : Go _ _ 65 _ _ _ _)
    refine Go.callV (as := []) (st := []) mk_X6_record wl_X6_53 shq_64 rfl rfl (Nat.le_of_ble_eq_true rfl) dX6_spacings_65 h ?_
    rintro _ s2 ⟨rfl, h⟩
    show Go _ _ 68 _ [] _ _
    refine Go.aload_n 0 dX6_spacings_68 rfl rfl (?_ : Go _ _ 69 _ _ _ _)
    refine Go.getR fk_X6_7 shq_64 frq_64_0 dX6_spacings_69 (?_ : Go _ _ 72 _ _ _ _)
    refine Go.iconst dX6_spacings_72 k_ic_2 (?_ : Go _ _ 73 _ _ _ _)
    refine Go.iload_n 1 dX6_spacings_73 rfl rfl (?_ : Go _ _ 74 _ _ _ _)
    refine Go.iastK ixk_2 vik_2_32 shq_65 dX6_spacings_74 (?_ : Go _ _ 75 _ _ _ _)
    generalize es3 : setA s2 65 2 v1 = s3
    have h := h s3 es3.symm
    refine Go.aload_n 0 dX6_spacings_75 rfl rfl (?_ : Go _ _ 76 _ _ _ _)
    refine Go.getR fk_X6_7 shq_64 frq_64_0 dX6_spacings_76 (?_ : Go _ _ 79 _ _ _ _)
    refine Go.iconst dX6_spacings_79 k_ic_3 (?_ : Go _ _ 80 _ _ _ _)
    refine Go.iload_n 2 dX6_spacings_80 rfl rfl (?_ : Go _ _ 81 _ _ _ _)
    refine Go.iastK ixk_3 vik_3_32 shq_65 dX6_spacings_81 (?_ : Go _ _ 82 _ _ _ _)
    generalize es4 : setA s3 65 3 v2 = s4
    have h := h s4 es4.symm
    refine Go.aload_n 0 dX6_spacings_82 rfl rfl (?_ : Go _ _ 83 _ _ _ _)
    refine Go.getR fk_X6_7 shq_64 frq_64_0 dX6_spacings_83 (?_ : Go _ _ 86 _ _ _ _)
    refine Go.iconst dX6_spacings_86 k_ic_4 (?_ : Go _ _ 87 _ _ _ _)
    refine Go.iload_n 3 dX6_spacings_87 rfl rfl (?_ : Go _ _ 88 _ _ _ _)
    refine Go.iastK ixk_4 vik_4_32 shq_65 dX6_spacings_88 (?_ : Go _ _ 89 _ _ _ _)
    generalize es5 : setA s4 65 4 v3 = s5
    have h := h s5 es5.symm
    refine Go.aload_n 0 dX6_spacings_89 rfl rfl (?_ : Go _ _ 90 _ _ _ _)
    refine Go.getR fk_X6_7 shq_64 frq_64_0 dX6_spacings_90 (?_ : Go _ _ 93 _ _ _ _)
    refine Go.iconst dX6_spacings_93 k_ic_5 (?_ : Go _ _ 94 _ _ _ _)
    refine Go.iload dX6_spacings_94 rfl (?_ : Go _ _ 96 _ _ _ _)
    refine Go.iastK ixk_5 vik_5_32 shq_65 dX6_spacings_96 (?_ : Go _ _ 97 _ _ _ _)
    generalize es6 : setA s5 65 5 v4 = s6
    have h := h s6 es6.symm
    refine Go.aload_n 0 dX6_spacings_97 rfl rfl (?_ : Go _ _ 98 _ _ _ _)
    refine Go.getR fk_X6_7 shq_64 frq_64_0 dX6_spacings_98 (?_ : Go _ _ 101 _ _ _ _)
    refine Go.iconst dX6_spacings_101 k_ic_1 (?_ : Go _ _ 102 _ _ _ _)
    refine Go.iload_n 2 dX6_spacings_102 rfl rfl (?_ : Go _ _ 103 _ _ _ _)
    refine Go.if_ne 110 dX6_spacings_103 rfl ⟨fun c7 => ?_, fun c7 => (?_ : Go _ _ 106 _ _ _ _)⟩
    · have h := h.1 c7
      refine Go.iload_n 3 dX6_spacings_110 rfl rfl (?_ : Go _ _ 111 _ _ _ _)
      refine Go.if_ne 118 dX6_spacings_111 rfl ⟨fun c8 => ?_, fun c8 => (?_ : Go _ _ 114 _ _ _ _)⟩
      · have h := h.1 c8
        refine Go.iload dX6_spacings_118 rfl (?_ : Go _ _ 120 _ _ _ _)
        refine Go.if_ne 127 dX6_spacings_120 rfl ⟨fun c9 => ?_, fun c9 => (?_ : Go _ _ 123 _ _ _ _)⟩
        · have h := h.1 c9
          refine Go.iconst dX6_spacings_127 k_ic_4 (?_ : Go _ _ 128 _ _ _ _)
          exact h
        · have h := h.2 c9
          refine Go.iconst dX6_spacings_123 k_ic_3 (?_ : Go _ _ 124 _ _ _ _)
          refine Go.goto 128 dX6_spacings_124 rfl ?_
          exact h
      · have h := h.2 c8
        refine Go.iconst dX6_spacings_114 k_ic_2 (?_ : Go _ _ 115 _ _ _ _)
        refine Go.goto 128 dX6_spacings_115 rfl ?_
        exact h
    · have h := h.2 c7
      refine Go.iconst dX6_spacings_106 k_ic_1 (?_ : Go _ _ 107 _ _ _ _)
      refine Go.goto 128 dX6_spacings_107 rfl ?_
      exact h
  · have h := h.2 c1
    refine Go.iconst dX6_spacings_62 k_ic_m1 (?_ : Go _ _ 63 _ _ _ _)
    exact Go.iret rfl dX6_spacings_63 ⟨_, rfl, h⟩
set_option maxHeartbeats 4000000 in
set_option maxRecDepth 100000 in
theorem sgX6_spacings_128 {d : Nat} {σ : St} {v1 : Int32} {v2 : Int32} {v3 : Int32} {v4 : Int32} {v5 : Int32} {w0 : Int32} {w1 : Int32} {K : Int32 → St → Prop} (h : vp_in w1 32 ∧ ∀ s1, s1 = setA σ 65 (ix w1) w0 → K (sA s1 65 1) s1) : Go mX6_spacings (d + 1) 128 [.ref 64, .int v1, .int v2, .int v3, .int v4, .int v5] [.int w0, .int w1, .ref 65] σ (QI K) := by
  refine Go.iast shq_65 dX6_spacings_128 ⟨h.1, (?_ : Go _ _ 129 _ _ _ _)⟩
  generalize es1 : setA σ 65 (ix w1) w0 = s1
  have h := h.2 s1 es1.symm
  refine Go.aload_n 0 dX6_spacings_129 rfl rfl (?_ : Go _ _ 130 _ _ _ _)
  refine Go.getR fk_X6_7 shq_64 frq_64_0 dX6_spacings_130 (?_ : Go _ _ 133 _ _ _ _)
  refine Go.iconst dX6_spacings_133 k_ic_1 (?_ : Go _ _ 134 _ _ _ _)
  refine Go.ialdK ixk_1 vik_1_32 shq_65 dX6_spacings_134 (?_ : Go _ _ 135 _ _ _ _)
  exact Go.iret rfl dX6_spacings_135 ⟨_, rfl, h⟩
set_option maxHeartbeats 4000000 in
set_option maxRecDepth 100000 in
theorem sgX6_set_0 {d : Nat} {σ : St} {x1 : Int32} {x2 : Int32} {K : Int32 → St → Prop} (h : CallI d mX6_in [.int x1, .int 0, .int 1] σ (fun r2 s1 => (r2 = 0 → K (-1) s1) ∧ (¬ r2 = 0 → (¬ x1 = 0 → CallI d mX6_in [.int x2, .int 1, .int 99] s1 (fun r6 s5 => (¬ r6 = 0 → CallU d mX6_record [.ref 64] s5 (fun s8 => vp_in (6 + x1) 32 ∧ vp_in (6 + x1) 32 ∧ ∀ s9, s9 = setA s8 65 (ix (6 + x1)) x2 → K (sA s8 65 (ix (6 + x1))) s9)) ∧ (r6 = 0 → K (-1) s5))) ∧ (x1 = 0 → CallI d mX6_in [.int x2, .int 0, .int 9] s1 (fun r11 s10 => (r11 = 0 → K (-1) s10) ∧ (¬ r11 = 0 → CallU d mX6_record [.ref 64] s10 (fun s13 => vp_in (6 + x1) 32 ∧ vp_in (6 + x1) 32 ∧ ∀ s14, s14 = setA s13 65 (ix (6 + x1)) x2 → K (sA s13 65 (ix (6 + x1))) s14))))))) : Go mX6_set (d + 1) 0 [.ref 64, .int x1, .int x2, .null] [] σ (QI K) := by
  refine Go.iload_n 1 dX6_set_0 rfl rfl (?_ : Go _ _ 1 _ _ _ _)
  refine Go.iconst dX6_set_1 k_ic_0 (?_ : Go _ _ 2 _ _ _ _)
  refine Go.iconst dX6_set_2 k_ic_1 (?_ : Go _ _ 3 _ _ _ _)
  refine Go.callS (as := [.int x1, .int 0, .int 1]) (st := []) mk_X6_in wl_X6_41 rfl rfl (Nat.le_of_ble_eq_true rfl) dX6_set_3 h ?_
  rintro _ s1 ⟨r2, rfl, h⟩
  show Go _ _ 6 _ [.int r2] _ _
  refine Go.if_eq 36 dX6_set_6 rfl ⟨fun c3 => ?_, fun c3 => (?_ : Go _ _ 9 _ _ _ _)⟩
  · have h := h.1 c3
    refine Go.iconst dX6_set_36 k_ic_m1 (?_ : Go _ _ 37 _ _ _ _)
    exact Go.iret rfl dX6_set_37 ⟨_, rfl, h⟩
  · have h := h.2 c3
    refine Go.iload_n 1 dX6_set_9 rfl rfl (?_ : Go _ _ 10 _ _ _ _)
    refine Go.if_ne 26 dX6_set_10 rfl ⟨fun c4 => ?_, fun c4 => (?_ : Go _ _ 13 _ _ _ _)⟩
    · have h := h.1 c4
      refine Go.iload_n 2 dX6_set_26 rfl rfl (?_ : Go _ _ 27 _ _ _ _)
      refine Go.iconst dX6_set_27 k_ic_1 (?_ : Go _ _ 28 _ _ _ _)
      refine Go.bipush dX6_set_28 k_bi_99 (?_ : Go _ _ 30 _ _ _ _)
      refine Go.callS (as := [.int x2, .int 1, .int 99]) (st := []) mk_X6_in wl_X6_41 rfl rfl (Nat.le_of_ble_eq_true rfl) dX6_set_30 h ?_
      rintro _ s5 ⟨r6, rfl, h⟩
      show Go _ _ 33 _ [.int r6] _ _
      refine Go.if_ne 38 dX6_set_33 rfl ⟨fun c7 => ?_, fun c7 => (?_ : Go _ _ 36 _ _ _ _)⟩
      · have h := h.1 c7
        refine Go.aload_n 0 dX6_set_38 rfl rfl (?_ : Go _ _ 39 _ _ _ _)
        refine Go.callV (as := []) (st := []) mk_X6_record wl_X6_53 shq_64 rfl rfl (Nat.le_of_ble_eq_true rfl) dX6_set_39 h ?_
        rintro _ s8 ⟨rfl, h⟩
        show Go _ _ 42 _ [] _ _
        refine Go.aload_n 0 dX6_set_42 rfl rfl (?_ : Go _ _ 43 _ _ _ _)
        refine Go.getR fk_X6_7 shq_64 frq_64_0 dX6_set_43 (?_ : Go _ _ 46 _ _ _ _)
        refine Go.bipush dX6_set_46 k_bi_6 (?_ : Go _ _ 48 _ _ _ _)
        refine Go.iload_n 1 dX6_set_48 rfl rfl (?_ : Go _ _ 49 _ _ _ _)
        refine Go.iadd dX6_set_49 (?_ : Go _ _ 50 _ _ _ _)
        refine Go.iald shq_65 dX6_set_50 ⟨h.1, (?_ : Go _ _ 51 _ _ _ _)⟩
        have h := h.2
        refine Go.istore_n 3 dX6_set_51 rfl (by decide) rfl rfl (?_ : Go _ _ 52 [.ref 64, .int x1, .int x2, .int (sA s8 65 (ix (6 + x1)))] _ _ _)
        refine Go.aload_n 0 dX6_set_52 rfl rfl (?_ : Go _ _ 53 _ _ _ _)
        refine Go.getR fk_X6_7 shq_64 frq_64_0 dX6_set_53 (?_ : Go _ _ 56 _ _ _ _)
        refine Go.bipush dX6_set_56 k_bi_6 (?_ : Go _ _ 58 _ _ _ _)
        refine Go.iload_n 1 dX6_set_58 rfl rfl (?_ : Go _ _ 59 _ _ _ _)
        refine Go.iadd dX6_set_59 (?_ : Go _ _ 60 _ _ _ _)
        refine Go.iload_n 2 dX6_set_60 rfl rfl (?_ : Go _ _ 61 _ _ _ _)
        refine Go.iast shq_65 dX6_set_61 ⟨h.1, (?_ : Go _ _ 62 _ _ _ _)⟩
        generalize es9 : setA s8 65 (ix (6 + x1)) x2 = s9
        have h := h.2 s9 es9.symm
        refine Go.iload_n 3 dX6_set_62 rfl rfl (?_ : Go _ _ 63 _ _ _ _)
        exact Go.iret rfl dX6_set_63 ⟨_, rfl, h⟩
      · have h := h.2 c7
        refine Go.iconst dX6_set_36 k_ic_m1 (?_ : Go _ _ 37 _ _ _ _)
        exact Go.iret rfl dX6_set_37 ⟨_, rfl, h⟩
    · have h := h.2 c4
      refine Go.iload_n 2 dX6_set_13 rfl rfl (?_ : Go _ _ 14 _ _ _ _)
      refine Go.iconst dX6_set_14 k_ic_0 (?_ : Go _ _ 15 _ _ _ _)
      refine Go.bipush dX6_set_15 k_bi_9 (?_ : Go _ _ 17 _ _ _ _)
      refine Go.callS (as := [.int x2, .int 0, .int 9]) (st := []) mk_X6_in wl_X6_41 rfl rfl (Nat.le_of_ble_eq_true rfl) dX6_set_17 h ?_
      rintro _ s10 ⟨r11, rfl, h⟩
      show Go _ _ 20 _ [.int r11] _ _
      refine Go.if_eq 36 dX6_set_20 rfl ⟨fun c12 => ?_, fun c12 => (?_ : Go _ _ 23 _ _ _ _)⟩
      · have h := h.1 c12
        refine Go.iconst dX6_set_36 k_ic_m1 (?_ : Go _ _ 37 _ _ _ _)
        exact Go.iret rfl dX6_set_37 ⟨_, rfl, h⟩
      · have h := h.2 c12
        refine Go.goto 38 dX6_set_23 rfl ?_
        refine Go.aload_n 0 dX6_set_38 rfl rfl (?_ : Go _ _ 39 _ _ _ _)
        refine Go.callV (as := []) (st := []) mk_X6_record wl_X6_53 shq_64 rfl rfl (Nat.le_of_ble_eq_true rfl) dX6_set_39 h ?_
        rintro _ s13 ⟨rfl, h⟩
        show Go _ _ 42 _ [] _ _
        refine Go.aload_n 0 dX6_set_42 rfl rfl (?_ : Go _ _ 43 _ _ _ _)
        refine Go.getR fk_X6_7 shq_64 frq_64_0 dX6_set_43 (?_ : Go _ _ 46 _ _ _ _)
        refine Go.bipush dX6_set_46 k_bi_6 (?_ : Go _ _ 48 _ _ _ _)
        refine Go.iload_n 1 dX6_set_48 rfl rfl (?_ : Go _ _ 49 _ _ _ _)
        refine Go.iadd dX6_set_49 (?_ : Go _ _ 50 _ _ _ _)
        refine Go.iald shq_65 dX6_set_50 ⟨h.1, (?_ : Go _ _ 51 _ _ _ _)⟩
        have h := h.2
        refine Go.istore_n 3 dX6_set_51 rfl (by decide) rfl rfl (?_ : Go _ _ 52 [.ref 64, .int x1, .int x2, .int (sA s13 65 (ix (6 + x1)))] _ _ _)
        refine Go.aload_n 0 dX6_set_52 rfl rfl (?_ : Go _ _ 53 _ _ _ _)
        refine Go.getR fk_X6_7 shq_64 frq_64_0 dX6_set_53 (?_ : Go _ _ 56 _ _ _ _)
        refine Go.bipush dX6_set_56 k_bi_6 (?_ : Go _ _ 58 _ _ _ _)
        refine Go.iload_n 1 dX6_set_58 rfl rfl (?_ : Go _ _ 59 _ _ _ _)
        refine Go.iadd dX6_set_59 (?_ : Go _ _ 60 _ _ _ _)
        refine Go.iload_n 2 dX6_set_60 rfl rfl (?_ : Go _ _ 61 _ _ _ _)
        refine Go.iast shq_65 dX6_set_61 ⟨h.1, (?_ : Go _ _ 62 _ _ _ _)⟩
        generalize es14 : setA s13 65 (ix (6 + x1)) x2 = s14
        have h := h.2 s14 es14.symm
        refine Go.iload_n 3 dX6_set_62 rfl rfl (?_ : Go _ _ 63 _ _ _ _)
        exact Go.iret rfl dX6_set_63 ⟨_, rfl, h⟩
theorem cgX6_set {d : Nat} {σ : St} {x1 : Int32} {x2 : Int32} {K : Int32 → St → Prop} (h : CallI d mX6_in [.int x1, .int 0, .int 1] σ (fun r2 s1 => (r2 = 0 → K (-1) s1) ∧ (¬ r2 = 0 → (¬ x1 = 0 → CallI d mX6_in [.int x2, .int 1, .int 99] s1 (fun r6 s5 => (¬ r6 = 0 → CallU d mX6_record [.ref 64] s5 (fun s8 => vp_in (6 + x1) 32 ∧ vp_in (6 + x1) 32 ∧ ∀ s9, s9 = setA s8 65 (ix (6 + x1)) x2 → K (sA s8 65 (ix (6 + x1))) s9)) ∧ (r6 = 0 → K (-1) s5))) ∧ (x1 = 0 → CallI d mX6_in [.int x2, .int 0, .int 9] s1 (fun r11 s10 => (r11 = 0 → K (-1) s10) ∧ (¬ r11 = 0 → CallU d mX6_record [.ref 64] s10 (fun s13 => vp_in (6 + x1) 32 ∧ vp_in (6 + x1) 32 ∧ ∀ s14, s14 = setA s13 65 (ix (6 + x1)) x2 → K (sA s13 65 (ix (6 + x1))) s14))))))) : CallI (d + 1) mX6_set [.ref 64, .int x1, .int x2] σ K := Call_of_Go (by decide +kernel) (ls := [.ref 64, .int x1, .int x2, .null]) rfl (Nat.le_of_ble_eq_true rfl) (sgX6_set_0 h)
set_option maxHeartbeats 4000000 in
set_option maxRecDepth 100000 in
theorem sgX6_body_0 {d : Nat} {σ : St} {x1 : Int32} {x2 : Int32} {K : Int32 → St → Prop} (h : vp_in ((5 * x1) + x2) 105 ∧ K (sA σ 69 (ix ((5 * x1) + x2))) σ) : Go mX6_body (d + 1) 0 [.ref 64, .int x1, .int x2] [] σ (QI K) := by
  refine Go.aload_n 0 dX6_body_0 rfl rfl (?_ : Go _ _ 1 _ _ _ _)
  refine Go.getR fk_X6_23 shq_64 frq_64_7 dX6_body_1 (?_ : Go _ _ 4 _ _ _ _)
  refine Go.iconst dX6_body_4 k_ic_5 (?_ : Go _ _ 5 _ _ _ _)
  refine Go.iload_n 1 dX6_body_5 rfl rfl (?_ : Go _ _ 6 _ _ _ _)
  refine Go.imul dX6_body_6 (?_ : Go _ _ 7 _ _ _ _)
  refine Go.iload_n 2 dX6_body_7 rfl rfl (?_ : Go _ _ 8 _ _ _ _)
  refine Go.iadd dX6_body_8 (?_ : Go _ _ 9 _ _ _ _)
  refine Go.iald shq_69 dX6_body_9 ⟨h.1, (?_ : Go _ _ 10 _ _ _ _)⟩
  have h := h.2
  exact Go.iret rfl dX6_body_10 ⟨_, rfl, h⟩
theorem cgX6_body {d : Nat} {σ : St} {x1 : Int32} {x2 : Int32} {K : Int32 → St → Prop} (h : vp_in ((5 * x1) + x2) 105 ∧ K (sA σ 69 (ix ((5 * x1) + x2))) σ) : CallI (d + 1) mX6_body [.ref 64, .int x1, .int x2] σ K := Call_of_Go (by decide +kernel) (ls := [.ref 64, .int x1, .int x2]) rfl (Nat.le_of_ble_eq_true rfl) (sgX6_body_0 h)
set_option maxHeartbeats 4000000 in
set_option maxRecDepth 100000 in
theorem sgX6_layBody_0 {d : Nat} {σ : St} {x1 : Int32} {x2 : Int32} {x3 : Int32} {x4 : Int32} {x5 : Int32} {K : St → Prop} (h : vp_in (5 * (sF σ 64 8)) 105 ∧ ∀ s1, s1 = setA σ 69 (ix (5 * (sF σ 64 8))) x1 → vp_in ((5 * (sF σ 64 8)) + 1) 105 ∧ ∀ s2, s2 = setA s1 69 (ix ((5 * (sF σ 64 8)) + 1)) x2 → vp_in ((5 * (sF σ 64 8)) + 2) 105 ∧ ∀ s3, s3 = setA s2 69 (ix ((5 * (sF σ 64 8)) + 2)) x3 → vp_in ((5 * (sF σ 64 8)) + 3) 105 ∧ ∀ s4, s4 = setA s3 69 (ix ((5 * (sF σ 64 8)) + 3)) x4 → vp_in ((5 * (sF σ 64 8)) + 4) 105 ∧ ∀ s5, s5 = setA s4 69 (ix ((5 * (sF σ 64 8)) + 4)) x5 → ∀ s6, s6 = setF s5 64 8 ((sF s5 64 8) + 1) → K s6) : Go mX6_layBody (d + 1) 0 [.ref 64, .int x1, .int x2, .int x3, .int x4, .int x5, .null] [] σ (QU K) := by
  refine Go.iconst dX6_layBody_0 k_ic_5 (?_ : Go _ _ 1 _ _ _ _)
  refine Go.aload_n 0 dX6_layBody_1 rfl rfl (?_ : Go _ _ 2 _ _ _ _)
  refine Go.getI fk_X6_82 shq_64 frq_64_8 dX6_layBody_2 (?_ : Go _ _ 5 _ _ _ _)
  refine Go.imul dX6_layBody_5 (?_ : Go _ _ 6 _ _ _ _)
  refine Go.istore dX6_layBody_6 (by decide) rfl rfl (?_ : Go _ _ 8 [.ref 64, .int x1, .int x2, .int x3, .int x4, .int x5, .int (5 * (sF σ 64 8))] _ _ _)
  refine Go.aload_n 0 dX6_layBody_8 rfl rfl (?_ : Go _ _ 9 _ _ _ _)
  refine Go.getR fk_X6_23 shq_64 frq_64_7 dX6_layBody_9 (?_ : Go _ _ 12 _ _ _ _)
  refine Go.iload dX6_layBody_12 rfl (?_ : Go _ _ 14 _ _ _ _)
  refine Go.iload_n 1 dX6_layBody_14 rfl rfl (?_ : Go _ _ 15 _ _ _ _)
  refine Go.iast shq_69 dX6_layBody_15 ⟨h.1, (?_ : Go _ _ 16 _ _ _ _)⟩
  generalize es1 : setA σ 69 (ix (5 * (sF σ 64 8))) x1 = s1
  have h := h.2 s1 es1.symm
  refine Go.aload_n 0 dX6_layBody_16 rfl rfl (?_ : Go _ _ 17 _ _ _ _)
  refine Go.getR fk_X6_23 shq_64 frq_64_7 dX6_layBody_17 (?_ : Go _ _ 20 _ _ _ _)
  refine Go.iload dX6_layBody_20 rfl (?_ : Go _ _ 22 _ _ _ _)
  refine Go.iconst dX6_layBody_22 k_ic_1 (?_ : Go _ _ 23 _ _ _ _)
  refine Go.iadd dX6_layBody_23 (?_ : Go _ _ 24 _ _ _ _)
  refine Go.iload_n 2 dX6_layBody_24 rfl rfl (?_ : Go _ _ 25 _ _ _ _)
  refine Go.iast shq_69 dX6_layBody_25 ⟨h.1, (?_ : Go _ _ 26 _ _ _ _)⟩
  generalize es2 : setA s1 69 (ix ((5 * (sF σ 64 8)) + 1)) x2 = s2
  have h := h.2 s2 es2.symm
  refine Go.aload_n 0 dX6_layBody_26 rfl rfl (?_ : Go _ _ 27 _ _ _ _)
  refine Go.getR fk_X6_23 shq_64 frq_64_7 dX6_layBody_27 (?_ : Go _ _ 30 _ _ _ _)
  refine Go.iload dX6_layBody_30 rfl (?_ : Go _ _ 32 _ _ _ _)
  refine Go.iconst dX6_layBody_32 k_ic_2 (?_ : Go _ _ 33 _ _ _ _)
  refine Go.iadd dX6_layBody_33 (?_ : Go _ _ 34 _ _ _ _)
  refine Go.iload_n 3 dX6_layBody_34 rfl rfl (?_ : Go _ _ 35 _ _ _ _)
  refine Go.iast shq_69 dX6_layBody_35 ⟨h.1, (?_ : Go _ _ 36 _ _ _ _)⟩
  generalize es3 : setA s2 69 (ix ((5 * (sF σ 64 8)) + 2)) x3 = s3
  have h := h.2 s3 es3.symm
  refine Go.aload_n 0 dX6_layBody_36 rfl rfl (?_ : Go _ _ 37 _ _ _ _)
  refine Go.getR fk_X6_23 shq_64 frq_64_7 dX6_layBody_37 (?_ : Go _ _ 40 _ _ _ _)
  refine Go.iload dX6_layBody_40 rfl (?_ : Go _ _ 42 _ _ _ _)
  refine Go.iconst dX6_layBody_42 k_ic_3 (?_ : Go _ _ 43 _ _ _ _)
  refine Go.iadd dX6_layBody_43 (?_ : Go _ _ 44 _ _ _ _)
  refine Go.iload dX6_layBody_44 rfl (?_ : Go _ _ 46 _ _ _ _)
  refine Go.iast shq_69 dX6_layBody_46 ⟨h.1, (?_ : Go _ _ 47 _ _ _ _)⟩
  generalize es4 : setA s3 69 (ix ((5 * (sF σ 64 8)) + 3)) x4 = s4
  have h := h.2 s4 es4.symm
  refine Go.aload_n 0 dX6_layBody_47 rfl rfl (?_ : Go _ _ 48 _ _ _ _)
  refine Go.getR fk_X6_23 shq_64 frq_64_7 dX6_layBody_48 (?_ : Go _ _ 51 _ _ _ _)
  refine Go.iload dX6_layBody_51 rfl (?_ : Go _ _ 53 _ _ _ _)
  refine Go.iconst dX6_layBody_53 k_ic_4 (?_ : Go _ _ 54 _ _ _ _)
  refine Go.iadd dX6_layBody_54 (?_ : Go _ _ 55 _ _ _ _)
  refine Go.iload dX6_layBody_55 rfl (?_ : Go _ _ 57 _ _ _ _)
  refine Go.iast shq_69 dX6_layBody_57 ⟨h.1, (?_ : Go _ _ 58 _ _ _ _)⟩
  generalize es5 : setA s4 69 (ix ((5 * (sF σ 64 8)) + 4)) x5 = s5
  have h := h.2 s5 es5.symm
  refine Go.aload_n 0 dX6_layBody_58 rfl rfl (?_ : Go _ _ 59 _ _ _ _)
  refine Go.dup dX6_layBody_59 rfl (?_ : Go _ _ 60 _ _ _ _)
  refine Go.getI fk_X6_82 shq_64 frq_64_8 dX6_layBody_60 (?_ : Go _ _ 63 _ _ _ _)
  refine Go.iconst dX6_layBody_63 k_ic_1 (?_ : Go _ _ 64 _ _ _ _)
  refine Go.iadd dX6_layBody_64 (?_ : Go _ _ 65 _ _ _ _)
  refine Go.putI fp_X6_82 shq_64 frq_64_8 dX6_layBody_65 (?_ : Go _ _ 68 _ _ _ _)
  generalize es6 : setF s5 64 8 ((sF s5 64 8) + 1) = s6
  have h := h s6 es6.symm
  exact Go.vret rfl dX6_layBody_68 ⟨rfl, h⟩
theorem cgX6_layBody {d : Nat} {σ : St} {x1 : Int32} {x2 : Int32} {x3 : Int32} {x4 : Int32} {x5 : Int32} {K : St → Prop} (h : vp_in (5 * (sF σ 64 8)) 105 ∧ ∀ s1, s1 = setA σ 69 (ix (5 * (sF σ 64 8))) x1 → vp_in ((5 * (sF σ 64 8)) + 1) 105 ∧ ∀ s2, s2 = setA s1 69 (ix ((5 * (sF σ 64 8)) + 1)) x2 → vp_in ((5 * (sF σ 64 8)) + 2) 105 ∧ ∀ s3, s3 = setA s2 69 (ix ((5 * (sF σ 64 8)) + 2)) x3 → vp_in ((5 * (sF σ 64 8)) + 3) 105 ∧ ∀ s4, s4 = setA s3 69 (ix ((5 * (sF σ 64 8)) + 3)) x4 → vp_in ((5 * (sF σ 64 8)) + 4) 105 ∧ ∀ s5, s5 = setA s4 69 (ix ((5 * (sF σ 64 8)) + 4)) x5 → ∀ s6, s6 = setF s5 64 8 ((sF s5 64 8) + 1) → K s6) : CallU (d + 1) mX6_layBody [.ref 64, .int x1, .int x2, .int x3, .int x4, .int x5] σ K := Call_of_Go (by decide +kernel) (ls := [.ref 64, .int x1, .int x2, .int x3, .int x4, .int x5, .null]) rfl (Nat.le_of_ble_eq_true rfl) (sgX6_layBody_0 h)
set_option maxHeartbeats 4000000 in
set_option maxRecDepth 100000 in
theorem sgX6_placeIn_0 {d : Nat} {σ : St} {x1 : Int32} {x2 : Int32} {x3 : Int32} {K : Int32 → St → Prop} (h : (0 ≤ (x1 + (x2 * x3)) → vp_in (2 + x3) 32 ∧ (¬ (sA σ 65 (ix (2 + x3))) = 0) ∧ K (irem (x1 + (x2 * x3)) (sA σ 65 (ix (2 + x3)))) σ) ∧ (¬ 0 ≤ (x1 + (x2 * x3)) → vp_in (2 + x3) 32 ∧ (¬ (sA σ 65 (ix (2 + x3))) = 0) ∧ K (irem 0 (sA σ 65 (ix (2 + x3)))) σ)) : Go mX6_placeIn (d + 1) 0 [.ref 64, .int x1, .int x2, .int x3, .null] [] σ (QI K) := by
  refine Go.iload_n 1 dX6_placeIn_0 rfl rfl (?_ : Go _ _ 1 _ _ _ _)
  refine Go.iload_n 2 dX6_placeIn_1 rfl rfl (?_ : Go _ _ 2 _ _ _ _)
  refine Go.iload_n 3 dX6_placeIn_2 rfl rfl (?_ : Go _ _ 3 _ _ _ _)
  refine Go.imul dX6_placeIn_3 (?_ : Go _ _ 4 _ _ _ _)
  refine Go.iadd dX6_placeIn_4 (?_ : Go _ _ 5 _ _ _ _)
  refine Go.istore dX6_placeIn_5 (by decide) rfl rfl (?_ : Go _ _ 7 [.ref 64, .int x1, .int x2, .int x3, .int (x1 + (x2 * x3))] _ _ _)
  refine Go.iload dX6_placeIn_7 rfl (?_ : Go _ _ 9 _ _ _ _)
  refine Go.if_ge 16 dX6_placeIn_9 rfl ⟨fun c1 => ?_, fun c1 => (?_ : Go _ _ 12 _ _ _ _)⟩
  · have h := h.1 c1
    refine Go.iload dX6_placeIn_16 rfl (?_ : Go _ _ 18 _ _ _ _)
    refine Go.aload_n 0 dX6_placeIn_18 rfl rfl (?_ : Go _ _ 19 _ _ _ _)
    refine Go.getR fk_X6_7 shq_64 frq_64_0 dX6_placeIn_19 (?_ : Go _ _ 22 _ _ _ _)
    refine Go.iconst dX6_placeIn_22 k_ic_2 (?_ : Go _ _ 23 _ _ _ _)
    refine Go.iload_n 3 dX6_placeIn_23 rfl rfl (?_ : Go _ _ 24 _ _ _ _)
    refine Go.iadd dX6_placeIn_24 (?_ : Go _ _ 25 _ _ _ _)
    refine Go.iald shq_65 dX6_placeIn_25 ⟨h.1, (?_ : Go _ _ 26 _ _ _ _)⟩
    have h := h.2
    refine Go.irem dX6_placeIn_26 h.1 (?_ : Go _ _ 27 _ _ _ _)
    have h := h.2
    exact Go.iret rfl dX6_placeIn_27 ⟨_, rfl, h⟩
  · have h := h.2 c1
    refine Go.iconst dX6_placeIn_12 k_ic_0 (?_ : Go _ _ 13 _ _ _ _)
    refine Go.goto 18 dX6_placeIn_13 rfl ?_
    refine Go.aload_n 0 dX6_placeIn_18 rfl rfl (?_ : Go _ _ 19 _ _ _ _)
    refine Go.getR fk_X6_7 shq_64 frq_64_0 dX6_placeIn_19 (?_ : Go _ _ 22 _ _ _ _)
    refine Go.iconst dX6_placeIn_22 k_ic_2 (?_ : Go _ _ 23 _ _ _ _)
    refine Go.iload_n 3 dX6_placeIn_23 rfl rfl (?_ : Go _ _ 24 _ _ _ _)
    refine Go.iadd dX6_placeIn_24 (?_ : Go _ _ 25 _ _ _ _)
    refine Go.iald shq_65 dX6_placeIn_25 ⟨h.1, (?_ : Go _ _ 26 _ _ _ _)⟩
    have h := h.2
    refine Go.irem dX6_placeIn_26 h.1 (?_ : Go _ _ 27 _ _ _ _)
    have h := h.2
    exact Go.iret rfl dX6_placeIn_27 ⟨_, rfl, h⟩
theorem cgX6_placeIn {d : Nat} {σ : St} {x1 : Int32} {x2 : Int32} {x3 : Int32} {K : Int32 → St → Prop} (h : (0 ≤ (x1 + (x2 * x3)) → vp_in (2 + x3) 32 ∧ (¬ (sA σ 65 (ix (2 + x3))) = 0) ∧ K (irem (x1 + (x2 * x3)) (sA σ 65 (ix (2 + x3)))) σ) ∧ (¬ 0 ≤ (x1 + (x2 * x3)) → vp_in (2 + x3) 32 ∧ (¬ (sA σ 65 (ix (2 + x3))) = 0) ∧ K (irem 0 (sA σ 65 (ix (2 + x3)))) σ)) : CallI (d + 1) mX6_placeIn [.ref 64, .int x1, .int x2, .int x3] σ K := Call_of_Go (by decide +kernel) (ls := [.ref 64, .int x1, .int x2, .int x3, .null]) rfl (Nat.le_of_ble_eq_true rfl) (sgX6_placeIn_0 h)
set_option maxHeartbeats 4000000 in
set_option maxRecDepth 100000 in
theorem sgX6_mark_0 {d : Nat} {σ : St} {x0 : Int32} {x1 : Int32} {x2 : Int32} {K : Int32 → St → Prop} (h : K (((((x0 * 50) + x1) * 11) + x2) + 5) σ) : Go mX6_mark (d + 1) 0 [.int x0, .int x1, .int x2] [] σ (QI K) := by
  refine Go.iload_n 0 dX6_mark_0 rfl rfl (?_ : Go _ _ 1 _ _ _ _)
  refine Go.bipush dX6_mark_1 k_bi_50 (?_ : Go _ _ 3 _ _ _ _)
  refine Go.imul dX6_mark_3 (?_ : Go _ _ 4 _ _ _ _)
  refine Go.iload_n 1 dX6_mark_4 rfl rfl (?_ : Go _ _ 5 _ _ _ _)
  refine Go.iadd dX6_mark_5 (?_ : Go _ _ 6 _ _ _ _)
  refine Go.bipush dX6_mark_6 k_bi_11 (?_ : Go _ _ 8 _ _ _ _)
  refine Go.imul dX6_mark_8 (?_ : Go _ _ 9 _ _ _ _)
  refine Go.iload_n 2 dX6_mark_9 rfl rfl (?_ : Go _ _ 10 _ _ _ _)
  refine Go.iadd dX6_mark_10 (?_ : Go _ _ 11 _ _ _ _)
  refine Go.iconst dX6_mark_11 k_ic_5 (?_ : Go _ _ 12 _ _ _ _)
  refine Go.iadd dX6_mark_12 (?_ : Go _ _ 13 _ _ _ _)
  exact Go.iret rfl dX6_mark_13 ⟨_, rfl, h⟩
theorem cgX6_mark {d : Nat} {σ : St} {x0 : Int32} {x1 : Int32} {x2 : Int32} {K : Int32 → St → Prop} (h : K (((((x0 * 50) + x1) * 11) + x2) + 5) σ) : CallI (d + 1) mX6_mark [.int x0, .int x1, .int x2] σ K := Call_of_Go (by decide +kernel) (ls := [.int x0, .int x1, .int x2]) rfl (Nat.le_of_ble_eq_true rfl) (sgX6_mark_0 h)
set_option maxHeartbeats 4000000 in
set_option maxRecDepth 100000 in
theorem sgX6_isFaint_0 {d : Nat} {σ : St} {x1 : Int32} {K : Int32 → St → Prop} (h : CallI d mX6_body [.ref 64, .int x1, .int 1] σ (fun r2 s1 => ((sA s1 65 7) ≤ r2 → K 0 s1) ∧ (¬ (sA s1 65 7) ≤ r2 → K 1 s1))) : Go mX6_isFaint (d + 1) 0 [.ref 64, .int x1] [] σ (QI K) := by
  refine Go.aload_n 0 dX6_isFaint_0 rfl rfl (?_ : Go _ _ 1 _ _ _ _)
  refine Go.iload_n 1 dX6_isFaint_1 rfl rfl (?_ : Go _ _ 2 _ _ _ _)
  refine Go.iconst dX6_isFaint_2 k_ic_1 (?_ : Go _ _ 3 _ _ _ _)
  refine Go.callV (as := [.int x1, .int 1]) (st := []) mk_X6_body wl_X6_85 shq_64 rfl rfl (Nat.le_of_ble_eq_true rfl) dX6_isFaint_3 h ?_
  rintro _ s1 ⟨r2, rfl, h⟩
  show Go _ _ 6 _ [.int r2] _ _
  refine Go.aload_n 0 dX6_isFaint_6 rfl rfl (?_ : Go _ _ 7 _ _ _ _)
  refine Go.getR fk_X6_7 shq_64 frq_64_0 dX6_isFaint_7 (?_ : Go _ _ 10 _ _ _ _)
  refine Go.bipush dX6_isFaint_10 k_bi_7 (?_ : Go _ _ 12 _ _ _ _)
  refine Go.ialdK ixk_7 vik_7_32 shq_65 dX6_isFaint_12 (?_ : Go _ _ 13 _ _ _ _)
  refine Go.icmp_ge 20 dX6_isFaint_13 rfl ⟨fun c3 => ?_, fun c3 => (?_ : Go _ _ 16 _ _ _ _)⟩
  · have h := h.1 c3
    refine Go.iconst dX6_isFaint_20 k_ic_0 (?_ : Go _ _ 21 _ _ _ _)
    exact Go.zret rfl rfl dX6_isFaint_21 ⟨_, rfl, h⟩
  · have h := h.2 c3
    refine Go.iconst dX6_isFaint_16 k_ic_1 (?_ : Go _ _ 17 _ _ _ _)
    refine Go.goto 21 dX6_isFaint_17 rfl ?_
    exact Go.zret rfl rfl dX6_isFaint_21 ⟨_, rfl, h⟩
theorem cgX6_isFaint {d : Nat} {σ : St} {x1 : Int32} {K : Int32 → St → Prop} (h : CallI d mX6_body [.ref 64, .int x1, .int 1] σ (fun r2 s1 => ((sA s1 65 7) ≤ r2 → K 0 s1) ∧ (¬ (sA s1 65 7) ≤ r2 → K 1 s1))) : CallI (d + 1) mX6_isFaint [.ref 64, .int x1] σ K := Call_of_Go (by decide +kernel) (ls := [.ref 64, .int x1]) rfl (Nat.le_of_ble_eq_true rfl) (sgX6_isFaint_0 h)
set_option maxHeartbeats 4000000 in
set_option maxRecDepth 100000 in
theorem sgX6_isLost_0 {d : Nat} {σ : St} {x1 : Int32} {x2 : Int32} {K : Int32 → St → Prop} (h : CallI d mX6_isFaint [.ref 64, .int x1] σ (fun r2 s1 => (¬ r2 = 0 → K 0 s1) ∧ (r2 = 0 → CallI d mX6_body [.ref 64, .int x1, .int 0] s1 (fun r5 s4 => CallI d mX6_body [.ref 64, .int x1, .int 2] s4 (fun r7 s6 => CallI d mX6_placeIn [.ref 64, .int r5, .int r7, .int x2] s6 (fun r9 s8 => ((sA s8 65 6) ≤ r9 → K 0 s8) ∧ (¬ (sA s8 65 6) ≤ r9 → K 1 s8))))))) : Go mX6_isLost (d + 1) 0 [.ref 64, .int x1, .int x2] [] σ (QI K) := by
  refine Go.aload_n 0 dX6_isLost_0 rfl rfl (?_ : Go _ _ 1 _ _ _ _)
  refine Go.iload_n 1 dX6_isLost_1 rfl rfl (?_ : Go _ _ 2 _ _ _ _)
  refine Go.callV (as := [.int x1]) (st := []) mk_X6_isFaint wl_X6_88 shq_64 rfl rfl (Nat.le_of_ble_eq_true rfl) dX6_isLost_2 h ?_
  rintro _ s1 ⟨r2, rfl, h⟩
  show Go _ _ 5 _ [.int r2] _ _
  refine Go.if_ne 39 dX6_isLost_5 rfl ⟨fun c3 => ?_, fun c3 => (?_ : Go _ _ 8 _ _ _ _)⟩
  · have h := h.1 c3
    refine Go.iconst dX6_isLost_39 k_ic_0 (?_ : Go _ _ 40 _ _ _ _)
    exact Go.zret rfl rfl dX6_isLost_40 ⟨_, rfl, h⟩
  · have h := h.2 c3
    refine Go.aload_n 0 dX6_isLost_8 rfl rfl (?_ : Go _ _ 9 _ _ _ _)
    refine Go.aload_n 0 dX6_isLost_9 rfl rfl (?_ : Go _ _ 10 _ _ _ _)
    refine Go.iload_n 1 dX6_isLost_10 rfl rfl (?_ : Go _ _ 11 _ _ _ _)
    refine Go.iconst dX6_isLost_11 k_ic_0 (?_ : Go _ _ 12 _ _ _ _)
    refine Go.callV (as := [.int x1, .int 0]) (st := [.ref 64]) mk_X6_body wl_X6_85 shq_64 rfl rfl (Nat.le_of_ble_eq_true rfl) dX6_isLost_12 h ?_
    rintro _ s4 ⟨r5, rfl, h⟩
    show Go _ _ 15 _ [.int r5, .ref 64] _ _
    refine Go.aload_n 0 dX6_isLost_15 rfl rfl (?_ : Go _ _ 16 _ _ _ _)
    refine Go.iload_n 1 dX6_isLost_16 rfl rfl (?_ : Go _ _ 17 _ _ _ _)
    refine Go.iconst dX6_isLost_17 k_ic_2 (?_ : Go _ _ 18 _ _ _ _)
    refine Go.callV (as := [.int x1, .int 2]) (st := [.int r5, .ref 64]) mk_X6_body wl_X6_85 shq_64 rfl rfl (Nat.le_of_ble_eq_true rfl) dX6_isLost_18 h ?_
    rintro _ s6 ⟨r7, rfl, h⟩
    show Go _ _ 21 _ [.int r7, .int r5, .ref 64] _ _
    refine Go.iload_n 2 dX6_isLost_21 rfl rfl (?_ : Go _ _ 22 _ _ _ _)
    refine Go.callV (as := [.int r5, .int r7, .int x2]) (st := []) mk_X6_placeIn wl_X6_91 shq_64 rfl rfl (Nat.le_of_ble_eq_true rfl) dX6_isLost_22 h ?_
    rintro _ s8 ⟨r9, rfl, h⟩
    show Go _ _ 25 _ [.int r9] _ _
    refine Go.aload_n 0 dX6_isLost_25 rfl rfl (?_ : Go _ _ 26 _ _ _ _)
    refine Go.getR fk_X6_7 shq_64 frq_64_0 dX6_isLost_26 (?_ : Go _ _ 29 _ _ _ _)
    refine Go.bipush dX6_isLost_29 k_bi_6 (?_ : Go _ _ 31 _ _ _ _)
    refine Go.ialdK ixk_6 vik_6_32 shq_65 dX6_isLost_31 (?_ : Go _ _ 32 _ _ _ _)
    refine Go.icmp_ge 39 dX6_isLost_32 rfl ⟨fun c10 => ?_, fun c10 => (?_ : Go _ _ 35 _ _ _ _)⟩
    · have h := h.1 c10
      refine Go.iconst dX6_isLost_39 k_ic_0 (?_ : Go _ _ 40 _ _ _ _)
      exact Go.zret rfl rfl dX6_isLost_40 ⟨_, rfl, h⟩
    · have h := h.2 c10
      refine Go.iconst dX6_isLost_35 k_ic_1 (?_ : Go _ _ 36 _ _ _ _)
      refine Go.goto 40 dX6_isLost_36 rfl ?_
      exact Go.zret rfl rfl dX6_isLost_40 ⟨_, rfl, h⟩
theorem cgX6_isLost {d : Nat} {σ : St} {x1 : Int32} {x2 : Int32} {K : Int32 → St → Prop} (h : CallI d mX6_isFaint [.ref 64, .int x1] σ (fun r2 s1 => (¬ r2 = 0 → K 0 s1) ∧ (r2 = 0 → CallI d mX6_body [.ref 64, .int x1, .int 0] s1 (fun r5 s4 => CallI d mX6_body [.ref 64, .int x1, .int 2] s4 (fun r7 s6 => CallI d mX6_placeIn [.ref 64, .int r5, .int r7, .int x2] s6 (fun r9 s8 => ((sA s8 65 6) ≤ r9 → K 0 s8) ∧ (¬ (sA s8 65 6) ≤ r9 → K 1 s8))))))) : CallI (d + 1) mX6_isLost [.ref 64, .int x1, .int x2] σ K := Call_of_Go (by decide +kernel) (ls := [.ref 64, .int x1, .int x2]) rfl (Nat.le_of_ble_eq_true rfl) (sgX6_isLost_0 h)
set_option maxHeartbeats 4000000 in
set_option maxRecDepth 100000 in
theorem sgX6_listen_0 {d : Nat} {σ : St} {K : St → Prop} (h : ∀ s1, s1 = setF σ 64 8 0 → Go mX6_listen (d + 1) 7 [.ref 64, .int 0, .null, .null, .null] [] s1 (QU K)) : Go mX6_listen (d + 1) 0 [.ref 64, .null, .null, .null, .null] [] σ (QU K) := by
  refine Go.aload_n 0 dX6_listen_0 rfl rfl (?_ : Go _ _ 1 _ _ _ _)
  refine Go.iconst dX6_listen_1 k_ic_0 (?_ : Go _ _ 2 _ _ _ _)
  refine Go.putI fp_X6_82 shq_64 frq_64_8 dX6_listen_2 (?_ : Go _ _ 5 _ _ _ _)
  generalize es1 : setF σ 64 8 0 = s1
  have h := h s1 es1.symm
  refine Go.iconst dX6_listen_5 k_ic_0 (?_ : Go _ _ 6 _ _ _ _)
  refine Go.istore_n 1 dX6_listen_6 rfl (by decide) rfl rfl (?_ : Go _ _ 7 [.ref 64, .int 0, .null, .null, .null] _ _ _)
  exact h
theorem cgX6_listen {d : Nat} {σ : St} {K : St → Prop} (h : ∀ s1, s1 = setF σ 64 8 0 → Go mX6_listen (d + 1) 7 [.ref 64, .int 0, .null, .null, .null] [] s1 (QU K)) : CallU (d + 1) mX6_listen [.ref 64] σ K := Call_of_Go (by decide +kernel) (ls := [.ref 64, .null, .null, .null, .null]) rfl (Nat.le_of_ble_eq_true rfl) (sgX6_listen_0 h)
set_option maxHeartbeats 4000000 in
set_option maxRecDepth 100000 in
theorem sgX6_listen_7 {d : Nat} {σ : St} {v1 : Int32} {K : St → Prop} (h : ((sA σ 65 0) ≤ v1 → Go mX6_listen (d + 1) 49 [.ref 64, .int 0, .null, .null, .null] [] σ (QU K)) ∧ (¬ (sA σ 65 0) ≤ v1 → CallI d mX6_of [.ref 64, .int v1, .int 0] σ (fun r3 s2 => CallI d mX6_of [.ref 64, .int v1, .int 1] s2 (fun r5 s4 => CallI d mX6_of [.ref 64, .int v1, .int 2] s4 (fun r7 s6 => CallU d mX6_layBody [.ref 64, .int r3, .int r5, .int r7, .int v1, .int v1] s6 (fun s8 => Go mX6_listen (d + 1) 7 [.ref 64, .int (v1 + 1), .null, .null, .null] [] s8 (QU K))))))) : Go mX6_listen (d + 1) 7 [.ref 64, .int v1, .null, .null, .null] [] σ (QU K) := by
  refine Go.iload_n 1 dX6_listen_7 rfl rfl (?_ : Go _ _ 8 _ _ _ _)
  refine Go.aload_n 0 dX6_listen_8 rfl rfl (?_ : Go _ _ 9 _ _ _ _)
  refine Go.getR fk_X6_7 shq_64 frq_64_0 dX6_listen_9 (?_ : Go _ _ 12 _ _ _ _)
  refine Go.iconst dX6_listen_12 k_ic_0 (?_ : Go _ _ 13 _ _ _ _)
  refine Go.ialdK ixk_0 vik_0_32 shq_65 dX6_listen_13 (?_ : Go _ _ 14 _ _ _ _)
  refine Go.icmp_ge 47 dX6_listen_14 rfl ⟨fun c1 => ?_, fun c1 => (?_ : Go _ _ 17 _ _ _ _)⟩
  · have h := h.1 c1
    refine Go.iconst dX6_listen_47 k_ic_0 (?_ : Go _ _ 48 _ _ _ _)
    refine Go.istore_n 1 dX6_listen_48 rfl (by decide) rfl rfl (?_ : Go _ _ 49 [.ref 64, .int 0, .null, .null, .null] _ _ _)
    exact h
  · have h := h.2 c1
    refine Go.aload_n 0 dX6_listen_17 rfl rfl (?_ : Go _ _ 18 _ _ _ _)
    refine Go.aload_n 0 dX6_listen_18 rfl rfl (?_ : Go _ _ 19 _ _ _ _)
    refine Go.iload_n 1 dX6_listen_19 rfl rfl (?_ : Go _ _ 20 _ _ _ _)
    refine Go.iconst dX6_listen_20 k_ic_0 (?_ : Go _ _ 21 _ _ _ _)
    refine Go.callV (as := [.int v1, .int 0]) (st := [.ref 64]) mk_X6_of wl_X6_56 shq_64 rfl rfl (Nat.le_of_ble_eq_true rfl) dX6_listen_21 h ?_
    rintro _ s2 ⟨r3, rfl, h⟩
    show Go _ _ 24 _ [.int r3, .ref 64] _ _
    refine Go.aload_n 0 dX6_listen_24 rfl rfl (?_ : Go _ _ 25 _ _ _ _)
    refine Go.iload_n 1 dX6_listen_25 rfl rfl (?_ : Go _ _ 26 _ _ _ _)
    refine Go.iconst dX6_listen_26 k_ic_1 (?_ : Go _ _ 27 _ _ _ _)
    refine Go.callV (as := [.int v1, .int 1]) (st := [.int r3, .ref 64]) mk_X6_of wl_X6_56 shq_64 rfl rfl (Nat.le_of_ble_eq_true rfl) dX6_listen_27 h ?_
    rintro _ s4 ⟨r5, rfl, h⟩
    show Go _ _ 30 _ [.int r5, .int r3, .ref 64] _ _
    refine Go.aload_n 0 dX6_listen_30 rfl rfl (?_ : Go _ _ 31 _ _ _ _)
    refine Go.iload_n 1 dX6_listen_31 rfl rfl (?_ : Go _ _ 32 _ _ _ _)
    refine Go.iconst dX6_listen_32 k_ic_2 (?_ : Go _ _ 33 _ _ _ _)
    refine Go.callV (as := [.int v1, .int 2]) (st := [.int r5, .int r3, .ref 64]) mk_X6_of wl_X6_56 shq_64 rfl rfl (Nat.le_of_ble_eq_true rfl) dX6_listen_33 h ?_
    rintro _ s6 ⟨r7, rfl, h⟩
    show Go _ _ 36 _ [.int r7, .int r5, .int r3, .ref 64] _ _
    refine Go.iload_n 1 dX6_listen_36 rfl rfl (?_ : Go _ _ 37 _ _ _ _)
    refine Go.iload_n 1 dX6_listen_37 rfl rfl (?_ : Go _ _ 38 _ _ _ _)
    refine Go.callV (as := [.int r3, .int r5, .int r7, .int v1, .int v1]) (st := []) mk_X6_layBody wl_X6_95 shq_64 rfl rfl (Nat.le_of_ble_eq_true rfl) dX6_listen_38 h ?_
    rintro _ s8 ⟨rfl, h⟩
    show Go _ _ 41 _ [] _ _
    refine Go.iinc dX6_listen_41 rfl (congrArg (fun z => v1 + z) k_ic_1) (by decide) rfl rfl (?_ : Go _ _ 44 [.ref 64, .int (v1 + 1), .null, .null, .null] _ _ _)
    refine Go.goto 7 dX6_listen_44 rfl ?_
    exact h
set_option maxHeartbeats 4000000 in
set_option maxRecDepth 100000 in
theorem sgX6_listen_49 {d : Nat} {σ : St} {v1 : Int32} {K : St → Prop} (h : ((sA σ 65 0) ≤ v1 → Go mX6_listen (d + 1) 190 [.ref 64, .int 0, .null, .null, .null] [] σ (QU K)) ∧ (¬ (sA σ 65 0) ≤ v1 → Go mX6_listen (d + 1) 63 [.ref 64, .int v1, .int (v1 + 1), .null, .null] [] σ (QU K))) : Go mX6_listen (d + 1) 49 [.ref 64, .int v1, .null, .null, .null] [] σ (QU K) := by
  refine Go.iload_n 1 dX6_listen_49 rfl rfl (?_ : Go _ _ 50 _ _ _ _)
  refine Go.aload_n 0 dX6_listen_50 rfl rfl (?_ : Go _ _ 51 _ _ _ _)
  refine Go.getR fk_X6_7 shq_64 frq_64_0 dX6_listen_51 (?_ : Go _ _ 54 _ _ _ _)
  refine Go.iconst dX6_listen_54 k_ic_0 (?_ : Go _ _ 55 _ _ _ _)
  refine Go.ialdK ixk_0 vik_0_32 shq_65 dX6_listen_55 (?_ : Go _ _ 56 _ _ _ _)
  refine Go.icmp_ge 188 dX6_listen_56 rfl ⟨fun c1 => ?_, fun c1 => (?_ : Go _ _ 59 _ _ _ _)⟩
  · have h := h.1 c1
    refine Go.iconst dX6_listen_188 k_ic_0 (?_ : Go _ _ 189 _ _ _ _)
    refine Go.istore_n 1 dX6_listen_189 rfl (by decide) rfl rfl (?_ : Go _ _ 190 [.ref 64, .int 0, .null, .null, .null] _ _ _)
    exact h
  · have h := h.2 c1
    refine Go.iload_n 1 dX6_listen_59 rfl rfl (?_ : Go _ _ 60 _ _ _ _)
    refine Go.iconst dX6_listen_60 k_ic_1 (?_ : Go _ _ 61 _ _ _ _)
    refine Go.iadd dX6_listen_61 (?_ : Go _ _ 62 _ _ _ _)
    refine Go.istore_n 2 dX6_listen_62 rfl (by decide) rfl rfl (?_ : Go _ _ 63 [.ref 64, .int v1, .int (v1 + 1), .null, .null] _ _ _)
    exact h
set_option maxHeartbeats 4000000 in
set_option maxRecDepth 100000 in
theorem sgX6_listen_63 {d : Nat} {σ : St} {v1 : Int32} {v2 : Int32} {K : St → Prop} (h : ((sA σ 65 0) ≤ v2 → Go mX6_listen (d + 1) 49 [.ref 64, .int (v1 + 1), .null, .null, .null] [] σ (QU K)) ∧ (¬ (sA σ 65 0) ≤ v2 → CallI d mX6_of [.ref 64, .int v1, .int 1] σ (fun r3 s2 => CallI d mX6_of [.ref 64, .int v2, .int 1] s2 (fun r5 s4 => CallI d mX6_of [.ref 64, .int v1, .int 3] s4 (fun r7 s6 => (¬ r7 = 1 → Go mX6_listen (d + 1) 63 [.ref 64, .int v1, .int (v2 + 1), .null, .null] [] s6 (QU K)) ∧ (r7 = 1 → CallI d mX6_of [.ref 64, .int v2, .int 3] s6 (fun r10 s9 => (¬ r10 = 1 → Go mX6_listen (d + 1) 63 [.ref 64, .int v1, .int (v2 + 1), .null, .null] [] s9 (QU K)) ∧ (r10 = 1 → (((r3 * r5) / 200) ≤ 0 → Go mX6_listen (d + 1) 63 [.ref 64, .int v1, .int (v2 + 1), .null, .null] [] s9 (QU K)) ∧ (¬ ((r3 * r5) / 200) ≤ 0 → CallI d mX6_of [.ref 64, .int v1, .int 0] s9 (fun r14 s13 => CallI d mX6_of [.ref 64, .int v2, .int 0] s13 (fun r16 s15 => (r16 ≤ r14 → CallI d mX6_of [.ref 64, .int v2, .int 0] s15 (fun r19 s18 => CallI d mX6_of [.ref 64, .int v1, .int 0] s18 (fun r21 s20 => CallI d mX6_of [.ref 64, .int v2, .int 0] s20 (fun r23 s22 => CallU d mX6_layBody [.ref 64, .int ((2 * ((r21 + r23) - r19)) - r19), .int ((r3 * r5) / 200), .int 0, .int v1, .int v2] s22 (fun s24 => Go mX6_listen (d + 1) 63 [.ref 64, .int v1, .int (v2 + 1), .null, .null] [] s24 (QU K)))))) ∧ (¬ r16 ≤ r14 → CallI d mX6_of [.ref 64, .int v1, .int 0] s15 (fun r26 s25 => CallI d mX6_of [.ref 64, .int v1, .int 0] s25 (fun r28 s27 => CallI d mX6_of [.ref 64, .int v2, .int 0] s27 (fun r30 s29 => CallU d mX6_layBody [.ref 64, .int ((2 * ((r28 + r30) - r26)) - r26), .int ((r3 * r5) / 200), .int 0, .int v1, .int v2] s29 (fun s31 => Go mX6_listen (d + 1) 63 [.ref 64, .int v1, .int (v2 + 1), .null, .null] [] s31 (QU K))))))))))))))))) : Go mX6_listen (d + 1) 63 [.ref 64, .int v1, .int v2, .null, .null] [] σ (QU K) := by
  refine Go.iload_n 2 dX6_listen_63 rfl rfl (?_ : Go _ _ 64 _ _ _ _)
  refine Go.aload_n 0 dX6_listen_64 rfl rfl (?_ : Go _ _ 65 _ _ _ _)
  refine Go.getR fk_X6_7 shq_64 frq_64_0 dX6_listen_65 (?_ : Go _ _ 68 _ _ _ _)
  refine Go.iconst dX6_listen_68 k_ic_0 (?_ : Go _ _ 69 _ _ _ _)
  refine Go.ialdK ixk_0 vik_0_32 shq_65 dX6_listen_69 (?_ : Go _ _ 70 _ _ _ _)
  refine Go.icmp_ge 182 dX6_listen_70 rfl ⟨fun c1 => ?_, fun c1 => (?_ : Go _ _ 73 _ _ _ _)⟩
  · have h := h.1 c1
    refine Go.iinc dX6_listen_182 rfl (congrArg (fun z => v1 + z) k_ic_1) (by decide) rfl rfl (?_ : Go _ _ 185 [.ref 64, .int (v1 + 1), .int v2, .null, .null] _ _ _)
    refine Go.goto 49 dX6_listen_185 rfl ?_
    refine Go.drop (ls' := [.ref 64, .int (v1 + 1), .null, .null, .null]) 2 rfl ?_
    exact h
  · have h := h.2 c1
    refine Go.aload_n 0 dX6_listen_73 rfl rfl (?_ : Go _ _ 74 _ _ _ _)
    refine Go.iload_n 1 dX6_listen_74 rfl rfl (?_ : Go _ _ 75 _ _ _ _)
    refine Go.iconst dX6_listen_75 k_ic_1 (?_ : Go _ _ 76 _ _ _ _)
    refine Go.callV (as := [.int v1, .int 1]) (st := []) mk_X6_of wl_X6_56 shq_64 rfl rfl (Nat.le_of_ble_eq_true rfl) dX6_listen_76 h ?_
    rintro _ s2 ⟨r3, rfl, h⟩
    show Go _ _ 79 _ [.int r3] _ _
    refine Go.aload_n 0 dX6_listen_79 rfl rfl (?_ : Go _ _ 80 _ _ _ _)
    refine Go.iload_n 2 dX6_listen_80 rfl rfl (?_ : Go _ _ 81 _ _ _ _)
    refine Go.iconst dX6_listen_81 k_ic_1 (?_ : Go _ _ 82 _ _ _ _)
    refine Go.callV (as := [.int v2, .int 1]) (st := [.int r3]) mk_X6_of wl_X6_56 shq_64 rfl rfl (Nat.le_of_ble_eq_true rfl) dX6_listen_82 h ?_
    rintro _ s4 ⟨r5, rfl, h⟩
    show Go _ _ 85 _ [.int r5, .int r3] _ _
    refine Go.imul dX6_listen_85 (?_ : Go _ _ 86 _ _ _ _)
    refine Go.sipush dX6_listen_86 k_si_200 (?_ : Go _ _ 89 _ _ _ _)
    refine Go.idiv dX6_listen_89 (by decide) (?_ : Go _ _ 90 _ _ _ _)
    refine Go.istore_n 3 dX6_listen_90 rfl (by decide) rfl rfl (?_ : Go _ _ 91 [.ref 64, .int v1, .int v2, .int ((r3 * r5) / 200), .null] _ _ _)
    refine Go.aload_n 0 dX6_listen_91 rfl rfl (?_ : Go _ _ 92 _ _ _ _)
    refine Go.iload_n 1 dX6_listen_92 rfl rfl (?_ : Go _ _ 93 _ _ _ _)
    refine Go.iconst dX6_listen_93 k_ic_3 (?_ : Go _ _ 94 _ _ _ _)
    refine Go.callV (as := [.int v1, .int 3]) (st := []) mk_X6_of wl_X6_56 shq_64 rfl rfl (Nat.le_of_ble_eq_true rfl) dX6_listen_94 h ?_
    rintro _ s6 ⟨r7, rfl, h⟩
    show Go _ _ 97 _ [.int r7] _ _
    refine Go.iconst dX6_listen_97 k_ic_1 (?_ : Go _ _ 98 _ _ _ _)
    refine Go.icmp_ne 176 dX6_listen_98 rfl ⟨fun c8 => ?_, fun c8 => (?_ : Go _ _ 101 _ _ _ _)⟩
    · have h := h.1 c8
      refine Go.iinc dX6_listen_176 rfl (congrArg (fun z => v2 + z) k_ic_1) (by decide) rfl rfl (?_ : Go _ _ 179 [.ref 64, .int v1, .int (v2 + 1), .int ((r3 * r5) / 200), .null] _ _ _)
      refine Go.goto 63 dX6_listen_179 rfl ?_
      refine Go.drop (ls' := [.ref 64, .int v1, .int (v2 + 1), .null, .null]) 3 rfl ?_
      exact h
    · have h := h.2 c8
      refine Go.aload_n 0 dX6_listen_101 rfl rfl (?_ : Go _ _ 102 _ _ _ _)
      refine Go.iload_n 2 dX6_listen_102 rfl rfl (?_ : Go _ _ 103 _ _ _ _)
      refine Go.iconst dX6_listen_103 k_ic_3 (?_ : Go _ _ 104 _ _ _ _)
      refine Go.callV (as := [.int v2, .int 3]) (st := []) mk_X6_of wl_X6_56 shq_64 rfl rfl (Nat.le_of_ble_eq_true rfl) dX6_listen_104 h ?_
      rintro _ s9 ⟨r10, rfl, h⟩
      show Go _ _ 107 _ [.int r10] _ _
      refine Go.iconst dX6_listen_107 k_ic_1 (?_ : Go _ _ 108 _ _ _ _)
      refine Go.icmp_ne 176 dX6_listen_108 rfl ⟨fun c11 => ?_, fun c11 => (?_ : Go _ _ 111 _ _ _ _)⟩
      · have h := h.1 c11
        refine Go.iinc dX6_listen_176 rfl (congrArg (fun z => v2 + z) k_ic_1) (by decide) rfl rfl (?_ : Go _ _ 179 [.ref 64, .int v1, .int (v2 + 1), .int ((r3 * r5) / 200), .null] _ _ _)
        refine Go.goto 63 dX6_listen_179 rfl ?_
        refine Go.drop (ls' := [.ref 64, .int v1, .int (v2 + 1), .null, .null]) 3 rfl ?_
        exact h
      · have h := h.2 c11
        refine Go.iload_n 3 dX6_listen_111 rfl rfl (?_ : Go _ _ 112 _ _ _ _)
        refine Go.if_le 176 dX6_listen_112 rfl ⟨fun c12 => ?_, fun c12 => (?_ : Go _ _ 115 _ _ _ _)⟩
        · have h := h.1 c12
          refine Go.iinc dX6_listen_176 rfl (congrArg (fun z => v2 + z) k_ic_1) (by decide) rfl rfl (?_ : Go _ _ 179 [.ref 64, .int v1, .int (v2 + 1), .int ((r3 * r5) / 200), .null] _ _ _)
          refine Go.goto 63 dX6_listen_179 rfl ?_
          refine Go.drop (ls' := [.ref 64, .int v1, .int (v2 + 1), .null, .null]) 3 rfl ?_
          exact h
        · have h := h.2 c12
          refine Go.aload_n 0 dX6_listen_115 rfl rfl (?_ : Go _ _ 116 _ _ _ _)
          refine Go.iload_n 1 dX6_listen_116 rfl rfl (?_ : Go _ _ 117 _ _ _ _)
          refine Go.iconst dX6_listen_117 k_ic_0 (?_ : Go _ _ 118 _ _ _ _)
          refine Go.callV (as := [.int v1, .int 0]) (st := []) mk_X6_of wl_X6_56 shq_64 rfl rfl (Nat.le_of_ble_eq_true rfl) dX6_listen_118 h ?_
          rintro _ s13 ⟨r14, rfl, h⟩
          show Go _ _ 121 _ [.int r14] _ _
          refine Go.aload_n 0 dX6_listen_121 rfl rfl (?_ : Go _ _ 122 _ _ _ _)
          refine Go.iload_n 2 dX6_listen_122 rfl rfl (?_ : Go _ _ 123 _ _ _ _)
          refine Go.iconst dX6_listen_123 k_ic_0 (?_ : Go _ _ 124 _ _ _ _)
          refine Go.callV (as := [.int v2, .int 0]) (st := [.int r14]) mk_X6_of wl_X6_56 shq_64 rfl rfl (Nat.le_of_ble_eq_true rfl) dX6_listen_124 h ?_
          rintro _ s15 ⟨r16, rfl, h⟩
          show Go _ _ 127 _ [.int r16, .int r14] _ _
          refine Go.icmp_ge 139 dX6_listen_127 rfl ⟨fun c17 => ?_, fun c17 => (?_ : Go _ _ 130 _ _ _ _)⟩
          · have h := h.1 c17
            refine Go.aload_n 0 dX6_listen_139 rfl rfl (?_ : Go _ _ 140 _ _ _ _)
            refine Go.iload_n 2 dX6_listen_140 rfl rfl (?_ : Go _ _ 141 _ _ _ _)
            refine Go.iconst dX6_listen_141 k_ic_0 (?_ : Go _ _ 142 _ _ _ _)
            refine Go.callV (as := [.int v2, .int 0]) (st := []) mk_X6_of wl_X6_56 shq_64 rfl rfl (Nat.le_of_ble_eq_true rfl) dX6_listen_142 h ?_
            rintro _ s18 ⟨r19, rfl, h⟩
            show Go _ _ 145 _ [.int r19] _ _
            refine Go.istore dX6_listen_145 (by decide) rfl rfl (?_ : Go _ _ 147 [.ref 64, .int v1, .int v2, .int ((r3 * r5) / 200), .int r19] _ _ _)
            refine Go.aload_n 0 dX6_listen_147 rfl rfl (?_ : Go _ _ 148 _ _ _ _)
            refine Go.iconst dX6_listen_148 k_ic_2 (?_ : Go _ _ 149 _ _ _ _)
            refine Go.aload_n 0 dX6_listen_149 rfl rfl (?_ : Go _ _ 150 _ _ _ _)
            refine Go.iload_n 1 dX6_listen_150 rfl rfl (?_ : Go _ _ 151 _ _ _ _)
            refine Go.iconst dX6_listen_151 k_ic_0 (?_ : Go _ _ 152 _ _ _ _)
            refine Go.callV (as := [.int v1, .int 0]) (st := [.int 2, .ref 64]) mk_X6_of wl_X6_56 shq_64 rfl rfl (Nat.le_of_ble_eq_true rfl) dX6_listen_152 h ?_
            rintro _ s20 ⟨r21, rfl, h⟩
            show Go _ _ 155 _ [.int r21, .int 2, .ref 64] _ _
            refine Go.aload_n 0 dX6_listen_155 rfl rfl (?_ : Go _ _ 156 _ _ _ _)
            refine Go.iload_n 2 dX6_listen_156 rfl rfl (?_ : Go _ _ 157 _ _ _ _)
            refine Go.iconst dX6_listen_157 k_ic_0 (?_ : Go _ _ 158 _ _ _ _)
            refine Go.callV (as := [.int v2, .int 0]) (st := [.int r21, .int 2, .ref 64]) mk_X6_of wl_X6_56 shq_64 rfl rfl (Nat.le_of_ble_eq_true rfl) dX6_listen_158 h ?_
            rintro _ s22 ⟨r23, rfl, h⟩
            show Go _ _ 161 _ [.int r23, .int r21, .int 2, .ref 64] _ _
            refine Go.iadd dX6_listen_161 (?_ : Go _ _ 162 _ _ _ _)
            refine Go.iload dX6_listen_162 rfl (?_ : Go _ _ 164 _ _ _ _)
            refine Go.isub dX6_listen_164 (?_ : Go _ _ 165 _ _ _ _)
            refine Go.imul dX6_listen_165 (?_ : Go _ _ 166 _ _ _ _)
            refine Go.iload dX6_listen_166 rfl (?_ : Go _ _ 168 _ _ _ _)
            refine Go.isub dX6_listen_168 (?_ : Go _ _ 169 _ _ _ _)
            refine Go.iload_n 3 dX6_listen_169 rfl rfl (?_ : Go _ _ 170 _ _ _ _)
            refine Go.iconst dX6_listen_170 k_ic_0 (?_ : Go _ _ 171 _ _ _ _)
            refine Go.iload_n 1 dX6_listen_171 rfl rfl (?_ : Go _ _ 172 _ _ _ _)
            refine Go.iload_n 2 dX6_listen_172 rfl rfl (?_ : Go _ _ 173 _ _ _ _)
            refine Go.callV (as := [.int ((2 * ((r21 + r23) - r19)) - r19), .int ((r3 * r5) / 200), .int 0, .int v1, .int v2]) (st := []) mk_X6_layBody wl_X6_95 shq_64 rfl rfl (Nat.le_of_ble_eq_true rfl) dX6_listen_173 h ?_
            rintro _ s24 ⟨rfl, h⟩
            show Go _ _ 176 _ [] _ _
            refine Go.iinc dX6_listen_176 rfl (congrArg (fun z => v2 + z) k_ic_1) (by decide) rfl rfl (?_ : Go _ _ 179 [.ref 64, .int v1, .int (v2 + 1), .int ((r3 * r5) / 200), .int r19] _ _ _)
            refine Go.goto 63 dX6_listen_179 rfl ?_
            refine Go.drop (ls' := [.ref 64, .int v1, .int (v2 + 1), .null, .int r19]) 3 rfl ?_
            refine Go.drop (ls' := [.ref 64, .int v1, .int (v2 + 1), .null, .null]) 4 rfl ?_
            exact h
          · have h := h.2 c17
            refine Go.aload_n 0 dX6_listen_130 rfl rfl (?_ : Go _ _ 131 _ _ _ _)
            refine Go.iload_n 1 dX6_listen_131 rfl rfl (?_ : Go _ _ 132 _ _ _ _)
            refine Go.iconst dX6_listen_132 k_ic_0 (?_ : Go _ _ 133 _ _ _ _)
            refine Go.callV (as := [.int v1, .int 0]) (st := []) mk_X6_of wl_X6_56 shq_64 rfl rfl (Nat.le_of_ble_eq_true rfl) dX6_listen_133 h ?_
            rintro _ s25 ⟨r26, rfl, h⟩
            show Go _ _ 136 _ [.int r26] _ _
            refine Go.goto 145 dX6_listen_136 rfl ?_
            refine Go.istore dX6_listen_145 (by decide) rfl rfl (?_ : Go _ _ 147 [.ref 64, .int v1, .int v2, .int ((r3 * r5) / 200), .int r26] _ _ _)
            refine Go.aload_n 0 dX6_listen_147 rfl rfl (?_ : Go _ _ 148 _ _ _ _)
            refine Go.iconst dX6_listen_148 k_ic_2 (?_ : Go _ _ 149 _ _ _ _)
            refine Go.aload_n 0 dX6_listen_149 rfl rfl (?_ : Go _ _ 150 _ _ _ _)
            refine Go.iload_n 1 dX6_listen_150 rfl rfl (?_ : Go _ _ 151 _ _ _ _)
            refine Go.iconst dX6_listen_151 k_ic_0 (?_ : Go _ _ 152 _ _ _ _)
            refine Go.callV (as := [.int v1, .int 0]) (st := [.int 2, .ref 64]) mk_X6_of wl_X6_56 shq_64 rfl rfl (Nat.le_of_ble_eq_true rfl) dX6_listen_152 h ?_
            rintro _ s27 ⟨r28, rfl, h⟩
            show Go _ _ 155 _ [.int r28, .int 2, .ref 64] _ _
            refine Go.aload_n 0 dX6_listen_155 rfl rfl (?_ : Go _ _ 156 _ _ _ _)
            refine Go.iload_n 2 dX6_listen_156 rfl rfl (?_ : Go _ _ 157 _ _ _ _)
            refine Go.iconst dX6_listen_157 k_ic_0 (?_ : Go _ _ 158 _ _ _ _)
            refine Go.callV (as := [.int v2, .int 0]) (st := [.int r28, .int 2, .ref 64]) mk_X6_of wl_X6_56 shq_64 rfl rfl (Nat.le_of_ble_eq_true rfl) dX6_listen_158 h ?_
            rintro _ s29 ⟨r30, rfl, h⟩
            show Go _ _ 161 _ [.int r30, .int r28, .int 2, .ref 64] _ _
            refine Go.iadd dX6_listen_161 (?_ : Go _ _ 162 _ _ _ _)
            refine Go.iload dX6_listen_162 rfl (?_ : Go _ _ 164 _ _ _ _)
            refine Go.isub dX6_listen_164 (?_ : Go _ _ 165 _ _ _ _)
            refine Go.imul dX6_listen_165 (?_ : Go _ _ 166 _ _ _ _)
            refine Go.iload dX6_listen_166 rfl (?_ : Go _ _ 168 _ _ _ _)
            refine Go.isub dX6_listen_168 (?_ : Go _ _ 169 _ _ _ _)
            refine Go.iload_n 3 dX6_listen_169 rfl rfl (?_ : Go _ _ 170 _ _ _ _)
            refine Go.iconst dX6_listen_170 k_ic_0 (?_ : Go _ _ 171 _ _ _ _)
            refine Go.iload_n 1 dX6_listen_171 rfl rfl (?_ : Go _ _ 172 _ _ _ _)
            refine Go.iload_n 2 dX6_listen_172 rfl rfl (?_ : Go _ _ 173 _ _ _ _)
            refine Go.callV (as := [.int ((2 * ((r28 + r30) - r26)) - r26), .int ((r3 * r5) / 200), .int 0, .int v1, .int v2]) (st := []) mk_X6_layBody wl_X6_95 shq_64 rfl rfl (Nat.le_of_ble_eq_true rfl) dX6_listen_173 h ?_
            rintro _ s31 ⟨rfl, h⟩
            show Go _ _ 176 _ [] _ _
            refine Go.iinc dX6_listen_176 rfl (congrArg (fun z => v2 + z) k_ic_1) (by decide) rfl rfl (?_ : Go _ _ 179 [.ref 64, .int v1, .int (v2 + 1), .int ((r3 * r5) / 200), .int r26] _ _ _)
            refine Go.goto 63 dX6_listen_179 rfl ?_
            refine Go.drop (ls' := [.ref 64, .int v1, .int (v2 + 1), .null, .int r26]) 3 rfl ?_
            refine Go.drop (ls' := [.ref 64, .int v1, .int (v2 + 1), .null, .null]) 4 rfl ?_
            exact h
set_option maxHeartbeats 4000000 in
set_option maxRecDepth 100000 in
theorem sgX6_listen_190 {d : Nat} {σ : St} {v1 : Int32} {K : St → Prop} (h : (2200 ≤ v1 → Go mX6_listen (d + 1) 219 [.ref 64, .int 0, .null, .null, .null] [] σ (QU K)) ∧ (¬ 2200 ≤ v1 → vp_in v1 2200 ∧ ∀ s2, s2 = setA σ 70 (ix v1) 0 → vp_in v1 2200 ∧ ∀ s3, s3 = setA s2 71 (ix v1) 0 → Go mX6_listen (d + 1) 190 [.ref 64, .int (v1 + 1), .null, .null, .null] [] s3 (QU K))) : Go mX6_listen (d + 1) 190 [.ref 64, .int v1, .null, .null, .null] [] σ (QU K) := by
  refine Go.iload_n 1 dX6_listen_190 rfl rfl (?_ : Go _ _ 191 _ _ _ _)
  refine Go.sipush dX6_listen_191 k_si_2200 (?_ : Go _ _ 194 _ _ _ _)
  refine Go.icmp_ge 217 dX6_listen_194 rfl ⟨fun c1 => ?_, fun c1 => (?_ : Go _ _ 197 _ _ _ _)⟩
  · have h := h.1 c1
    refine Go.iconst dX6_listen_217 k_ic_0 (?_ : Go _ _ 218 _ _ _ _)
    refine Go.istore_n 1 dX6_listen_218 rfl (by decide) rfl rfl (?_ : Go _ _ 219 [.ref 64, .int 0, .null, .null, .null] _ _ _)
    exact h
  · have h := h.2 c1
    refine Go.aload_n 0 dX6_listen_197 rfl rfl (?_ : Go _ _ 198 _ _ _ _)
    refine Go.getR fk_X6_26 shq_64 frq_64_9 dX6_listen_198 (?_ : Go _ _ 201 _ _ _ _)
    refine Go.iload_n 1 dX6_listen_201 rfl rfl (?_ : Go _ _ 202 _ _ _ _)
    refine Go.iconst dX6_listen_202 k_ic_0 (?_ : Go _ _ 203 _ _ _ _)
    refine Go.iast shq_70 dX6_listen_203 ⟨h.1, (?_ : Go _ _ 204 _ _ _ _)⟩
    generalize es2 : setA σ 70 (ix v1) 0 = s2
    have h := h.2 s2 es2.symm
    refine Go.aload_n 0 dX6_listen_204 rfl rfl (?_ : Go _ _ 205 _ _ _ _)
    refine Go.getR fk_X6_29 shq_64 frq_64_10 dX6_listen_205 (?_ : Go _ _ 208 _ _ _ _)
    refine Go.iload_n 1 dX6_listen_208 rfl rfl (?_ : Go _ _ 209 _ _ _ _)
    refine Go.iconst dX6_listen_209 k_ic_0 (?_ : Go _ _ 210 _ _ _ _)
    refine Go.iast shq_71 dX6_listen_210 ⟨h.1, (?_ : Go _ _ 211 _ _ _ _)⟩
    generalize es3 : setA s2 71 (ix v1) 0 = s3
    have h := h.2 s3 es3.symm
    refine Go.iinc dX6_listen_211 rfl (congrArg (fun z => v1 + z) k_ic_1) (by decide) rfl rfl (?_ : Go _ _ 214 [.ref 64, .int (v1 + 1), .null, .null, .null] _ _ _)
    refine Go.goto 190 dX6_listen_214 rfl ?_
    exact h
set_option maxHeartbeats 4000000 in
set_option maxRecDepth 100000 in
theorem sgX6_listen_219 {d : Nat} {σ : St} {v1 : Int32} {K : St → Prop} (h : ((sA σ 65 1) ≤ v1 → K σ) ∧ (¬ (sA σ 65 1) ≤ v1 → Go mX6_listen (d + 1) 231 [.ref 64, .int v1, .int 0, .null, .null] [] σ (QU K))) : Go mX6_listen (d + 1) 219 [.ref 64, .int v1, .null, .null, .null] [] σ (QU K) := by
  refine Go.iload_n 1 dX6_listen_219 rfl rfl (?_ : Go _ _ 220 _ _ _ _)
  refine Go.aload_n 0 dX6_listen_220 rfl rfl (?_ : Go _ _ 221 _ _ _ _)
  refine Go.getR fk_X6_7 shq_64 frq_64_0 dX6_listen_221 (?_ : Go _ _ 224 _ _ _ _)
  refine Go.iconst dX6_listen_224 k_ic_1 (?_ : Go _ _ 225 _ _ _ _)
  refine Go.ialdK ixk_1 vik_1_32 shq_65 dX6_listen_225 (?_ : Go _ _ 226 _ _ _ _)
  refine Go.icmp_ge 321 dX6_listen_226 rfl ⟨fun c1 => ?_, fun c1 => (?_ : Go _ _ 229 _ _ _ _)⟩
  · have h := h.1 c1
    exact Go.vret rfl dX6_listen_321 ⟨rfl, h⟩
  · have h := h.2 c1
    refine Go.iconst dX6_listen_229 k_ic_0 (?_ : Go _ _ 230 _ _ _ _)
    refine Go.istore_n 2 dX6_listen_230 rfl (by decide) rfl rfl (?_ : Go _ _ 231 [.ref 64, .int v1, .int 0, .null, .null] _ _ _)
    exact h
set_option maxHeartbeats 4000000 in
set_option maxRecDepth 100000 in
theorem sgX6_listen_231 {d : Nat} {σ : St} {v1 : Int32} {v2 : Int32} {K : St → Prop} (h : ((sF σ 64 8) ≤ v2 → Go mX6_listen (d + 1) 219 [.ref 64, .int (v1 + 1), .null, .null, .null] [] σ (QU K)) ∧ (¬ (sF σ 64 8) ≤ v2 → CallI d mX6_isFaint [.ref 64, .int v2] σ (fun r3 s2 => (¬ r3 = 0 → Go mX6_listen (d + 1) 231 [.ref 64, .int v1, .int (v2 + 1), .null, .null] [] s2 (QU K)) ∧ (r3 = 0 → CallI d mX6_isLost [.ref 64, .int v2, .int v1] s2 (fun r6 s5 => (¬ r6 = 0 → Go mX6_listen (d + 1) 231 [.ref 64, .int v1, .int (v2 + 1), .null, .null] [] s5 (QU K)) ∧ (r6 = 0 → CallI d mX6_body [.ref 64, .int v2, .int 0] s5 (fun r9 s8 => CallI d mX6_body [.ref 64, .int v2, .int 2] s8 (fun r11 s10 => CallI d mX6_placeIn [.ref 64, .int r9, .int r11, .int v1] s10 (fun r13 s12 => CallI d mX6_body [.ref 64, .int v2, .int 2] s12 (fun r15 s14 => CallI d mX6_mark [.int v1, .int r13, .int r15] s14 (fun r17 s16 => vp_in r17 2200 ∧ CallI d mX6_body [.ref 64, .int v2, .int 1] s16 (fun r19 s18 => vp_in r17 2200 ∧ ∀ s20, s20 = setA s18 70 (ix r17) ((sA s16 70 (ix r17)) + r19) → vp_in r17 2200 ∧ vp_in r17 2200 ∧ ∀ s21, s21 = setA s20 71 (ix r17) ((sA s20 71 (ix r17)) + 1) → Go mX6_listen (d + 1) 231 [.ref 64, .int v1, .int (v2 + 1), .null, .null] [] s21 (QU K))))))))))))) : Go mX6_listen (d + 1) 231 [.ref 64, .int v1, .int v2, .null, .null] [] σ (QU K) := by
  refine Go.iload_n 2 dX6_listen_231 rfl rfl (?_ : Go _ _ 232 _ _ _ _)
  refine Go.aload_n 0 dX6_listen_232 rfl rfl (?_ : Go _ _ 233 _ _ _ _)
  refine Go.getI fk_X6_82 shq_64 frq_64_8 dX6_listen_233 (?_ : Go _ _ 236 _ _ _ _)
  refine Go.icmp_ge 315 dX6_listen_236 rfl ⟨fun c1 => ?_, fun c1 => (?_ : Go _ _ 239 _ _ _ _)⟩
  · have h := h.1 c1
    refine Go.iinc dX6_listen_315 rfl (congrArg (fun z => v1 + z) k_ic_1) (by decide) rfl rfl (?_ : Go _ _ 318 [.ref 64, .int (v1 + 1), .int v2, .null, .null] _ _ _)
    refine Go.goto 219 dX6_listen_318 rfl ?_
    refine Go.drop (ls' := [.ref 64, .int (v1 + 1), .null, .null, .null]) 2 rfl ?_
    exact h
  · have h := h.2 c1
    refine Go.aload_n 0 dX6_listen_239 rfl rfl (?_ : Go _ _ 240 _ _ _ _)
    refine Go.iload_n 2 dX6_listen_240 rfl rfl (?_ : Go _ _ 241 _ _ _ _)
    refine Go.callV (as := [.int v2]) (st := []) mk_X6_isFaint wl_X6_88 shq_64 rfl rfl (Nat.le_of_ble_eq_true rfl) dX6_listen_241 h ?_
    rintro _ s2 ⟨r3, rfl, h⟩
    show Go _ _ 244 _ [.int r3] _ _
    refine Go.if_ne 309 dX6_listen_244 rfl ⟨fun c4 => ?_, fun c4 => (?_ : Go _ _ 247 _ _ _ _)⟩
    · have h := h.1 c4
      refine Go.iinc dX6_listen_309 rfl (congrArg (fun z => v2 + z) k_ic_1) (by decide) rfl rfl (?_ : Go _ _ 312 [.ref 64, .int v1, .int (v2 + 1), .null, .null] _ _ _)
      refine Go.goto 231 dX6_listen_312 rfl ?_
      exact h
    · have h := h.2 c4
      refine Go.aload_n 0 dX6_listen_247 rfl rfl (?_ : Go _ _ 248 _ _ _ _)
      refine Go.iload_n 2 dX6_listen_248 rfl rfl (?_ : Go _ _ 249 _ _ _ _)
      refine Go.iload_n 1 dX6_listen_249 rfl rfl (?_ : Go _ _ 250 _ _ _ _)
      refine Go.callV (as := [.int v2, .int v1]) (st := []) mk_X6_isLost wl_X6_99 shq_64 rfl rfl (Nat.le_of_ble_eq_true rfl) dX6_listen_250 h ?_
      rintro _ s5 ⟨r6, rfl, h⟩
      show Go _ _ 253 _ [.int r6] _ _
      refine Go.if_ne 309 dX6_listen_253 rfl ⟨fun c7 => ?_, fun c7 => (?_ : Go _ _ 256 _ _ _ _)⟩
      · have h := h.1 c7
        refine Go.iinc dX6_listen_309 rfl (congrArg (fun z => v2 + z) k_ic_1) (by decide) rfl rfl (?_ : Go _ _ 312 [.ref 64, .int v1, .int (v2 + 1), .null, .null] _ _ _)
        refine Go.goto 231 dX6_listen_312 rfl ?_
        exact h
      · have h := h.2 c7
        refine Go.iload_n 1 dX6_listen_256 rfl rfl (?_ : Go _ _ 257 _ _ _ _)
        refine Go.aload_n 0 dX6_listen_257 rfl rfl (?_ : Go _ _ 258 _ _ _ _)
        refine Go.aload_n 0 dX6_listen_258 rfl rfl (?_ : Go _ _ 259 _ _ _ _)
        refine Go.iload_n 2 dX6_listen_259 rfl rfl (?_ : Go _ _ 260 _ _ _ _)
        refine Go.iconst dX6_listen_260 k_ic_0 (?_ : Go _ _ 261 _ _ _ _)
        refine Go.callV (as := [.int v2, .int 0]) (st := [.ref 64, .int v1]) mk_X6_body wl_X6_85 shq_64 rfl rfl (Nat.le_of_ble_eq_true rfl) dX6_listen_261 h ?_
        rintro _ s8 ⟨r9, rfl, h⟩
        show Go _ _ 264 _ [.int r9, .ref 64, .int v1] _ _
        refine Go.aload_n 0 dX6_listen_264 rfl rfl (?_ : Go _ _ 265 _ _ _ _)
        refine Go.iload_n 2 dX6_listen_265 rfl rfl (?_ : Go _ _ 266 _ _ _ _)
        refine Go.iconst dX6_listen_266 k_ic_2 (?_ : Go _ _ 267 _ _ _ _)
        refine Go.callV (as := [.int v2, .int 2]) (st := [.int r9, .ref 64, .int v1]) mk_X6_body wl_X6_85 shq_64 rfl rfl (Nat.le_of_ble_eq_true rfl) dX6_listen_267 h ?_
        rintro _ s10 ⟨r11, rfl, h⟩
        show Go _ _ 270 _ [.int r11, .int r9, .ref 64, .int v1] _ _
        refine Go.iload_n 1 dX6_listen_270 rfl rfl (?_ : Go _ _ 271 _ _ _ _)
        refine Go.callV (as := [.int r9, .int r11, .int v1]) (st := [.int v1]) mk_X6_placeIn wl_X6_91 shq_64 rfl rfl (Nat.le_of_ble_eq_true rfl) dX6_listen_271 h ?_
        rintro _ s12 ⟨r13, rfl, h⟩
        show Go _ _ 274 _ [.int r13, .int v1] _ _
        refine Go.aload_n 0 dX6_listen_274 rfl rfl (?_ : Go _ _ 275 _ _ _ _)
        refine Go.iload_n 2 dX6_listen_275 rfl rfl (?_ : Go _ _ 276 _ _ _ _)
        refine Go.iconst dX6_listen_276 k_ic_2 (?_ : Go _ _ 277 _ _ _ _)
        refine Go.callV (as := [.int v2, .int 2]) (st := [.int r13, .int v1]) mk_X6_body wl_X6_85 shq_64 rfl rfl (Nat.le_of_ble_eq_true rfl) dX6_listen_277 h ?_
        rintro _ s14 ⟨r15, rfl, h⟩
        show Go _ _ 280 _ [.int r15, .int r13, .int v1] _ _
        refine Go.callS (as := [.int v1, .int r13, .int r15]) (st := []) mk_X6_mark wl_X6_102 rfl rfl (Nat.le_of_ble_eq_true rfl) dX6_listen_280 h ?_
        rintro _ s16 ⟨r17, rfl, h⟩
        show Go _ _ 283 _ [.int r17] _ _
        refine Go.istore_n 3 dX6_listen_283 rfl (by decide) rfl rfl (?_ : Go _ _ 284 [.ref 64, .int v1, .int v2, .int r17, .null] _ _ _)
        refine Go.aload_n 0 dX6_listen_284 rfl rfl (?_ : Go _ _ 285 _ _ _ _)
        refine Go.getR fk_X6_26 shq_64 frq_64_9 dX6_listen_285 (?_ : Go _ _ 288 _ _ _ _)
        refine Go.iload_n 3 dX6_listen_288 rfl rfl (?_ : Go _ _ 289 _ _ _ _)
        refine Go.dup2 dX6_listen_289 rfl rfl (?_ : Go _ _ 290 _ _ _ _)
        refine Go.iald shq_70 dX6_listen_290 ⟨h.1, (?_ : Go _ _ 291 _ _ _ _)⟩
        have h := h.2
        refine Go.aload_n 0 dX6_listen_291 rfl rfl (?_ : Go _ _ 292 _ _ _ _)
        refine Go.iload_n 2 dX6_listen_292 rfl rfl (?_ : Go _ _ 293 _ _ _ _)
        refine Go.iconst dX6_listen_293 k_ic_1 (?_ : Go _ _ 294 _ _ _ _)
        refine Go.callV (as := [.int v2, .int 1]) (st := [.int (sA s16 70 (ix r17)), .int r17, .ref 70]) mk_X6_body wl_X6_85 shq_64 rfl rfl (Nat.le_of_ble_eq_true rfl) dX6_listen_294 h ?_
        rintro _ s18 ⟨r19, rfl, h⟩
        show Go _ _ 297 _ [.int r19, .int (sA s16 70 (ix r17)), .int r17, .ref 70] _ _
        refine Go.iadd dX6_listen_297 (?_ : Go _ _ 298 _ _ _ _)
        refine Go.iast shq_70 dX6_listen_298 ⟨h.1, (?_ : Go _ _ 299 _ _ _ _)⟩
        generalize es20 : setA s18 70 (ix r17) ((sA s16 70 (ix r17)) + r19) = s20
        have h := h.2 s20 es20.symm
        refine Go.aload_n 0 dX6_listen_299 rfl rfl (?_ : Go _ _ 300 _ _ _ _)
        refine Go.getR fk_X6_29 shq_64 frq_64_10 dX6_listen_300 (?_ : Go _ _ 303 _ _ _ _)
        refine Go.iload_n 3 dX6_listen_303 rfl rfl (?_ : Go _ _ 304 _ _ _ _)
        refine Go.dup2 dX6_listen_304 rfl rfl (?_ : Go _ _ 305 _ _ _ _)
        refine Go.iald shq_71 dX6_listen_305 ⟨h.1, (?_ : Go _ _ 306 _ _ _ _)⟩
        have h := h.2
        refine Go.iconst dX6_listen_306 k_ic_1 (?_ : Go _ _ 307 _ _ _ _)
        refine Go.iadd dX6_listen_307 (?_ : Go _ _ 308 _ _ _ _)
        refine Go.iast shq_71 dX6_listen_308 ⟨h.1, (?_ : Go _ _ 309 _ _ _ _)⟩
        generalize es21 : setA s20 71 (ix r17) ((sA s20 71 (ix r17)) + 1) = s21
        have h := h.2 s21 es21.symm
        refine Go.iinc dX6_listen_309 rfl (congrArg (fun z => v2 + z) k_ic_1) (by decide) rfl rfl (?_ : Go _ _ 312 [.ref 64, .int v1, .int (v2 + 1), .int r17, .null] _ _ _)
        refine Go.goto 231 dX6_listen_312 rfl ?_
        refine Go.drop (ls' := [.ref 64, .int v1, .int (v2 + 1), .null, .null]) 3 rfl ?_
        exact h
set_option maxHeartbeats 4000000 in
set_option maxRecDepth 100000 in
theorem sgX6_fit_0 {d : Nat} {σ : St} {x1 : Int32} {x2 : Int32} {x3 : Int32} {K : Int32 → St → Prop} (h : CallI d mX6_placeIn [.ref 64, .int x1, .int x2, .int x3] σ (fun r2 s1 => ((sA s1 65 6) ≤ r2 → CallI d mX6_mark [.int x3, .int r2, .int x2] s1 (fun r5 s4 => vp_in r5 2200 ∧ ((sA s4 70 (ix r5)) ≤ 0 → K 0 s4) ∧ (¬ (sA s4 70 (ix r5)) ≤ 0 → K 1 s4))) ∧ (¬ (sA s1 65 6) ≤ r2 → K 2 s1))) : Go mX6_fit (d + 1) 0 [.ref 64, .int x1, .int x2, .int x3, .null] [] σ (QI K) := by
  refine Go.aload_n 0 dX6_fit_0 rfl rfl (?_ : Go _ _ 1 _ _ _ _)
  refine Go.iload_n 1 dX6_fit_1 rfl rfl (?_ : Go _ _ 2 _ _ _ _)
  refine Go.iload_n 2 dX6_fit_2 rfl rfl (?_ : Go _ _ 3 _ _ _ _)
  refine Go.iload_n 3 dX6_fit_3 rfl rfl (?_ : Go _ _ 4 _ _ _ _)
  refine Go.callV (as := [.int x1, .int x2, .int x3]) (st := []) mk_X6_placeIn wl_X6_91 shq_64 rfl rfl (Nat.le_of_ble_eq_true rfl) dX6_fit_4 h ?_
  rintro _ s1 ⟨r2, rfl, h⟩
  show Go _ _ 7 _ [.int r2] _ _
  refine Go.istore dX6_fit_7 (by decide) rfl rfl (?_ : Go _ _ 9 [.ref 64, .int x1, .int x2, .int x3, .int r2] _ _ _)
  refine Go.iload dX6_fit_9 rfl (?_ : Go _ _ 11 _ _ _ _)
  refine Go.aload_n 0 dX6_fit_11 rfl rfl (?_ : Go _ _ 12 _ _ _ _)
  refine Go.getR fk_X6_7 shq_64 frq_64_0 dX6_fit_12 (?_ : Go _ _ 15 _ _ _ _)
  refine Go.bipush dX6_fit_15 k_bi_6 (?_ : Go _ _ 17 _ _ _ _)
  refine Go.ialdK ixk_6 vik_6_32 shq_65 dX6_fit_17 (?_ : Go _ _ 18 _ _ _ _)
  refine Go.icmp_ge 25 dX6_fit_18 rfl ⟨fun c3 => ?_, fun c3 => (?_ : Go _ _ 21 _ _ _ _)⟩
  · have h := h.1 c3
    refine Go.aload_n 0 dX6_fit_25 rfl rfl (?_ : Go _ _ 26 _ _ _ _)
    refine Go.getR fk_X6_26 shq_64 frq_64_9 dX6_fit_26 (?_ : Go _ _ 29 _ _ _ _)
    refine Go.iload_n 3 dX6_fit_29 rfl rfl (?_ : Go _ _ 30 _ _ _ _)
    refine Go.iload dX6_fit_30 rfl (?_ : Go _ _ 32 _ _ _ _)
    refine Go.iload_n 2 dX6_fit_32 rfl rfl (?_ : Go _ _ 33 _ _ _ _)
    refine Go.callS (as := [.int x3, .int r2, .int x2]) (st := [.ref 70]) mk_X6_mark wl_X6_102 rfl rfl (Nat.le_of_ble_eq_true rfl) dX6_fit_33 h ?_
    rintro _ s4 ⟨r5, rfl, h⟩
    show Go _ _ 36 _ [.int r5, .ref 70] _ _
    refine Go.iald shq_70 dX6_fit_36 ⟨h.1, (?_ : Go _ _ 37 _ _ _ _)⟩
    have h := h.2
    refine Go.if_le 44 dX6_fit_37 rfl ⟨fun c6 => ?_, fun c6 => (?_ : Go _ _ 40 _ _ _ _)⟩
    · have h := h.1 c6
      refine Go.iconst dX6_fit_44 k_ic_0 (?_ : Go _ _ 45 _ _ _ _)
      exact Go.iret rfl dX6_fit_45 ⟨_, rfl, h⟩
    · have h := h.2 c6
      refine Go.iconst dX6_fit_40 k_ic_1 (?_ : Go _ _ 41 _ _ _ _)
      refine Go.goto 45 dX6_fit_41 rfl ?_
      exact Go.iret rfl dX6_fit_45 ⟨_, rfl, h⟩
  · have h := h.2 c3
    refine Go.iconst dX6_fit_21 k_ic_2 (?_ : Go _ _ 22 _ _ _ _)
    refine Go.goto 45 dX6_fit_22 rfl ?_
    exact Go.iret rfl dX6_fit_45 ⟨_, rfl, h⟩
theorem cgX6_fit {d : Nat} {σ : St} {x1 : Int32} {x2 : Int32} {x3 : Int32} {K : Int32 → St → Prop} (h : CallI d mX6_placeIn [.ref 64, .int x1, .int x2, .int x3] σ (fun r2 s1 => ((sA s1 65 6) ≤ r2 → CallI d mX6_mark [.int x3, .int r2, .int x2] s1 (fun r5 s4 => vp_in r5 2200 ∧ ((sA s4 70 (ix r5)) ≤ 0 → K 0 s4) ∧ (¬ (sA s4 70 (ix r5)) ≤ 0 → K 1 s4))) ∧ (¬ (sA s1 65 6) ≤ r2 → K 2 s1))) : CallI (d + 1) mX6_fit [.ref 64, .int x1, .int x2, .int x3] σ K := Call_of_Go (by decide +kernel) (ls := [.ref 64, .int x1, .int x2, .int x3, .null]) rfl (Nat.le_of_ble_eq_true rfl) (sgX6_fit_0 h)
set_option maxHeartbeats 4000000 in
set_option maxRecDepth 100000 in
theorem sgX6_fitting_0 {d : Nat} {σ : St} {x1 : Int32} {x2 : Int32} {K : Int32 → St → Prop} (h : Go mX6_fitting (d + 1) 5 [.ref 64, .int x1, .int x2, .int 0, .int 0, .null] [] σ (QI K)) : Go mX6_fitting (d + 1) 0 [.ref 64, .int x1, .int x2, .null, .null, .null] [] σ (QI K) := by
  refine Go.iconst dX6_fitting_0 k_ic_0 (?_ : Go _ _ 1 _ _ _ _)
  refine Go.istore_n 3 dX6_fitting_1 rfl (by decide) rfl rfl (?_ : Go _ _ 2 [.ref 64, .int x1, .int x2, .int 0, .null, .null] _ _ _)
  refine Go.iconst dX6_fitting_2 k_ic_0 (?_ : Go _ _ 3 _ _ _ _)
  refine Go.istore dX6_fitting_3 (by decide) rfl rfl (?_ : Go _ _ 5 [.ref 64, .int x1, .int x2, .int 0, .int 0, .null] _ _ _)
  exact h
theorem cgX6_fitting {d : Nat} {σ : St} {x1 : Int32} {x2 : Int32} {K : Int32 → St → Prop} (h : Go mX6_fitting (d + 1) 5 [.ref 64, .int x1, .int x2, .int 0, .int 0, .null] [] σ (QI K)) : CallI (d + 1) mX6_fitting [.ref 64, .int x1, .int x2] σ K := Call_of_Go (by decide +kernel) (ls := [.ref 64, .int x1, .int x2, .null, .null, .null]) rfl (Nat.le_of_ble_eq_true rfl) (sgX6_fitting_0 h)
set_option maxHeartbeats 4000000 in
set_option maxRecDepth 100000 in
theorem sgX6_fitting_5 {d : Nat} {σ : St} {v1 : Int32} {v2 : Int32} {v3 : Int32} {v4 : Int32} {K : Int32 → St → Prop} (h : ((sA σ 65 1) ≤ v4 → K v3 σ) ∧ (¬ (sA σ 65 1) ≤ v4 → CallI d mX6_fit [.ref 64, .int v1, .int v2, .int v4] σ (fun r3 s2 => (¬ r3 = 0 → (¬ r3 = 1 → Go mX6_fitting (d + 1) 5 [.ref 64, .int v1, .int v2, .int (v3 + 0), .int (v4 + 1), .null] [] s2 (QI K)) ∧ (r3 = 1 → Go mX6_fitting (d + 1) 5 [.ref 64, .int v1, .int v2, .int (v3 + 1), .int (v4 + 1), .null] [] s2 (QI K))) ∧ (r3 = 0 → K 0 s2)))) : Go mX6_fitting (d + 1) 5 [.ref 64, .int v1, .int v2, .int v3, .int v4, .null] [] σ (QI K) := by
  refine Go.iload dX6_fitting_5 rfl (?_ : Go _ _ 7 _ _ _ _)
  refine Go.aload_n 0 dX6_fitting_7 rfl rfl (?_ : Go _ _ 8 _ _ _ _)
  refine Go.getR fk_X6_7 shq_64 frq_64_0 dX6_fitting_8 (?_ : Go _ _ 11 _ _ _ _)
  refine Go.iconst dX6_fitting_11 k_ic_1 (?_ : Go _ _ 12 _ _ _ _)
  refine Go.ialdK ixk_1 vik_1_32 shq_65 dX6_fitting_12 (?_ : Go _ _ 13 _ _ _ _)
  refine Go.icmp_ge 53 dX6_fitting_13 rfl ⟨fun c1 => ?_, fun c1 => (?_ : Go _ _ 16 _ _ _ _)⟩
  · have h := h.1 c1
    refine Go.iload_n 3 dX6_fitting_53 rfl rfl (?_ : Go _ _ 54 _ _ _ _)
    exact Go.iret rfl dX6_fitting_54 ⟨_, rfl, h⟩
  · have h := h.2 c1
    refine Go.aload_n 0 dX6_fitting_16 rfl rfl (?_ : Go _ _ 17 _ _ _ _)
    refine Go.iload_n 1 dX6_fitting_17 rfl rfl (?_ : Go _ _ 18 _ _ _ _)
    refine Go.iload_n 2 dX6_fitting_18 rfl rfl (?_ : Go _ _ 19 _ _ _ _)
    refine Go.iload dX6_fitting_19 rfl (?_ : Go _ _ 21 _ _ _ _)
    refine Go.callV (as := [.int v1, .int v2, .int v4]) (st := []) mk_X6_fit wl_X6_105 shq_64 rfl rfl (Nat.le_of_ble_eq_true rfl) dX6_fitting_21 h ?_
    rintro _ s2 ⟨r3, rfl, h⟩
    show Go _ _ 24 _ [.int r3] _ _
    refine Go.istore dX6_fitting_24 (by decide) rfl rfl (?_ : Go _ _ 26 [.ref 64, .int v1, .int v2, .int v3, .int v4, .int r3] _ _ _)
    refine Go.iload dX6_fitting_26 rfl (?_ : Go _ _ 28 _ _ _ _)
    refine Go.if_ne 33 dX6_fitting_28 rfl ⟨fun c4 => ?_, fun c4 => (?_ : Go _ _ 31 _ _ _ _)⟩
    · have h := h.1 c4
      refine Go.iload_n 3 dX6_fitting_33 rfl rfl (?_ : Go _ _ 34 _ _ _ _)
      refine Go.iload dX6_fitting_34 rfl (?_ : Go _ _ 36 _ _ _ _)
      refine Go.iconst dX6_fitting_36 k_ic_1 (?_ : Go _ _ 37 _ _ _ _)
      refine Go.icmp_ne 44 dX6_fitting_37 rfl ⟨fun c5 => ?_, fun c5 => (?_ : Go _ _ 40 _ _ _ _)⟩
      · have h := h.1 c5
        refine Go.iconst dX6_fitting_44 k_ic_0 (?_ : Go _ _ 45 _ _ _ _)
        refine Go.iadd dX6_fitting_45 (?_ : Go _ _ 46 _ _ _ _)
        refine Go.istore_n 3 dX6_fitting_46 rfl (by decide) rfl rfl (?_ : Go _ _ 47 [.ref 64, .int v1, .int v2, .int (v3 + 0), .int v4, .int r3] _ _ _)
        refine Go.iinc dX6_fitting_47 rfl (congrArg (fun z => v4 + z) k_ic_1) (by decide) rfl rfl (?_ : Go _ _ 50 [.ref 64, .int v1, .int v2, .int (v3 + 0), .int (v4 + 1), .int r3] _ _ _)
        refine Go.goto 5 dX6_fitting_50 rfl ?_
        refine Go.drop (ls' := [.ref 64, .int v1, .int v2, .int (v3 + 0), .int (v4 + 1), .null]) 5 rfl ?_
        exact h
      · have h := h.2 c5
        refine Go.iconst dX6_fitting_40 k_ic_1 (?_ : Go _ _ 41 _ _ _ _)
        refine Go.goto 45 dX6_fitting_41 rfl ?_
        refine Go.iadd dX6_fitting_45 (?_ : Go _ _ 46 _ _ _ _)
        refine Go.istore_n 3 dX6_fitting_46 rfl (by decide) rfl rfl (?_ : Go _ _ 47 [.ref 64, .int v1, .int v2, .int (v3 + 1), .int v4, .int r3] _ _ _)
        refine Go.iinc dX6_fitting_47 rfl (congrArg (fun z => v4 + z) k_ic_1) (by decide) rfl rfl (?_ : Go _ _ 50 [.ref 64, .int v1, .int v2, .int (v3 + 1), .int (v4 + 1), .int r3] _ _ _)
        refine Go.goto 5 dX6_fitting_50 rfl ?_
        refine Go.drop (ls' := [.ref 64, .int v1, .int v2, .int (v3 + 1), .int (v4 + 1), .null]) 5 rfl ?_
        exact h
    · have h := h.2 c4
      refine Go.iconst dX6_fitting_31 k_ic_0 (?_ : Go _ _ 32 _ _ _ _)
      exact Go.iret rfl dX6_fitting_32 ⟨_, rfl, h⟩
set_option maxHeartbeats 4000000 in
set_option maxRecDepth 100000 in
theorem sgX6_isTrue_0 {d : Nat} {σ : St} {x1 : Int32} {x2 : Int32} {K : Int32 → St → Prop} (h : Go mX6_isTrue (d + 1) 5 [.ref 64, .int x1, .int x2, .int 0, .int 0] [] σ (QI K)) : Go mX6_isTrue (d + 1) 0 [.ref 64, .int x1, .int x2, .null, .null] [] σ (QI K) := by
  refine Go.iconst dX6_isTrue_0 k_ic_0 (?_ : Go _ _ 1 _ _ _ _)
  refine Go.istore_n 3 dX6_isTrue_1 rfl (by decide) rfl rfl (?_ : Go _ _ 2 [.ref 64, .int x1, .int x2, .int 0, .null] _ _ _)
  refine Go.iconst dX6_isTrue_2 k_ic_0 (?_ : Go _ _ 3 _ _ _ _)
  refine Go.istore dX6_isTrue_3 (by decide) rfl rfl (?_ : Go _ _ 5 [.ref 64, .int x1, .int x2, .int 0, .int 0] _ _ _)
  exact h
theorem cgX6_isTrue {d : Nat} {σ : St} {x1 : Int32} {x2 : Int32} {K : Int32 → St → Prop} (h : Go mX6_isTrue (d + 1) 5 [.ref 64, .int x1, .int x2, .int 0, .int 0] [] σ (QI K)) : CallI (d + 1) mX6_isTrue [.ref 64, .int x1, .int x2] σ K := Call_of_Go (by decide +kernel) (ls := [.ref 64, .int x1, .int x2, .null, .null]) rfl (Nat.le_of_ble_eq_true rfl) (sgX6_isTrue_0 h)
set_option maxHeartbeats 4000000 in
set_option maxRecDepth 100000 in
theorem sgX6_isTrue_5 {d : Nat} {σ : St} {v1 : Int32} {v2 : Int32} {v3 : Int32} {v4 : Int32} {K : Int32 → St → Prop} (h : ((sF σ 64 8) ≤ v4 → (narrow .boolean (.int v3) = .int v3) ∧ K v3 σ) ∧ (¬ (sF σ 64 8) ≤ v4 → (¬ v3 = 0 → Go mX6_isTrue (d + 1) 5 [.ref 64, .int v1, .int v2, .int 1, .int (v4 + 1)] [] σ (QI K)) ∧ (v3 = 0 → CallI d mX6_body [.ref 64, .int v4, .int 0] σ (fun r4 s3 => (¬ r4 = v1 → Go mX6_isTrue (d + 1) 5 [.ref 64, .int v1, .int v2, .int 0, .int (v4 + 1)] [] s3 (QI K)) ∧ (r4 = v1 → CallI d mX6_body [.ref 64, .int v4, .int 2] s3 (fun r7 s6 => (¬ r7 = v2 → Go mX6_isTrue (d + 1) 5 [.ref 64, .int v1, .int v2, .int 0, .int (v4 + 1)] [] s6 (QI K)) ∧ (r7 = v2 → Go mX6_isTrue (d + 1) 5 [.ref 64, .int v1, .int v2, .int 1, .int (v4 + 1)] [] s6 (QI K)))))))) : Go mX6_isTrue (d + 1) 5 [.ref 64, .int v1, .int v2, .int v3, .int v4] [] σ (QI K) := by
  refine Go.iload dX6_isTrue_5 rfl (?_ : Go _ _ 7 _ _ _ _)
  refine Go.aload_n 0 dX6_isTrue_7 rfl rfl (?_ : Go _ _ 8 _ _ _ _)
  refine Go.getI fk_X6_82 shq_64 frq_64_8 dX6_isTrue_8 (?_ : Go _ _ 11 _ _ _ _)
  refine Go.icmp_ge 52 dX6_isTrue_11 rfl ⟨fun c1 => ?_, fun c1 => (?_ : Go _ _ 14 _ _ _ _)⟩
  · have h := h.1 c1
    refine Go.iload_n 3 dX6_isTrue_52 rfl rfl (?_ : Go _ _ 53 _ _ _ _)
    exact Go.zret rfl h.1 dX6_isTrue_53 ⟨_, rfl, h.2⟩
  · have h := h.2 c1
    refine Go.iload_n 3 dX6_isTrue_14 rfl rfl (?_ : Go _ _ 15 _ _ _ _)
    refine Go.if_ne 40 dX6_isTrue_15 rfl ⟨fun c2 => ?_, fun c2 => (?_ : Go _ _ 18 _ _ _ _)⟩
    · have h := h.1 c2
      refine Go.iconst dX6_isTrue_40 k_ic_1 (?_ : Go _ _ 41 _ _ _ _)
      refine Go.goto 45 dX6_isTrue_41 rfl ?_
      refine Go.istore_n 3 dX6_isTrue_45 rfl (by decide) rfl rfl (?_ : Go _ _ 46 [.ref 64, .int v1, .int v2, .int 1, .int v4] _ _ _)
      refine Go.iinc dX6_isTrue_46 rfl (congrArg (fun z => v4 + z) k_ic_1) (by decide) rfl rfl (?_ : Go _ _ 49 [.ref 64, .int v1, .int v2, .int 1, .int (v4 + 1)] _ _ _)
      refine Go.goto 5 dX6_isTrue_49 rfl ?_
      exact h
    · have h := h.2 c2
      refine Go.aload_n 0 dX6_isTrue_18 rfl rfl (?_ : Go _ _ 19 _ _ _ _)
      refine Go.iload dX6_isTrue_19 rfl (?_ : Go _ _ 21 _ _ _ _)
      refine Go.iconst dX6_isTrue_21 k_ic_0 (?_ : Go _ _ 22 _ _ _ _)
      refine Go.callV (as := [.int v4, .int 0]) (st := []) mk_X6_body wl_X6_85 shq_64 rfl rfl (Nat.le_of_ble_eq_true rfl) dX6_isTrue_22 h ?_
      rintro _ s3 ⟨r4, rfl, h⟩
      show Go _ _ 25 _ [.int r4] _ _
      refine Go.iload_n 1 dX6_isTrue_25 rfl rfl (?_ : Go _ _ 26 _ _ _ _)
      refine Go.icmp_ne 44 dX6_isTrue_26 rfl ⟨fun c5 => ?_, fun c5 => (?_ : Go _ _ 29 _ _ _ _)⟩
      · have h := h.1 c5
        refine Go.iconst dX6_isTrue_44 k_ic_0 (?_ : Go _ _ 45 _ _ _ _)
        refine Go.istore_n 3 dX6_isTrue_45 rfl (by decide) rfl rfl (?_ : Go _ _ 46 [.ref 64, .int v1, .int v2, .int 0, .int v4] _ _ _)
        refine Go.iinc dX6_isTrue_46 rfl (congrArg (fun z => v4 + z) k_ic_1) (by decide) rfl rfl (?_ : Go _ _ 49 [.ref 64, .int v1, .int v2, .int 0, .int (v4 + 1)] _ _ _)
        refine Go.goto 5 dX6_isTrue_49 rfl ?_
        exact h
      · have h := h.2 c5
        refine Go.aload_n 0 dX6_isTrue_29 rfl rfl (?_ : Go _ _ 30 _ _ _ _)
        refine Go.iload dX6_isTrue_30 rfl (?_ : Go _ _ 32 _ _ _ _)
        refine Go.iconst dX6_isTrue_32 k_ic_2 (?_ : Go _ _ 33 _ _ _ _)
        refine Go.callV (as := [.int v4, .int 2]) (st := []) mk_X6_body wl_X6_85 shq_64 rfl rfl (Nat.le_of_ble_eq_true rfl) dX6_isTrue_33 h ?_
        rintro _ s6 ⟨r7, rfl, h⟩
        show Go _ _ 36 _ [.int r7] _ _
        refine Go.iload_n 2 dX6_isTrue_36 rfl rfl (?_ : Go _ _ 37 _ _ _ _)
        refine Go.icmp_ne 44 dX6_isTrue_37 rfl ⟨fun c8 => ?_, fun c8 => (?_ : Go _ _ 40 _ _ _ _)⟩
        · have h := h.1 c8
          refine Go.iconst dX6_isTrue_44 k_ic_0 (?_ : Go _ _ 45 _ _ _ _)
          refine Go.istore_n 3 dX6_isTrue_45 rfl (by decide) rfl rfl (?_ : Go _ _ 46 [.ref 64, .int v1, .int v2, .int 0, .int v4] _ _ _)
          refine Go.iinc dX6_isTrue_46 rfl (congrArg (fun z => v4 + z) k_ic_1) (by decide) rfl rfl (?_ : Go _ _ 49 [.ref 64, .int v1, .int v2, .int 0, .int (v4 + 1)] _ _ _)
          refine Go.goto 5 dX6_isTrue_49 rfl ?_
          exact h
        · have h := h.2 c8
          refine Go.iconst dX6_isTrue_40 k_ic_1 (?_ : Go _ _ 41 _ _ _ _)
          refine Go.goto 45 dX6_isTrue_41 rfl ?_
          refine Go.istore_n 3 dX6_isTrue_45 rfl (by decide) rfl rfl (?_ : Go _ _ 46 [.ref 64, .int v1, .int v2, .int 1, .int v4] _ _ _)
          refine Go.iinc dX6_isTrue_46 rfl (congrArg (fun z => v4 + z) k_ic_1) (by decide) rfl rfl (?_ : Go _ _ 49 [.ref 64, .int v1, .int v2, .int 1, .int (v4 + 1)] _ _ _)
          refine Go.goto 5 dX6_isTrue_49 rfl ?_
          exact h
set_option maxHeartbeats 4000000 in
set_option maxRecDepth 100000 in
theorem sgX6_toldMany_0 {d : Nat} {σ : St} {x1 : Int32} {K : Int32 → St → Prop} (h : Go mX6_toldMany (d + 1) 4 [.ref 64, .int x1, .int 0, .int 1, .null] [] σ (QI K)) : Go mX6_toldMany (d + 1) 0 [.ref 64, .int x1, .null, .null, .null] [] σ (QI K) := by
  refine Go.iconst dX6_toldMany_0 k_ic_0 (?_ : Go _ _ 1 _ _ _ _)
  refine Go.istore_n 2 dX6_toldMany_1 rfl (by decide) rfl rfl (?_ : Go _ _ 2 [.ref 64, .int x1, .int 0, .null, .null] _ _ _)
  refine Go.iconst dX6_toldMany_2 k_ic_1 (?_ : Go _ _ 3 _ _ _ _)
  refine Go.istore_n 3 dX6_toldMany_3 rfl (by decide) rfl rfl (?_ : Go _ _ 4 [.ref 64, .int x1, .int 0, .int 1, .null] _ _ _)
  exact h
theorem cgX6_toldMany {d : Nat} {σ : St} {x1 : Int32} {K : Int32 → St → Prop} (h : Go mX6_toldMany (d + 1) 4 [.ref 64, .int x1, .int 0, .int 1, .null] [] σ (QI K)) : CallI (d + 1) mX6_toldMany [.ref 64, .int x1] σ K := Call_of_Go (by decide +kernel) (ls := [.ref 64, .int x1, .null, .null, .null]) rfl (Nat.le_of_ble_eq_true rfl) (sgX6_toldMany_0 h)
set_option maxHeartbeats 4000000 in
set_option maxRecDepth 100000 in
theorem sgX6_toldMany_4 {d : Nat} {σ : St} {v1 : Int32} {v2 : Int32} {v3 : Int32} {K : Int32 → St → Prop} (h : (600 < v3 → K v2 σ) ∧ (¬ 600 < v3 → Go mX6_toldMany (d + 1) 15 [.ref 64, .int v1, .int v2, .int v3, .int (-5)] [] σ (QI K))) : Go mX6_toldMany (d + 1) 4 [.ref 64, .int v1, .int v2, .int v3, .null] [] σ (QI K) := by
  refine Go.iload_n 3 dX6_toldMany_4 rfl rfl (?_ : Go _ _ 5 _ _ _ _)
  refine Go.sipush dX6_toldMany_5 k_si_600 (?_ : Go _ _ 8 _ _ _ _)
  refine Go.icmp_gt 65 dX6_toldMany_8 rfl ⟨fun c1 => ?_, fun c1 => (?_ : Go _ _ 11 _ _ _ _)⟩
  · have h := h.1 c1
    refine Go.iload_n 2 dX6_toldMany_65 rfl rfl (?_ : Go _ _ 66 _ _ _ _)
    exact Go.iret rfl dX6_toldMany_66 ⟨_, rfl, h⟩
  · have h := h.2 c1
    refine Go.bipush dX6_toldMany_11 k_bi_m5 (?_ : Go _ _ 13 _ _ _ _)
    refine Go.istore dX6_toldMany_13 (by decide) rfl rfl (?_ : Go _ _ 15 [.ref 64, .int v1, .int v2, .int v3, .int (-5)] _ _ _)
    exact h
set_option maxHeartbeats 4000000 in
set_option maxRecDepth 100000 in
theorem sgX6_toldMany_15 {d : Nat} {σ : St} {v1 : Int32} {v2 : Int32} {v3 : Int32} {v4 : Int32} {K : Int32 → St → Prop} (h : (5 < v4 → Go mX6_toldMany (d + 1) 4 [.ref 64, .int v1, .int v2, .int (v3 + 1), .null] [] σ (QI K)) ∧ (¬ 5 < v4 → CallI d mX6_fitting [.ref 64, .int v3, .int v4] σ (fun r3 s2 => (r3 ≤ 0 → Go mX6_toldMany (d + 1) 15 [.ref 64, .int v1, .int (v2 + 0), .int v3, .int (v4 + 1)] [] s2 (QI K)) ∧ (¬ r3 ≤ 0 → (v1 = 0 → Go mX6_toldMany (d + 1) 15 [.ref 64, .int v1, .int (v2 + 1), .int v3, .int (v4 + 1)] [] s2 (QI K)) ∧ (¬ v1 = 0 → CallI d mX6_isTrue [.ref 64, .int v3, .int v4] s2 (fun r7 s6 => (¬ r7 = 0 → Go mX6_toldMany (d + 1) 15 [.ref 64, .int v1, .int (v2 + 0), .int v3, .int (v4 + 1)] [] s6 (QI K)) ∧ (r7 = 0 → Go mX6_toldMany (d + 1) 15 [.ref 64, .int v1, .int (v2 + 1), .int v3, .int (v4 + 1)] [] s6 (QI K)))))))) : Go mX6_toldMany (d + 1) 15 [.ref 64, .int v1, .int v2, .int v3, .int v4] [] σ (QI K) := by
  refine Go.iload dX6_toldMany_15 rfl (?_ : Go _ _ 17 _ _ _ _)
  refine Go.iconst dX6_toldMany_17 k_ic_5 (?_ : Go _ _ 18 _ _ _ _)
  refine Go.icmp_gt 59 dX6_toldMany_18 rfl ⟨fun c1 => ?_, fun c1 => (?_ : Go _ _ 21 _ _ _ _)⟩
  · have h := h.1 c1
    refine Go.iinc dX6_toldMany_59 rfl (congrArg (fun z => v3 + z) k_ic_1) (by decide) rfl rfl (?_ : Go _ _ 62 [.ref 64, .int v1, .int v2, .int (v3 + 1), .int v4] _ _ _)
    refine Go.goto 4 dX6_toldMany_62 rfl ?_
    refine Go.drop (ls' := [.ref 64, .int v1, .int v2, .int (v3 + 1), .null]) 4 rfl ?_
    exact h
  · have h := h.2 c1
    refine Go.iload_n 2 dX6_toldMany_21 rfl rfl (?_ : Go _ _ 22 _ _ _ _)
    refine Go.aload_n 0 dX6_toldMany_22 rfl rfl (?_ : Go _ _ 23 _ _ _ _)
    refine Go.iload_n 3 dX6_toldMany_23 rfl rfl (?_ : Go _ _ 24 _ _ _ _)
    refine Go.iload dX6_toldMany_24 rfl (?_ : Go _ _ 26 _ _ _ _)
    refine Go.callV (as := [.int v3, .int v4]) (st := [.int v2]) mk_X6_fitting wl_X6_108 shq_64 rfl rfl (Nat.le_of_ble_eq_true rfl) dX6_toldMany_26 h ?_
    rintro _ s2 ⟨r3, rfl, h⟩
    show Go _ _ 29 _ [.int r3, .int v2] _ _
    refine Go.if_le 50 dX6_toldMany_29 rfl ⟨fun c4 => ?_, fun c4 => (?_ : Go _ _ 32 _ _ _ _)⟩
    · have h := h.1 c4
      refine Go.iconst dX6_toldMany_50 k_ic_0 (?_ : Go _ _ 51 _ _ _ _)
      refine Go.iadd dX6_toldMany_51 (?_ : Go _ _ 52 _ _ _ _)
      refine Go.istore_n 2 dX6_toldMany_52 rfl (by decide) rfl rfl (?_ : Go _ _ 53 [.ref 64, .int v1, .int (v2 + 0), .int v3, .int v4] _ _ _)
      refine Go.iinc dX6_toldMany_53 rfl (congrArg (fun z => v4 + z) k_ic_1) (by decide) rfl rfl (?_ : Go _ _ 56 [.ref 64, .int v1, .int (v2 + 0), .int v3, .int (v4 + 1)] _ _ _)
      refine Go.goto 15 dX6_toldMany_56 rfl ?_
      exact h
    · have h := h.2 c4
      refine Go.iload_n 1 dX6_toldMany_32 rfl rfl (?_ : Go _ _ 33 _ _ _ _)
      refine Go.if_eq 46 dX6_toldMany_33 rfl ⟨fun c5 => ?_, fun c5 => (?_ : Go _ _ 36 _ _ _ _)⟩
      · have h := h.1 c5
        refine Go.iconst dX6_toldMany_46 k_ic_1 (?_ : Go _ _ 47 _ _ _ _)
        refine Go.goto 51 dX6_toldMany_47 rfl ?_
        refine Go.iadd dX6_toldMany_51 (?_ : Go _ _ 52 _ _ _ _)
        refine Go.istore_n 2 dX6_toldMany_52 rfl (by decide) rfl rfl (?_ : Go _ _ 53 [.ref 64, .int v1, .int (v2 + 1), .int v3, .int v4] _ _ _)
        refine Go.iinc dX6_toldMany_53 rfl (congrArg (fun z => v4 + z) k_ic_1) (by decide) rfl rfl (?_ : Go _ _ 56 [.ref 64, .int v1, .int (v2 + 1), .int v3, .int (v4 + 1)] _ _ _)
        refine Go.goto 15 dX6_toldMany_56 rfl ?_
        exact h
      · have h := h.2 c5
        refine Go.aload_n 0 dX6_toldMany_36 rfl rfl (?_ : Go _ _ 37 _ _ _ _)
        refine Go.iload_n 3 dX6_toldMany_37 rfl rfl (?_ : Go _ _ 38 _ _ _ _)
        refine Go.iload dX6_toldMany_38 rfl (?_ : Go _ _ 40 _ _ _ _)
        refine Go.callV (as := [.int v3, .int v4]) (st := [.int v2]) mk_X6_isTrue wl_X6_111 shq_64 rfl rfl (Nat.le_of_ble_eq_true rfl) dX6_toldMany_40 h ?_
        rintro _ s6 ⟨r7, rfl, h⟩
        show Go _ _ 43 _ [.int r7, .int v2] _ _
        refine Go.if_ne 50 dX6_toldMany_43 rfl ⟨fun c8 => ?_, fun c8 => (?_ : Go _ _ 46 _ _ _ _)⟩
        · have h := h.1 c8
          refine Go.iconst dX6_toldMany_50 k_ic_0 (?_ : Go _ _ 51 _ _ _ _)
          refine Go.iadd dX6_toldMany_51 (?_ : Go _ _ 52 _ _ _ _)
          refine Go.istore_n 2 dX6_toldMany_52 rfl (by decide) rfl rfl (?_ : Go _ _ 53 [.ref 64, .int v1, .int (v2 + 0), .int v3, .int v4] _ _ _)
          refine Go.iinc dX6_toldMany_53 rfl (congrArg (fun z => v4 + z) k_ic_1) (by decide) rfl rfl (?_ : Go _ _ 56 [.ref 64, .int v1, .int (v2 + 0), .int v3, .int (v4 + 1)] _ _ _)
          refine Go.goto 15 dX6_toldMany_56 rfl ?_
          exact h
        · have h := h.2 c8
          refine Go.iconst dX6_toldMany_46 k_ic_1 (?_ : Go _ _ 47 _ _ _ _)
          refine Go.goto 51 dX6_toldMany_47 rfl ?_
          refine Go.iadd dX6_toldMany_51 (?_ : Go _ _ 52 _ _ _ _)
          refine Go.istore_n 2 dX6_toldMany_52 rfl (by decide) rfl rfl (?_ : Go _ _ 53 [.ref 64, .int v1, .int (v2 + 1), .int v3, .int v4] _ _ _)
          refine Go.iinc dX6_toldMany_53 rfl (congrArg (fun z => v4 + z) k_ic_1) (by decide) rfl rfl (?_ : Go _ _ 56 [.ref 64, .int v1, .int (v2 + 1), .int v3, .int (v4 + 1)] _ _ _)
          refine Go.goto 15 dX6_toldMany_56 rfl ?_
          exact h
set_option maxHeartbeats 4000000 in
set_option maxRecDepth 100000 in
theorem sgX6_isTold_0 {d : Nat} {σ : St} {x1 : Int32} {K : Int32 → St → Prop} (h : CallI d mX6_body [.ref 64, .int x1, .int 0] σ (fun r2 s1 => CallI d mX6_body [.ref 64, .int x1, .int 2] s1 (fun r4 s3 => CallI d mX6_fitting [.ref 64, .int r2, .int r4] s3 (fun r6 s5 => (r6 ≤ 0 → K 0 s5) ∧ (¬ r6 ≤ 0 → K 1 s5))))) : Go mX6_isTold (d + 1) 0 [.ref 64, .int x1] [] σ (QI K) := by
  refine Go.aload_n 0 dX6_isTold_0 rfl rfl (?_ : Go _ _ 1 _ _ _ _)
  refine Go.aload_n 0 dX6_isTold_1 rfl rfl (?_ : Go _ _ 2 _ _ _ _)
  refine Go.iload_n 1 dX6_isTold_2 rfl rfl (?_ : Go _ _ 3 _ _ _ _)
  refine Go.iconst dX6_isTold_3 k_ic_0 (?_ : Go _ _ 4 _ _ _ _)
  refine Go.callV (as := [.int x1, .int 0]) (st := [.ref 64]) mk_X6_body wl_X6_85 shq_64 rfl rfl (Nat.le_of_ble_eq_true rfl) dX6_isTold_4 h ?_
  rintro _ s1 ⟨r2, rfl, h⟩
  show Go _ _ 7 _ [.int r2, .ref 64] _ _
  refine Go.aload_n 0 dX6_isTold_7 rfl rfl (?_ : Go _ _ 8 _ _ _ _)
  refine Go.iload_n 1 dX6_isTold_8 rfl rfl (?_ : Go _ _ 9 _ _ _ _)
  refine Go.iconst dX6_isTold_9 k_ic_2 (?_ : Go _ _ 10 _ _ _ _)
  refine Go.callV (as := [.int x1, .int 2]) (st := [.int r2, .ref 64]) mk_X6_body wl_X6_85 shq_64 rfl rfl (Nat.le_of_ble_eq_true rfl) dX6_isTold_10 h ?_
  rintro _ s3 ⟨r4, rfl, h⟩
  show Go _ _ 13 _ [.int r4, .int r2, .ref 64] _ _
  refine Go.callV (as := [.int r2, .int r4]) (st := []) mk_X6_fitting wl_X6_108 shq_64 rfl rfl (Nat.le_of_ble_eq_true rfl) dX6_isTold_13 h ?_
  rintro _ s5 ⟨r6, rfl, h⟩
  show Go _ _ 16 _ [.int r6] _ _
  refine Go.if_le 23 dX6_isTold_16 rfl ⟨fun c7 => ?_, fun c7 => (?_ : Go _ _ 19 _ _ _ _)⟩
  · have h := h.1 c7
    refine Go.iconst dX6_isTold_23 k_ic_0 (?_ : Go _ _ 24 _ _ _ _)
    exact Go.zret rfl rfl dX6_isTold_24 ⟨_, rfl, h⟩
  · have h := h.2 c7
    refine Go.iconst dX6_isTold_19 k_ic_1 (?_ : Go _ _ 20 _ _ _ _)
    refine Go.goto 24 dX6_isTold_20 rfl ?_
    exact Go.zret rfl rfl dX6_isTold_24 ⟨_, rfl, h⟩
theorem cgX6_isTold {d : Nat} {σ : St} {x1 : Int32} {K : Int32 → St → Prop} (h : CallI d mX6_body [.ref 64, .int x1, .int 0] σ (fun r2 s1 => CallI d mX6_body [.ref 64, .int x1, .int 2] s1 (fun r4 s3 => CallI d mX6_fitting [.ref 64, .int r2, .int r4] s3 (fun r6 s5 => (r6 ≤ 0 → K 0 s5) ∧ (¬ r6 ≤ 0 → K 1 s5))))) : CallI (d + 1) mX6_isTold [.ref 64, .int x1] σ K := Call_of_Go (by decide +kernel) (ls := [.ref 64, .int x1]) rfl (Nat.le_of_ble_eq_true rfl) (sgX6_isTold_0 h)
set_option maxHeartbeats 4000000 in
set_option maxRecDepth 100000 in
theorem sgX6_missed_0 {d : Nat} {σ : St} {K : Int32 → St → Prop} (h : Go mX6_missed (d + 1) 4 [.ref 64, .int 0, .int 0] [] σ (QI K)) : Go mX6_missed (d + 1) 0 [.ref 64, .null, .null] [] σ (QI K) := by
  refine Go.iconst dX6_missed_0 k_ic_0 (?_ : Go _ _ 1 _ _ _ _)
  refine Go.istore_n 1 dX6_missed_1 rfl (by decide) rfl rfl (?_ : Go _ _ 2 [.ref 64, .int 0, .null] _ _ _)
  refine Go.iconst dX6_missed_2 k_ic_0 (?_ : Go _ _ 3 _ _ _ _)
  refine Go.istore_n 2 dX6_missed_3 rfl (by decide) rfl rfl (?_ : Go _ _ 4 [.ref 64, .int 0, .int 0] _ _ _)
  exact h
theorem cgX6_missed {d : Nat} {σ : St} {K : Int32 → St → Prop} (h : Go mX6_missed (d + 1) 4 [.ref 64, .int 0, .int 0] [] σ (QI K)) : CallI (d + 1) mX6_missed [.ref 64] σ K := Call_of_Go (by decide +kernel) (ls := [.ref 64, .null, .null]) rfl (Nat.le_of_ble_eq_true rfl) (sgX6_missed_0 h)
set_option maxHeartbeats 4000000 in
set_option maxRecDepth 100000 in
theorem sgX6_missed_4 {d : Nat} {σ : St} {v1 : Int32} {v2 : Int32} {K : Int32 → St → Prop} (h : ((sF σ 64 8) ≤ v2 → K v1 σ) ∧ (¬ (sF σ 64 8) ≤ v2 → CallI d mX6_isTold [.ref 64, .int v2] σ (fun r3 s2 => (r3 = 0 → Go mX6_missed (d + 1) 4 [.ref 64, .int (v1 + 1), .int (v2 + 1)] [] s2 (QI K)) ∧ (¬ r3 = 0 → Go mX6_missed (d + 1) 4 [.ref 64, .int (v1 + 0), .int (v2 + 1)] [] s2 (QI K))))) : Go mX6_missed (d + 1) 4 [.ref 64, .int v1, .int v2] [] σ (QI K) := by
  refine Go.iload_n 2 dX6_missed_4 rfl rfl (?_ : Go _ _ 5 _ _ _ _)
  refine Go.aload_n 0 dX6_missed_5 rfl rfl (?_ : Go _ _ 6 _ _ _ _)
  refine Go.getI fk_X6_82 shq_64 frq_64_8 dX6_missed_6 (?_ : Go _ _ 9 _ _ _ _)
  refine Go.icmp_ge 34 dX6_missed_9 rfl ⟨fun c1 => ?_, fun c1 => (?_ : Go _ _ 12 _ _ _ _)⟩
  · have h := h.1 c1
    refine Go.iload_n 1 dX6_missed_34 rfl rfl (?_ : Go _ _ 35 _ _ _ _)
    exact Go.iret rfl dX6_missed_35 ⟨_, rfl, h⟩
  · have h := h.2 c1
    refine Go.iload_n 1 dX6_missed_12 rfl rfl (?_ : Go _ _ 13 _ _ _ _)
    refine Go.aload_n 0 dX6_missed_13 rfl rfl (?_ : Go _ _ 14 _ _ _ _)
    refine Go.iload_n 2 dX6_missed_14 rfl rfl (?_ : Go _ _ 15 _ _ _ _)
    refine Go.callV (as := [.int v2]) (st := [.int v1]) mk_X6_isTold wl_X6_114 shq_64 rfl rfl (Nat.le_of_ble_eq_true rfl) dX6_missed_15 h ?_
    rintro _ s2 ⟨r3, rfl, h⟩
    show Go _ _ 18 _ [.int r3, .int v1] _ _
    refine Go.if_eq 25 dX6_missed_18 rfl ⟨fun c4 => ?_, fun c4 => (?_ : Go _ _ 21 _ _ _ _)⟩
    · have h := h.1 c4
      refine Go.iconst dX6_missed_25 k_ic_1 (?_ : Go _ _ 26 _ _ _ _)
      refine Go.iadd dX6_missed_26 (?_ : Go _ _ 27 _ _ _ _)
      refine Go.istore_n 1 dX6_missed_27 rfl (by decide) rfl rfl (?_ : Go _ _ 28 [.ref 64, .int (v1 + 1), .int v2] _ _ _)
      refine Go.iinc dX6_missed_28 rfl (congrArg (fun z => v2 + z) k_ic_1) (by decide) rfl rfl (?_ : Go _ _ 31 [.ref 64, .int (v1 + 1), .int (v2 + 1)] _ _ _)
      refine Go.goto 4 dX6_missed_31 rfl ?_
      exact h
    · have h := h.2 c4
      refine Go.iconst dX6_missed_21 k_ic_0 (?_ : Go _ _ 22 _ _ _ _)
      refine Go.goto 26 dX6_missed_22 rfl ?_
      refine Go.iadd dX6_missed_26 (?_ : Go _ _ 27 _ _ _ _)
      refine Go.istore_n 1 dX6_missed_27 rfl (by decide) rfl rfl (?_ : Go _ _ 28 [.ref 64, .int (v1 + 0), .int v2] _ _ _)
      refine Go.iinc dX6_missed_28 rfl (congrArg (fun z => v2 + z) k_ic_1) (by decide) rfl rfl (?_ : Go _ _ 31 [.ref 64, .int (v1 + 0), .int (v2 + 1)] _ _ _)
      refine Go.goto 4 dX6_missed_31 rfl ?_
      exact h
set_option maxHeartbeats 4000000 in
set_option maxRecDepth 100000 in
theorem sgX6_targetOf_0 {d : Nat} {σ : St} {x1 : Int32} {x2 : Int32} {K : Int32 → St → Prop} (h : CallI d mX6_isTarget [.ref 64, .int x1] σ (fun r2 s1 => (r2 = 0 → K (-1) s1) ∧ (¬ r2 = 0 → CallI d mX6_in [.int x2, .int 0, .int 6] s1 (fun r5 s4 => (¬ r5 = 0 → CallU d mX6_listen [.ref 64] s4 (fun s7 => Go mX6_targetOf (d + 1) 29 [.ref 64, .int x1, .int x2, .int 0, .int 0] [] s7 (QI K))) ∧ (r5 = 0 → K (-1) s4))))) : Go mX6_targetOf (d + 1) 0 [.ref 64, .int x1, .int x2, .null, .null] [] σ (QI K) := by
  refine Go.aload_n 0 dX6_targetOf_0 rfl rfl (?_ : Go _ _ 1 _ _ _ _)
  refine Go.iload_n 1 dX6_targetOf_1 rfl rfl (?_ : Go _ _ 2 _ _ _ _)
  refine Go.callV (as := [.int x1]) (st := []) mk_X6_isTarget wl_X6_71 shq_64 rfl rfl (Nat.le_of_ble_eq_true rfl) dX6_targetOf_2 h ?_
  rintro _ s1 ⟨r2, rfl, h⟩
  show Go _ _ 5 _ [.int r2] _ _
  refine Go.if_eq 18 dX6_targetOf_5 rfl ⟨fun c3 => ?_, fun c3 => (?_ : Go _ _ 8 _ _ _ _)⟩
  · have h := h.1 c3
    refine Go.iconst dX6_targetOf_18 k_ic_m1 (?_ : Go _ _ 19 _ _ _ _)
    exact Go.iret rfl dX6_targetOf_19 ⟨_, rfl, h⟩
  · have h := h.2 c3
    refine Go.iload_n 2 dX6_targetOf_8 rfl rfl (?_ : Go _ _ 9 _ _ _ _)
    refine Go.iconst dX6_targetOf_9 k_ic_0 (?_ : Go _ _ 10 _ _ _ _)
    refine Go.bipush dX6_targetOf_10 k_bi_6 (?_ : Go _ _ 12 _ _ _ _)
    refine Go.callS (as := [.int x2, .int 0, .int 6]) (st := []) mk_X6_in wl_X6_41 rfl rfl (Nat.le_of_ble_eq_true rfl) dX6_targetOf_12 h ?_
    rintro _ s4 ⟨r5, rfl, h⟩
    show Go _ _ 15 _ [.int r5] _ _
    refine Go.if_ne 20 dX6_targetOf_15 rfl ⟨fun c6 => ?_, fun c6 => (?_ : Go _ _ 18 _ _ _ _)⟩
    · have h := h.1 c6
      refine Go.aload_n 0 dX6_targetOf_20 rfl rfl (?_ : Go _ _ 21 _ _ _ _)
      refine Go.callV (as := []) (st := []) mk_X6_listen wl_X6_117 shq_64 rfl rfl (Nat.le_of_ble_eq_true rfl) dX6_targetOf_21 h ?_
      rintro _ s7 ⟨rfl, h⟩
      show Go _ _ 24 _ [] _ _
      refine Go.iconst dX6_targetOf_24 k_ic_0 (?_ : Go _ _ 25 _ _ _ _)
      refine Go.istore_n 3 dX6_targetOf_25 rfl (by decide) rfl rfl (?_ : Go _ _ 26 [.ref 64, .int x1, .int x2, .int 0, .null] _ _ _)
      refine Go.iconst dX6_targetOf_26 k_ic_0 (?_ : Go _ _ 27 _ _ _ _)
      refine Go.istore dX6_targetOf_27 (by decide) rfl rfl (?_ : Go _ _ 29 [.ref 64, .int x1, .int x2, .int 0, .int 0] _ _ _)
      exact h
    · have h := h.2 c6
      refine Go.iconst dX6_targetOf_18 k_ic_m1 (?_ : Go _ _ 19 _ _ _ _)
      exact Go.iret rfl dX6_targetOf_19 ⟨_, rfl, h⟩
theorem cgX6_targetOf {d : Nat} {σ : St} {x1 : Int32} {x2 : Int32} {K : Int32 → St → Prop} (h : CallI d mX6_isTarget [.ref 64, .int x1] σ (fun r2 s1 => (r2 = 0 → K (-1) s1) ∧ (¬ r2 = 0 → CallI d mX6_in [.int x2, .int 0, .int 6] s1 (fun r5 s4 => (¬ r5 = 0 → CallU d mX6_listen [.ref 64] s4 (fun s7 => Go mX6_targetOf (d + 1) 29 [.ref 64, .int x1, .int x2, .int 0, .int 0] [] s7 (QI K))) ∧ (r5 = 0 → K (-1) s4))))) : CallI (d + 1) mX6_targetOf [.ref 64, .int x1, .int x2] σ K := Call_of_Go (by decide +kernel) (ls := [.ref 64, .int x1, .int x2, .null, .null]) rfl (Nat.le_of_ble_eq_true rfl) (sgX6_targetOf_0 h)
set_option maxHeartbeats 4000000 in
set_option maxRecDepth 100000 in
theorem sgX6_targetOf_29 {d : Nat} {σ : St} {v1 : Int32} {v2 : Int32} {v3 : Int32} {v4 : Int32} {K : Int32 → St → Prop} (h : ((sA σ 65 1) ≤ v4 → Go mX6_targetOf (d + 1) 77 [.ref 64, .int v1, .int v2, .int v3, .int (sA σ 65 0)] [] σ (QI K)) ∧ (¬ (sA σ 65 1) ≤ v4 → (¬ v2 = 5 → Go mX6_targetOf (d + 1) 77 [.ref 64, .int v1, .int v2, .int v3, .int (sA σ 65 0)] [] σ (QI K)) ∧ (v2 = 5 → CallI d mX6_isLost [.ref 64, .int v1, .int v4] σ (fun r4 s3 => (r4 = 0 → Go mX6_targetOf (d + 1) 29 [.ref 64, .int v1, .int v2, .int (v3 + 0), .int (v4 + 1)] [] s3 (QI K)) ∧ (¬ r4 = 0 → Go mX6_targetOf (d + 1) 29 [.ref 64, .int v1, .int v2, .int (v3 + 1), .int (v4 + 1)] [] s3 (QI K)))))) : Go mX6_targetOf (d + 1) 29 [.ref 64, .int v1, .int v2, .int v3, .int v4] [] σ (QI K) := by
  refine Go.iload dX6_targetOf_29 rfl (?_ : Go _ _ 31 _ _ _ _)
  refine Go.aload_n 0 dX6_targetOf_31 rfl rfl (?_ : Go _ _ 32 _ _ _ _)
  refine Go.getR fk_X6_7 shq_64 frq_64_0 dX6_targetOf_32 (?_ : Go _ _ 35 _ _ _ _)
  refine Go.iconst dX6_targetOf_35 k_ic_1 (?_ : Go _ _ 36 _ _ _ _)
  refine Go.ialdK ixk_1 vik_1_32 shq_65 dX6_targetOf_36 (?_ : Go _ _ 37 _ _ _ _)
  refine Go.icmp_ge 69 dX6_targetOf_37 rfl ⟨fun c1 => ?_, fun c1 => (?_ : Go _ _ 40 _ _ _ _)⟩
  · have h := h.1 c1
    refine Go.aload_n 0 dX6_targetOf_69 rfl rfl (?_ : Go _ _ 70 _ _ _ _)
    refine Go.getR fk_X6_7 shq_64 frq_64_0 dX6_targetOf_70 (?_ : Go _ _ 73 _ _ _ _)
    refine Go.iconst dX6_targetOf_73 k_ic_0 (?_ : Go _ _ 74 _ _ _ _)
    refine Go.ialdK ixk_0 vik_0_32 shq_65 dX6_targetOf_74 (?_ : Go _ _ 75 _ _ _ _)
    refine Go.istore dX6_targetOf_75 (by decide) rfl rfl (?_ : Go _ _ 77 [.ref 64, .int v1, .int v2, .int v3, .int (sA σ 65 0)] _ _ _)
    exact h
  · have h := h.2 c1
    refine Go.iload_n 2 dX6_targetOf_40 rfl rfl (?_ : Go _ _ 41 _ _ _ _)
    refine Go.iconst dX6_targetOf_41 k_ic_5 (?_ : Go _ _ 42 _ _ _ _)
    refine Go.icmp_ne 69 dX6_targetOf_42 rfl ⟨fun c2 => ?_, fun c2 => (?_ : Go _ _ 45 _ _ _ _)⟩
    · have h := h.1 c2
      refine Go.aload_n 0 dX6_targetOf_69 rfl rfl (?_ : Go _ _ 70 _ _ _ _)
      refine Go.getR fk_X6_7 shq_64 frq_64_0 dX6_targetOf_70 (?_ : Go _ _ 73 _ _ _ _)
      refine Go.iconst dX6_targetOf_73 k_ic_0 (?_ : Go _ _ 74 _ _ _ _)
      refine Go.ialdK ixk_0 vik_0_32 shq_65 dX6_targetOf_74 (?_ : Go _ _ 75 _ _ _ _)
      refine Go.istore dX6_targetOf_75 (by decide) rfl rfl (?_ : Go _ _ 77 [.ref 64, .int v1, .int v2, .int v3, .int (sA σ 65 0)] _ _ _)
      exact h
    · have h := h.2 c2
      refine Go.iload_n 3 dX6_targetOf_45 rfl rfl (?_ : Go _ _ 46 _ _ _ _)
      refine Go.aload_n 0 dX6_targetOf_46 rfl rfl (?_ : Go _ _ 47 _ _ _ _)
      refine Go.iload_n 1 dX6_targetOf_47 rfl rfl (?_ : Go _ _ 48 _ _ _ _)
      refine Go.iload dX6_targetOf_48 rfl (?_ : Go _ _ 50 _ _ _ _)
      refine Go.callV (as := [.int v1, .int v4]) (st := [.int v3]) mk_X6_isLost wl_X6_99 shq_64 rfl rfl (Nat.le_of_ble_eq_true rfl) dX6_targetOf_50 h ?_
      rintro _ s3 ⟨r4, rfl, h⟩
      show Go _ _ 53 _ [.int r4, .int v3] _ _
      refine Go.if_eq 60 dX6_targetOf_53 rfl ⟨fun c5 => ?_, fun c5 => (?_ : Go _ _ 56 _ _ _ _)⟩
      · have h := h.1 c5
        refine Go.iconst dX6_targetOf_60 k_ic_0 (?_ : Go _ _ 61 _ _ _ _)
        refine Go.iadd dX6_targetOf_61 (?_ : Go _ _ 62 _ _ _ _)
        refine Go.istore_n 3 dX6_targetOf_62 rfl (by decide) rfl rfl (?_ : Go _ _ 63 [.ref 64, .int v1, .int v2, .int (v3 + 0), .int v4] _ _ _)
        refine Go.iinc dX6_targetOf_63 rfl (congrArg (fun z => v4 + z) k_ic_1) (by decide) rfl rfl (?_ : Go _ _ 66 [.ref 64, .int v1, .int v2, .int (v3 + 0), .int (v4 + 1)] _ _ _)
        refine Go.goto 29 dX6_targetOf_66 rfl ?_
        exact h
      · have h := h.2 c5
        refine Go.iconst dX6_targetOf_56 k_ic_1 (?_ : Go _ _ 57 _ _ _ _)
        refine Go.goto 61 dX6_targetOf_57 rfl ?_
        refine Go.iadd dX6_targetOf_61 (?_ : Go _ _ 62 _ _ _ _)
        refine Go.istore_n 3 dX6_targetOf_62 rfl (by decide) rfl rfl (?_ : Go _ _ 63 [.ref 64, .int v1, .int v2, .int (v3 + 1), .int v4] _ _ _)
        refine Go.iinc dX6_targetOf_63 rfl (congrArg (fun z => v4 + z) k_ic_1) (by decide) rfl rfl (?_ : Go _ _ 66 [.ref 64, .int v1, .int v2, .int (v3 + 1), .int (v4 + 1)] _ _ _)
        refine Go.goto 29 dX6_targetOf_66 rfl ?_
        exact h
set_option maxHeartbeats 4000000 in
set_option maxRecDepth 100000 in
theorem sgX6_targetOf_77 {d : Nat} {σ : St} {v1 : Int32} {v2 : Int32} {v3 : Int32} {v4 : Int32} {K : Int32 → St → Prop} (h : ((sF σ 64 8) ≤ v4 → (v2 = 2 → CallI d mX6_of [.ref 64, .int v1, .int 2] σ (fun r4 s3 => K (r4 + 5) s3)) ∧ (¬ v2 = 2 → (v2 = 3 → CallI d mX6_of [.ref 64, .int v1, .int v2] σ (fun r7 s6 => K r7 s6)) ∧ (¬ v2 = 3 → (v2 = 4 → CallI d mX6_isTold [.ref 64, .int v1] σ (fun r10 s9 => (r10 = 0 → K 0 s9) ∧ (¬ r10 = 0 → K 1 s9))) ∧ (¬ v2 = 4 → (v2 = 5 → K v3 σ) ∧ (¬ v2 = 5 → (v2 = 6 → K v3 σ) ∧ (¬ v2 = 6 → CallI d mX6_of [.ref 64, .int v1, .int v2] σ (fun r15 s14 => K r15 s14))))))) ∧ (¬ (sF σ 64 8) ≤ v4 → (¬ v2 = 6 → (v2 = 2 → CallI d mX6_of [.ref 64, .int v1, .int 2] σ (fun r19 s18 => K (r19 + 5) s18)) ∧ (¬ v2 = 2 → (v2 = 3 → CallI d mX6_of [.ref 64, .int v1, .int v2] σ (fun r22 s21 => K r22 s21)) ∧ (¬ v2 = 3 → (v2 = 4 → CallI d mX6_isTold [.ref 64, .int v1] σ (fun r25 s24 => (r25 = 0 → K 0 s24) ∧ (¬ r25 = 0 → K 1 s24))) ∧ (¬ v2 = 4 → (v2 = 5 → K v3 σ) ∧ (¬ v2 = 5 → (v2 = 6 → K v3 σ) ∧ (¬ v2 = 6 → CallI d mX6_of [.ref 64, .int v1, .int v2] σ (fun r30 s29 => K r30 s29))))))) ∧ (v2 = 6 → CallI d mX6_body [.ref 64, .int v4, .int 3] σ (fun r32 s31 => (r32 = v1 → Go mX6_targetOf (d + 1) 77 [.ref 64, .int v1, .int v2, .int (v3 + 1), .int (v4 + 1)] [] s31 (QI K)) ∧ (¬ r32 = v1 → CallI d mX6_body [.ref 64, .int v4, .int 4] s31 (fun r35 s34 => (¬ r35 = v1 → Go mX6_targetOf (d + 1) 77 [.ref 64, .int v1, .int v2, .int (v3 + 0), .int (v4 + 1)] [] s34 (QI K)) ∧ (r35 = v1 → Go mX6_targetOf (d + 1) 77 [.ref 64, .int v1, .int v2, .int (v3 + 1), .int (v4 + 1)] [] s34 (QI K)))))))) : Go mX6_targetOf (d + 1) 77 [.ref 64, .int v1, .int v2, .int v3, .int v4] [] σ (QI K) := by
  refine Go.iload dX6_targetOf_77 rfl (?_ : Go _ _ 79 _ _ _ _)
  refine Go.aload_n 0 dX6_targetOf_79 rfl rfl (?_ : Go _ _ 80 _ _ _ _)
  refine Go.getI fk_X6_82 shq_64 frq_64_8 dX6_targetOf_80 (?_ : Go _ _ 83 _ _ _ _)
  refine Go.icmp_ge 128 dX6_targetOf_83 rfl ⟨fun c1 => ?_, fun c1 => (?_ : Go _ _ 86 _ _ _ _)⟩
  · have h := h.1 c1
    refine Go.iload_n 2 dX6_targetOf_128 rfl rfl (?_ : Go _ _ 129 _ _ _ _)
    refine Go.tsw [(2, 164), (3, 189), (4, 173), (5, 187), (6, 187)] 189 dX6_targetOf_129 (by decide +kernel) ?_
    refine And.intro (fun c2 => ?_) (fun c2 => ?_)
    · have h := h.1 c2
      show Go _ _ 164 _ _ _ _
      refine Go.aload_n 0 dX6_targetOf_164 rfl rfl (?_ : Go _ _ 165 _ _ _ _)
      refine Go.iload_n 1 dX6_targetOf_165 rfl rfl (?_ : Go _ _ 166 _ _ _ _)
      refine Go.iconst dX6_targetOf_166 k_ic_2 (?_ : Go _ _ 167 _ _ _ _)
      refine Go.callV (as := [.int v1, .int 2]) (st := []) mk_X6_of wl_X6_56 shq_64 rfl rfl (Nat.le_of_ble_eq_true rfl) dX6_targetOf_167 h ?_
      rintro _ s3 ⟨r4, rfl, h⟩
      show Go _ _ 170 _ [.int r4] _ _
      refine Go.iconst dX6_targetOf_170 k_ic_5 (?_ : Go _ _ 171 _ _ _ _)
      refine Go.iadd dX6_targetOf_171 (?_ : Go _ _ 172 _ _ _ _)
      exact Go.iret rfl dX6_targetOf_172 ⟨_, rfl, h⟩
    · have h := h.2 c2
      refine And.intro (fun c5 => ?_) (fun c5 => ?_)
      · have h := h.1 c5
        show Go _ _ 189 _ _ _ _
        refine Go.aload_n 0 dX6_targetOf_189 rfl rfl (?_ : Go _ _ 190 _ _ _ _)
        refine Go.iload_n 1 dX6_targetOf_190 rfl rfl (?_ : Go _ _ 191 _ _ _ _)
        refine Go.iload_n 2 dX6_targetOf_191 rfl rfl (?_ : Go _ _ 192 _ _ _ _)
        refine Go.callV (as := [.int v1, .int v2]) (st := []) mk_X6_of wl_X6_56 shq_64 rfl rfl (Nat.le_of_ble_eq_true rfl) dX6_targetOf_192 h ?_
        rintro _ s6 ⟨r7, rfl, h⟩
        show Go _ _ 195 _ [.int r7] _ _
        exact Go.iret rfl dX6_targetOf_195 ⟨_, rfl, h⟩
      · have h := h.2 c5
        refine And.intro (fun c8 => ?_) (fun c8 => ?_)
        · have h := h.1 c8
          show Go _ _ 173 _ _ _ _
          refine Go.aload_n 0 dX6_targetOf_173 rfl rfl (?_ : Go _ _ 174 _ _ _ _)
          refine Go.iload_n 1 dX6_targetOf_174 rfl rfl (?_ : Go _ _ 175 _ _ _ _)
          refine Go.callV (as := [.int v1]) (st := []) mk_X6_isTold wl_X6_114 shq_64 rfl rfl (Nat.le_of_ble_eq_true rfl) dX6_targetOf_175 h ?_
          rintro _ s9 ⟨r10, rfl, h⟩
          show Go _ _ 178 _ [.int r10] _ _
          refine Go.if_eq 185 dX6_targetOf_178 rfl ⟨fun c11 => ?_, fun c11 => (?_ : Go _ _ 181 _ _ _ _)⟩
          · have h := h.1 c11
            refine Go.iconst dX6_targetOf_185 k_ic_0 (?_ : Go _ _ 186 _ _ _ _)
            exact Go.iret rfl dX6_targetOf_186 ⟨_, rfl, h⟩
          · have h := h.2 c11
            refine Go.iconst dX6_targetOf_181 k_ic_1 (?_ : Go _ _ 182 _ _ _ _)
            refine Go.goto 186 dX6_targetOf_182 rfl ?_
            exact Go.iret rfl dX6_targetOf_186 ⟨_, rfl, h⟩
        · have h := h.2 c8
          refine And.intro (fun c12 => ?_) (fun c12 => ?_)
          · have h := h.1 c12
            show Go _ _ 187 _ _ _ _
            refine Go.iload_n 3 dX6_targetOf_187 rfl rfl (?_ : Go _ _ 188 _ _ _ _)
            exact Go.iret rfl dX6_targetOf_188 ⟨_, rfl, h⟩
          · have h := h.2 c12
            refine And.intro (fun c13 => ?_) (fun c13 => ?_)
            · have h := h.1 c13
              show Go _ _ 187 _ _ _ _
              refine Go.iload_n 3 dX6_targetOf_187 rfl rfl (?_ : Go _ _ 188 _ _ _ _)
              exact Go.iret rfl dX6_targetOf_188 ⟨_, rfl, h⟩
            · have h := h.2 c13
              show Go _ _ 189 _ _ _ _
              refine Go.aload_n 0 dX6_targetOf_189 rfl rfl (?_ : Go _ _ 190 _ _ _ _)
              refine Go.iload_n 1 dX6_targetOf_190 rfl rfl (?_ : Go _ _ 191 _ _ _ _)
              refine Go.iload_n 2 dX6_targetOf_191 rfl rfl (?_ : Go _ _ 192 _ _ _ _)
              refine Go.callV (as := [.int v1, .int v2]) (st := []) mk_X6_of wl_X6_56 shq_64 rfl rfl (Nat.le_of_ble_eq_true rfl) dX6_targetOf_192 h ?_
              rintro _ s14 ⟨r15, rfl, h⟩
              show Go _ _ 195 _ [.int r15] _ _
              exact Go.iret rfl dX6_targetOf_195 ⟨_, rfl, h⟩
  · have h := h.2 c1
    refine Go.iload_n 2 dX6_targetOf_86 rfl rfl (?_ : Go _ _ 87 _ _ _ _)
    refine Go.bipush dX6_targetOf_87 k_bi_6 (?_ : Go _ _ 89 _ _ _ _)
    refine Go.icmp_ne 128 dX6_targetOf_89 rfl ⟨fun c16 => ?_, fun c16 => (?_ : Go _ _ 92 _ _ _ _)⟩
    · have h := h.1 c16
      refine Go.iload_n 2 dX6_targetOf_128 rfl rfl (?_ : Go _ _ 129 _ _ _ _)
      refine Go.tsw [(2, 164), (3, 189), (4, 173), (5, 187), (6, 187)] 189 dX6_targetOf_129 (by decide +kernel) ?_
      refine And.intro (fun c17 => ?_) (fun c17 => ?_)
      · have h := h.1 c17
        show Go _ _ 164 _ _ _ _
        refine Go.aload_n 0 dX6_targetOf_164 rfl rfl (?_ : Go _ _ 165 _ _ _ _)
        refine Go.iload_n 1 dX6_targetOf_165 rfl rfl (?_ : Go _ _ 166 _ _ _ _)
        refine Go.iconst dX6_targetOf_166 k_ic_2 (?_ : Go _ _ 167 _ _ _ _)
        refine Go.callV (as := [.int v1, .int 2]) (st := []) mk_X6_of wl_X6_56 shq_64 rfl rfl (Nat.le_of_ble_eq_true rfl) dX6_targetOf_167 h ?_
        rintro _ s18 ⟨r19, rfl, h⟩
        show Go _ _ 170 _ [.int r19] _ _
        refine Go.iconst dX6_targetOf_170 k_ic_5 (?_ : Go _ _ 171 _ _ _ _)
        refine Go.iadd dX6_targetOf_171 (?_ : Go _ _ 172 _ _ _ _)
        exact Go.iret rfl dX6_targetOf_172 ⟨_, rfl, h⟩
      · have h := h.2 c17
        refine And.intro (fun c20 => ?_) (fun c20 => ?_)
        · have h := h.1 c20
          show Go _ _ 189 _ _ _ _
          refine Go.aload_n 0 dX6_targetOf_189 rfl rfl (?_ : Go _ _ 190 _ _ _ _)
          refine Go.iload_n 1 dX6_targetOf_190 rfl rfl (?_ : Go _ _ 191 _ _ _ _)
          refine Go.iload_n 2 dX6_targetOf_191 rfl rfl (?_ : Go _ _ 192 _ _ _ _)
          refine Go.callV (as := [.int v1, .int v2]) (st := []) mk_X6_of wl_X6_56 shq_64 rfl rfl (Nat.le_of_ble_eq_true rfl) dX6_targetOf_192 h ?_
          rintro _ s21 ⟨r22, rfl, h⟩
          show Go _ _ 195 _ [.int r22] _ _
          exact Go.iret rfl dX6_targetOf_195 ⟨_, rfl, h⟩
        · have h := h.2 c20
          refine And.intro (fun c23 => ?_) (fun c23 => ?_)
          · have h := h.1 c23
            show Go _ _ 173 _ _ _ _
            refine Go.aload_n 0 dX6_targetOf_173 rfl rfl (?_ : Go _ _ 174 _ _ _ _)
            refine Go.iload_n 1 dX6_targetOf_174 rfl rfl (?_ : Go _ _ 175 _ _ _ _)
            refine Go.callV (as := [.int v1]) (st := []) mk_X6_isTold wl_X6_114 shq_64 rfl rfl (Nat.le_of_ble_eq_true rfl) dX6_targetOf_175 h ?_
            rintro _ s24 ⟨r25, rfl, h⟩
            show Go _ _ 178 _ [.int r25] _ _
            refine Go.if_eq 185 dX6_targetOf_178 rfl ⟨fun c26 => ?_, fun c26 => (?_ : Go _ _ 181 _ _ _ _)⟩
            · have h := h.1 c26
              refine Go.iconst dX6_targetOf_185 k_ic_0 (?_ : Go _ _ 186 _ _ _ _)
              exact Go.iret rfl dX6_targetOf_186 ⟨_, rfl, h⟩
            · have h := h.2 c26
              refine Go.iconst dX6_targetOf_181 k_ic_1 (?_ : Go _ _ 182 _ _ _ _)
              refine Go.goto 186 dX6_targetOf_182 rfl ?_
              exact Go.iret rfl dX6_targetOf_186 ⟨_, rfl, h⟩
          · have h := h.2 c23
            refine And.intro (fun c27 => ?_) (fun c27 => ?_)
            · have h := h.1 c27
              show Go _ _ 187 _ _ _ _
              refine Go.iload_n 3 dX6_targetOf_187 rfl rfl (?_ : Go _ _ 188 _ _ _ _)
              exact Go.iret rfl dX6_targetOf_188 ⟨_, rfl, h⟩
            · have h := h.2 c27
              refine And.intro (fun c28 => ?_) (fun c28 => ?_)
              · have h := h.1 c28
                show Go _ _ 187 _ _ _ _
                refine Go.iload_n 3 dX6_targetOf_187 rfl rfl (?_ : Go _ _ 188 _ _ _ _)
                exact Go.iret rfl dX6_targetOf_188 ⟨_, rfl, h⟩
              · have h := h.2 c28
                show Go _ _ 189 _ _ _ _
                refine Go.aload_n 0 dX6_targetOf_189 rfl rfl (?_ : Go _ _ 190 _ _ _ _)
                refine Go.iload_n 1 dX6_targetOf_190 rfl rfl (?_ : Go _ _ 191 _ _ _ _)
                refine Go.iload_n 2 dX6_targetOf_191 rfl rfl (?_ : Go _ _ 192 _ _ _ _)
                refine Go.callV (as := [.int v1, .int v2]) (st := []) mk_X6_of wl_X6_56 shq_64 rfl rfl (Nat.le_of_ble_eq_true rfl) dX6_targetOf_192 h ?_
                rintro _ s29 ⟨r30, rfl, h⟩
                show Go _ _ 195 _ [.int r30] _ _
                exact Go.iret rfl dX6_targetOf_195 ⟨_, rfl, h⟩
    · have h := h.2 c16
      refine Go.iload_n 3 dX6_targetOf_92 rfl rfl (?_ : Go _ _ 93 _ _ _ _)
      refine Go.aload_n 0 dX6_targetOf_93 rfl rfl (?_ : Go _ _ 94 _ _ _ _)
      refine Go.iload dX6_targetOf_94 rfl (?_ : Go _ _ 96 _ _ _ _)
      refine Go.iconst dX6_targetOf_96 k_ic_3 (?_ : Go _ _ 97 _ _ _ _)
      refine Go.callV (as := [.int v4, .int 3]) (st := [.int v3]) mk_X6_body wl_X6_85 shq_64 rfl rfl (Nat.le_of_ble_eq_true rfl) dX6_targetOf_97 h ?_
      rintro _ s31 ⟨r32, rfl, h⟩
      show Go _ _ 100 _ [.int r32, .int v3] _ _
      refine Go.iload_n 1 dX6_targetOf_100 rfl rfl (?_ : Go _ _ 101 _ _ _ _)
      refine Go.icmp_eq 115 dX6_targetOf_101 rfl ⟨fun c33 => ?_, fun c33 => (?_ : Go _ _ 104 _ _ _ _)⟩
      · have h := h.1 c33
        refine Go.iconst dX6_targetOf_115 k_ic_1 (?_ : Go _ _ 116 _ _ _ _)
        refine Go.goto 120 dX6_targetOf_116 rfl ?_
        refine Go.iadd dX6_targetOf_120 (?_ : Go _ _ 121 _ _ _ _)
        refine Go.istore_n 3 dX6_targetOf_121 rfl (by decide) rfl rfl (?_ : Go _ _ 122 [.ref 64, .int v1, .int v2, .int (v3 + 1), .int v4] _ _ _)
        refine Go.iinc dX6_targetOf_122 rfl (congrArg (fun z => v4 + z) k_ic_1) (by decide) rfl rfl (?_ : Go _ _ 125 [.ref 64, .int v1, .int v2, .int (v3 + 1), .int (v4 + 1)] _ _ _)
        refine Go.goto 77 dX6_targetOf_125 rfl ?_
        exact h
      · have h := h.2 c33
        refine Go.aload_n 0 dX6_targetOf_104 rfl rfl (?_ : Go _ _ 105 _ _ _ _)
        refine Go.iload dX6_targetOf_105 rfl (?_ : Go _ _ 107 _ _ _ _)
        refine Go.iconst dX6_targetOf_107 k_ic_4 (?_ : Go _ _ 108 _ _ _ _)
        refine Go.callV (as := [.int v4, .int 4]) (st := [.int v3]) mk_X6_body wl_X6_85 shq_64 rfl rfl (Nat.le_of_ble_eq_true rfl) dX6_targetOf_108 h ?_
        rintro _ s34 ⟨r35, rfl, h⟩
        show Go _ _ 111 _ [.int r35, .int v3] _ _
        refine Go.iload_n 1 dX6_targetOf_111 rfl rfl (?_ : Go _ _ 112 _ _ _ _)
        refine Go.icmp_ne 119 dX6_targetOf_112 rfl ⟨fun c36 => ?_, fun c36 => (?_ : Go _ _ 115 _ _ _ _)⟩
        · have h := h.1 c36
          refine Go.iconst dX6_targetOf_119 k_ic_0 (?_ : Go _ _ 120 _ _ _ _)
          refine Go.iadd dX6_targetOf_120 (?_ : Go _ _ 121 _ _ _ _)
          refine Go.istore_n 3 dX6_targetOf_121 rfl (by decide) rfl rfl (?_ : Go _ _ 122 [.ref 64, .int v1, .int v2, .int (v3 + 0), .int v4] _ _ _)
          refine Go.iinc dX6_targetOf_122 rfl (congrArg (fun z => v4 + z) k_ic_1) (by decide) rfl rfl (?_ : Go _ _ 125 [.ref 64, .int v1, .int v2, .int (v3 + 0), .int (v4 + 1)] _ _ _)
          refine Go.goto 77 dX6_targetOf_125 rfl ?_
          exact h
        · have h := h.2 c36
          refine Go.iconst dX6_targetOf_115 k_ic_1 (?_ : Go _ _ 116 _ _ _ _)
          refine Go.goto 120 dX6_targetOf_116 rfl ?_
          refine Go.iadd dX6_targetOf_120 (?_ : Go _ _ 121 _ _ _ _)
          refine Go.istore_n 3 dX6_targetOf_121 rfl (by decide) rfl rfl (?_ : Go _ _ 122 [.ref 64, .int v1, .int v2, .int (v3 + 1), .int v4] _ _ _)
          refine Go.iinc dX6_targetOf_122 rfl (congrArg (fun z => v4 + z) k_ic_1) (by decide) rfl rfl (?_ : Go _ _ 125 [.ref 64, .int v1, .int v2, .int (v3 + 1), .int (v4 + 1)] _ _ _)
          refine Go.goto 77 dX6_targetOf_125 rfl ?_
          exact h
set_option maxHeartbeats 4000000 in
set_option maxRecDepth 100000 in
theorem sgX6_ghost_0 {d : Nat} {σ : St} {x1 : Int32} {x2 : Int32} {K : Int32 → St → Prop} (h : (x1 < 0 → K (-1) σ) ∧ (¬ x1 < 0 → CallI d mX6_in [.int x2, .int 0, .int 4] σ (fun r3 s2 => (¬ r3 = 0 → CallU d mX6_listen [.ref 64] s2 (fun s5 => (x1 < ((sF s5 64 8) - (sA s5 65 0)) → (¬ x2 = 4 → (2 ≤ x2 → CallI d mX6_body [.ref 64, .int ((sA s5 65 0) + x1), .int (x2 + 1)] s5 (fun r10 s9 => K r10 s9)) ∧ (¬ 2 ≤ x2 → CallI d mX6_body [.ref 64, .int ((sA s5 65 0) + x1), .int x2] s5 (fun r12 s11 => K r12 s11))) ∧ (x2 = 4 → CallI d mX6_isTold [.ref 64, .int ((sA s5 65 0) + x1)] s5 (fun r14 s13 => (r14 = 0 → K 0 s13) ∧ (¬ r14 = 0 → K 1 s13)))) ∧ (¬ x1 < ((sF s5 64 8) - (sA s5 65 0)) → K (-4) s5))) ∧ (r3 = 0 → K (-1) s2)))) : Go mX6_ghost (d + 1) 0 [.ref 64, .int x1, .int x2, .null] [] σ (QI K) := by
  refine Go.iload_n 1 dX6_ghost_0 rfl rfl (?_ : Go _ _ 1 _ _ _ _)
  refine Go.if_lt 13 dX6_ghost_1 rfl ⟨fun c1 => ?_, fun c1 => (?_ : Go _ _ 4 _ _ _ _)⟩
  · have h := h.1 c1
    refine Go.iconst dX6_ghost_13 k_ic_m1 (?_ : Go _ _ 14 _ _ _ _)
    exact Go.iret rfl dX6_ghost_14 ⟨_, rfl, h⟩
  · have h := h.2 c1
    refine Go.iload_n 2 dX6_ghost_4 rfl rfl (?_ : Go _ _ 5 _ _ _ _)
    refine Go.iconst dX6_ghost_5 k_ic_0 (?_ : Go _ _ 6 _ _ _ _)
    refine Go.iconst dX6_ghost_6 k_ic_4 (?_ : Go _ _ 7 _ _ _ _)
    refine Go.callS (as := [.int x2, .int 0, .int 4]) (st := []) mk_X6_in wl_X6_41 rfl rfl (Nat.le_of_ble_eq_true rfl) dX6_ghost_7 h ?_
    rintro _ s2 ⟨r3, rfl, h⟩
    show Go _ _ 10 _ [.int r3] _ _
    refine Go.if_ne 15 dX6_ghost_10 rfl ⟨fun c4 => ?_, fun c4 => (?_ : Go _ _ 13 _ _ _ _)⟩
    · have h := h.1 c4
      refine Go.aload_n 0 dX6_ghost_15 rfl rfl (?_ : Go _ _ 16 _ _ _ _)
      refine Go.callV (as := []) (st := []) mk_X6_listen wl_X6_117 shq_64 rfl rfl (Nat.le_of_ble_eq_true rfl) dX6_ghost_16 h ?_
      rintro _ s5 ⟨rfl, h⟩
      show Go _ _ 19 _ [] _ _
      refine Go.iload_n 1 dX6_ghost_19 rfl rfl (?_ : Go _ _ 20 _ _ _ _)
      refine Go.aload_n 0 dX6_ghost_20 rfl rfl (?_ : Go _ _ 21 _ _ _ _)
      refine Go.getI fk_X6_82 shq_64 frq_64_8 dX6_ghost_21 (?_ : Go _ _ 24 _ _ _ _)
      refine Go.aload_n 0 dX6_ghost_24 rfl rfl (?_ : Go _ _ 25 _ _ _ _)
      refine Go.getR fk_X6_7 shq_64 frq_64_0 dX6_ghost_25 (?_ : Go _ _ 28 _ _ _ _)
      refine Go.iconst dX6_ghost_28 k_ic_0 (?_ : Go _ _ 29 _ _ _ _)
      refine Go.ialdK ixk_0 vik_0_32 shq_65 dX6_ghost_29 (?_ : Go _ _ 30 _ _ _ _)
      refine Go.isub dX6_ghost_30 (?_ : Go _ _ 31 _ _ _ _)
      refine Go.icmp_lt 37 dX6_ghost_31 rfl ⟨fun c6 => ?_, fun c6 => (?_ : Go _ _ 34 _ _ _ _)⟩
      · have h := h.1 c6
        refine Go.aload_n 0 dX6_ghost_37 rfl rfl (?_ : Go _ _ 38 _ _ _ _)
        refine Go.getR fk_X6_7 shq_64 frq_64_0 dX6_ghost_38 (?_ : Go _ _ 41 _ _ _ _)
        refine Go.iconst dX6_ghost_41 k_ic_0 (?_ : Go _ _ 42 _ _ _ _)
        refine Go.ialdK ixk_0 vik_0_32 shq_65 dX6_ghost_42 (?_ : Go _ _ 43 _ _ _ _)
        refine Go.iload_n 1 dX6_ghost_43 rfl rfl (?_ : Go _ _ 44 _ _ _ _)
        refine Go.iadd dX6_ghost_44 (?_ : Go _ _ 45 _ _ _ _)
        refine Go.istore_n 3 dX6_ghost_45 rfl (by decide) rfl rfl (?_ : Go _ _ 46 [.ref 64, .int x1, .int x2, .int ((sA s5 65 0) + x1)] _ _ _)
        refine Go.iload_n 2 dX6_ghost_46 rfl rfl (?_ : Go _ _ 47 _ _ _ _)
        refine Go.iconst dX6_ghost_47 k_ic_4 (?_ : Go _ _ 48 _ _ _ _)
        refine Go.icmp_ne 67 dX6_ghost_48 rfl ⟨fun c7 => ?_, fun c7 => (?_ : Go _ _ 51 _ _ _ _)⟩
        · have h := h.1 c7
          refine Go.aload_n 0 dX6_ghost_67 rfl rfl (?_ : Go _ _ 68 _ _ _ _)
          refine Go.iload_n 3 dX6_ghost_68 rfl rfl (?_ : Go _ _ 69 _ _ _ _)
          refine Go.iload_n 2 dX6_ghost_69 rfl rfl (?_ : Go _ _ 70 _ _ _ _)
          refine Go.iconst dX6_ghost_70 k_ic_2 (?_ : Go _ _ 71 _ _ _ _)
          refine Go.icmp_ge 78 dX6_ghost_71 rfl ⟨fun c8 => ?_, fun c8 => (?_ : Go _ _ 74 _ _ _ _)⟩
          · have h := h.1 c8
            refine Go.iload_n 2 dX6_ghost_78 rfl rfl (?_ : Go _ _ 79 _ _ _ _)
            refine Go.iconst dX6_ghost_79 k_ic_1 (?_ : Go _ _ 80 _ _ _ _)
            refine Go.iadd dX6_ghost_80 (?_ : Go _ _ 81 _ _ _ _)
            refine Go.callV (as := [.int ((sA s5 65 0) + x1), .int (x2 + 1)]) (st := []) mk_X6_body wl_X6_85 shq_64 rfl rfl (Nat.le_of_ble_eq_true rfl) dX6_ghost_81 h ?_
            rintro _ s9 ⟨r10, rfl, h⟩
            show Go _ _ 84 _ [.int r10] _ _
            exact Go.iret rfl dX6_ghost_84 ⟨_, rfl, h⟩
          · have h := h.2 c8
            refine Go.iload_n 2 dX6_ghost_74 rfl rfl (?_ : Go _ _ 75 _ _ _ _)
            refine Go.goto 81 dX6_ghost_75 rfl ?_
            refine Go.callV (as := [.int ((sA s5 65 0) + x1), .int x2]) (st := []) mk_X6_body wl_X6_85 shq_64 rfl rfl (Nat.le_of_ble_eq_true rfl) dX6_ghost_81 h ?_
            rintro _ s11 ⟨r12, rfl, h⟩
            show Go _ _ 84 _ [.int r12] _ _
            exact Go.iret rfl dX6_ghost_84 ⟨_, rfl, h⟩
        · have h := h.2 c7
          refine Go.aload_n 0 dX6_ghost_51 rfl rfl (?_ : Go _ _ 52 _ _ _ _)
          refine Go.iload_n 3 dX6_ghost_52 rfl rfl (?_ : Go _ _ 53 _ _ _ _)
          refine Go.callV (as := [.int ((sA s5 65 0) + x1)]) (st := []) mk_X6_isTold wl_X6_114 shq_64 rfl rfl (Nat.le_of_ble_eq_true rfl) dX6_ghost_53 h ?_
          rintro _ s13 ⟨r14, rfl, h⟩
          show Go _ _ 56 _ [.int r14] _ _
          refine Go.if_eq 63 dX6_ghost_56 rfl ⟨fun c15 => ?_, fun c15 => (?_ : Go _ _ 59 _ _ _ _)⟩
          · have h := h.1 c15
            refine Go.iconst dX6_ghost_63 k_ic_0 (?_ : Go _ _ 64 _ _ _ _)
            refine Go.goto 84 dX6_ghost_64 rfl ?_
            exact Go.iret rfl dX6_ghost_84 ⟨_, rfl, h⟩
          · have h := h.2 c15
            refine Go.iconst dX6_ghost_59 k_ic_1 (?_ : Go _ _ 60 _ _ _ _)
            refine Go.goto 84 dX6_ghost_60 rfl ?_
            exact Go.iret rfl dX6_ghost_84 ⟨_, rfl, h⟩
      · have h := h.2 c6
        refine Go.bipush dX6_ghost_34 k_bi_m4 (?_ : Go _ _ 36 _ _ _ _)
        exact Go.iret rfl dX6_ghost_36 ⟨_, rfl, h⟩
    · have h := h.2 c4
      refine Go.iconst dX6_ghost_13 k_ic_m1 (?_ : Go _ _ 14 _ _ _ _)
      exact Go.iret rfl dX6_ghost_14 ⟨_, rfl, h⟩
theorem cgX6_ghost {d : Nat} {σ : St} {x1 : Int32} {x2 : Int32} {K : Int32 → St → Prop} (h : (x1 < 0 → K (-1) σ) ∧ (¬ x1 < 0 → CallI d mX6_in [.int x2, .int 0, .int 4] σ (fun r3 s2 => (¬ r3 = 0 → CallU d mX6_listen [.ref 64] s2 (fun s5 => (x1 < ((sF s5 64 8) - (sA s5 65 0)) → (¬ x2 = 4 → (2 ≤ x2 → CallI d mX6_body [.ref 64, .int ((sA s5 65 0) + x1), .int (x2 + 1)] s5 (fun r10 s9 => K r10 s9)) ∧ (¬ 2 ≤ x2 → CallI d mX6_body [.ref 64, .int ((sA s5 65 0) + x1), .int x2] s5 (fun r12 s11 => K r12 s11))) ∧ (x2 = 4 → CallI d mX6_isTold [.ref 64, .int ((sA s5 65 0) + x1)] s5 (fun r14 s13 => (r14 = 0 → K 0 s13) ∧ (¬ r14 = 0 → K 1 s13)))) ∧ (¬ x1 < ((sF s5 64 8) - (sA s5 65 0)) → K (-4) s5))) ∧ (r3 = 0 → K (-1) s2)))) : CallI (d + 1) mX6_ghost [.ref 64, .int x1, .int x2] σ K := Call_of_Go (by decide +kernel) (ls := [.ref 64, .int x1, .int x2, .null]) rfl (Nat.le_of_ble_eq_true rfl) (sgX6_ghost_0 h)
set_option maxHeartbeats 4000000 in
set_option maxRecDepth 100000 in
theorem sgX6_echo_0 {d : Nat} {σ : St} {x1 : Int32} {x2 : Int32} {x3 : Int32} {K : Int32 → St → Prop} (h : CallI d mX6_isTurn [.ref 64, .int x1] σ (fun r2 s1 => (r2 = 0 → K (-1) s1) ∧ (¬ r2 = 0 → (x2 < 0 → K (-1) s1) ∧ (¬ x2 < 0 → CallI d mX6_in [.int x3, .int 0, .int 3] s1 (fun r6 s5 => (¬ r6 = 0 → CallU d mX6_listen [.ref 64] s5 (fun s8 => Go mX6_echo (d + 1) 33 [.ref 64, .int x1, .int x2, .int x3, .int x2, .int 0] [] s8 (QI K))) ∧ (r6 = 0 → K (-1) s5)))))) : Go mX6_echo (d + 1) 0 [.ref 64, .int x1, .int x2, .int x3, .null, .null] [] σ (QI K) := by
  refine Go.aload_n 0 dX6_echo_0 rfl rfl (?_ : Go _ _ 1 _ _ _ _)
  refine Go.iload_n 1 dX6_echo_1 rfl rfl (?_ : Go _ _ 2 _ _ _ _)
  refine Go.callV (as := [.int x1]) (st := []) mk_X6_isTurn wl_X6_120 shq_64 rfl rfl (Nat.le_of_ble_eq_true rfl) dX6_echo_2 h ?_
  rintro _ s1 ⟨r2, rfl, h⟩
  show Go _ _ 5 _ [.int r2] _ _
  refine Go.if_eq 21 dX6_echo_5 rfl ⟨fun c3 => ?_, fun c3 => (?_ : Go _ _ 8 _ _ _ _)⟩
  · have h := h.1 c3
    refine Go.iconst dX6_echo_21 k_ic_m1 (?_ : Go _ _ 22 _ _ _ _)
    exact Go.iret rfl dX6_echo_22 ⟨_, rfl, h⟩
  · have h := h.2 c3
    refine Go.iload_n 2 dX6_echo_8 rfl rfl (?_ : Go _ _ 9 _ _ _ _)
    refine Go.if_lt 21 dX6_echo_9 rfl ⟨fun c4 => ?_, fun c4 => (?_ : Go _ _ 12 _ _ _ _)⟩
    · have h := h.1 c4
      refine Go.iconst dX6_echo_21 k_ic_m1 (?_ : Go _ _ 22 _ _ _ _)
      exact Go.iret rfl dX6_echo_22 ⟨_, rfl, h⟩
    · have h := h.2 c4
      refine Go.iload_n 3 dX6_echo_12 rfl rfl (?_ : Go _ _ 13 _ _ _ _)
      refine Go.iconst dX6_echo_13 k_ic_0 (?_ : Go _ _ 14 _ _ _ _)
      refine Go.iconst dX6_echo_14 k_ic_3 (?_ : Go _ _ 15 _ _ _ _)
      refine Go.callS (as := [.int x3, .int 0, .int 3]) (st := []) mk_X6_in wl_X6_41 rfl rfl (Nat.le_of_ble_eq_true rfl) dX6_echo_15 h ?_
      rintro _ s5 ⟨r6, rfl, h⟩
      show Go _ _ 18 _ [.int r6] _ _
      refine Go.if_ne 23 dX6_echo_18 rfl ⟨fun c7 => ?_, fun c7 => (?_ : Go _ _ 21 _ _ _ _)⟩
      · have h := h.1 c7
        refine Go.aload_n 0 dX6_echo_23 rfl rfl (?_ : Go _ _ 24 _ _ _ _)
        refine Go.callV (as := []) (st := []) mk_X6_listen wl_X6_117 shq_64 rfl rfl (Nat.le_of_ble_eq_true rfl) dX6_echo_24 h ?_
        rintro _ s8 ⟨rfl, h⟩
        show Go _ _ 27 _ [] _ _
        refine Go.iload_n 2 dX6_echo_27 rfl rfl (?_ : Go _ _ 28 _ _ _ _)
        refine Go.istore dX6_echo_28 (by decide) rfl rfl (?_ : Go _ _ 30 [.ref 64, .int x1, .int x2, .int x3, .int x2, .null] _ _ _)
        refine Go.iconst dX6_echo_30 k_ic_0 (?_ : Go _ _ 31 _ _ _ _)
        refine Go.istore dX6_echo_31 (by decide) rfl rfl (?_ : Go _ _ 33 [.ref 64, .int x1, .int x2, .int x3, .int x2, .int 0] _ _ _)
        exact h
      · have h := h.2 c7
        refine Go.iconst dX6_echo_21 k_ic_m1 (?_ : Go _ _ 22 _ _ _ _)
        exact Go.iret rfl dX6_echo_22 ⟨_, rfl, h⟩
theorem cgX6_echo {d : Nat} {σ : St} {x1 : Int32} {x2 : Int32} {x3 : Int32} {K : Int32 → St → Prop} (h : CallI d mX6_isTurn [.ref 64, .int x1] σ (fun r2 s1 => (r2 = 0 → K (-1) s1) ∧ (¬ r2 = 0 → (x2 < 0 → K (-1) s1) ∧ (¬ x2 < 0 → CallI d mX6_in [.int x3, .int 0, .int 3] s1 (fun r6 s5 => (¬ r6 = 0 → CallU d mX6_listen [.ref 64] s5 (fun s8 => Go mX6_echo (d + 1) 33 [.ref 64, .int x1, .int x2, .int x3, .int x2, .int 0] [] s8 (QI K))) ∧ (r6 = 0 → K (-1) s5)))))) : CallI (d + 1) mX6_echo [.ref 64, .int x1, .int x2, .int x3] σ K := Call_of_Go (by decide +kernel) (ls := [.ref 64, .int x1, .int x2, .int x3, .null, .null]) rfl (Nat.le_of_ble_eq_true rfl) (sgX6_echo_0 h)
set_option maxHeartbeats 4000000 in
set_option maxRecDepth 100000 in
theorem sgX6_echo_33 {d : Nat} {σ : St} {v1 : Int32} {v2 : Int32} {v3 : Int32} {v4 : Int32} {v5 : Int32} {K : Int32 → St → Prop} (h : (550 ≤ v5 → K (-4) σ) ∧ (¬ 550 ≤ v5 → vp_in (((v1 * 50) * 11) + v5) 2200 ∧ ((sA σ 70 (ix (((v1 * 50) * 11) + v5))) ≤ 0 → Go mX6_echo (d + 1) 33 [.ref 64, .int v1, .int v2, .int v3, .int v4, .int (v5 + 1)] [] σ (QI K)) ∧ (¬ (sA σ 70 (ix (((v1 * 50) * 11) + v5))) ≤ 0 → (¬ v4 = 0 → Go mX6_echo (d + 1) 33 [.ref 64, .int v1, .int v2, .int v3, .int (v4 + (-1)), .int (v5 + 1)] [] σ (QI K)) ∧ (v4 = 0 → (¬ v3 = 0 → (¬ v3 = 1 → (¬ v3 = 2 → vp_in (((v1 * 50) * 11) + v5) 2200 ∧ K (sA σ 71 (ix (((v1 * 50) * 11) + v5))) σ) ∧ (v3 = 2 → vp_in (((v1 * 50) * 11) + v5) 2200 ∧ K (sA σ 70 (ix (((v1 * 50) * 11) + v5))) σ)) ∧ (v3 = 1 → K (irem v5 11) σ)) ∧ (v3 = 0 → K (v5 / 11) σ))))) : Go mX6_echo (d + 1) 33 [.ref 64, .int v1, .int v2, .int v3, .int v4, .int v5] [] σ (QI K) := by
  refine Go.iload dX6_echo_33 rfl (?_ : Go _ _ 35 _ _ _ _)
  refine Go.sipush dX6_echo_35 k_si_550 (?_ : Go _ _ 38 _ _ _ _)
  refine Go.icmp_ge 137 dX6_echo_38 rfl ⟨fun c1 => ?_, fun c1 => (?_ : Go _ _ 41 _ _ _ _)⟩
  · have h := h.1 c1
    refine Go.bipush dX6_echo_137 k_bi_m4 (?_ : Go _ _ 139 _ _ _ _)
    exact Go.iret rfl dX6_echo_139 ⟨_, rfl, h⟩
  · have h := h.2 c1
    refine Go.aload_n 0 dX6_echo_41 rfl rfl (?_ : Go _ _ 42 _ _ _ _)
    refine Go.getR fk_X6_26 shq_64 frq_64_9 dX6_echo_42 (?_ : Go _ _ 45 _ _ _ _)
    refine Go.iload_n 1 dX6_echo_45 rfl rfl (?_ : Go _ _ 46 _ _ _ _)
    refine Go.bipush dX6_echo_46 k_bi_50 (?_ : Go _ _ 48 _ _ _ _)
    refine Go.imul dX6_echo_48 (?_ : Go _ _ 49 _ _ _ _)
    refine Go.bipush dX6_echo_49 k_bi_11 (?_ : Go _ _ 51 _ _ _ _)
    refine Go.imul dX6_echo_51 (?_ : Go _ _ 52 _ _ _ _)
    refine Go.iload dX6_echo_52 rfl (?_ : Go _ _ 54 _ _ _ _)
    refine Go.iadd dX6_echo_54 (?_ : Go _ _ 55 _ _ _ _)
    refine Go.iald shq_70 dX6_echo_55 ⟨h.1, (?_ : Go _ _ 56 _ _ _ _)⟩
    have h := h.2
    refine Go.if_le 131 dX6_echo_56 rfl ⟨fun c2 => ?_, fun c2 => (?_ : Go _ _ 59 _ _ _ _)⟩
    · have h := h.1 c2
      refine Go.iinc dX6_echo_131 rfl (congrArg (fun z => v5 + z) k_ic_1) (by decide) rfl rfl (?_ : Go _ _ 134 [.ref 64, .int v1, .int v2, .int v3, .int v4, .int (v5 + 1)] _ _ _)
      refine Go.goto 33 dX6_echo_134 rfl ?_
      exact h
    · have h := h.2 c2
      refine Go.iload dX6_echo_59 rfl (?_ : Go _ _ 61 _ _ _ _)
      refine Go.if_ne 128 dX6_echo_61 rfl ⟨fun c3 => ?_, fun c3 => (?_ : Go _ _ 64 _ _ _ _)⟩
      · have h := h.1 c3
        refine Go.iinc dX6_echo_128 rfl (congrArg (fun z => v4 + z) k_ic_m1) (by decide) rfl rfl (?_ : Go _ _ 131 [.ref 64, .int v1, .int v2, .int v3, .int (v4 + (-1)), .int v5] _ _ _)
        refine Go.iinc dX6_echo_131 rfl (congrArg (fun z => v5 + z) k_ic_1) (by decide) rfl rfl (?_ : Go _ _ 134 [.ref 64, .int v1, .int v2, .int v3, .int (v4 + (-1)), .int (v5 + 1)] _ _ _)
        refine Go.goto 33 dX6_echo_134 rfl ?_
        exact h
      · have h := h.2 c3
        refine Go.iload_n 3 dX6_echo_64 rfl rfl (?_ : Go _ _ 65 _ _ _ _)
        refine Go.if_ne 76 dX6_echo_65 rfl ⟨fun c4 => ?_, fun c4 => (?_ : Go _ _ 68 _ _ _ _)⟩
        · have h := h.1 c4
          refine Go.iload_n 3 dX6_echo_76 rfl rfl (?_ : Go _ _ 77 _ _ _ _)
          refine Go.iconst dX6_echo_77 k_ic_1 (?_ : Go _ _ 78 _ _ _ _)
          refine Go.icmp_ne 89 dX6_echo_78 rfl ⟨fun c5 => ?_, fun c5 => (?_ : Go _ _ 81 _ _ _ _)⟩
          · have h := h.1 c5
            refine Go.iload_n 3 dX6_echo_89 rfl rfl (?_ : Go _ _ 90 _ _ _ _)
            refine Go.iconst dX6_echo_90 k_ic_2 (?_ : Go _ _ 91 _ _ _ _)
            refine Go.icmp_ne 112 dX6_echo_91 rfl ⟨fun c6 => ?_, fun c6 => (?_ : Go _ _ 94 _ _ _ _)⟩
            · have h := h.1 c6
              refine Go.aload_n 0 dX6_echo_112 rfl rfl (?_ : Go _ _ 113 _ _ _ _)
              refine Go.getR fk_X6_29 shq_64 frq_64_10 dX6_echo_113 (?_ : Go _ _ 116 _ _ _ _)
              refine Go.iload_n 1 dX6_echo_116 rfl rfl (?_ : Go _ _ 117 _ _ _ _)
              refine Go.bipush dX6_echo_117 k_bi_50 (?_ : Go _ _ 119 _ _ _ _)
              refine Go.imul dX6_echo_119 (?_ : Go _ _ 120 _ _ _ _)
              refine Go.bipush dX6_echo_120 k_bi_11 (?_ : Go _ _ 122 _ _ _ _)
              refine Go.imul dX6_echo_122 (?_ : Go _ _ 123 _ _ _ _)
              refine Go.iload dX6_echo_123 rfl (?_ : Go _ _ 125 _ _ _ _)
              refine Go.iadd dX6_echo_125 (?_ : Go _ _ 126 _ _ _ _)
              refine Go.iald shq_71 dX6_echo_126 ⟨h.1, (?_ : Go _ _ 127 _ _ _ _)⟩
              have h := h.2
              exact Go.iret rfl dX6_echo_127 ⟨_, rfl, h⟩
            · have h := h.2 c6
              refine Go.aload_n 0 dX6_echo_94 rfl rfl (?_ : Go _ _ 95 _ _ _ _)
              refine Go.getR fk_X6_26 shq_64 frq_64_9 dX6_echo_95 (?_ : Go _ _ 98 _ _ _ _)
              refine Go.iload_n 1 dX6_echo_98 rfl rfl (?_ : Go _ _ 99 _ _ _ _)
              refine Go.bipush dX6_echo_99 k_bi_50 (?_ : Go _ _ 101 _ _ _ _)
              refine Go.imul dX6_echo_101 (?_ : Go _ _ 102 _ _ _ _)
              refine Go.bipush dX6_echo_102 k_bi_11 (?_ : Go _ _ 104 _ _ _ _)
              refine Go.imul dX6_echo_104 (?_ : Go _ _ 105 _ _ _ _)
              refine Go.iload dX6_echo_105 rfl (?_ : Go _ _ 107 _ _ _ _)
              refine Go.iadd dX6_echo_107 (?_ : Go _ _ 108 _ _ _ _)
              refine Go.iald shq_70 dX6_echo_108 ⟨h.1, (?_ : Go _ _ 109 _ _ _ _)⟩
              have h := h.2
              refine Go.goto 127 dX6_echo_109 rfl ?_
              exact Go.iret rfl dX6_echo_127 ⟨_, rfl, h⟩
          · have h := h.2 c5
            refine Go.iload dX6_echo_81 rfl (?_ : Go _ _ 83 _ _ _ _)
            refine Go.bipush dX6_echo_83 k_bi_11 (?_ : Go _ _ 85 _ _ _ _)
            refine Go.irem dX6_echo_85 (by decide) (?_ : Go _ _ 86 _ _ _ _)
            refine Go.goto 127 dX6_echo_86 rfl ?_
            exact Go.iret rfl dX6_echo_127 ⟨_, rfl, h⟩
        · have h := h.2 c4
          refine Go.iload dX6_echo_68 rfl (?_ : Go _ _ 70 _ _ _ _)
          refine Go.bipush dX6_echo_70 k_bi_11 (?_ : Go _ _ 72 _ _ _ _)
          refine Go.idiv dX6_echo_72 (by decide) (?_ : Go _ _ 73 _ _ _ _)
          refine Go.goto 127 dX6_echo_73 rfl ?_
          exact Go.iret rfl dX6_echo_127 ⟨_, rfl, h⟩
set_option maxHeartbeats 4000000 in
set_option maxRecDepth 100000 in
theorem sgX6_fits_0 {d : Nat} {σ : St} {x1 : Int32} {x2 : Int32} {x3 : Int32} {K : Int32 → St → Prop} (h : CallI d mX6_in [.int x1, .int 1, .int 600] σ (fun r2 s1 => (r2 = 0 → K (-1) s1) ∧ (¬ r2 = 0 → CallI d mX6_in [.int x2, .int (-5), .int 5] s1 (fun r5 s4 => (r5 = 0 → K (-1) s4) ∧ (¬ r5 = 0 → CallI d mX6_isTurn [.ref 64, .int x3] s4 (fun r8 s7 => (¬ r8 = 0 → CallU d mX6_listen [.ref 64] s7 (fun s10 => CallI d mX6_fit [.ref 64, .int x1, .int x2, .int x3] s10 (fun r12 s11 => K r12 s11))) ∧ (r8 = 0 → K (-1) s7))))))) : Go mX6_fits (d + 1) 0 [.ref 64, .int x1, .int x2, .int x3] [] σ (QI K) := by
  refine Go.iload_n 1 dX6_fits_0 rfl rfl (?_ : Go _ _ 1 _ _ _ _)
  refine Go.iconst dX6_fits_1 k_ic_1 (?_ : Go _ _ 2 _ _ _ _)
  refine Go.sipush dX6_fits_2 k_si_600 (?_ : Go _ _ 5 _ _ _ _)
  refine Go.callS (as := [.int x1, .int 1, .int 600]) (st := []) mk_X6_in wl_X6_41 rfl rfl (Nat.le_of_ble_eq_true rfl) dX6_fits_5 h ?_
  rintro _ s1 ⟨r2, rfl, h⟩
  show Go _ _ 8 _ [.int r2] _ _
  refine Go.if_eq 29 dX6_fits_8 rfl ⟨fun c3 => ?_, fun c3 => (?_ : Go _ _ 11 _ _ _ _)⟩
  · have h := h.1 c3
    refine Go.iconst dX6_fits_29 k_ic_m1 (?_ : Go _ _ 30 _ _ _ _)
    exact Go.iret rfl dX6_fits_30 ⟨_, rfl, h⟩
  · have h := h.2 c3
    refine Go.iload_n 2 dX6_fits_11 rfl rfl (?_ : Go _ _ 12 _ _ _ _)
    refine Go.bipush dX6_fits_12 k_bi_m5 (?_ : Go _ _ 14 _ _ _ _)
    refine Go.iconst dX6_fits_14 k_ic_5 (?_ : Go _ _ 15 _ _ _ _)
    refine Go.callS (as := [.int x2, .int (-5), .int 5]) (st := []) mk_X6_in wl_X6_41 rfl rfl (Nat.le_of_ble_eq_true rfl) dX6_fits_15 h ?_
    rintro _ s4 ⟨r5, rfl, h⟩
    show Go _ _ 18 _ [.int r5] _ _
    refine Go.if_eq 29 dX6_fits_18 rfl ⟨fun c6 => ?_, fun c6 => (?_ : Go _ _ 21 _ _ _ _)⟩
    · have h := h.1 c6
      refine Go.iconst dX6_fits_29 k_ic_m1 (?_ : Go _ _ 30 _ _ _ _)
      exact Go.iret rfl dX6_fits_30 ⟨_, rfl, h⟩
    · have h := h.2 c6
      refine Go.aload_n 0 dX6_fits_21 rfl rfl (?_ : Go _ _ 22 _ _ _ _)
      refine Go.iload_n 3 dX6_fits_22 rfl rfl (?_ : Go _ _ 23 _ _ _ _)
      refine Go.callV (as := [.int x3]) (st := []) mk_X6_isTurn wl_X6_120 shq_64 rfl rfl (Nat.le_of_ble_eq_true rfl) dX6_fits_23 h ?_
      rintro _ s7 ⟨r8, rfl, h⟩
      show Go _ _ 26 _ [.int r8] _ _
      refine Go.if_ne 31 dX6_fits_26 rfl ⟨fun c9 => ?_, fun c9 => (?_ : Go _ _ 29 _ _ _ _)⟩
      · have h := h.1 c9
        refine Go.aload_n 0 dX6_fits_31 rfl rfl (?_ : Go _ _ 32 _ _ _ _)
        refine Go.callV (as := []) (st := []) mk_X6_listen wl_X6_117 shq_64 rfl rfl (Nat.le_of_ble_eq_true rfl) dX6_fits_32 h ?_
        rintro _ s10 ⟨rfl, h⟩
        show Go _ _ 35 _ [] _ _
        refine Go.aload_n 0 dX6_fits_35 rfl rfl (?_ : Go _ _ 36 _ _ _ _)
        refine Go.iload_n 1 dX6_fits_36 rfl rfl (?_ : Go _ _ 37 _ _ _ _)
        refine Go.iload_n 2 dX6_fits_37 rfl rfl (?_ : Go _ _ 38 _ _ _ _)
        refine Go.iload_n 3 dX6_fits_38 rfl rfl (?_ : Go _ _ 39 _ _ _ _)
        refine Go.callV (as := [.int x1, .int x2, .int x3]) (st := []) mk_X6_fit wl_X6_105 shq_64 rfl rfl (Nat.le_of_ble_eq_true rfl) dX6_fits_39 h ?_
        rintro _ s11 ⟨r12, rfl, h⟩
        show Go _ _ 42 _ [.int r12] _ _
        exact Go.iret rfl dX6_fits_42 ⟨_, rfl, h⟩
      · have h := h.2 c9
        refine Go.iconst dX6_fits_29 k_ic_m1 (?_ : Go _ _ 30 _ _ _ _)
        exact Go.iret rfl dX6_fits_30 ⟨_, rfl, h⟩
theorem cgX6_fits {d : Nat} {σ : St} {x1 : Int32} {x2 : Int32} {x3 : Int32} {K : Int32 → St → Prop} (h : CallI d mX6_in [.int x1, .int 1, .int 600] σ (fun r2 s1 => (r2 = 0 → K (-1) s1) ∧ (¬ r2 = 0 → CallI d mX6_in [.int x2, .int (-5), .int 5] s1 (fun r5 s4 => (r5 = 0 → K (-1) s4) ∧ (¬ r5 = 0 → CallI d mX6_isTurn [.ref 64, .int x3] s4 (fun r8 s7 => (¬ r8 = 0 → CallU d mX6_listen [.ref 64] s7 (fun s10 => CallI d mX6_fit [.ref 64, .int x1, .int x2, .int x3] s10 (fun r12 s11 => K r12 s11))) ∧ (r8 = 0 → K (-1) s7))))))) : CallI (d + 1) mX6_fits [.ref 64, .int x1, .int x2, .int x3] σ K := Call_of_Go (by decide +kernel) (ls := [.ref 64, .int x1, .int x2, .int x3]) rfl (Nat.le_of_ble_eq_true rfl) (sgX6_fits_0 h)
set_option maxHeartbeats 4000000 in
set_option maxRecDepth 100000 in
theorem sgX6_told_0 {d : Nat} {σ : St} {x1 : Int32} {x2 : Int32} {K : Int32 → St → Prop} (h : (x1 < 0 → K (-1) σ) ∧ (¬ x1 < 0 → CallI d mX6_in [.int x2, .int 0, .int 3] σ (fun r3 s2 => (¬ r3 = 0 → CallU d mX6_listen [.ref 64] s2 (fun s5 => Go mX6_told (d + 1) 24 [.ref 64, .int x1, .int x2, .int x1, .int 1, .null, .null] [] s5 (QI K))) ∧ (r3 = 0 → K (-1) s2)))) : Go mX6_told (d + 1) 0 [.ref 64, .int x1, .int x2, .null, .null, .null, .null] [] σ (QI K) := by
  refine Go.iload_n 1 dX6_told_0 rfl rfl (?_ : Go _ _ 1 _ _ _ _)
  refine Go.if_lt 13 dX6_told_1 rfl ⟨fun c1 => ?_, fun c1 => (?_ : Go _ _ 4 _ _ _ _)⟩
  · have h := h.1 c1
    refine Go.iconst dX6_told_13 k_ic_m1 (?_ : Go _ _ 14 _ _ _ _)
    exact Go.iret rfl dX6_told_14 ⟨_, rfl, h⟩
  · have h := h.2 c1
    refine Go.iload_n 2 dX6_told_4 rfl rfl (?_ : Go _ _ 5 _ _ _ _)
    refine Go.iconst dX6_told_5 k_ic_0 (?_ : Go _ _ 6 _ _ _ _)
    refine Go.iconst dX6_told_6 k_ic_3 (?_ : Go _ _ 7 _ _ _ _)
    refine Go.callS (as := [.int x2, .int 0, .int 3]) (st := []) mk_X6_in wl_X6_41 rfl rfl (Nat.le_of_ble_eq_true rfl) dX6_told_7 h ?_
    rintro _ s2 ⟨r3, rfl, h⟩
    show Go _ _ 10 _ [.int r3] _ _
    refine Go.if_ne 15 dX6_told_10 rfl ⟨fun c4 => ?_, fun c4 => (?_ : Go _ _ 13 _ _ _ _)⟩
    · have h := h.1 c4
      refine Go.aload_n 0 dX6_told_15 rfl rfl (?_ : Go _ _ 16 _ _ _ _)
      refine Go.callV (as := []) (st := []) mk_X6_listen wl_X6_117 shq_64 rfl rfl (Nat.le_of_ble_eq_true rfl) dX6_told_16 h ?_
      rintro _ s5 ⟨rfl, h⟩
      show Go _ _ 19 _ [] _ _
      refine Go.iload_n 1 dX6_told_19 rfl rfl (?_ : Go _ _ 20 _ _ _ _)
      refine Go.istore_n 3 dX6_told_20 rfl (by decide) rfl rfl (?_ : Go _ _ 21 [.ref 64, .int x1, .int x2, .int x1, .null, .null, .null] _ _ _)
      refine Go.iconst dX6_told_21 k_ic_1 (?_ : Go _ _ 22 _ _ _ _)
      refine Go.istore dX6_told_22 (by decide) rfl rfl (?_ : Go _ _ 24 [.ref 64, .int x1, .int x2, .int x1, .int 1, .null, .null] _ _ _)
      exact h
    · have h := h.2 c4
      refine Go.iconst dX6_told_13 k_ic_m1 (?_ : Go _ _ 14 _ _ _ _)
      exact Go.iret rfl dX6_told_14 ⟨_, rfl, h⟩
theorem cgX6_told {d : Nat} {σ : St} {x1 : Int32} {x2 : Int32} {K : Int32 → St → Prop} (h : (x1 < 0 → K (-1) σ) ∧ (¬ x1 < 0 → CallI d mX6_in [.int x2, .int 0, .int 3] σ (fun r3 s2 => (¬ r3 = 0 → CallU d mX6_listen [.ref 64] s2 (fun s5 => Go mX6_told (d + 1) 24 [.ref 64, .int x1, .int x2, .int x1, .int 1, .null, .null] [] s5 (QI K))) ∧ (r3 = 0 → K (-1) s2)))) : CallI (d + 1) mX6_told [.ref 64, .int x1, .int x2] σ K := Call_of_Go (by decide +kernel) (ls := [.ref 64, .int x1, .int x2, .null, .null, .null, .null]) rfl (Nat.le_of_ble_eq_true rfl) (sgX6_told_0 h)
set_option maxHeartbeats 4000000 in
set_option maxRecDepth 100000 in
theorem sgX6_told_24 {d : Nat} {σ : St} {v1 : Int32} {v2 : Int32} {v3 : Int32} {v4 : Int32} {K : Int32 → St → Prop} (h : (600 < v4 → K (-4) σ) ∧ (¬ 600 < v4 → Go mX6_told (d + 1) 36 [.ref 64, .int v1, .int v2, .int v3, .int v4, .int (-5), .null] [] σ (QI K))) : Go mX6_told (d + 1) 24 [.ref 64, .int v1, .int v2, .int v3, .int v4, .null, .null] [] σ (QI K) := by
  refine Go.iload dX6_told_24 rfl (?_ : Go _ _ 26 _ _ _ _)
  refine Go.sipush dX6_told_26 k_si_600 (?_ : Go _ _ 29 _ _ _ _)
  refine Go.icmp_gt 124 dX6_told_29 rfl ⟨fun c1 => ?_, fun c1 => (?_ : Go _ _ 32 _ _ _ _)⟩
  · have h := h.1 c1
    refine Go.bipush dX6_told_124 k_bi_m4 (?_ : Go _ _ 126 _ _ _ _)
    exact Go.iret rfl dX6_told_126 ⟨_, rfl, h⟩
  · have h := h.2 c1
    refine Go.bipush dX6_told_32 k_bi_m5 (?_ : Go _ _ 34 _ _ _ _)
    refine Go.istore dX6_told_34 (by decide) rfl rfl (?_ : Go _ _ 36 [.ref 64, .int v1, .int v2, .int v3, .int v4, .int (-5), .null] _ _ _)
    exact h
set_option maxHeartbeats 4000000 in
set_option maxRecDepth 100000 in
theorem sgX6_told_36 {d : Nat} {σ : St} {v1 : Int32} {v2 : Int32} {v3 : Int32} {v4 : Int32} {v5 : Int32} {K : Int32 → St → Prop} (h : (5 < v5 → Go mX6_told (d + 1) 24 [.ref 64, .int v1, .int v2, .int v3, .int (v4 + 1), .null, .null] [] σ (QI K)) ∧ (¬ 5 < v5 → CallI d mX6_fitting [.ref 64, .int v4, .int v5] σ (fun r3 s2 => (r3 ≤ 0 → Go mX6_told (d + 1) 36 [.ref 64, .int v1, .int v2, .int v3, .int v4, .int (v5 + 1), .null] [] s2 (QI K)) ∧ (¬ r3 ≤ 0 → (¬ v3 = 0 → Go mX6_told (d + 1) 36 [.ref 64, .int v1, .int v2, .int (v3 + (-1)), .int v4, .int (v5 + 1), .null] [] s2 (QI K)) ∧ (v3 = 0 → (¬ v2 = 0 → (¬ v2 = 1 → (¬ v2 = 2 → K r3 s2) ∧ (v2 = 2 → CallI d mX6_isTrue [.ref 64, .int v4, .int v5] s2 (fun r10 s9 => (r10 = 0 → K 0 s9) ∧ (¬ r10 = 0 → K 1 s9)))) ∧ (v2 = 1 → K (v5 + 5) s2)) ∧ (v2 = 0 → K v4 s2)))))) : Go mX6_told (d + 1) 36 [.ref 64, .int v1, .int v2, .int v3, .int v4, .int v5, .null] [] σ (QI K) := by
  refine Go.iload dX6_told_36 rfl (?_ : Go _ _ 38 _ _ _ _)
  refine Go.iconst dX6_told_38 k_ic_5 (?_ : Go _ _ 39 _ _ _ _)
  refine Go.icmp_gt 118 dX6_told_39 rfl ⟨fun c1 => ?_, fun c1 => (?_ : Go _ _ 42 _ _ _ _)⟩
  · have h := h.1 c1
    refine Go.iinc dX6_told_118 rfl (congrArg (fun z => v4 + z) k_ic_1) (by decide) rfl rfl (?_ : Go _ _ 121 [.ref 64, .int v1, .int v2, .int v3, .int (v4 + 1), .int v5, .null] _ _ _)
    refine Go.goto 24 dX6_told_121 rfl ?_
    refine Go.drop (ls' := [.ref 64, .int v1, .int v2, .int v3, .int (v4 + 1), .null, .null]) 5 rfl ?_
    exact h
  · have h := h.2 c1
    refine Go.aload_n 0 dX6_told_42 rfl rfl (?_ : Go _ _ 43 _ _ _ _)
    refine Go.iload dX6_told_43 rfl (?_ : Go _ _ 45 _ _ _ _)
    refine Go.iload dX6_told_45 rfl (?_ : Go _ _ 47 _ _ _ _)
    refine Go.callV (as := [.int v4, .int v5]) (st := []) mk_X6_fitting wl_X6_108 shq_64 rfl rfl (Nat.le_of_ble_eq_true rfl) dX6_told_47 h ?_
    rintro _ s2 ⟨r3, rfl, h⟩
    show Go _ _ 50 _ [.int r3] _ _
    refine Go.istore dX6_told_50 (by decide) rfl rfl (?_ : Go _ _ 52 [.ref 64, .int v1, .int v2, .int v3, .int v4, .int v5, .int r3] _ _ _)
    refine Go.iload dX6_told_52 rfl (?_ : Go _ _ 54 _ _ _ _)
    refine Go.if_le 112 dX6_told_54 rfl ⟨fun c4 => ?_, fun c4 => (?_ : Go _ _ 57 _ _ _ _)⟩
    · have h := h.1 c4
      refine Go.iinc dX6_told_112 rfl (congrArg (fun z => v5 + z) k_ic_1) (by decide) rfl rfl (?_ : Go _ _ 115 [.ref 64, .int v1, .int v2, .int v3, .int v4, .int (v5 + 1), .int r3] _ _ _)
      refine Go.goto 36 dX6_told_115 rfl ?_
      refine Go.drop (ls' := [.ref 64, .int v1, .int v2, .int v3, .int v4, .int (v5 + 1), .null]) 6 rfl ?_
      exact h
    · have h := h.2 c4
      refine Go.iload_n 3 dX6_told_57 rfl rfl (?_ : Go _ _ 58 _ _ _ _)
      refine Go.if_ne 109 dX6_told_58 rfl ⟨fun c5 => ?_, fun c5 => (?_ : Go _ _ 61 _ _ _ _)⟩
      · have h := h.1 c5
        refine Go.iinc dX6_told_109 rfl (congrArg (fun z => v3 + z) k_ic_m1) (by decide) rfl rfl (?_ : Go _ _ 112 [.ref 64, .int v1, .int v2, .int (v3 + (-1)), .int v4, .int v5, .int r3] _ _ _)
        refine Go.iinc dX6_told_112 rfl (congrArg (fun z => v5 + z) k_ic_1) (by decide) rfl rfl (?_ : Go _ _ 115 [.ref 64, .int v1, .int v2, .int (v3 + (-1)), .int v4, .int (v5 + 1), .int r3] _ _ _)
        refine Go.goto 36 dX6_told_115 rfl ?_
        refine Go.drop (ls' := [.ref 64, .int v1, .int v2, .int (v3 + (-1)), .int v4, .int (v5 + 1), .null]) 6 rfl ?_
        exact h
      · have h := h.2 c5
        refine Go.iload_n 2 dX6_told_61 rfl rfl (?_ : Go _ _ 62 _ _ _ _)
        refine Go.if_ne 70 dX6_told_62 rfl ⟨fun c6 => ?_, fun c6 => (?_ : Go _ _ 65 _ _ _ _)⟩
        · have h := h.1 c6
          refine Go.iload_n 2 dX6_told_70 rfl rfl (?_ : Go _ _ 71 _ _ _ _)
          refine Go.iconst dX6_told_71 k_ic_1 (?_ : Go _ _ 72 _ _ _ _)
          refine Go.icmp_ne 82 dX6_told_72 rfl ⟨fun c7 => ?_, fun c7 => (?_ : Go _ _ 75 _ _ _ _)⟩
          · have h := h.1 c7
            refine Go.iload_n 2 dX6_told_82 rfl rfl (?_ : Go _ _ 83 _ _ _ _)
            refine Go.iconst dX6_told_83 k_ic_2 (?_ : Go _ _ 84 _ _ _ _)
            refine Go.icmp_ne 106 dX6_told_84 rfl ⟨fun c8 => ?_, fun c8 => (?_ : Go _ _ 87 _ _ _ _)⟩
            · have h := h.1 c8
              refine Go.iload dX6_told_106 rfl (?_ : Go _ _ 108 _ _ _ _)
              exact Go.iret rfl dX6_told_108 ⟨_, rfl, h⟩
            · have h := h.2 c8
              refine Go.aload_n 0 dX6_told_87 rfl rfl (?_ : Go _ _ 88 _ _ _ _)
              refine Go.iload dX6_told_88 rfl (?_ : Go _ _ 90 _ _ _ _)
              refine Go.iload dX6_told_90 rfl (?_ : Go _ _ 92 _ _ _ _)
              refine Go.callV (as := [.int v4, .int v5]) (st := []) mk_X6_isTrue wl_X6_111 shq_64 rfl rfl (Nat.le_of_ble_eq_true rfl) dX6_told_92 h ?_
              rintro _ s9 ⟨r10, rfl, h⟩
              show Go _ _ 95 _ [.int r10] _ _
              refine Go.if_eq 102 dX6_told_95 rfl ⟨fun c11 => ?_, fun c11 => (?_ : Go _ _ 98 _ _ _ _)⟩
              · have h := h.1 c11
                refine Go.iconst dX6_told_102 k_ic_0 (?_ : Go _ _ 103 _ _ _ _)
                refine Go.goto 108 dX6_told_103 rfl ?_
                exact Go.iret rfl dX6_told_108 ⟨_, rfl, h⟩
              · have h := h.2 c11
                refine Go.iconst dX6_told_98 k_ic_1 (?_ : Go _ _ 99 _ _ _ _)
                refine Go.goto 108 dX6_told_99 rfl ?_
                exact Go.iret rfl dX6_told_108 ⟨_, rfl, h⟩
          · have h := h.2 c7
            refine Go.iload dX6_told_75 rfl (?_ : Go _ _ 77 _ _ _ _)
            refine Go.iconst dX6_told_77 k_ic_5 (?_ : Go _ _ 78 _ _ _ _)
            refine Go.iadd dX6_told_78 (?_ : Go _ _ 79 _ _ _ _)
            refine Go.goto 108 dX6_told_79 rfl ?_
            exact Go.iret rfl dX6_told_108 ⟨_, rfl, h⟩
        · have h := h.2 c6
          refine Go.iload dX6_told_65 rfl (?_ : Go _ _ 67 _ _ _ _)
          refine Go.goto 108 dX6_told_67 rfl ?_
          exact Go.iret rfl dX6_told_108 ⟨_, rfl, h⟩
set_option maxHeartbeats 4000000 in
set_option maxRecDepth 100000 in
theorem sgX6_divisor_0 {d : Nat} {σ : St} {x0 : Int32} {x1 : Int32} {K : Int32 → St → Prop} (h : Go mX6_divisor (d + 1) 4 [.int x0, .int x1, .int x0, .int x1, .null] [] σ (QI K)) : Go mX6_divisor (d + 1) 0 [.int x0, .int x1, .null, .null, .null] [] σ (QI K) := by
  refine Go.iload_n 0 dX6_divisor_0 rfl rfl (?_ : Go _ _ 1 _ _ _ _)
  refine Go.istore_n 2 dX6_divisor_1 rfl (by decide) rfl rfl (?_ : Go _ _ 2 [.int x0, .int x1, .int x0, .null, .null] _ _ _)
  refine Go.iload_n 1 dX6_divisor_2 rfl rfl (?_ : Go _ _ 3 _ _ _ _)
  refine Go.istore_n 3 dX6_divisor_3 rfl (by decide) rfl rfl (?_ : Go _ _ 4 [.int x0, .int x1, .int x0, .int x1, .null] _ _ _)
  exact h
theorem cgX6_divisor {d : Nat} {σ : St} {x0 : Int32} {x1 : Int32} {K : Int32 → St → Prop} (h : Go mX6_divisor (d + 1) 4 [.int x0, .int x1, .int x0, .int x1, .null] [] σ (QI K)) : CallI (d + 1) mX6_divisor [.int x0, .int x1] σ K := Call_of_Go (by decide +kernel) (ls := [.int x0, .int x1, .null, .null, .null]) rfl (Nat.le_of_ble_eq_true rfl) (sgX6_divisor_0 h)
set_option maxHeartbeats 4000000 in
set_option maxRecDepth 100000 in
theorem sgX6_divisor_4 {d : Nat} {σ : St} {v0 : Int32} {v1 : Int32} {v2 : Int32} {v3 : Int32} {K : Int32 → St → Prop} (h : (v3 ≤ 0 → K v2 σ) ∧ (¬ v3 ≤ 0 → (¬ v3 = 0) ∧ Go mX6_divisor (d + 1) 4 [.int v0, .int v1, .int v3, .int (irem v2 v3), .null] [] σ (QI K))) : Go mX6_divisor (d + 1) 4 [.int v0, .int v1, .int v2, .int v3, .null] [] σ (QI K) := by
  refine Go.iload_n 3 dX6_divisor_4 rfl rfl (?_ : Go _ _ 5 _ _ _ _)
  refine Go.if_le 21 dX6_divisor_5 rfl ⟨fun c1 => ?_, fun c1 => (?_ : Go _ _ 8 _ _ _ _)⟩
  · have h := h.1 c1
    refine Go.iload_n 2 dX6_divisor_21 rfl rfl (?_ : Go _ _ 22 _ _ _ _)
    exact Go.iret rfl dX6_divisor_22 ⟨_, rfl, h⟩
  · have h := h.2 c1
    refine Go.iload_n 2 dX6_divisor_8 rfl rfl (?_ : Go _ _ 9 _ _ _ _)
    refine Go.iload_n 3 dX6_divisor_9 rfl rfl (?_ : Go _ _ 10 _ _ _ _)
    refine Go.irem dX6_divisor_10 h.1 (?_ : Go _ _ 11 _ _ _ _)
    have h := h.2
    refine Go.istore dX6_divisor_11 (by decide) rfl rfl (?_ : Go _ _ 13 [.int v0, .int v1, .int v2, .int v3, .int (irem v2 v3)] _ _ _)
    refine Go.iload_n 3 dX6_divisor_13 rfl rfl (?_ : Go _ _ 14 _ _ _ _)
    refine Go.istore_n 2 dX6_divisor_14 rfl (by decide) rfl rfl (?_ : Go _ _ 15 [.int v0, .int v1, .int v3, .int v3, .int (irem v2 v3)] _ _ _)
    refine Go.iload dX6_divisor_15 rfl (?_ : Go _ _ 17 _ _ _ _)
    refine Go.istore_n 3 dX6_divisor_17 rfl (by decide) rfl rfl (?_ : Go _ _ 18 [.int v0, .int v1, .int v3, .int (irem v2 v3), .int (irem v2 v3)] _ _ _)
    refine Go.goto 4 dX6_divisor_18 rfl ?_
    refine Go.drop (ls' := [.int v0, .int v1, .int v3, .int (irem v2 v3), .null]) 4 rfl ?_
    exact h
set_option maxHeartbeats 4000000 in
set_option maxRecDepth 100000 in
theorem sgX6_alike_0 {d : Nat} {σ : St} {x1 : Int32} {K : Int32 → St → Prop} (h : CallI d mX6_in [.int x1, .int 0, .int 1] σ (fun r2 s1 => (¬ r2 = 0 → Go mX6_alike (d + 1) 15 [.ref 64, .int x1, .int 1, .int 0] [] s1 (QI K)) ∧ (r2 = 0 → K (-1) s1))) : Go mX6_alike (d + 1) 0 [.ref 64, .int x1, .null, .null] [] σ (QI K) := by
  refine Go.iload_n 1 dX6_alike_0 rfl rfl (?_ : Go _ _ 1 _ _ _ _)
  refine Go.iconst dX6_alike_1 k_ic_0 (?_ : Go _ _ 2 _ _ _ _)
  refine Go.iconst dX6_alike_2 k_ic_1 (?_ : Go _ _ 3 _ _ _ _)
  refine Go.callS (as := [.int x1, .int 0, .int 1]) (st := []) mk_X6_in wl_X6_41 rfl rfl (Nat.le_of_ble_eq_true rfl) dX6_alike_3 h ?_
  rintro _ s1 ⟨r2, rfl, h⟩
  show Go _ _ 6 _ [.int r2] _ _
  refine Go.if_ne 11 dX6_alike_6 rfl ⟨fun c3 => ?_, fun c3 => (?_ : Go _ _ 9 _ _ _ _)⟩
  · have h := h.1 c3
    refine Go.iconst dX6_alike_11 k_ic_1 (?_ : Go _ _ 12 _ _ _ _)
    refine Go.istore_n 2 dX6_alike_12 rfl (by decide) rfl rfl (?_ : Go _ _ 13 [.ref 64, .int x1, .int 1, .null] _ _ _)
    refine Go.iconst dX6_alike_13 k_ic_0 (?_ : Go _ _ 14 _ _ _ _)
    refine Go.istore_n 3 dX6_alike_14 rfl (by decide) rfl rfl (?_ : Go _ _ 15 [.ref 64, .int x1, .int 1, .int 0] _ _ _)
    exact h
  · have h := h.2 c3
    refine Go.iconst dX6_alike_9 k_ic_m1 (?_ : Go _ _ 10 _ _ _ _)
    exact Go.iret rfl dX6_alike_10 ⟨_, rfl, h⟩
theorem cgX6_alike {d : Nat} {σ : St} {x1 : Int32} {K : Int32 → St → Prop} (h : CallI d mX6_in [.int x1, .int 0, .int 1] σ (fun r2 s1 => (¬ r2 = 0 → Go mX6_alike (d + 1) 15 [.ref 64, .int x1, .int 1, .int 0] [] s1 (QI K)) ∧ (r2 = 0 → K (-1) s1))) : CallI (d + 1) mX6_alike [.ref 64, .int x1] σ K := Call_of_Go (by decide +kernel) (ls := [.ref 64, .int x1, .null, .null]) rfl (Nat.le_of_ble_eq_true rfl) (sgX6_alike_0 h)
set_option maxHeartbeats 4000000 in
set_option maxRecDepth 100000 in
theorem sgX6_alike_15 {d : Nat} {σ : St} {v1 : Int32} {v2 : Int32} {v3 : Int32} {K : Int32 → St → Prop} (h : ((sA σ 65 1) ≤ v3 → K v2 σ) ∧ (¬ (sA σ 65 1) ≤ v3 → vp_in (2 + v3) 32 ∧ CallI d mX6_divisor [.int v2, .int (sA σ 65 (ix (2 + v3)))] σ (fun r3 s2 => (¬ r3 = 0) ∧ vp_in (2 + v3) 32 ∧ Go mX6_alike (d + 1) 15 [.ref 64, .int v1, .int ((v2 / r3) * (sA s2 65 (ix (2 + v3)))), .int (v3 + 1)] [] s2 (QI K)))) : Go mX6_alike (d + 1) 15 [.ref 64, .int v1, .int v2, .int v3] [] σ (QI K) := by
  refine Go.iload_n 3 dX6_alike_15 rfl rfl (?_ : Go _ _ 16 _ _ _ _)
  refine Go.aload_n 0 dX6_alike_16 rfl rfl (?_ : Go _ _ 17 _ _ _ _)
  refine Go.getR fk_X6_7 shq_64 frq_64_0 dX6_alike_17 (?_ : Go _ _ 20 _ _ _ _)
  refine Go.iconst dX6_alike_20 k_ic_1 (?_ : Go _ _ 21 _ _ _ _)
  refine Go.ialdK ixk_1 vik_1_32 shq_65 dX6_alike_21 (?_ : Go _ _ 22 _ _ _ _)
  refine Go.icmp_ge 55 dX6_alike_22 rfl ⟨fun c1 => ?_, fun c1 => (?_ : Go _ _ 25 _ _ _ _)⟩
  · have h := h.1 c1
    refine Go.iload_n 2 dX6_alike_55 rfl rfl (?_ : Go _ _ 56 _ _ _ _)
    exact Go.iret rfl dX6_alike_56 ⟨_, rfl, h⟩
  · have h := h.2 c1
    refine Go.iload_n 2 dX6_alike_25 rfl rfl (?_ : Go _ _ 26 _ _ _ _)
    refine Go.iload_n 2 dX6_alike_26 rfl rfl (?_ : Go _ _ 27 _ _ _ _)
    refine Go.aload_n 0 dX6_alike_27 rfl rfl (?_ : Go _ _ 28 _ _ _ _)
    refine Go.getR fk_X6_7 shq_64 frq_64_0 dX6_alike_28 (?_ : Go _ _ 31 _ _ _ _)
    refine Go.iconst dX6_alike_31 k_ic_2 (?_ : Go _ _ 32 _ _ _ _)
    refine Go.iload_n 3 dX6_alike_32 rfl rfl (?_ : Go _ _ 33 _ _ _ _)
    refine Go.iadd dX6_alike_33 (?_ : Go _ _ 34 _ _ _ _)
    refine Go.iald shq_65 dX6_alike_34 ⟨h.1, (?_ : Go _ _ 35 _ _ _ _)⟩
    have h := h.2
    refine Go.callS (as := [.int v2, .int (sA σ 65 (ix (2 + v3)))]) (st := [.int v2]) mk_X6_divisor wl_X6_123 rfl rfl (Nat.le_of_ble_eq_true rfl) dX6_alike_35 h ?_
    rintro _ s2 ⟨r3, rfl, h⟩
    show Go _ _ 38 _ [.int r3, .int v2] _ _
    refine Go.idiv dX6_alike_38 h.1 (?_ : Go _ _ 39 _ _ _ _)
    have h := h.2
    refine Go.aload_n 0 dX6_alike_39 rfl rfl (?_ : Go _ _ 40 _ _ _ _)
    refine Go.getR fk_X6_7 shq_64 frq_64_0 dX6_alike_40 (?_ : Go _ _ 43 _ _ _ _)
    refine Go.iconst dX6_alike_43 k_ic_2 (?_ : Go _ _ 44 _ _ _ _)
    refine Go.iload_n 3 dX6_alike_44 rfl rfl (?_ : Go _ _ 45 _ _ _ _)
    refine Go.iadd dX6_alike_45 (?_ : Go _ _ 46 _ _ _ _)
    refine Go.iald shq_65 dX6_alike_46 ⟨h.1, (?_ : Go _ _ 47 _ _ _ _)⟩
    have h := h.2
    refine Go.imul dX6_alike_47 (?_ : Go _ _ 48 _ _ _ _)
    refine Go.istore_n 2 dX6_alike_48 rfl (by decide) rfl rfl (?_ : Go _ _ 49 [.ref 64, .int v1, .int ((v2 / r3) * (sA s2 65 (ix (2 + v3)))), .int v3] _ _ _)
    refine Go.iinc dX6_alike_49 rfl (congrArg (fun z => v3 + z) k_ic_1) (by decide) rfl rfl (?_ : Go _ _ 52 [.ref 64, .int v1, .int ((v2 / r3) * (sA s2 65 (ix (2 + v3)))), .int (v3 + 1)] _ _ _)
    refine Go.goto 15 dX6_alike_52 rfl ?_
    exact h
set_option maxHeartbeats 4000000 in
set_option maxRecDepth 100000 in
theorem sgX6_unfold_0 {d : Nat} {σ : St} {x1 : Int32} {x2 : Int32} {x3 : Int32} {K : Int32 → St → Prop} (h : ((sA σ 65 1) ≤ 1 → CallI d mX6_in [.int x1, .int 0, .int ((sA σ 65 2) - 1)] σ (fun r3 s2 => (r3 = 0 → K (-1) s2) ∧ (¬ r3 = 0 → CallI d mX6_in [.int x2, .int 0, .int (1 - 1)] s2 (fun r6 s5 => (r6 = 0 → K (-1) s5) ∧ (¬ r6 = 0 → CallI d mX6_in [.int x3, .int 0, .int 1] s5 (fun r9 s8 => (¬ r9 = 0 → Go mX6_unfold (d + 1) 68 [.ref 64, .int x1, .int x2, .int x3, .int (sA σ 65 2), .int 1, .int 0] [] s8 (QI K)) ∧ (r9 = 0 → K (-1) s8))))))) ∧ (¬ (sA σ 65 1) ≤ 1 → CallI d mX6_in [.int x1, .int 0, .int ((sA σ 65 2) - 1)] σ (fun r12 s11 => (r12 = 0 → K (-1) s11) ∧ (¬ r12 = 0 → CallI d mX6_in [.int x2, .int 0, .int ((sA σ 65 3) - 1)] s11 (fun r15 s14 => (r15 = 0 → K (-1) s14) ∧ (¬ r15 = 0 → CallI d mX6_in [.int x3, .int 0, .int 1] s14 (fun r18 s17 => (¬ r18 = 0 → Go mX6_unfold (d + 1) 68 [.ref 64, .int x1, .int x2, .int x3, .int (sA σ 65 2), .int (sA σ 65 3), .int 0] [] s17 (QI K)) ∧ (r18 = 0 → K (-1) s17)))))))) : Go mX6_unfold (d + 1) 0 [.ref 64, .int x1, .int x2, .int x3, .null, .null, .null] [] σ (QI K) := by
  refine Go.aload_n 0 dX6_unfold_0 rfl rfl (?_ : Go _ _ 1 _ _ _ _)
  refine Go.getR fk_X6_7 shq_64 frq_64_0 dX6_unfold_1 (?_ : Go _ _ 4 _ _ _ _)
  refine Go.iconst dX6_unfold_4 k_ic_2 (?_ : Go _ _ 5 _ _ _ _)
  refine Go.ialdK ixk_2 vik_2_32 shq_65 dX6_unfold_5 (?_ : Go _ _ 6 _ _ _ _)
  refine Go.istore dX6_unfold_6 (by decide) rfl rfl (?_ : Go _ _ 8 [.ref 64, .int x1, .int x2, .int x3, .int (sA σ 65 2), .null, .null] _ _ _)
  refine Go.aload_n 0 dX6_unfold_8 rfl rfl (?_ : Go _ _ 9 _ _ _ _)
  refine Go.getR fk_X6_7 shq_64 frq_64_0 dX6_unfold_9 (?_ : Go _ _ 12 _ _ _ _)
  refine Go.iconst dX6_unfold_12 k_ic_1 (?_ : Go _ _ 13 _ _ _ _)
  refine Go.ialdK ixk_1 vik_1_32 shq_65 dX6_unfold_13 (?_ : Go _ _ 14 _ _ _ _)
  refine Go.iconst dX6_unfold_14 k_ic_1 (?_ : Go _ _ 15 _ _ _ _)
  refine Go.icmp_le 27 dX6_unfold_15 rfl ⟨fun c1 => ?_, fun c1 => (?_ : Go _ _ 18 _ _ _ _)⟩
  · have h := h.1 c1
    refine Go.iconst dX6_unfold_27 k_ic_1 (?_ : Go _ _ 28 _ _ _ _)
    refine Go.istore dX6_unfold_28 (by decide) rfl rfl (?_ : Go _ _ 30 [.ref 64, .int x1, .int x2, .int x3, .int (sA σ 65 2), .int 1, .null] _ _ _)
    refine Go.iload_n 1 dX6_unfold_30 rfl rfl (?_ : Go _ _ 31 _ _ _ _)
    refine Go.iconst dX6_unfold_31 k_ic_0 (?_ : Go _ _ 32 _ _ _ _)
    refine Go.iload dX6_unfold_32 rfl (?_ : Go _ _ 34 _ _ _ _)
    refine Go.iconst dX6_unfold_34 k_ic_1 (?_ : Go _ _ 35 _ _ _ _)
    refine Go.isub dX6_unfold_35 (?_ : Go _ _ 36 _ _ _ _)
    refine Go.callS (as := [.int x1, .int 0, .int ((sA σ 65 2) - 1)]) (st := []) mk_X6_in wl_X6_41 rfl rfl (Nat.le_of_ble_eq_true rfl) dX6_unfold_36 h ?_
    rintro _ s2 ⟨r3, rfl, h⟩
    show Go _ _ 39 _ [.int r3] _ _
    refine Go.if_eq 63 dX6_unfold_39 rfl ⟨fun c4 => ?_, fun c4 => (?_ : Go _ _ 42 _ _ _ _)⟩
    · have h := h.1 c4
      refine Go.iconst dX6_unfold_63 k_ic_m1 (?_ : Go _ _ 64 _ _ _ _)
      exact Go.iret rfl dX6_unfold_64 ⟨_, rfl, h⟩
    · have h := h.2 c4
      refine Go.iload_n 2 dX6_unfold_42 rfl rfl (?_ : Go _ _ 43 _ _ _ _)
      refine Go.iconst dX6_unfold_43 k_ic_0 (?_ : Go _ _ 44 _ _ _ _)
      refine Go.iload dX6_unfold_44 rfl (?_ : Go _ _ 46 _ _ _ _)
      refine Go.iconst dX6_unfold_46 k_ic_1 (?_ : Go _ _ 47 _ _ _ _)
      refine Go.isub dX6_unfold_47 (?_ : Go _ _ 48 _ _ _ _)
      refine Go.callS (as := [.int x2, .int 0, .int (1 - 1)]) (st := []) mk_X6_in wl_X6_41 rfl rfl (Nat.le_of_ble_eq_true rfl) dX6_unfold_48 h ?_
      rintro _ s5 ⟨r6, rfl, h⟩
      show Go _ _ 51 _ [.int r6] _ _
      refine Go.if_eq 63 dX6_unfold_51 rfl ⟨fun c7 => ?_, fun c7 => (?_ : Go _ _ 54 _ _ _ _)⟩
      · have h := h.1 c7
        refine Go.iconst dX6_unfold_63 k_ic_m1 (?_ : Go _ _ 64 _ _ _ _)
        exact Go.iret rfl dX6_unfold_64 ⟨_, rfl, h⟩
      · have h := h.2 c7
        refine Go.iload_n 3 dX6_unfold_54 rfl rfl (?_ : Go _ _ 55 _ _ _ _)
        refine Go.iconst dX6_unfold_55 k_ic_0 (?_ : Go _ _ 56 _ _ _ _)
        refine Go.iconst dX6_unfold_56 k_ic_1 (?_ : Go _ _ 57 _ _ _ _)
        refine Go.callS (as := [.int x3, .int 0, .int 1]) (st := []) mk_X6_in wl_X6_41 rfl rfl (Nat.le_of_ble_eq_true rfl) dX6_unfold_57 h ?_
        rintro _ s8 ⟨r9, rfl, h⟩
        show Go _ _ 60 _ [.int r9] _ _
        refine Go.if_ne 65 dX6_unfold_60 rfl ⟨fun c10 => ?_, fun c10 => (?_ : Go _ _ 63 _ _ _ _)⟩
        · have h := h.1 c10
          refine Go.iconst dX6_unfold_65 k_ic_0 (?_ : Go _ _ 66 _ _ _ _)
          refine Go.istore dX6_unfold_66 (by decide) rfl rfl (?_ : Go _ _ 68 [.ref 64, .int x1, .int x2, .int x3, .int (sA σ 65 2), .int 1, .int 0] _ _ _)
          exact h
        · have h := h.2 c10
          refine Go.iconst dX6_unfold_63 k_ic_m1 (?_ : Go _ _ 64 _ _ _ _)
          exact Go.iret rfl dX6_unfold_64 ⟨_, rfl, h⟩
  · have h := h.2 c1
    refine Go.aload_n 0 dX6_unfold_18 rfl rfl (?_ : Go _ _ 19 _ _ _ _)
    refine Go.getR fk_X6_7 shq_64 frq_64_0 dX6_unfold_19 (?_ : Go _ _ 22 _ _ _ _)
    refine Go.iconst dX6_unfold_22 k_ic_3 (?_ : Go _ _ 23 _ _ _ _)
    refine Go.ialdK ixk_3 vik_3_32 shq_65 dX6_unfold_23 (?_ : Go _ _ 24 _ _ _ _)
    refine Go.goto 28 dX6_unfold_24 rfl ?_
    refine Go.istore dX6_unfold_28 (by decide) rfl rfl (?_ : Go _ _ 30 [.ref 64, .int x1, .int x2, .int x3, .int (sA σ 65 2), .int (sA σ 65 3), .null] _ _ _)
    refine Go.iload_n 1 dX6_unfold_30 rfl rfl (?_ : Go _ _ 31 _ _ _ _)
    refine Go.iconst dX6_unfold_31 k_ic_0 (?_ : Go _ _ 32 _ _ _ _)
    refine Go.iload dX6_unfold_32 rfl (?_ : Go _ _ 34 _ _ _ _)
    refine Go.iconst dX6_unfold_34 k_ic_1 (?_ : Go _ _ 35 _ _ _ _)
    refine Go.isub dX6_unfold_35 (?_ : Go _ _ 36 _ _ _ _)
    refine Go.callS (as := [.int x1, .int 0, .int ((sA σ 65 2) - 1)]) (st := []) mk_X6_in wl_X6_41 rfl rfl (Nat.le_of_ble_eq_true rfl) dX6_unfold_36 h ?_
    rintro _ s11 ⟨r12, rfl, h⟩
    show Go _ _ 39 _ [.int r12] _ _
    refine Go.if_eq 63 dX6_unfold_39 rfl ⟨fun c13 => ?_, fun c13 => (?_ : Go _ _ 42 _ _ _ _)⟩
    · have h := h.1 c13
      refine Go.iconst dX6_unfold_63 k_ic_m1 (?_ : Go _ _ 64 _ _ _ _)
      exact Go.iret rfl dX6_unfold_64 ⟨_, rfl, h⟩
    · have h := h.2 c13
      refine Go.iload_n 2 dX6_unfold_42 rfl rfl (?_ : Go _ _ 43 _ _ _ _)
      refine Go.iconst dX6_unfold_43 k_ic_0 (?_ : Go _ _ 44 _ _ _ _)
      refine Go.iload dX6_unfold_44 rfl (?_ : Go _ _ 46 _ _ _ _)
      refine Go.iconst dX6_unfold_46 k_ic_1 (?_ : Go _ _ 47 _ _ _ _)
      refine Go.isub dX6_unfold_47 (?_ : Go _ _ 48 _ _ _ _)
      refine Go.callS (as := [.int x2, .int 0, .int ((sA σ 65 3) - 1)]) (st := []) mk_X6_in wl_X6_41 rfl rfl (Nat.le_of_ble_eq_true rfl) dX6_unfold_48 h ?_
      rintro _ s14 ⟨r15, rfl, h⟩
      show Go _ _ 51 _ [.int r15] _ _
      refine Go.if_eq 63 dX6_unfold_51 rfl ⟨fun c16 => ?_, fun c16 => (?_ : Go _ _ 54 _ _ _ _)⟩
      · have h := h.1 c16
        refine Go.iconst dX6_unfold_63 k_ic_m1 (?_ : Go _ _ 64 _ _ _ _)
        exact Go.iret rfl dX6_unfold_64 ⟨_, rfl, h⟩
      · have h := h.2 c16
        refine Go.iload_n 3 dX6_unfold_54 rfl rfl (?_ : Go _ _ 55 _ _ _ _)
        refine Go.iconst dX6_unfold_55 k_ic_0 (?_ : Go _ _ 56 _ _ _ _)
        refine Go.iconst dX6_unfold_56 k_ic_1 (?_ : Go _ _ 57 _ _ _ _)
        refine Go.callS (as := [.int x3, .int 0, .int 1]) (st := []) mk_X6_in wl_X6_41 rfl rfl (Nat.le_of_ble_eq_true rfl) dX6_unfold_57 h ?_
        rintro _ s17 ⟨r18, rfl, h⟩
        show Go _ _ 60 _ [.int r18] _ _
        refine Go.if_ne 65 dX6_unfold_60 rfl ⟨fun c19 => ?_, fun c19 => (?_ : Go _ _ 63 _ _ _ _)⟩
        · have h := h.1 c19
          refine Go.iconst dX6_unfold_65 k_ic_0 (?_ : Go _ _ 66 _ _ _ _)
          refine Go.istore dX6_unfold_66 (by decide) rfl rfl (?_ : Go _ _ 68 [.ref 64, .int x1, .int x2, .int x3, .int (sA σ 65 2), .int (sA σ 65 3), .int 0] _ _ _)
          exact h
        · have h := h.2 c19
          refine Go.iconst dX6_unfold_63 k_ic_m1 (?_ : Go _ _ 64 _ _ _ _)
          exact Go.iret rfl dX6_unfold_64 ⟨_, rfl, h⟩
theorem cgX6_unfold {d : Nat} {σ : St} {x1 : Int32} {x2 : Int32} {x3 : Int32} {K : Int32 → St → Prop} (h : ((sA σ 65 1) ≤ 1 → CallI d mX6_in [.int x1, .int 0, .int ((sA σ 65 2) - 1)] σ (fun r3 s2 => (r3 = 0 → K (-1) s2) ∧ (¬ r3 = 0 → CallI d mX6_in [.int x2, .int 0, .int (1 - 1)] s2 (fun r6 s5 => (r6 = 0 → K (-1) s5) ∧ (¬ r6 = 0 → CallI d mX6_in [.int x3, .int 0, .int 1] s5 (fun r9 s8 => (¬ r9 = 0 → Go mX6_unfold (d + 1) 68 [.ref 64, .int x1, .int x2, .int x3, .int (sA σ 65 2), .int 1, .int 0] [] s8 (QI K)) ∧ (r9 = 0 → K (-1) s8))))))) ∧ (¬ (sA σ 65 1) ≤ 1 → CallI d mX6_in [.int x1, .int 0, .int ((sA σ 65 2) - 1)] σ (fun r12 s11 => (r12 = 0 → K (-1) s11) ∧ (¬ r12 = 0 → CallI d mX6_in [.int x2, .int 0, .int ((sA σ 65 3) - 1)] s11 (fun r15 s14 => (r15 = 0 → K (-1) s14) ∧ (¬ r15 = 0 → CallI d mX6_in [.int x3, .int 0, .int 1] s14 (fun r18 s17 => (¬ r18 = 0 → Go mX6_unfold (d + 1) 68 [.ref 64, .int x1, .int x2, .int x3, .int (sA σ 65 2), .int (sA σ 65 3), .int 0] [] s17 (QI K)) ∧ (r18 = 0 → K (-1) s17)))))))) : CallI (d + 1) mX6_unfold [.ref 64, .int x1, .int x2, .int x3] σ K := Call_of_Go (by decide +kernel) (ls := [.ref 64, .int x1, .int x2, .int x3, .null, .null, .null]) rfl (Nat.le_of_ble_eq_true rfl) (sgX6_unfold_0 h)
set_option maxHeartbeats 4000000 in
set_option maxRecDepth 100000 in
theorem sgX6_unfold_68 {d : Nat} {σ : St} {v1 : Int32} {v2 : Int32} {v3 : Int32} {v4 : Int32} {v5 : Int32} {v6 : Int32} {K : Int32 → St → Prop} (h : (v5 ≤ v6 → K (-4) σ) ∧ (¬ v5 ≤ v6 → (¬ v5 = 0) ∧ (¬ (irem (v1 + (v6 * v4)) v5) = v2 → Go mX6_unfold (d + 1) 68 [.ref 64, .int v1, .int v2, .int v3, .int v4, .int v5, .int (v6 + 1)] [] σ (QI K)) ∧ ((irem (v1 + (v6 * v4)) v5) = v2 → K (v1 + (v6 * v4)) σ))) : Go mX6_unfold (d + 1) 68 [.ref 64, .int v1, .int v2, .int v3, .int v4, .int v5, .int v6] [] σ (QI K) := by
  refine Go.iload dX6_unfold_68 rfl (?_ : Go _ _ 70 _ _ _ _)
  refine Go.iload dX6_unfold_70 rfl (?_ : Go _ _ 72 _ _ _ _)
  refine Go.icmp_ge 103 dX6_unfold_72 rfl ⟨fun c1 => ?_, fun c1 => (?_ : Go _ _ 75 _ _ _ _)⟩
  · have h := h.1 c1
    refine Go.bipush dX6_unfold_103 k_bi_m4 (?_ : Go _ _ 105 _ _ _ _)
    exact Go.iret rfl dX6_unfold_105 ⟨_, rfl, h⟩
  · have h := h.2 c1
    refine Go.iload_n 1 dX6_unfold_75 rfl rfl (?_ : Go _ _ 76 _ _ _ _)
    refine Go.iload dX6_unfold_76 rfl (?_ : Go _ _ 78 _ _ _ _)
    refine Go.iload dX6_unfold_78 rfl (?_ : Go _ _ 80 _ _ _ _)
    refine Go.imul dX6_unfold_80 (?_ : Go _ _ 81 _ _ _ _)
    refine Go.iadd dX6_unfold_81 (?_ : Go _ _ 82 _ _ _ _)
    refine Go.iload dX6_unfold_82 rfl (?_ : Go _ _ 84 _ _ _ _)
    refine Go.irem dX6_unfold_84 h.1 (?_ : Go _ _ 85 _ _ _ _)
    have h := h.2
    refine Go.iload_n 2 dX6_unfold_85 rfl rfl (?_ : Go _ _ 86 _ _ _ _)
    refine Go.icmp_ne 97 dX6_unfold_86 rfl ⟨fun c2 => ?_, fun c2 => (?_ : Go _ _ 89 _ _ _ _)⟩
    · have h := h.1 c2
      refine Go.iinc dX6_unfold_97 rfl (congrArg (fun z => v6 + z) k_ic_1) (by decide) rfl rfl (?_ : Go _ _ 100 [.ref 64, .int v1, .int v2, .int v3, .int v4, .int v5, .int (v6 + 1)] _ _ _)
      refine Go.goto 68 dX6_unfold_100 rfl ?_
      exact h
    · have h := h.2 c2
      refine Go.iload_n 1 dX6_unfold_89 rfl rfl (?_ : Go _ _ 90 _ _ _ _)
      refine Go.iload dX6_unfold_90 rfl (?_ : Go _ _ 92 _ _ _ _)
      refine Go.iload dX6_unfold_92 rfl (?_ : Go _ _ 94 _ _ _ _)
      refine Go.imul dX6_unfold_94 (?_ : Go _ _ 95 _ _ _ _)
      refine Go.iadd dX6_unfold_95 (?_ : Go _ _ 96 _ _ _ _)
      exact Go.iret rfl dX6_unfold_96 ⟨_, rfl, h⟩
set_option maxHeartbeats 4000000 in
set_option maxRecDepth 100000 in
theorem sgX6_echoes_0 {d : Nat} {σ : St} {K : Int32 → St → Prop} (h : Go mX6_echoes (d + 1) 4 [.ref 64, .int 0, .int 0] [] σ (QI K)) : Go mX6_echoes (d + 1) 0 [.ref 64, .null, .null] [] σ (QI K) := by
  refine Go.iconst dX6_echoes_0 k_ic_0 (?_ : Go _ _ 1 _ _ _ _)
  refine Go.istore_n 1 dX6_echoes_1 rfl (by decide) rfl rfl (?_ : Go _ _ 2 [.ref 64, .int 0, .null] _ _ _)
  refine Go.iconst dX6_echoes_2 k_ic_0 (?_ : Go _ _ 3 _ _ _ _)
  refine Go.istore_n 2 dX6_echoes_3 rfl (by decide) rfl rfl (?_ : Go _ _ 4 [.ref 64, .int 0, .int 0] _ _ _)
  exact h
theorem cgX6_echoes {d : Nat} {σ : St} {K : Int32 → St → Prop} (h : Go mX6_echoes (d + 1) 4 [.ref 64, .int 0, .int 0] [] σ (QI K)) : CallI (d + 1) mX6_echoes [.ref 64] σ K := Call_of_Go (by decide +kernel) (ls := [.ref 64, .null, .null]) rfl (Nat.le_of_ble_eq_true rfl) (sgX6_echoes_0 h)
set_option maxHeartbeats 4000000 in
set_option maxRecDepth 100000 in
theorem sgX6_echoes_4 {d : Nat} {σ : St} {v1 : Int32} {v2 : Int32} {K : Int32 → St → Prop} (h : (2200 ≤ v2 → K v1 σ) ∧ (¬ 2200 ≤ v2 → vp_in v2 2200 ∧ ((sA σ 70 (ix v2)) ≤ 0 → Go mX6_echoes (d + 1) 4 [.ref 64, .int (v1 + 0), .int (v2 + 1)] [] σ (QI K)) ∧ (¬ (sA σ 70 (ix v2)) ≤ 0 → Go mX6_echoes (d + 1) 4 [.ref 64, .int (v1 + 1), .int (v2 + 1)] [] σ (QI K)))) : Go mX6_echoes (d + 1) 4 [.ref 64, .int v1, .int v2] [] σ (QI K) := by
  refine Go.iload_n 2 dX6_echoes_4 rfl rfl (?_ : Go _ _ 5 _ _ _ _)
  refine Go.sipush dX6_echoes_5 k_si_2200 (?_ : Go _ _ 8 _ _ _ _)
  refine Go.icmp_ge 34 dX6_echoes_8 rfl ⟨fun c1 => ?_, fun c1 => (?_ : Go _ _ 11 _ _ _ _)⟩
  · have h := h.1 c1
    refine Go.iload_n 1 dX6_echoes_34 rfl rfl (?_ : Go _ _ 35 _ _ _ _)
    exact Go.iret rfl dX6_echoes_35 ⟨_, rfl, h⟩
  · have h := h.2 c1
    refine Go.iload_n 1 dX6_echoes_11 rfl rfl (?_ : Go _ _ 12 _ _ _ _)
    refine Go.aload_n 0 dX6_echoes_12 rfl rfl (?_ : Go _ _ 13 _ _ _ _)
    refine Go.getR fk_X6_26 shq_64 frq_64_9 dX6_echoes_13 (?_ : Go _ _ 16 _ _ _ _)
    refine Go.iload_n 2 dX6_echoes_16 rfl rfl (?_ : Go _ _ 17 _ _ _ _)
    refine Go.iald shq_70 dX6_echoes_17 ⟨h.1, (?_ : Go _ _ 18 _ _ _ _)⟩
    have h := h.2
    refine Go.if_le 25 dX6_echoes_18 rfl ⟨fun c2 => ?_, fun c2 => (?_ : Go _ _ 21 _ _ _ _)⟩
    · have h := h.1 c2
      refine Go.iconst dX6_echoes_25 k_ic_0 (?_ : Go _ _ 26 _ _ _ _)
      refine Go.iadd dX6_echoes_26 (?_ : Go _ _ 27 _ _ _ _)
      refine Go.istore_n 1 dX6_echoes_27 rfl (by decide) rfl rfl (?_ : Go _ _ 28 [.ref 64, .int (v1 + 0), .int v2] _ _ _)
      refine Go.iinc dX6_echoes_28 rfl (congrArg (fun z => v2 + z) k_ic_1) (by decide) rfl rfl (?_ : Go _ _ 31 [.ref 64, .int (v1 + 0), .int (v2 + 1)] _ _ _)
      refine Go.goto 4 dX6_echoes_31 rfl ?_
      exact h
    · have h := h.2 c2
      refine Go.iconst dX6_echoes_21 k_ic_1 (?_ : Go _ _ 22 _ _ _ _)
      refine Go.goto 26 dX6_echoes_22 rfl ?_
      refine Go.iadd dX6_echoes_26 (?_ : Go _ _ 27 _ _ _ _)
      refine Go.istore_n 1 dX6_echoes_27 rfl (by decide) rfl rfl (?_ : Go _ _ 28 [.ref 64, .int (v1 + 1), .int v2] _ _ _)
      refine Go.iinc dX6_echoes_28 rfl (congrArg (fun z => v2 + z) k_ic_1) (by decide) rfl rfl (?_ : Go _ _ 31 [.ref 64, .int (v1 + 1), .int (v2 + 1)] _ _ _)
      refine Go.goto 4 dX6_echoes_31 rfl ?_
      exact h
set_option maxHeartbeats 4000000 in
set_option maxRecDepth 100000 in
theorem sgX6_lostMany_0 {d : Nat} {σ : St} {K : Int32 → St → Prop} (h : Go mX6_lostMany (d + 1) 4 [.ref 64, .int 0, .int 0, .null] [] σ (QI K)) : Go mX6_lostMany (d + 1) 0 [.ref 64, .null, .null, .null] [] σ (QI K) := by
  refine Go.iconst dX6_lostMany_0 k_ic_0 (?_ : Go _ _ 1 _ _ _ _)
  refine Go.istore_n 1 dX6_lostMany_1 rfl (by decide) rfl rfl (?_ : Go _ _ 2 [.ref 64, .int 0, .null, .null] _ _ _)
  refine Go.iconst dX6_lostMany_2 k_ic_0 (?_ : Go _ _ 3 _ _ _ _)
  refine Go.istore_n 2 dX6_lostMany_3 rfl (by decide) rfl rfl (?_ : Go _ _ 4 [.ref 64, .int 0, .int 0, .null] _ _ _)
  exact h
theorem cgX6_lostMany {d : Nat} {σ : St} {K : Int32 → St → Prop} (h : Go mX6_lostMany (d + 1) 4 [.ref 64, .int 0, .int 0, .null] [] σ (QI K)) : CallI (d + 1) mX6_lostMany [.ref 64] σ K := Call_of_Go (by decide +kernel) (ls := [.ref 64, .null, .null, .null]) rfl (Nat.le_of_ble_eq_true rfl) (sgX6_lostMany_0 h)
set_option maxHeartbeats 4000000 in
set_option maxRecDepth 100000 in
theorem sgX6_lostMany_4 {d : Nat} {σ : St} {v1 : Int32} {v2 : Int32} {K : Int32 → St → Prop} (h : ((sA σ 65 1) ≤ v2 → K v1 σ) ∧ (¬ (sA σ 65 1) ≤ v2 → Go mX6_lostMany (d + 1) 16 [.ref 64, .int v1, .int v2, .int 0] [] σ (QI K))) : Go mX6_lostMany (d + 1) 4 [.ref 64, .int v1, .int v2, .null] [] σ (QI K) := by
  refine Go.iload_n 2 dX6_lostMany_4 rfl rfl (?_ : Go _ _ 5 _ _ _ _)
  refine Go.aload_n 0 dX6_lostMany_5 rfl rfl (?_ : Go _ _ 6 _ _ _ _)
  refine Go.getR fk_X6_7 shq_64 frq_64_0 dX6_lostMany_6 (?_ : Go _ _ 9 _ _ _ _)
  refine Go.iconst dX6_lostMany_9 k_ic_1 (?_ : Go _ _ 10 _ _ _ _)
  refine Go.ialdK ixk_1 vik_1_32 shq_65 dX6_lostMany_10 (?_ : Go _ _ 11 _ _ _ _)
  refine Go.icmp_ge 53 dX6_lostMany_11 rfl ⟨fun c1 => ?_, fun c1 => (?_ : Go _ _ 14 _ _ _ _)⟩
  · have h := h.1 c1
    refine Go.iload_n 1 dX6_lostMany_53 rfl rfl (?_ : Go _ _ 54 _ _ _ _)
    exact Go.iret rfl dX6_lostMany_54 ⟨_, rfl, h⟩
  · have h := h.2 c1
    refine Go.iconst dX6_lostMany_14 k_ic_0 (?_ : Go _ _ 15 _ _ _ _)
    refine Go.istore_n 3 dX6_lostMany_15 rfl (by decide) rfl rfl (?_ : Go _ _ 16 [.ref 64, .int v1, .int v2, .int 0] _ _ _)
    exact h
set_option maxHeartbeats 4000000 in
set_option maxRecDepth 100000 in
theorem sgX6_lostMany_16 {d : Nat} {σ : St} {v1 : Int32} {v2 : Int32} {v3 : Int32} {K : Int32 → St → Prop} (h : ((sF σ 64 8) ≤ v3 → Go mX6_lostMany (d + 1) 4 [.ref 64, .int v1, .int (v2 + 1), .null] [] σ (QI K)) ∧ (¬ (sF σ 64 8) ≤ v3 → CallI d mX6_isLost [.ref 64, .int v3, .int v2] σ (fun r3 s2 => (r3 = 0 → Go mX6_lostMany (d + 1) 16 [.ref 64, .int (v1 + 0), .int v2, .int (v3 + 1)] [] s2 (QI K)) ∧ (¬ r3 = 0 → Go mX6_lostMany (d + 1) 16 [.ref 64, .int (v1 + 1), .int v2, .int (v3 + 1)] [] s2 (QI K))))) : Go mX6_lostMany (d + 1) 16 [.ref 64, .int v1, .int v2, .int v3] [] σ (QI K) := by
  refine Go.iload_n 3 dX6_lostMany_16 rfl rfl (?_ : Go _ _ 17 _ _ _ _)
  refine Go.aload_n 0 dX6_lostMany_17 rfl rfl (?_ : Go _ _ 18 _ _ _ _)
  refine Go.getI fk_X6_82 shq_64 frq_64_8 dX6_lostMany_18 (?_ : Go _ _ 21 _ _ _ _)
  refine Go.icmp_ge 47 dX6_lostMany_21 rfl ⟨fun c1 => ?_, fun c1 => (?_ : Go _ _ 24 _ _ _ _)⟩
  · have h := h.1 c1
    refine Go.iinc dX6_lostMany_47 rfl (congrArg (fun z => v2 + z) k_ic_1) (by decide) rfl rfl (?_ : Go _ _ 50 [.ref 64, .int v1, .int (v2 + 1), .int v3] _ _ _)
    refine Go.goto 4 dX6_lostMany_50 rfl ?_
    refine Go.drop (ls' := [.ref 64, .int v1, .int (v2 + 1), .null]) 3 rfl ?_
    exact h
  · have h := h.2 c1
    refine Go.iload_n 1 dX6_lostMany_24 rfl rfl (?_ : Go _ _ 25 _ _ _ _)
    refine Go.aload_n 0 dX6_lostMany_25 rfl rfl (?_ : Go _ _ 26 _ _ _ _)
    refine Go.iload_n 3 dX6_lostMany_26 rfl rfl (?_ : Go _ _ 27 _ _ _ _)
    refine Go.iload_n 2 dX6_lostMany_27 rfl rfl (?_ : Go _ _ 28 _ _ _ _)
    refine Go.callV (as := [.int v3, .int v2]) (st := [.int v1]) mk_X6_isLost wl_X6_99 shq_64 rfl rfl (Nat.le_of_ble_eq_true rfl) dX6_lostMany_28 h ?_
    rintro _ s2 ⟨r3, rfl, h⟩
    show Go _ _ 31 _ [.int r3, .int v1] _ _
    refine Go.if_eq 38 dX6_lostMany_31 rfl ⟨fun c4 => ?_, fun c4 => (?_ : Go _ _ 34 _ _ _ _)⟩
    · have h := h.1 c4
      refine Go.iconst dX6_lostMany_38 k_ic_0 (?_ : Go _ _ 39 _ _ _ _)
      refine Go.iadd dX6_lostMany_39 (?_ : Go _ _ 40 _ _ _ _)
      refine Go.istore_n 1 dX6_lostMany_40 rfl (by decide) rfl rfl (?_ : Go _ _ 41 [.ref 64, .int (v1 + 0), .int v2, .int v3] _ _ _)
      refine Go.iinc dX6_lostMany_41 rfl (congrArg (fun z => v3 + z) k_ic_1) (by decide) rfl rfl (?_ : Go _ _ 44 [.ref 64, .int (v1 + 0), .int v2, .int (v3 + 1)] _ _ _)
      refine Go.goto 16 dX6_lostMany_44 rfl ?_
      exact h
    · have h := h.2 c4
      refine Go.iconst dX6_lostMany_34 k_ic_1 (?_ : Go _ _ 35 _ _ _ _)
      refine Go.goto 39 dX6_lostMany_35 rfl ?_
      refine Go.iadd dX6_lostMany_39 (?_ : Go _ _ 40 _ _ _ _)
      refine Go.istore_n 1 dX6_lostMany_40 rfl (by decide) rfl rfl (?_ : Go _ _ 41 [.ref 64, .int (v1 + 1), .int v2, .int v3] _ _ _)
      refine Go.iinc dX6_lostMany_41 rfl (congrArg (fun z => v3 + z) k_ic_1) (by decide) rfl rfl (?_ : Go _ _ 44 [.ref 64, .int (v1 + 1), .int v2, .int (v3 + 1)] _ _ _)
      refine Go.goto 16 dX6_lostMany_44 rfl ?_
      exact h
set_option maxHeartbeats 4000000 in
set_option maxRecDepth 100000 in
theorem sgX6_faintMany_0 {d : Nat} {σ : St} {K : Int32 → St → Prop} (h : Go mX6_faintMany (d + 1) 4 [.ref 64, .int 0, .int 0] [] σ (QI K)) : Go mX6_faintMany (d + 1) 0 [.ref 64, .null, .null] [] σ (QI K) := by
  refine Go.iconst dX6_faintMany_0 k_ic_0 (?_ : Go _ _ 1 _ _ _ _)
  refine Go.istore_n 1 dX6_faintMany_1 rfl (by decide) rfl rfl (?_ : Go _ _ 2 [.ref 64, .int 0, .null] _ _ _)
  refine Go.iconst dX6_faintMany_2 k_ic_0 (?_ : Go _ _ 3 _ _ _ _)
  refine Go.istore_n 2 dX6_faintMany_3 rfl (by decide) rfl rfl (?_ : Go _ _ 4 [.ref 64, .int 0, .int 0] _ _ _)
  exact h
theorem cgX6_faintMany {d : Nat} {σ : St} {K : Int32 → St → Prop} (h : Go mX6_faintMany (d + 1) 4 [.ref 64, .int 0, .int 0] [] σ (QI K)) : CallI (d + 1) mX6_faintMany [.ref 64] σ K := Call_of_Go (by decide +kernel) (ls := [.ref 64, .null, .null]) rfl (Nat.le_of_ble_eq_true rfl) (sgX6_faintMany_0 h)
set_option maxHeartbeats 4000000 in
set_option maxRecDepth 100000 in
theorem sgX6_faintMany_4 {d : Nat} {σ : St} {v1 : Int32} {v2 : Int32} {K : Int32 → St → Prop} (h : ((sF σ 64 8) ≤ v2 → K v1 σ) ∧ (¬ (sF σ 64 8) ≤ v2 → CallI d mX6_isFaint [.ref 64, .int v2] σ (fun r3 s2 => (r3 = 0 → Go mX6_faintMany (d + 1) 4 [.ref 64, .int (v1 + 0), .int (v2 + 1)] [] s2 (QI K)) ∧ (¬ r3 = 0 → Go mX6_faintMany (d + 1) 4 [.ref 64, .int (v1 + 1), .int (v2 + 1)] [] s2 (QI K))))) : Go mX6_faintMany (d + 1) 4 [.ref 64, .int v1, .int v2] [] σ (QI K) := by
  refine Go.iload_n 2 dX6_faintMany_4 rfl rfl (?_ : Go _ _ 5 _ _ _ _)
  refine Go.aload_n 0 dX6_faintMany_5 rfl rfl (?_ : Go _ _ 6 _ _ _ _)
  refine Go.getI fk_X6_82 shq_64 frq_64_8 dX6_faintMany_6 (?_ : Go _ _ 9 _ _ _ _)
  refine Go.icmp_ge 34 dX6_faintMany_9 rfl ⟨fun c1 => ?_, fun c1 => (?_ : Go _ _ 12 _ _ _ _)⟩
  · have h := h.1 c1
    refine Go.iload_n 1 dX6_faintMany_34 rfl rfl (?_ : Go _ _ 35 _ _ _ _)
    exact Go.iret rfl dX6_faintMany_35 ⟨_, rfl, h⟩
  · have h := h.2 c1
    refine Go.iload_n 1 dX6_faintMany_12 rfl rfl (?_ : Go _ _ 13 _ _ _ _)
    refine Go.aload_n 0 dX6_faintMany_13 rfl rfl (?_ : Go _ _ 14 _ _ _ _)
    refine Go.iload_n 2 dX6_faintMany_14 rfl rfl (?_ : Go _ _ 15 _ _ _ _)
    refine Go.callV (as := [.int v2]) (st := [.int v1]) mk_X6_isFaint wl_X6_88 shq_64 rfl rfl (Nat.le_of_ble_eq_true rfl) dX6_faintMany_15 h ?_
    rintro _ s2 ⟨r3, rfl, h⟩
    show Go _ _ 18 _ [.int r3, .int v1] _ _
    refine Go.if_eq 25 dX6_faintMany_18 rfl ⟨fun c4 => ?_, fun c4 => (?_ : Go _ _ 21 _ _ _ _)⟩
    · have h := h.1 c4
      refine Go.iconst dX6_faintMany_25 k_ic_0 (?_ : Go _ _ 26 _ _ _ _)
      refine Go.iadd dX6_faintMany_26 (?_ : Go _ _ 27 _ _ _ _)
      refine Go.istore_n 1 dX6_faintMany_27 rfl (by decide) rfl rfl (?_ : Go _ _ 28 [.ref 64, .int (v1 + 0), .int v2] _ _ _)
      refine Go.iinc dX6_faintMany_28 rfl (congrArg (fun z => v2 + z) k_ic_1) (by decide) rfl rfl (?_ : Go _ _ 31 [.ref 64, .int (v1 + 0), .int (v2 + 1)] _ _ _)
      refine Go.goto 4 dX6_faintMany_31 rfl ?_
      exact h
    · have h := h.2 c4
      refine Go.iconst dX6_faintMany_21 k_ic_1 (?_ : Go _ _ 22 _ _ _ _)
      refine Go.goto 26 dX6_faintMany_22 rfl ?_
      refine Go.iadd dX6_faintMany_26 (?_ : Go _ _ 27 _ _ _ _)
      refine Go.istore_n 1 dX6_faintMany_27 rfl (by decide) rfl rfl (?_ : Go _ _ 28 [.ref 64, .int (v1 + 1), .int v2] _ _ _)
      refine Go.iinc dX6_faintMany_28 rfl (congrArg (fun z => v2 + z) k_ic_1) (by decide) rfl rfl (?_ : Go _ _ 31 [.ref 64, .int (v1 + 1), .int (v2 + 1)] _ _ _)
      refine Go.goto 4 dX6_faintMany_31 rfl ?_
      exact h
set_option maxHeartbeats 4000000 in
set_option maxRecDepth 100000 in
theorem sgX6_walls_0 {d : Nat} {σ : St} {K : Int32 → St → Prop} (h : Go mX6_walls (d + 1) 4 [.ref 64, .int 0, .int 0] [] σ (QI K)) : Go mX6_walls (d + 1) 0 [.ref 64, .null, .null] [] σ (QI K) := by
  refine Go.iconst dX6_walls_0 k_ic_0 (?_ : Go _ _ 1 _ _ _ _)
  refine Go.istore_n 1 dX6_walls_1 rfl (by decide) rfl rfl (?_ : Go _ _ 2 [.ref 64, .int 0, .null] _ _ _)
  refine Go.iconst dX6_walls_2 k_ic_0 (?_ : Go _ _ 3 _ _ _ _)
  refine Go.istore_n 2 dX6_walls_3 rfl (by decide) rfl rfl (?_ : Go _ _ 4 [.ref 64, .int 0, .int 0] _ _ _)
  exact h
theorem cgX6_walls {d : Nat} {σ : St} {K : Int32 → St → Prop} (h : Go mX6_walls (d + 1) 4 [.ref 64, .int 0, .int 0] [] σ (QI K)) : CallI (d + 1) mX6_walls [.ref 64] σ K := Call_of_Go (by decide +kernel) (ls := [.ref 64, .null, .null]) rfl (Nat.le_of_ble_eq_true rfl) (sgX6_walls_0 h)
set_option maxHeartbeats 4000000 in
set_option maxRecDepth 100000 in
theorem sgX6_walls_4 {d : Nat} {σ : St} {v1 : Int32} {v2 : Int32} {K : Int32 → St → Prop} (h : ((sA σ 65 0) ≤ v2 → K v1 σ) ∧ (¬ (sA σ 65 0) ≤ v2 → CallI d mX6_of [.ref 64, .int v2, .int 3] σ (fun r3 s2 => Go mX6_walls (d + 1) 4 [.ref 64, .int (v1 + r3), .int (v2 + 1)] [] s2 (QI K)))) : Go mX6_walls (d + 1) 4 [.ref 64, .int v1, .int v2] [] σ (QI K) := by
  refine Go.iload_n 2 dX6_walls_4 rfl rfl (?_ : Go _ _ 5 _ _ _ _)
  refine Go.aload_n 0 dX6_walls_5 rfl rfl (?_ : Go _ _ 6 _ _ _ _)
  refine Go.getR fk_X6_7 shq_64 frq_64_0 dX6_walls_6 (?_ : Go _ _ 9 _ _ _ _)
  refine Go.iconst dX6_walls_9 k_ic_0 (?_ : Go _ _ 10 _ _ _ _)
  refine Go.ialdK ixk_0 vik_0_32 shq_65 dX6_walls_10 (?_ : Go _ _ 11 _ _ _ _)
  refine Go.icmp_ge 29 dX6_walls_11 rfl ⟨fun c1 => ?_, fun c1 => (?_ : Go _ _ 14 _ _ _ _)⟩
  · have h := h.1 c1
    refine Go.iload_n 1 dX6_walls_29 rfl rfl (?_ : Go _ _ 30 _ _ _ _)
    exact Go.iret rfl dX6_walls_30 ⟨_, rfl, h⟩
  · have h := h.2 c1
    refine Go.iload_n 1 dX6_walls_14 rfl rfl (?_ : Go _ _ 15 _ _ _ _)
    refine Go.aload_n 0 dX6_walls_15 rfl rfl (?_ : Go _ _ 16 _ _ _ _)
    refine Go.iload_n 2 dX6_walls_16 rfl rfl (?_ : Go _ _ 17 _ _ _ _)
    refine Go.iconst dX6_walls_17 k_ic_3 (?_ : Go _ _ 18 _ _ _ _)
    refine Go.callV (as := [.int v2, .int 3]) (st := [.int v1]) mk_X6_of wl_X6_56 shq_64 rfl rfl (Nat.le_of_ble_eq_true rfl) dX6_walls_18 h ?_
    rintro _ s2 ⟨r3, rfl, h⟩
    show Go _ _ 21 _ [.int r3, .int v1] _ _
    refine Go.iadd dX6_walls_21 (?_ : Go _ _ 22 _ _ _ _)
    refine Go.istore_n 1 dX6_walls_22 rfl (by decide) rfl rfl (?_ : Go _ _ 23 [.ref 64, .int (v1 + r3), .int v2] _ _ _)
    refine Go.iinc dX6_walls_23 rfl (congrArg (fun z => v2 + z) k_ic_1) (by decide) rfl rfl (?_ : Go _ _ 26 [.ref 64, .int (v1 + r3), .int (v2 + 1)] _ _ _)
    refine Go.goto 4 dX6_walls_26 rfl ?_
    exact h
set_option maxHeartbeats 4000000 in
set_option maxRecDepth 100000 in
theorem sgX6_count_0 {d : Nat} {σ : St} {x1 : Int32} {K : Int32 → St → Prop} (h : CallU d mX6_listen [.ref 64] σ (fun s1 => (x1 = 0 → K (sA s1 65 0) s1) ∧ (¬ x1 = 0 → (x1 = 1 → CallI d mX6_walls [.ref 64] s1 (fun r5 s4 => K r5 s4)) ∧ (¬ x1 = 1 → (x1 = 2 → K ((sF s1 64 8) - (sA s1 65 0)) s1) ∧ (¬ x1 = 2 → (x1 = 3 → K (sA s1 65 1) s1) ∧ (¬ x1 = 3 → (x1 = 4 → ((sA s1 65 1) ≤ (x1 - 4) → K (-4) s1) ∧ (¬ (sA s1 65 1) ≤ (x1 - 4) → vp_in ((2 + x1) - 4) 32 ∧ K (sA s1 65 (ix ((2 + x1) - 4))) s1)) ∧ (¬ x1 = 4 → (x1 = 5 → ((sA s1 65 1) ≤ (x1 - 4) → K (-4) s1) ∧ (¬ (sA s1 65 1) ≤ (x1 - 4) → vp_in ((2 + x1) - 4) 32 ∧ K (sA s1 65 (ix ((2 + x1) - 4))) s1)) ∧ (¬ x1 = 5 → (x1 = 6 → ((sA s1 65 1) ≤ (x1 - 4) → K (-4) s1) ∧ (¬ (sA s1 65 1) ≤ (x1 - 4) → vp_in ((2 + x1) - 4) 32 ∧ K (sA s1 65 (ix ((2 + x1) - 4))) s1)) ∧ (¬ x1 = 6 → (x1 = 7 → ((sA s1 65 1) ≤ (x1 - 4) → K (-4) s1) ∧ (¬ (sA s1 65 1) ≤ (x1 - 4) → vp_in ((2 + x1) - 4) 32 ∧ K (sA s1 65 (ix ((2 + x1) - 4))) s1)) ∧ (¬ x1 = 7 → (x1 = 8 → CallI d mX6_echoes [.ref 64] s1 (fun r18 s17 => K r18 s17)) ∧ (¬ x1 = 8 → (x1 = 9 → CallI d mX6_lostMany [.ref 64] s1 (fun r21 s20 => K r21 s20)) ∧ (¬ x1 = 9 → (x1 = 10 → CallI d mX6_faintMany [.ref 64] s1 (fun r24 s23 => K r24 s23)) ∧ (¬ x1 = 10 → (x1 = 11 → CallI d mX6_toldMany [.ref 64, .int 0] s1 (fun r27 s26 => K r27 s26)) ∧ (¬ x1 = 11 → (x1 = 12 → CallI d mX6_toldMany [.ref 64, .int 1] s1 (fun r30 s29 => K r30 s29)) ∧ (¬ x1 = 12 → (x1 = 13 → CallI d mX6_missed [.ref 64] s1 (fun r33 s32 => K r33 s32)) ∧ (¬ x1 = 13 → (x1 = 14 → vp_in ((6 + x1) - 14) 32 ∧ K (sA s1 65 (ix ((6 + x1) - 14))) s1) ∧ (¬ x1 = 14 → (x1 = 15 → vp_in ((6 + x1) - 14) 32 ∧ K (sA s1 65 (ix ((6 + x1) - 14))) s1) ∧ (¬ x1 = 15 → (x1 = 16 → CallU d mX6_write [.ref 64] s1 (fun s37 => K (sF s37 64 12) s37)) ∧ (¬ x1 = 16 → (x1 = 17 → K (sF s1 64 6) s1) ∧ (¬ x1 = 17 → (x1 = 18 → K (sF s1 64 2) s1) ∧ (¬ x1 = 18 → K (-1) s1))))))))))))))))))))) : Go mX6_count (d + 1) 0 [.ref 64, .int x1] [] σ (QI K) := by
  refine Go.aload_n 0 dX6_count_0 rfl rfl (?_ : Go _ _ 1 _ _ _ _)
  refine Go.callV (as := []) (st := []) mk_X6_listen wl_X6_117 shq_64 rfl rfl (Nat.le_of_ble_eq_true rfl) dX6_count_1 h ?_
  rintro _ s1 ⟨rfl, h⟩
  show Go _ _ 4 _ [] _ _
  refine Go.iload_n 1 dX6_count_4 rfl rfl (?_ : Go _ _ 5 _ _ _ _)
  refine Go.tsw [(0, 96), (1, 103), (2, 108), (3, 120), (4, 127), (5, 127), (6, 127), (7, 127), (8, 155), (9, 160), (10, 165), (11, 170), (12, 176), (13, 182), (14, 187), (15, 187), (16, 200), (17, 209), (18, 214)] 219 dX6_count_5 (by decide +kernel) ?_
  refine And.intro (fun c2 => ?_) (fun c2 => ?_)
  · have h := h.1 c2
    show Go _ _ 96 _ _ _ _
    refine Go.aload_n 0 dX6_count_96 rfl rfl (?_ : Go _ _ 97 _ _ _ _)
    refine Go.getR fk_X6_7 shq_64 frq_64_0 dX6_count_97 (?_ : Go _ _ 100 _ _ _ _)
    refine Go.iconst dX6_count_100 k_ic_0 (?_ : Go _ _ 101 _ _ _ _)
    refine Go.ialdK ixk_0 vik_0_32 shq_65 dX6_count_101 (?_ : Go _ _ 102 _ _ _ _)
    exact Go.iret rfl dX6_count_102 ⟨_, rfl, h⟩
  · have h := h.2 c2
    refine And.intro (fun c3 => ?_) (fun c3 => ?_)
    · have h := h.1 c3
      show Go _ _ 103 _ _ _ _
      refine Go.aload_n 0 dX6_count_103 rfl rfl (?_ : Go _ _ 104 _ _ _ _)
      refine Go.callV (as := []) (st := []) mk_X6_walls wl_X6_126 shq_64 rfl rfl (Nat.le_of_ble_eq_true rfl) dX6_count_104 h ?_
      rintro _ s4 ⟨r5, rfl, h⟩
      show Go _ _ 107 _ [.int r5] _ _
      exact Go.iret rfl dX6_count_107 ⟨_, rfl, h⟩
    · have h := h.2 c3
      refine And.intro (fun c6 => ?_) (fun c6 => ?_)
      · have h := h.1 c6
        show Go _ _ 108 _ _ _ _
        refine Go.aload_n 0 dX6_count_108 rfl rfl (?_ : Go _ _ 109 _ _ _ _)
        refine Go.getI fk_X6_82 shq_64 frq_64_8 dX6_count_109 (?_ : Go _ _ 112 _ _ _ _)
        refine Go.aload_n 0 dX6_count_112 rfl rfl (?_ : Go _ _ 113 _ _ _ _)
        refine Go.getR fk_X6_7 shq_64 frq_64_0 dX6_count_113 (?_ : Go _ _ 116 _ _ _ _)
        refine Go.iconst dX6_count_116 k_ic_0 (?_ : Go _ _ 117 _ _ _ _)
        refine Go.ialdK ixk_0 vik_0_32 shq_65 dX6_count_117 (?_ : Go _ _ 118 _ _ _ _)
        refine Go.isub dX6_count_118 (?_ : Go _ _ 119 _ _ _ _)
        exact Go.iret rfl dX6_count_119 ⟨_, rfl, h⟩
      · have h := h.2 c6
        refine And.intro (fun c7 => ?_) (fun c7 => ?_)
        · have h := h.1 c7
          show Go _ _ 120 _ _ _ _
          refine Go.aload_n 0 dX6_count_120 rfl rfl (?_ : Go _ _ 121 _ _ _ _)
          refine Go.getR fk_X6_7 shq_64 frq_64_0 dX6_count_121 (?_ : Go _ _ 124 _ _ _ _)
          refine Go.iconst dX6_count_124 k_ic_1 (?_ : Go _ _ 125 _ _ _ _)
          refine Go.ialdK ixk_1 vik_1_32 shq_65 dX6_count_125 (?_ : Go _ _ 126 _ _ _ _)
          exact Go.iret rfl dX6_count_126 ⟨_, rfl, h⟩
        · have h := h.2 c7
          refine And.intro (fun c8 => ?_) (fun c8 => ?_)
          · have h := h.1 c8
            show Go _ _ 127 _ _ _ _
            refine Go.iload_n 1 dX6_count_127 rfl rfl (?_ : Go _ _ 128 _ _ _ _)
            refine Go.iconst dX6_count_128 k_ic_4 (?_ : Go _ _ 129 _ _ _ _)
            refine Go.isub dX6_count_129 (?_ : Go _ _ 130 _ _ _ _)
            refine Go.aload_n 0 dX6_count_130 rfl rfl (?_ : Go _ _ 131 _ _ _ _)
            refine Go.getR fk_X6_7 shq_64 frq_64_0 dX6_count_131 (?_ : Go _ _ 134 _ _ _ _)
            refine Go.iconst dX6_count_134 k_ic_1 (?_ : Go _ _ 135 _ _ _ _)
            refine Go.ialdK ixk_1 vik_1_32 shq_65 dX6_count_135 (?_ : Go _ _ 136 _ _ _ _)
            refine Go.icmp_ge 152 dX6_count_136 rfl ⟨fun c9 => ?_, fun c9 => (?_ : Go _ _ 139 _ _ _ _)⟩
            · have h := h.1 c9
              refine Go.bipush dX6_count_152 k_bi_m4 (?_ : Go _ _ 154 _ _ _ _)
              exact Go.iret rfl dX6_count_154 ⟨_, rfl, h⟩
            · have h := h.2 c9
              refine Go.aload_n 0 dX6_count_139 rfl rfl (?_ : Go _ _ 140 _ _ _ _)
              refine Go.getR fk_X6_7 shq_64 frq_64_0 dX6_count_140 (?_ : Go _ _ 143 _ _ _ _)
              refine Go.iconst dX6_count_143 k_ic_2 (?_ : Go _ _ 144 _ _ _ _)
              refine Go.iload_n 1 dX6_count_144 rfl rfl (?_ : Go _ _ 145 _ _ _ _)
              refine Go.iadd dX6_count_145 (?_ : Go _ _ 146 _ _ _ _)
              refine Go.iconst dX6_count_146 k_ic_4 (?_ : Go _ _ 147 _ _ _ _)
              refine Go.isub dX6_count_147 (?_ : Go _ _ 148 _ _ _ _)
              refine Go.iald shq_65 dX6_count_148 ⟨h.1, (?_ : Go _ _ 149 _ _ _ _)⟩
              have h := h.2
              refine Go.goto 154 dX6_count_149 rfl ?_
              exact Go.iret rfl dX6_count_154 ⟨_, rfl, h⟩
          · have h := h.2 c8
            refine And.intro (fun c10 => ?_) (fun c10 => ?_)
            · have h := h.1 c10
              show Go _ _ 127 _ _ _ _
              refine Go.iload_n 1 dX6_count_127 rfl rfl (?_ : Go _ _ 128 _ _ _ _)
              refine Go.iconst dX6_count_128 k_ic_4 (?_ : Go _ _ 129 _ _ _ _)
              refine Go.isub dX6_count_129 (?_ : Go _ _ 130 _ _ _ _)
              refine Go.aload_n 0 dX6_count_130 rfl rfl (?_ : Go _ _ 131 _ _ _ _)
              refine Go.getR fk_X6_7 shq_64 frq_64_0 dX6_count_131 (?_ : Go _ _ 134 _ _ _ _)
              refine Go.iconst dX6_count_134 k_ic_1 (?_ : Go _ _ 135 _ _ _ _)
              refine Go.ialdK ixk_1 vik_1_32 shq_65 dX6_count_135 (?_ : Go _ _ 136 _ _ _ _)
              refine Go.icmp_ge 152 dX6_count_136 rfl ⟨fun c11 => ?_, fun c11 => (?_ : Go _ _ 139 _ _ _ _)⟩
              · have h := h.1 c11
                refine Go.bipush dX6_count_152 k_bi_m4 (?_ : Go _ _ 154 _ _ _ _)
                exact Go.iret rfl dX6_count_154 ⟨_, rfl, h⟩
              · have h := h.2 c11
                refine Go.aload_n 0 dX6_count_139 rfl rfl (?_ : Go _ _ 140 _ _ _ _)
                refine Go.getR fk_X6_7 shq_64 frq_64_0 dX6_count_140 (?_ : Go _ _ 143 _ _ _ _)
                refine Go.iconst dX6_count_143 k_ic_2 (?_ : Go _ _ 144 _ _ _ _)
                refine Go.iload_n 1 dX6_count_144 rfl rfl (?_ : Go _ _ 145 _ _ _ _)
                refine Go.iadd dX6_count_145 (?_ : Go _ _ 146 _ _ _ _)
                refine Go.iconst dX6_count_146 k_ic_4 (?_ : Go _ _ 147 _ _ _ _)
                refine Go.isub dX6_count_147 (?_ : Go _ _ 148 _ _ _ _)
                refine Go.iald shq_65 dX6_count_148 ⟨h.1, (?_ : Go _ _ 149 _ _ _ _)⟩
                have h := h.2
                refine Go.goto 154 dX6_count_149 rfl ?_
                exact Go.iret rfl dX6_count_154 ⟨_, rfl, h⟩
            · have h := h.2 c10
              refine And.intro (fun c12 => ?_) (fun c12 => ?_)
              · have h := h.1 c12
                show Go _ _ 127 _ _ _ _
                refine Go.iload_n 1 dX6_count_127 rfl rfl (?_ : Go _ _ 128 _ _ _ _)
                refine Go.iconst dX6_count_128 k_ic_4 (?_ : Go _ _ 129 _ _ _ _)
                refine Go.isub dX6_count_129 (?_ : Go _ _ 130 _ _ _ _)
                refine Go.aload_n 0 dX6_count_130 rfl rfl (?_ : Go _ _ 131 _ _ _ _)
                refine Go.getR fk_X6_7 shq_64 frq_64_0 dX6_count_131 (?_ : Go _ _ 134 _ _ _ _)
                refine Go.iconst dX6_count_134 k_ic_1 (?_ : Go _ _ 135 _ _ _ _)
                refine Go.ialdK ixk_1 vik_1_32 shq_65 dX6_count_135 (?_ : Go _ _ 136 _ _ _ _)
                refine Go.icmp_ge 152 dX6_count_136 rfl ⟨fun c13 => ?_, fun c13 => (?_ : Go _ _ 139 _ _ _ _)⟩
                · have h := h.1 c13
                  refine Go.bipush dX6_count_152 k_bi_m4 (?_ : Go _ _ 154 _ _ _ _)
                  exact Go.iret rfl dX6_count_154 ⟨_, rfl, h⟩
                · have h := h.2 c13
                  refine Go.aload_n 0 dX6_count_139 rfl rfl (?_ : Go _ _ 140 _ _ _ _)
                  refine Go.getR fk_X6_7 shq_64 frq_64_0 dX6_count_140 (?_ : Go _ _ 143 _ _ _ _)
                  refine Go.iconst dX6_count_143 k_ic_2 (?_ : Go _ _ 144 _ _ _ _)
                  refine Go.iload_n 1 dX6_count_144 rfl rfl (?_ : Go _ _ 145 _ _ _ _)
                  refine Go.iadd dX6_count_145 (?_ : Go _ _ 146 _ _ _ _)
                  refine Go.iconst dX6_count_146 k_ic_4 (?_ : Go _ _ 147 _ _ _ _)
                  refine Go.isub dX6_count_147 (?_ : Go _ _ 148 _ _ _ _)
                  refine Go.iald shq_65 dX6_count_148 ⟨h.1, (?_ : Go _ _ 149 _ _ _ _)⟩
                  have h := h.2
                  refine Go.goto 154 dX6_count_149 rfl ?_
                  exact Go.iret rfl dX6_count_154 ⟨_, rfl, h⟩
              · have h := h.2 c12
                refine And.intro (fun c14 => ?_) (fun c14 => ?_)
                · have h := h.1 c14
                  show Go _ _ 127 _ _ _ _
                  refine Go.iload_n 1 dX6_count_127 rfl rfl (?_ : Go _ _ 128 _ _ _ _)
                  refine Go.iconst dX6_count_128 k_ic_4 (?_ : Go _ _ 129 _ _ _ _)
                  refine Go.isub dX6_count_129 (?_ : Go _ _ 130 _ _ _ _)
                  refine Go.aload_n 0 dX6_count_130 rfl rfl (?_ : Go _ _ 131 _ _ _ _)
                  refine Go.getR fk_X6_7 shq_64 frq_64_0 dX6_count_131 (?_ : Go _ _ 134 _ _ _ _)
                  refine Go.iconst dX6_count_134 k_ic_1 (?_ : Go _ _ 135 _ _ _ _)
                  refine Go.ialdK ixk_1 vik_1_32 shq_65 dX6_count_135 (?_ : Go _ _ 136 _ _ _ _)
                  refine Go.icmp_ge 152 dX6_count_136 rfl ⟨fun c15 => ?_, fun c15 => (?_ : Go _ _ 139 _ _ _ _)⟩
                  · have h := h.1 c15
                    refine Go.bipush dX6_count_152 k_bi_m4 (?_ : Go _ _ 154 _ _ _ _)
                    exact Go.iret rfl dX6_count_154 ⟨_, rfl, h⟩
                  · have h := h.2 c15
                    refine Go.aload_n 0 dX6_count_139 rfl rfl (?_ : Go _ _ 140 _ _ _ _)
                    refine Go.getR fk_X6_7 shq_64 frq_64_0 dX6_count_140 (?_ : Go _ _ 143 _ _ _ _)
                    refine Go.iconst dX6_count_143 k_ic_2 (?_ : Go _ _ 144 _ _ _ _)
                    refine Go.iload_n 1 dX6_count_144 rfl rfl (?_ : Go _ _ 145 _ _ _ _)
                    refine Go.iadd dX6_count_145 (?_ : Go _ _ 146 _ _ _ _)
                    refine Go.iconst dX6_count_146 k_ic_4 (?_ : Go _ _ 147 _ _ _ _)
                    refine Go.isub dX6_count_147 (?_ : Go _ _ 148 _ _ _ _)
                    refine Go.iald shq_65 dX6_count_148 ⟨h.1, (?_ : Go _ _ 149 _ _ _ _)⟩
                    have h := h.2
                    refine Go.goto 154 dX6_count_149 rfl ?_
                    exact Go.iret rfl dX6_count_154 ⟨_, rfl, h⟩
                · have h := h.2 c14
                  refine And.intro (fun c16 => ?_) (fun c16 => ?_)
                  · have h := h.1 c16
                    show Go _ _ 155 _ _ _ _
                    refine Go.aload_n 0 dX6_count_155 rfl rfl (?_ : Go _ _ 156 _ _ _ _)
                    refine Go.callV (as := []) (st := []) mk_X6_echoes wl_X6_130 shq_64 rfl rfl (Nat.le_of_ble_eq_true rfl) dX6_count_156 h ?_
                    rintro _ s17 ⟨r18, rfl, h⟩
                    show Go _ _ 159 _ [.int r18] _ _
                    exact Go.iret rfl dX6_count_159 ⟨_, rfl, h⟩
                  · have h := h.2 c16
                    refine And.intro (fun c19 => ?_) (fun c19 => ?_)
                    · have h := h.1 c19
                      show Go _ _ 160 _ _ _ _
                      refine Go.aload_n 0 dX6_count_160 rfl rfl (?_ : Go _ _ 161 _ _ _ _)
                      refine Go.callV (as := []) (st := []) mk_X6_lostMany wl_X6_133 shq_64 rfl rfl (Nat.le_of_ble_eq_true rfl) dX6_count_161 h ?_
                      rintro _ s20 ⟨r21, rfl, h⟩
                      show Go _ _ 164 _ [.int r21] _ _
                      exact Go.iret rfl dX6_count_164 ⟨_, rfl, h⟩
                    · have h := h.2 c19
                      refine And.intro (fun c22 => ?_) (fun c22 => ?_)
                      · have h := h.1 c22
                        show Go _ _ 165 _ _ _ _
                        refine Go.aload_n 0 dX6_count_165 rfl rfl (?_ : Go _ _ 166 _ _ _ _)
                        refine Go.callV (as := []) (st := []) mk_X6_faintMany wl_X6_136 shq_64 rfl rfl (Nat.le_of_ble_eq_true rfl) dX6_count_166 h ?_
                        rintro _ s23 ⟨r24, rfl, h⟩
                        show Go _ _ 169 _ [.int r24] _ _
                        exact Go.iret rfl dX6_count_169 ⟨_, rfl, h⟩
                      · have h := h.2 c22
                        refine And.intro (fun c25 => ?_) (fun c25 => ?_)
                        · have h := h.1 c25
                          show Go _ _ 170 _ _ _ _
                          refine Go.aload_n 0 dX6_count_170 rfl rfl (?_ : Go _ _ 171 _ _ _ _)
                          refine Go.iconst dX6_count_171 k_ic_0 (?_ : Go _ _ 172 _ _ _ _)
                          refine Go.callV (as := [.int 0]) (st := []) mk_X6_toldMany wl_X6_139 shq_64 rfl rfl (Nat.le_of_ble_eq_true rfl) dX6_count_172 h ?_
                          rintro _ s26 ⟨r27, rfl, h⟩
                          show Go _ _ 175 _ [.int r27] _ _
                          exact Go.iret rfl dX6_count_175 ⟨_, rfl, h⟩
                        · have h := h.2 c25
                          refine And.intro (fun c28 => ?_) (fun c28 => ?_)
                          · have h := h.1 c28
                            show Go _ _ 176 _ _ _ _
                            refine Go.aload_n 0 dX6_count_176 rfl rfl (?_ : Go _ _ 177 _ _ _ _)
                            refine Go.iconst dX6_count_177 k_ic_1 (?_ : Go _ _ 178 _ _ _ _)
                            refine Go.callV (as := [.int 1]) (st := []) mk_X6_toldMany wl_X6_139 shq_64 rfl rfl (Nat.le_of_ble_eq_true rfl) dX6_count_178 h ?_
                            rintro _ s29 ⟨r30, rfl, h⟩
                            show Go _ _ 181 _ [.int r30] _ _
                            exact Go.iret rfl dX6_count_181 ⟨_, rfl, h⟩
                          · have h := h.2 c28
                            refine And.intro (fun c31 => ?_) (fun c31 => ?_)
                            · have h := h.1 c31
                              show Go _ _ 182 _ _ _ _
                              refine Go.aload_n 0 dX6_count_182 rfl rfl (?_ : Go _ _ 183 _ _ _ _)
                              refine Go.callV (as := []) (st := []) mk_X6_missed wl_X6_143 shq_64 rfl rfl (Nat.le_of_ble_eq_true rfl) dX6_count_183 h ?_
                              rintro _ s32 ⟨r33, rfl, h⟩
                              show Go _ _ 186 _ [.int r33] _ _
                              exact Go.iret rfl dX6_count_186 ⟨_, rfl, h⟩
                            · have h := h.2 c31
                              refine And.intro (fun c34 => ?_) (fun c34 => ?_)
                              · have h := h.1 c34
                                show Go _ _ 187 _ _ _ _
                                refine Go.aload_n 0 dX6_count_187 rfl rfl (?_ : Go _ _ 188 _ _ _ _)
                                refine Go.getR fk_X6_7 shq_64 frq_64_0 dX6_count_188 (?_ : Go _ _ 191 _ _ _ _)
                                refine Go.bipush dX6_count_191 k_bi_6 (?_ : Go _ _ 193 _ _ _ _)
                                refine Go.iload_n 1 dX6_count_193 rfl rfl (?_ : Go _ _ 194 _ _ _ _)
                                refine Go.iadd dX6_count_194 (?_ : Go _ _ 195 _ _ _ _)
                                refine Go.bipush dX6_count_195 k_bi_14 (?_ : Go _ _ 197 _ _ _ _)
                                refine Go.isub dX6_count_197 (?_ : Go _ _ 198 _ _ _ _)
                                refine Go.iald shq_65 dX6_count_198 ⟨h.1, (?_ : Go _ _ 199 _ _ _ _)⟩
                                have h := h.2
                                exact Go.iret rfl dX6_count_199 ⟨_, rfl, h⟩
                              · have h := h.2 c34
                                refine And.intro (fun c35 => ?_) (fun c35 => ?_)
                                · have h := h.1 c35
                                  show Go _ _ 187 _ _ _ _
                                  refine Go.aload_n 0 dX6_count_187 rfl rfl (?_ : Go _ _ 188 _ _ _ _)
                                  refine Go.getR fk_X6_7 shq_64 frq_64_0 dX6_count_188 (?_ : Go _ _ 191 _ _ _ _)
                                  refine Go.bipush dX6_count_191 k_bi_6 (?_ : Go _ _ 193 _ _ _ _)
                                  refine Go.iload_n 1 dX6_count_193 rfl rfl (?_ : Go _ _ 194 _ _ _ _)
                                  refine Go.iadd dX6_count_194 (?_ : Go _ _ 195 _ _ _ _)
                                  refine Go.bipush dX6_count_195 k_bi_14 (?_ : Go _ _ 197 _ _ _ _)
                                  refine Go.isub dX6_count_197 (?_ : Go _ _ 198 _ _ _ _)
                                  refine Go.iald shq_65 dX6_count_198 ⟨h.1, (?_ : Go _ _ 199 _ _ _ _)⟩
                                  have h := h.2
                                  exact Go.iret rfl dX6_count_199 ⟨_, rfl, h⟩
                                · have h := h.2 c35
                                  refine And.intro (fun c36 => ?_) (fun c36 => ?_)
                                  · have h := h.1 c36
                                    show Go _ _ 200 _ _ _ _
                                    refine Go.aload_n 0 dX6_count_200 rfl rfl (?_ : Go _ _ 201 _ _ _ _)
                                    refine Go.callV (as := []) (st := []) mk_X6_write wl_X6_146 shq_64 rfl rfl (Nat.le_of_ble_eq_true rfl) dX6_count_201 h ?_
                                    rintro _ s37 ⟨rfl, h⟩
                                    show Go _ _ 204 _ [] _ _
                                    refine Go.aload_n 0 dX6_count_204 rfl rfl (?_ : Go _ _ 205 _ _ _ _)
                                    refine Go.getI fk_X6_149 shq_64 frq_64_12 dX6_count_205 (?_ : Go _ _ 208 _ _ _ _)
                                    exact Go.iret rfl dX6_count_208 ⟨_, rfl, h⟩
                                  · have h := h.2 c36
                                    refine And.intro (fun c38 => ?_) (fun c38 => ?_)
                                    · have h := h.1 c38
                                      show Go _ _ 209 _ _ _ _
                                      refine Go.aload_n 0 dX6_count_209 rfl rfl (?_ : Go _ _ 210 _ _ _ _)
                                      refine Go.getI fk_X6_152 shq_64 frq_64_6 dX6_count_210 (?_ : Go _ _ 213 _ _ _ _)
                                      exact Go.iret rfl dX6_count_213 ⟨_, rfl, h⟩
                                    · have h := h.2 c38
                                      refine And.intro (fun c39 => ?_) (fun c39 => ?_)
                                      · have h := h.1 c39
                                        show Go _ _ 214 _ _ _ _
                                        refine Go.aload_n 0 dX6_count_214 rfl rfl (?_ : Go _ _ 215 _ _ _ _)
                                        refine Go.getI fk_X6_45 shq_64 frq_64_2 dX6_count_215 (?_ : Go _ _ 218 _ _ _ _)
                                        exact Go.iret rfl dX6_count_218 ⟨_, rfl, h⟩
                                      · have h := h.2 c39
                                        show Go _ _ 219 _ _ _ _
                                        refine Go.iconst dX6_count_219 k_ic_m1 (?_ : Go _ _ 220 _ _ _ _)
                                        exact Go.iret rfl dX6_count_220 ⟨_, rfl, h⟩
theorem cgX6_count {d : Nat} {σ : St} {x1 : Int32} {K : Int32 → St → Prop} (h : CallU d mX6_listen [.ref 64] σ (fun s1 => (x1 = 0 → K (sA s1 65 0) s1) ∧ (¬ x1 = 0 → (x1 = 1 → CallI d mX6_walls [.ref 64] s1 (fun r5 s4 => K r5 s4)) ∧ (¬ x1 = 1 → (x1 = 2 → K ((sF s1 64 8) - (sA s1 65 0)) s1) ∧ (¬ x1 = 2 → (x1 = 3 → K (sA s1 65 1) s1) ∧ (¬ x1 = 3 → (x1 = 4 → ((sA s1 65 1) ≤ (x1 - 4) → K (-4) s1) ∧ (¬ (sA s1 65 1) ≤ (x1 - 4) → vp_in ((2 + x1) - 4) 32 ∧ K (sA s1 65 (ix ((2 + x1) - 4))) s1)) ∧ (¬ x1 = 4 → (x1 = 5 → ((sA s1 65 1) ≤ (x1 - 4) → K (-4) s1) ∧ (¬ (sA s1 65 1) ≤ (x1 - 4) → vp_in ((2 + x1) - 4) 32 ∧ K (sA s1 65 (ix ((2 + x1) - 4))) s1)) ∧ (¬ x1 = 5 → (x1 = 6 → ((sA s1 65 1) ≤ (x1 - 4) → K (-4) s1) ∧ (¬ (sA s1 65 1) ≤ (x1 - 4) → vp_in ((2 + x1) - 4) 32 ∧ K (sA s1 65 (ix ((2 + x1) - 4))) s1)) ∧ (¬ x1 = 6 → (x1 = 7 → ((sA s1 65 1) ≤ (x1 - 4) → K (-4) s1) ∧ (¬ (sA s1 65 1) ≤ (x1 - 4) → vp_in ((2 + x1) - 4) 32 ∧ K (sA s1 65 (ix ((2 + x1) - 4))) s1)) ∧ (¬ x1 = 7 → (x1 = 8 → CallI d mX6_echoes [.ref 64] s1 (fun r18 s17 => K r18 s17)) ∧ (¬ x1 = 8 → (x1 = 9 → CallI d mX6_lostMany [.ref 64] s1 (fun r21 s20 => K r21 s20)) ∧ (¬ x1 = 9 → (x1 = 10 → CallI d mX6_faintMany [.ref 64] s1 (fun r24 s23 => K r24 s23)) ∧ (¬ x1 = 10 → (x1 = 11 → CallI d mX6_toldMany [.ref 64, .int 0] s1 (fun r27 s26 => K r27 s26)) ∧ (¬ x1 = 11 → (x1 = 12 → CallI d mX6_toldMany [.ref 64, .int 1] s1 (fun r30 s29 => K r30 s29)) ∧ (¬ x1 = 12 → (x1 = 13 → CallI d mX6_missed [.ref 64] s1 (fun r33 s32 => K r33 s32)) ∧ (¬ x1 = 13 → (x1 = 14 → vp_in ((6 + x1) - 14) 32 ∧ K (sA s1 65 (ix ((6 + x1) - 14))) s1) ∧ (¬ x1 = 14 → (x1 = 15 → vp_in ((6 + x1) - 14) 32 ∧ K (sA s1 65 (ix ((6 + x1) - 14))) s1) ∧ (¬ x1 = 15 → (x1 = 16 → CallU d mX6_write [.ref 64] s1 (fun s37 => K (sF s37 64 12) s37)) ∧ (¬ x1 = 16 → (x1 = 17 → K (sF s1 64 6) s1) ∧ (¬ x1 = 17 → (x1 = 18 → K (sF s1 64 2) s1) ∧ (¬ x1 = 18 → K (-1) s1))))))))))))))))))))) : CallI (d + 1) mX6_count [.ref 64, .int x1] σ K := Call_of_Go (by decide +kernel) (ls := [.ref 64, .int x1]) rfl (Nat.le_of_ble_eq_true rfl) (sgX6_count_0 h)
set_option maxHeartbeats 4000000 in
set_option maxRecDepth 100000 in
theorem sgX6_withTurn_0 {d : Nat} {σ : St} {x1 : Int32} {x2 : Int32} {K : Int32 → St → Prop} (h : vp_in (2 + (sA σ 65 1)) 32 ∧ ∀ s1, s1 = setA σ 65 (ix (2 + (sA σ 65 1))) x1 → ∀ s2, s2 = setA s1 65 1 ((sA s1 65 1) + 1) → CallU d mX6_listen [.ref 64] s2 (fun s3 => (¬ x2 = 0 → (¬ x2 = 1 → CallI d mX6_missed [.ref 64] s3 (fun r7 s6 => ∀ s8, s8 = setA s6 65 1 ((sA s6 65 1) - 1) → vp_in (2 + (sA s8 65 1)) 32 ∧ ∀ s9, s9 = setA s8 65 (ix (2 + (sA s8 65 1))) 0 → K r7 s9)) ∧ (x2 = 1 → CallI d mX6_toldMany [.ref 64, .int 1] s3 (fun r11 s10 => ∀ s12, s12 = setA s10 65 1 ((sA s10 65 1) - 1) → vp_in (2 + (sA s12 65 1)) 32 ∧ ∀ s13, s13 = setA s12 65 (ix (2 + (sA s12 65 1))) 0 → K r11 s13))) ∧ (x2 = 0 → CallI d mX6_toldMany [.ref 64, .int 0] s3 (fun r15 s14 => ∀ s16, s16 = setA s14 65 1 ((sA s14 65 1) - 1) → vp_in (2 + (sA s16 65 1)) 32 ∧ ∀ s17, s17 = setA s16 65 (ix (2 + (sA s16 65 1))) 0 → K r15 s17)))) : Go mX6_withTurn (d + 1) 0 [.ref 64, .int x1, .int x2, .null] [] σ (QI K) := by
  refine Go.aload_n 0 dX6_withTurn_0 rfl rfl (?_ : Go _ _ 1 _ _ _ _)
  refine Go.getR fk_X6_7 shq_64 frq_64_0 dX6_withTurn_1 (?_ : Go _ _ 4 _ _ _ _)
  refine Go.iconst dX6_withTurn_4 k_ic_2 (?_ : Go _ _ 5 _ _ _ _)
  refine Go.aload_n 0 dX6_withTurn_5 rfl rfl (?_ : Go _ _ 6 _ _ _ _)
  refine Go.getR fk_X6_7 shq_64 frq_64_0 dX6_withTurn_6 (?_ : Go _ _ 9 _ _ _ _)
  refine Go.iconst dX6_withTurn_9 k_ic_1 (?_ : Go _ _ 10 _ _ _ _)
  refine Go.ialdK ixk_1 vik_1_32 shq_65 dX6_withTurn_10 (?_ : Go _ _ 11 _ _ _ _)
  refine Go.iadd dX6_withTurn_11 (?_ : Go _ _ 12 _ _ _ _)
  refine Go.iload_n 1 dX6_withTurn_12 rfl rfl (?_ : Go _ _ 13 _ _ _ _)
  refine Go.iast shq_65 dX6_withTurn_13 ⟨h.1, (?_ : Go _ _ 14 _ _ _ _)⟩
  generalize es1 : setA σ 65 (ix (2 + (sA σ 65 1))) x1 = s1
  have h := h.2 s1 es1.symm
  refine Go.aload_n 0 dX6_withTurn_14 rfl rfl (?_ : Go _ _ 15 _ _ _ _)
  refine Go.getR fk_X6_7 shq_64 frq_64_0 dX6_withTurn_15 (?_ : Go _ _ 18 _ _ _ _)
  refine Go.iconst dX6_withTurn_18 k_ic_1 (?_ : Go _ _ 19 _ _ _ _)
  refine Go.dup2 dX6_withTurn_19 rfl rfl (?_ : Go _ _ 20 _ _ _ _)
  refine Go.ialdK ixk_1 vik_1_32 shq_65 dX6_withTurn_20 (?_ : Go _ _ 21 _ _ _ _)
  refine Go.iconst dX6_withTurn_21 k_ic_1 (?_ : Go _ _ 22 _ _ _ _)
  refine Go.iadd dX6_withTurn_22 (?_ : Go _ _ 23 _ _ _ _)
  refine Go.iastK ixk_1 vik_1_32 shq_65 dX6_withTurn_23 (?_ : Go _ _ 24 _ _ _ _)
  generalize es2 : setA s1 65 1 ((sA s1 65 1) + 1) = s2
  have h := h s2 es2.symm
  refine Go.aload_n 0 dX6_withTurn_24 rfl rfl (?_ : Go _ _ 25 _ _ _ _)
  refine Go.callV (as := []) (st := []) mk_X6_listen wl_X6_117 shq_64 rfl rfl (Nat.le_of_ble_eq_true rfl) dX6_withTurn_25 h ?_
  rintro _ s3 ⟨rfl, h⟩
  show Go _ _ 28 _ [] _ _
  refine Go.iload_n 2 dX6_withTurn_28 rfl rfl (?_ : Go _ _ 29 _ _ _ _)
  refine Go.if_ne 40 dX6_withTurn_29 rfl ⟨fun c4 => ?_, fun c4 => (?_ : Go _ _ 32 _ _ _ _)⟩
  · have h := h.1 c4
    refine Go.iload_n 2 dX6_withTurn_40 rfl rfl (?_ : Go _ _ 41 _ _ _ _)
    refine Go.iconst dX6_withTurn_41 k_ic_1 (?_ : Go _ _ 42 _ _ _ _)
    refine Go.icmp_ne 53 dX6_withTurn_42 rfl ⟨fun c5 => ?_, fun c5 => (?_ : Go _ _ 45 _ _ _ _)⟩
    · have h := h.1 c5
      refine Go.aload_n 0 dX6_withTurn_53 rfl rfl (?_ : Go _ _ 54 _ _ _ _)
      refine Go.callV (as := []) (st := []) mk_X6_missed wl_X6_143 shq_64 rfl rfl (Nat.le_of_ble_eq_true rfl) dX6_withTurn_54 h ?_
      rintro _ s6 ⟨r7, rfl, h⟩
      show Go _ _ 57 _ [.int r7] _ _
      refine Go.istore_n 3 dX6_withTurn_57 rfl (by decide) rfl rfl (?_ : Go _ _ 58 [.ref 64, .int x1, .int x2, .int r7] _ _ _)
      refine Go.aload_n 0 dX6_withTurn_58 rfl rfl (?_ : Go _ _ 59 _ _ _ _)
      refine Go.getR fk_X6_7 shq_64 frq_64_0 dX6_withTurn_59 (?_ : Go _ _ 62 _ _ _ _)
      refine Go.iconst dX6_withTurn_62 k_ic_1 (?_ : Go _ _ 63 _ _ _ _)
      refine Go.dup2 dX6_withTurn_63 rfl rfl (?_ : Go _ _ 64 _ _ _ _)
      refine Go.ialdK ixk_1 vik_1_32 shq_65 dX6_withTurn_64 (?_ : Go _ _ 65 _ _ _ _)
      refine Go.iconst dX6_withTurn_65 k_ic_1 (?_ : Go _ _ 66 _ _ _ _)
      refine Go.isub dX6_withTurn_66 (?_ : Go _ _ 67 _ _ _ _)
      refine Go.iastK ixk_1 vik_1_32 shq_65 dX6_withTurn_67 (?_ : Go _ _ 68 _ _ _ _)
      generalize es8 : setA s6 65 1 ((sA s6 65 1) - 1) = s8
      have h := h s8 es8.symm
      refine Go.aload_n 0 dX6_withTurn_68 rfl rfl (?_ : Go _ _ 69 _ _ _ _)
      refine Go.getR fk_X6_7 shq_64 frq_64_0 dX6_withTurn_69 (?_ : Go _ _ 72 _ _ _ _)
      refine Go.iconst dX6_withTurn_72 k_ic_2 (?_ : Go _ _ 73 _ _ _ _)
      refine Go.aload_n 0 dX6_withTurn_73 rfl rfl (?_ : Go _ _ 74 _ _ _ _)
      refine Go.getR fk_X6_7 shq_64 frq_64_0 dX6_withTurn_74 (?_ : Go _ _ 77 _ _ _ _)
      refine Go.iconst dX6_withTurn_77 k_ic_1 (?_ : Go _ _ 78 _ _ _ _)
      refine Go.ialdK ixk_1 vik_1_32 shq_65 dX6_withTurn_78 (?_ : Go _ _ 79 _ _ _ _)
      refine Go.iadd dX6_withTurn_79 (?_ : Go _ _ 80 _ _ _ _)
      refine Go.iconst dX6_withTurn_80 k_ic_0 (?_ : Go _ _ 81 _ _ _ _)
      refine Go.iast shq_65 dX6_withTurn_81 ⟨h.1, (?_ : Go _ _ 82 _ _ _ _)⟩
      generalize es9 : setA s8 65 (ix (2 + (sA s8 65 1))) 0 = s9
      have h := h.2 s9 es9.symm
      refine Go.iload_n 3 dX6_withTurn_82 rfl rfl (?_ : Go _ _ 83 _ _ _ _)
      exact Go.iret rfl dX6_withTurn_83 ⟨_, rfl, h⟩
    · have h := h.2 c5
      refine Go.aload_n 0 dX6_withTurn_45 rfl rfl (?_ : Go _ _ 46 _ _ _ _)
      refine Go.iconst dX6_withTurn_46 k_ic_1 (?_ : Go _ _ 47 _ _ _ _)
      refine Go.callV (as := [.int 1]) (st := []) mk_X6_toldMany wl_X6_139 shq_64 rfl rfl (Nat.le_of_ble_eq_true rfl) dX6_withTurn_47 h ?_
      rintro _ s10 ⟨r11, rfl, h⟩
      show Go _ _ 50 _ [.int r11] _ _
      refine Go.goto 57 dX6_withTurn_50 rfl ?_
      refine Go.istore_n 3 dX6_withTurn_57 rfl (by decide) rfl rfl (?_ : Go _ _ 58 [.ref 64, .int x1, .int x2, .int r11] _ _ _)
      refine Go.aload_n 0 dX6_withTurn_58 rfl rfl (?_ : Go _ _ 59 _ _ _ _)
      refine Go.getR fk_X6_7 shq_64 frq_64_0 dX6_withTurn_59 (?_ : Go _ _ 62 _ _ _ _)
      refine Go.iconst dX6_withTurn_62 k_ic_1 (?_ : Go _ _ 63 _ _ _ _)
      refine Go.dup2 dX6_withTurn_63 rfl rfl (?_ : Go _ _ 64 _ _ _ _)
      refine Go.ialdK ixk_1 vik_1_32 shq_65 dX6_withTurn_64 (?_ : Go _ _ 65 _ _ _ _)
      refine Go.iconst dX6_withTurn_65 k_ic_1 (?_ : Go _ _ 66 _ _ _ _)
      refine Go.isub dX6_withTurn_66 (?_ : Go _ _ 67 _ _ _ _)
      refine Go.iastK ixk_1 vik_1_32 shq_65 dX6_withTurn_67 (?_ : Go _ _ 68 _ _ _ _)
      generalize es12 : setA s10 65 1 ((sA s10 65 1) - 1) = s12
      have h := h s12 es12.symm
      refine Go.aload_n 0 dX6_withTurn_68 rfl rfl (?_ : Go _ _ 69 _ _ _ _)
      refine Go.getR fk_X6_7 shq_64 frq_64_0 dX6_withTurn_69 (?_ : Go _ _ 72 _ _ _ _)
      refine Go.iconst dX6_withTurn_72 k_ic_2 (?_ : Go _ _ 73 _ _ _ _)
      refine Go.aload_n 0 dX6_withTurn_73 rfl rfl (?_ : Go _ _ 74 _ _ _ _)
      refine Go.getR fk_X6_7 shq_64 frq_64_0 dX6_withTurn_74 (?_ : Go _ _ 77 _ _ _ _)
      refine Go.iconst dX6_withTurn_77 k_ic_1 (?_ : Go _ _ 78 _ _ _ _)
      refine Go.ialdK ixk_1 vik_1_32 shq_65 dX6_withTurn_78 (?_ : Go _ _ 79 _ _ _ _)
      refine Go.iadd dX6_withTurn_79 (?_ : Go _ _ 80 _ _ _ _)
      refine Go.iconst dX6_withTurn_80 k_ic_0 (?_ : Go _ _ 81 _ _ _ _)
      refine Go.iast shq_65 dX6_withTurn_81 ⟨h.1, (?_ : Go _ _ 82 _ _ _ _)⟩
      generalize es13 : setA s12 65 (ix (2 + (sA s12 65 1))) 0 = s13
      have h := h.2 s13 es13.symm
      refine Go.iload_n 3 dX6_withTurn_82 rfl rfl (?_ : Go _ _ 83 _ _ _ _)
      exact Go.iret rfl dX6_withTurn_83 ⟨_, rfl, h⟩
  · have h := h.2 c4
    refine Go.aload_n 0 dX6_withTurn_32 rfl rfl (?_ : Go _ _ 33 _ _ _ _)
    refine Go.iconst dX6_withTurn_33 k_ic_0 (?_ : Go _ _ 34 _ _ _ _)
    refine Go.callV (as := [.int 0]) (st := []) mk_X6_toldMany wl_X6_139 shq_64 rfl rfl (Nat.le_of_ble_eq_true rfl) dX6_withTurn_34 h ?_
    rintro _ s14 ⟨r15, rfl, h⟩
    show Go _ _ 37 _ [.int r15] _ _
    refine Go.goto 57 dX6_withTurn_37 rfl ?_
    refine Go.istore_n 3 dX6_withTurn_57 rfl (by decide) rfl rfl (?_ : Go _ _ 58 [.ref 64, .int x1, .int x2, .int r15] _ _ _)
    refine Go.aload_n 0 dX6_withTurn_58 rfl rfl (?_ : Go _ _ 59 _ _ _ _)
    refine Go.getR fk_X6_7 shq_64 frq_64_0 dX6_withTurn_59 (?_ : Go _ _ 62 _ _ _ _)
    refine Go.iconst dX6_withTurn_62 k_ic_1 (?_ : Go _ _ 63 _ _ _ _)
    refine Go.dup2 dX6_withTurn_63 rfl rfl (?_ : Go _ _ 64 _ _ _ _)
    refine Go.ialdK ixk_1 vik_1_32 shq_65 dX6_withTurn_64 (?_ : Go _ _ 65 _ _ _ _)
    refine Go.iconst dX6_withTurn_65 k_ic_1 (?_ : Go _ _ 66 _ _ _ _)
    refine Go.isub dX6_withTurn_66 (?_ : Go _ _ 67 _ _ _ _)
    refine Go.iastK ixk_1 vik_1_32 shq_65 dX6_withTurn_67 (?_ : Go _ _ 68 _ _ _ _)
    generalize es16 : setA s14 65 1 ((sA s14 65 1) - 1) = s16
    have h := h s16 es16.symm
    refine Go.aload_n 0 dX6_withTurn_68 rfl rfl (?_ : Go _ _ 69 _ _ _ _)
    refine Go.getR fk_X6_7 shq_64 frq_64_0 dX6_withTurn_69 (?_ : Go _ _ 72 _ _ _ _)
    refine Go.iconst dX6_withTurn_72 k_ic_2 (?_ : Go _ _ 73 _ _ _ _)
    refine Go.aload_n 0 dX6_withTurn_73 rfl rfl (?_ : Go _ _ 74 _ _ _ _)
    refine Go.getR fk_X6_7 shq_64 frq_64_0 dX6_withTurn_74 (?_ : Go _ _ 77 _ _ _ _)
    refine Go.iconst dX6_withTurn_77 k_ic_1 (?_ : Go _ _ 78 _ _ _ _)
    refine Go.ialdK ixk_1 vik_1_32 shq_65 dX6_withTurn_78 (?_ : Go _ _ 79 _ _ _ _)
    refine Go.iadd dX6_withTurn_79 (?_ : Go _ _ 80 _ _ _ _)
    refine Go.iconst dX6_withTurn_80 k_ic_0 (?_ : Go _ _ 81 _ _ _ _)
    refine Go.iast shq_65 dX6_withTurn_81 ⟨h.1, (?_ : Go _ _ 82 _ _ _ _)⟩
    generalize es17 : setA s16 65 (ix (2 + (sA s16 65 1))) 0 = s17
    have h := h.2 s17 es17.symm
    refine Go.iload_n 3 dX6_withTurn_82 rfl rfl (?_ : Go _ _ 83 _ _ _ _)
    exact Go.iret rfl dX6_withTurn_83 ⟨_, rfl, h⟩
theorem cgX6_withTurn {d : Nat} {σ : St} {x1 : Int32} {x2 : Int32} {K : Int32 → St → Prop} (h : vp_in (2 + (sA σ 65 1)) 32 ∧ ∀ s1, s1 = setA σ 65 (ix (2 + (sA σ 65 1))) x1 → ∀ s2, s2 = setA s1 65 1 ((sA s1 65 1) + 1) → CallU d mX6_listen [.ref 64] s2 (fun s3 => (¬ x2 = 0 → (¬ x2 = 1 → CallI d mX6_missed [.ref 64] s3 (fun r7 s6 => ∀ s8, s8 = setA s6 65 1 ((sA s6 65 1) - 1) → vp_in (2 + (sA s8 65 1)) 32 ∧ ∀ s9, s9 = setA s8 65 (ix (2 + (sA s8 65 1))) 0 → K r7 s9)) ∧ (x2 = 1 → CallI d mX6_toldMany [.ref 64, .int 1] s3 (fun r11 s10 => ∀ s12, s12 = setA s10 65 1 ((sA s10 65 1) - 1) → vp_in (2 + (sA s12 65 1)) 32 ∧ ∀ s13, s13 = setA s12 65 (ix (2 + (sA s12 65 1))) 0 → K r11 s13))) ∧ (x2 = 0 → CallI d mX6_toldMany [.ref 64, .int 0] s3 (fun r15 s14 => ∀ s16, s16 = setA s14 65 1 ((sA s14 65 1) - 1) → vp_in (2 + (sA s16 65 1)) 32 ∧ ∀ s17, s17 = setA s16 65 (ix (2 + (sA s16 65 1))) 0 → K r15 s17)))) : CallI (d + 1) mX6_withTurn [.ref 64, .int x1, .int x2] σ K := Call_of_Go (by decide +kernel) (ls := [.ref 64, .int x1, .int x2, .null]) rfl (Nat.le_of_ble_eq_true rfl) (sgX6_withTurn_0 h)
set_option maxHeartbeats 4000000 in
set_option maxRecDepth 100000 in
theorem sgX6_ifTurn_0 {d : Nat} {σ : St} {x1 : Int32} {x2 : Int32} {K : Int32 → St → Prop} (h : CallI d mX6_isSpacing [.int x1] σ (fun r2 s1 => (r2 = 0 → K (-1) s1) ∧ (¬ r2 = 0 → CallI d mX6_in [.int x2, .int 0, .int 2] s1 (fun r5 s4 => (¬ r5 = 0 → (¬ (sA s4 65 1) = 4 → CallI d mX6_withTurn [.ref 64, .int x1, .int x2] s4 (fun r9 s8 => K r9 s8)) ∧ ((sA s4 65 1) = 4 → K (-3) s4)) ∧ (r5 = 0 → K (-1) s4))))) : Go mX6_ifTurn (d + 1) 0 [.ref 64, .int x1, .int x2] [] σ (QI K) := by
  refine Go.iload_n 1 dX6_ifTurn_0 rfl rfl (?_ : Go _ _ 1 _ _ _ _)
  refine Go.callS (as := [.int x1]) (st := []) mk_X6_isSpacing wl_X6_79 rfl rfl (Nat.le_of_ble_eq_true rfl) dX6_ifTurn_1 h ?_
  rintro _ s1 ⟨r2, rfl, h⟩
  show Go _ _ 4 _ [.int r2] _ _
  refine Go.if_eq 16 dX6_ifTurn_4 rfl ⟨fun c3 => ?_, fun c3 => (?_ : Go _ _ 7 _ _ _ _)⟩
  · have h := h.1 c3
    refine Go.iconst dX6_ifTurn_16 k_ic_m1 (?_ : Go _ _ 17 _ _ _ _)
    exact Go.iret rfl dX6_ifTurn_17 ⟨_, rfl, h⟩
  · have h := h.2 c3
    refine Go.iload_n 2 dX6_ifTurn_7 rfl rfl (?_ : Go _ _ 8 _ _ _ _)
    refine Go.iconst dX6_ifTurn_8 k_ic_0 (?_ : Go _ _ 9 _ _ _ _)
    refine Go.iconst dX6_ifTurn_9 k_ic_2 (?_ : Go _ _ 10 _ _ _ _)
    refine Go.callS (as := [.int x2, .int 0, .int 2]) (st := []) mk_X6_in wl_X6_41 rfl rfl (Nat.le_of_ble_eq_true rfl) dX6_ifTurn_10 h ?_
    rintro _ s4 ⟨r5, rfl, h⟩
    show Go _ _ 13 _ [.int r5] _ _
    refine Go.if_ne 18 dX6_ifTurn_13 rfl ⟨fun c6 => ?_, fun c6 => (?_ : Go _ _ 16 _ _ _ _)⟩
    · have h := h.1 c6
      refine Go.aload_n 0 dX6_ifTurn_18 rfl rfl (?_ : Go _ _ 19 _ _ _ _)
      refine Go.getR fk_X6_7 shq_64 frq_64_0 dX6_ifTurn_19 (?_ : Go _ _ 22 _ _ _ _)
      refine Go.iconst dX6_ifTurn_22 k_ic_1 (?_ : Go _ _ 23 _ _ _ _)
      refine Go.ialdK ixk_1 vik_1_32 shq_65 dX6_ifTurn_23 (?_ : Go _ _ 24 _ _ _ _)
      refine Go.iconst dX6_ifTurn_24 k_ic_4 (?_ : Go _ _ 25 _ _ _ _)
      refine Go.icmp_ne 33 dX6_ifTurn_25 rfl ⟨fun c7 => ?_, fun c7 => (?_ : Go _ _ 28 _ _ _ _)⟩
      · have h := h.1 c7
        refine Go.aload_n 0 dX6_ifTurn_33 rfl rfl (?_ : Go _ _ 34 _ _ _ _)
        refine Go.iload_n 1 dX6_ifTurn_34 rfl rfl (?_ : Go _ _ 35 _ _ _ _)
        refine Go.iload_n 2 dX6_ifTurn_35 rfl rfl (?_ : Go _ _ 36 _ _ _ _)
        refine Go.callV (as := [.int x1, .int x2]) (st := []) mk_X6_withTurn wl_X6_155 shq_64 rfl rfl (Nat.le_of_ble_eq_true rfl) dX6_ifTurn_36 h ?_
        rintro _ s8 ⟨r9, rfl, h⟩
        show Go _ _ 39 _ [.int r9] _ _
        exact Go.iret rfl dX6_ifTurn_39 ⟨_, rfl, h⟩
      · have h := h.2 c7
        refine Go.bipush dX6_ifTurn_28 k_bi_m3 (?_ : Go _ _ 30 _ _ _ _)
        refine Go.goto 39 dX6_ifTurn_30 rfl ?_
        exact Go.iret rfl dX6_ifTurn_39 ⟨_, rfl, h⟩
    · have h := h.2 c6
      refine Go.iconst dX6_ifTurn_16 k_ic_m1 (?_ : Go _ _ 17 _ _ _ _)
      exact Go.iret rfl dX6_ifTurn_17 ⟨_, rfl, h⟩
theorem cgX6_ifTurn {d : Nat} {σ : St} {x1 : Int32} {x2 : Int32} {K : Int32 → St → Prop} (h : CallI d mX6_isSpacing [.int x1] σ (fun r2 s1 => (r2 = 0 → K (-1) s1) ∧ (¬ r2 = 0 → CallI d mX6_in [.int x2, .int 0, .int 2] s1 (fun r5 s4 => (¬ r5 = 0 → (¬ (sA s4 65 1) = 4 → CallI d mX6_withTurn [.ref 64, .int x1, .int x2] s4 (fun r9 s8 => K r9 s8)) ∧ ((sA s4 65 1) = 4 → K (-3) s4)) ∧ (r5 = 0 → K (-1) s4))))) : CallI (d + 1) mX6_ifTurn [.ref 64, .int x1, .int x2] σ K := Call_of_Go (by decide +kernel) (ls := [.ref 64, .int x1, .int x2]) rfl (Nat.le_of_ble_eq_true rfl) (sgX6_ifTurn_0 h)
set_option maxHeartbeats 4000000 in
set_option maxRecDepth 100000 in
theorem sgX6_bestTurn_0 {d : Nat} {σ : St} {K : Int32 → St → Prop} (h : (¬ (sA σ 65 1) = 4 → CallI d mX6_withTurn [.ref 64, .int 10, .int 1] σ (fun r3 s2 => CallI d mX6_withTurn [.ref 64, .int 10, .int 2] s2 (fun r5 s4 => Go mX6_bestTurn (d + 1) 35 [.ref 64, .int 10, .int (r3 + r5), .int 11, .null] [] s4 (QI K)))) ∧ ((sA σ 65 1) = 4 → K (-3) σ)) : Go mX6_bestTurn (d + 1) 0 [.ref 64, .null, .null, .null, .null] [] σ (QI K) := by
  refine Go.aload_n 0 dX6_bestTurn_0 rfl rfl (?_ : Go _ _ 1 _ _ _ _)
  refine Go.getR fk_X6_7 shq_64 frq_64_0 dX6_bestTurn_1 (?_ : Go _ _ 4 _ _ _ _)
  refine Go.iconst dX6_bestTurn_4 k_ic_1 (?_ : Go _ _ 5 _ _ _ _)
  refine Go.ialdK ixk_1 vik_1_32 shq_65 dX6_bestTurn_5 (?_ : Go _ _ 6 _ _ _ _)
  refine Go.iconst dX6_bestTurn_6 k_ic_4 (?_ : Go _ _ 7 _ _ _ _)
  refine Go.icmp_ne 13 dX6_bestTurn_7 rfl ⟨fun c1 => ?_, fun c1 => (?_ : Go _ _ 10 _ _ _ _)⟩
  · have h := h.1 c1
    refine Go.bipush dX6_bestTurn_13 k_bi_10 (?_ : Go _ _ 15 _ _ _ _)
    refine Go.istore_n 1 dX6_bestTurn_15 rfl (by decide) rfl rfl (?_ : Go _ _ 16 [.ref 64, .int 10, .null, .null, .null] _ _ _)
    refine Go.aload_n 0 dX6_bestTurn_16 rfl rfl (?_ : Go _ _ 17 _ _ _ _)
    refine Go.bipush dX6_bestTurn_17 k_bi_10 (?_ : Go _ _ 19 _ _ _ _)
    refine Go.iconst dX6_bestTurn_19 k_ic_1 (?_ : Go _ _ 20 _ _ _ _)
    refine Go.callV (as := [.int 10, .int 1]) (st := []) mk_X6_withTurn wl_X6_155 shq_64 rfl rfl (Nat.le_of_ble_eq_true rfl) dX6_bestTurn_20 h ?_
    rintro _ s2 ⟨r3, rfl, h⟩
    show Go _ _ 23 _ [.int r3] _ _
    refine Go.aload_n 0 dX6_bestTurn_23 rfl rfl (?_ : Go _ _ 24 _ _ _ _)
    refine Go.bipush dX6_bestTurn_24 k_bi_10 (?_ : Go _ _ 26 _ _ _ _)
    refine Go.iconst dX6_bestTurn_26 k_ic_2 (?_ : Go _ _ 27 _ _ _ _)
    refine Go.callV (as := [.int 10, .int 2]) (st := [.int r3]) mk_X6_withTurn wl_X6_155 shq_64 rfl rfl (Nat.le_of_ble_eq_true rfl) dX6_bestTurn_27 h ?_
    rintro _ s4 ⟨r5, rfl, h⟩
    show Go _ _ 30 _ [.int r5, .int r3] _ _
    refine Go.iadd dX6_bestTurn_30 (?_ : Go _ _ 31 _ _ _ _)
    refine Go.istore_n 2 dX6_bestTurn_31 rfl (by decide) rfl rfl (?_ : Go _ _ 32 [.ref 64, .int 10, .int (r3 + r5), .null, .null] _ _ _)
    refine Go.bipush dX6_bestTurn_32 k_bi_11 (?_ : Go _ _ 34 _ _ _ _)
    refine Go.istore_n 3 dX6_bestTurn_34 rfl (by decide) rfl rfl (?_ : Go _ _ 35 [.ref 64, .int 10, .int (r3 + r5), .int 11, .null] _ _ _)
    exact h
  · have h := h.2 c1
    refine Go.bipush dX6_bestTurn_10 k_bi_m3 (?_ : Go _ _ 12 _ _ _ _)
    exact Go.iret rfl dX6_bestTurn_12 ⟨_, rfl, h⟩
theorem cgX6_bestTurn {d : Nat} {σ : St} {K : Int32 → St → Prop} (h : (¬ (sA σ 65 1) = 4 → CallI d mX6_withTurn [.ref 64, .int 10, .int 1] σ (fun r3 s2 => CallI d mX6_withTurn [.ref 64, .int 10, .int 2] s2 (fun r5 s4 => Go mX6_bestTurn (d + 1) 35 [.ref 64, .int 10, .int (r3 + r5), .int 11, .null] [] s4 (QI K)))) ∧ ((sA σ 65 1) = 4 → K (-3) σ)) : CallI (d + 1) mX6_bestTurn [.ref 64] σ K := Call_of_Go (by decide +kernel) (ls := [.ref 64, .null, .null, .null, .null]) rfl (Nat.le_of_ble_eq_true rfl) (sgX6_bestTurn_0 h)
set_option maxHeartbeats 4000000 in
set_option maxRecDepth 100000 in
theorem sgX6_bestTurn_35 {d : Nat} {σ : St} {v1 : Int32} {v2 : Int32} {v3 : Int32} {K : Int32 → St → Prop} (h : (50 < v3 → K v1 σ) ∧ (¬ 50 < v3 → CallI d mX6_withTurn [.ref 64, .int v3, .int 1] σ (fun r3 s2 => CallI d mX6_withTurn [.ref 64, .int v3, .int 2] s2 (fun r5 s4 => (v2 ≤ (r3 + r5) → (v2 ≤ (r3 + r5) → Go mX6_bestTurn (d + 1) 35 [.ref 64, .int v1, .int v2, .int (v3 + 1), .null] [] s4 (QI K)) ∧ (¬ v2 ≤ (r3 + r5) → Go mX6_bestTurn (d + 1) 35 [.ref 64, .int v1, .int (r3 + r5), .int (v3 + 1), .null] [] s4 (QI K))) ∧ (¬ v2 ≤ (r3 + r5) → (v2 ≤ (r3 + r5) → Go mX6_bestTurn (d + 1) 35 [.ref 64, .int v3, .int v2, .int (v3 + 1), .null] [] s4 (QI K)) ∧ (¬ v2 ≤ (r3 + r5) → Go mX6_bestTurn (d + 1) 35 [.ref 64, .int v3, .int (r3 + r5), .int (v3 + 1), .null] [] s4 (QI K))))))) : Go mX6_bestTurn (d + 1) 35 [.ref 64, .int v1, .int v2, .int v3, .null] [] σ (QI K) := by
  refine Go.iload_n 3 dX6_bestTurn_35 rfl rfl (?_ : Go _ _ 36 _ _ _ _)
  refine Go.bipush dX6_bestTurn_36 k_bi_50 (?_ : Go _ _ 38 _ _ _ _)
  refine Go.icmp_gt 87 dX6_bestTurn_38 rfl ⟨fun c1 => ?_, fun c1 => (?_ : Go _ _ 41 _ _ _ _)⟩
  · have h := h.1 c1
    refine Go.iload_n 1 dX6_bestTurn_87 rfl rfl (?_ : Go _ _ 88 _ _ _ _)
    exact Go.iret rfl dX6_bestTurn_88 ⟨_, rfl, h⟩
  · have h := h.2 c1
    refine Go.aload_n 0 dX6_bestTurn_41 rfl rfl (?_ : Go _ _ 42 _ _ _ _)
    refine Go.iload_n 3 dX6_bestTurn_42 rfl rfl (?_ : Go _ _ 43 _ _ _ _)
    refine Go.iconst dX6_bestTurn_43 k_ic_1 (?_ : Go _ _ 44 _ _ _ _)
    refine Go.callV (as := [.int v3, .int 1]) (st := []) mk_X6_withTurn wl_X6_155 shq_64 rfl rfl (Nat.le_of_ble_eq_true rfl) dX6_bestTurn_44 h ?_
    rintro _ s2 ⟨r3, rfl, h⟩
    show Go _ _ 47 _ [.int r3] _ _
    refine Go.aload_n 0 dX6_bestTurn_47 rfl rfl (?_ : Go _ _ 48 _ _ _ _)
    refine Go.iload_n 3 dX6_bestTurn_48 rfl rfl (?_ : Go _ _ 49 _ _ _ _)
    refine Go.iconst dX6_bestTurn_49 k_ic_2 (?_ : Go _ _ 50 _ _ _ _)
    refine Go.callV (as := [.int v3, .int 2]) (st := [.int r3]) mk_X6_withTurn wl_X6_155 shq_64 rfl rfl (Nat.le_of_ble_eq_true rfl) dX6_bestTurn_50 h ?_
    rintro _ s4 ⟨r5, rfl, h⟩
    show Go _ _ 53 _ [.int r5, .int r3] _ _
    refine Go.iadd dX6_bestTurn_53 (?_ : Go _ _ 54 _ _ _ _)
    refine Go.istore dX6_bestTurn_54 (by decide) rfl rfl (?_ : Go _ _ 56 [.ref 64, .int v1, .int v2, .int v3, .int (r3 + r5)] _ _ _)
    refine Go.iload dX6_bestTurn_56 rfl (?_ : Go _ _ 58 _ _ _ _)
    refine Go.iload_n 2 dX6_bestTurn_58 rfl rfl (?_ : Go _ _ 59 _ _ _ _)
    refine Go.icmp_ge 66 dX6_bestTurn_59 rfl ⟨fun c6 => ?_, fun c6 => (?_ : Go _ _ 62 _ _ _ _)⟩
    · have h := h.1 c6
      refine Go.iload_n 1 dX6_bestTurn_66 rfl rfl (?_ : Go _ _ 67 _ _ _ _)
      refine Go.istore_n 1 dX6_bestTurn_67 rfl (by decide) rfl rfl (?_ : Go _ _ 68 [.ref 64, .int v1, .int v2, .int v3, .int (r3 + r5)] _ _ _)
      refine Go.iload dX6_bestTurn_68 rfl (?_ : Go _ _ 70 _ _ _ _)
      refine Go.iload_n 2 dX6_bestTurn_70 rfl rfl (?_ : Go _ _ 71 _ _ _ _)
      refine Go.icmp_ge 79 dX6_bestTurn_71 rfl ⟨fun c7 => ?_, fun c7 => (?_ : Go _ _ 74 _ _ _ _)⟩
      · have h := h.1 c7
        refine Go.iload_n 2 dX6_bestTurn_79 rfl rfl (?_ : Go _ _ 80 _ _ _ _)
        refine Go.istore_n 2 dX6_bestTurn_80 rfl (by decide) rfl rfl (?_ : Go _ _ 81 [.ref 64, .int v1, .int v2, .int v3, .int (r3 + r5)] _ _ _)
        refine Go.iinc dX6_bestTurn_81 rfl (congrArg (fun z => v3 + z) k_ic_1) (by decide) rfl rfl (?_ : Go _ _ 84 [.ref 64, .int v1, .int v2, .int (v3 + 1), .int (r3 + r5)] _ _ _)
        refine Go.goto 35 dX6_bestTurn_84 rfl ?_
        refine Go.drop (ls' := [.ref 64, .int v1, .int v2, .int (v3 + 1), .null]) 4 rfl ?_
        exact h
      · have h := h.2 c7
        refine Go.iload dX6_bestTurn_74 rfl (?_ : Go _ _ 76 _ _ _ _)
        refine Go.goto 80 dX6_bestTurn_76 rfl ?_
        refine Go.istore_n 2 dX6_bestTurn_80 rfl (by decide) rfl rfl (?_ : Go _ _ 81 [.ref 64, .int v1, .int (r3 + r5), .int v3, .int (r3 + r5)] _ _ _)
        refine Go.iinc dX6_bestTurn_81 rfl (congrArg (fun z => v3 + z) k_ic_1) (by decide) rfl rfl (?_ : Go _ _ 84 [.ref 64, .int v1, .int (r3 + r5), .int (v3 + 1), .int (r3 + r5)] _ _ _)
        refine Go.goto 35 dX6_bestTurn_84 rfl ?_
        refine Go.drop (ls' := [.ref 64, .int v1, .int (r3 + r5), .int (v3 + 1), .null]) 4 rfl ?_
        exact h
    · have h := h.2 c6
      refine Go.iload_n 3 dX6_bestTurn_62 rfl rfl (?_ : Go _ _ 63 _ _ _ _)
      refine Go.goto 67 dX6_bestTurn_63 rfl ?_
      refine Go.istore_n 1 dX6_bestTurn_67 rfl (by decide) rfl rfl (?_ : Go _ _ 68 [.ref 64, .int v3, .int v2, .int v3, .int (r3 + r5)] _ _ _)
      refine Go.iload dX6_bestTurn_68 rfl (?_ : Go _ _ 70 _ _ _ _)
      refine Go.iload_n 2 dX6_bestTurn_70 rfl rfl (?_ : Go _ _ 71 _ _ _ _)
      refine Go.icmp_ge 79 dX6_bestTurn_71 rfl ⟨fun c8 => ?_, fun c8 => (?_ : Go _ _ 74 _ _ _ _)⟩
      · have h := h.1 c8
        refine Go.iload_n 2 dX6_bestTurn_79 rfl rfl (?_ : Go _ _ 80 _ _ _ _)
        refine Go.istore_n 2 dX6_bestTurn_80 rfl (by decide) rfl rfl (?_ : Go _ _ 81 [.ref 64, .int v3, .int v2, .int v3, .int (r3 + r5)] _ _ _)
        refine Go.iinc dX6_bestTurn_81 rfl (congrArg (fun z => v3 + z) k_ic_1) (by decide) rfl rfl (?_ : Go _ _ 84 [.ref 64, .int v3, .int v2, .int (v3 + 1), .int (r3 + r5)] _ _ _)
        refine Go.goto 35 dX6_bestTurn_84 rfl ?_
        refine Go.drop (ls' := [.ref 64, .int v3, .int v2, .int (v3 + 1), .null]) 4 rfl ?_
        exact h
      · have h := h.2 c8
        refine Go.iload dX6_bestTurn_74 rfl (?_ : Go _ _ 76 _ _ _ _)
        refine Go.goto 80 dX6_bestTurn_76 rfl ?_
        refine Go.istore_n 2 dX6_bestTurn_80 rfl (by decide) rfl rfl (?_ : Go _ _ 81 [.ref 64, .int v3, .int (r3 + r5), .int v3, .int (r3 + r5)] _ _ _)
        refine Go.iinc dX6_bestTurn_81 rfl (congrArg (fun z => v3 + z) k_ic_1) (by decide) rfl rfl (?_ : Go _ _ 84 [.ref 64, .int v3, .int (r3 + r5), .int (v3 + 1), .int (r3 + r5)] _ _ _)
        refine Go.goto 35 dX6_bestTurn_84 rfl ?_
        refine Go.drop (ls' := [.ref 64, .int v3, .int (r3 + r5), .int (v3 + 1), .null]) 4 rfl ?_
        exact h
set_option maxHeartbeats 4000000 in
set_option maxRecDepth 100000 in
theorem sgX6_ifWall_0 {d : Nat} {σ : St} {x1 : Int32} {x2 : Int32} {x3 : Int32} {K : Int32 → St → Prop} (h : CallI d mX6_isBody [.int x1, .int x2, .int 0] σ (fun r2 s1 => (r2 = 0 → K (-1) s1) ∧ (¬ r2 = 0 → CallI d mX6_in [.int x3, .int 0, .int 1] s1 (fun r5 s4 => (¬ r5 = 0 → CallI d mX6_isThere [.ref 64, .int x1, .int 0] s4 (fun r8 s7 => (r8 = 0 → (¬ (sA s7 65 0) = 6 → CallU d mX6_add [.ref 64, .int x1, .int x2, .int 0, .int 1] s7 (fun s11 => CallU d mX6_listen [.ref 64] s11 (fun s12 => (¬ x3 = 0 → CallI d mX6_toldMany [.ref 64, .int 0] s12 (fun r15 s14 => ∀ s16, s16 = setA s14 65 0 ((sA s14 65 0) - 1) → K r15 s16)) ∧ (x3 = 0 → ∀ s17, s17 = setA s12 65 0 ((sA s12 65 0) - 1) → K ((sF s12 64 8) - (sA s12 65 0)) s17)))) ∧ ((sA s7 65 0) = 6 → K (-3) s7)) ∧ (¬ r8 = 0 → K (-2) s7))) ∧ (r5 = 0 → K (-1) s4))))) : Go mX6_ifWall (d + 1) 0 [.ref 64, .int x1, .int x2, .int x3, .null] [] σ (QI K) := by
  refine Go.iload_n 1 dX6_ifWall_0 rfl rfl (?_ : Go _ _ 1 _ _ _ _)
  refine Go.iload_n 2 dX6_ifWall_1 rfl rfl (?_ : Go _ _ 2 _ _ _ _)
  refine Go.iconst dX6_ifWall_2 k_ic_0 (?_ : Go _ _ 3 _ _ _ _)
  refine Go.callS (as := [.int x1, .int x2, .int 0]) (st := []) mk_X6_isBody wl_X6_60 rfl rfl (Nat.le_of_ble_eq_true rfl) dX6_ifWall_3 h ?_
  rintro _ s1 ⟨r2, rfl, h⟩
  show Go _ _ 6 _ [.int r2] _ _
  refine Go.if_eq 18 dX6_ifWall_6 rfl ⟨fun c3 => ?_, fun c3 => (?_ : Go _ _ 9 _ _ _ _)⟩
  · have h := h.1 c3
    refine Go.iconst dX6_ifWall_18 k_ic_m1 (?_ : Go _ _ 19 _ _ _ _)
    exact Go.iret rfl dX6_ifWall_19 ⟨_, rfl, h⟩
  · have h := h.2 c3
    refine Go.iload_n 3 dX6_ifWall_9 rfl rfl (?_ : Go _ _ 10 _ _ _ _)
    refine Go.iconst dX6_ifWall_10 k_ic_0 (?_ : Go _ _ 11 _ _ _ _)
    refine Go.iconst dX6_ifWall_11 k_ic_1 (?_ : Go _ _ 12 _ _ _ _)
    refine Go.callS (as := [.int x3, .int 0, .int 1]) (st := []) mk_X6_in wl_X6_41 rfl rfl (Nat.le_of_ble_eq_true rfl) dX6_ifWall_12 h ?_
    rintro _ s4 ⟨r5, rfl, h⟩
    show Go _ _ 15 _ [.int r5] _ _
    refine Go.if_ne 20 dX6_ifWall_15 rfl ⟨fun c6 => ?_, fun c6 => (?_ : Go _ _ 18 _ _ _ _)⟩
    · have h := h.1 c6
      refine Go.aload_n 0 dX6_ifWall_20 rfl rfl (?_ : Go _ _ 21 _ _ _ _)
      refine Go.iload_n 1 dX6_ifWall_21 rfl rfl (?_ : Go _ _ 22 _ _ _ _)
      refine Go.iconst dX6_ifWall_22 k_ic_0 (?_ : Go _ _ 23 _ _ _ _)
      refine Go.callV (as := [.int x1, .int 0]) (st := []) mk_X6_isThere wl_X6_63 shq_64 rfl rfl (Nat.le_of_ble_eq_true rfl) dX6_ifWall_23 h ?_
      rintro _ s7 ⟨r8, rfl, h⟩
      show Go _ _ 26 _ [.int r8] _ _
      refine Go.if_eq 32 dX6_ifWall_26 rfl ⟨fun c9 => ?_, fun c9 => (?_ : Go _ _ 29 _ _ _ _)⟩
      · have h := h.1 c9
        refine Go.aload_n 0 dX6_ifWall_32 rfl rfl (?_ : Go _ _ 33 _ _ _ _)
        refine Go.getR fk_X6_7 shq_64 frq_64_0 dX6_ifWall_33 (?_ : Go _ _ 36 _ _ _ _)
        refine Go.iconst dX6_ifWall_36 k_ic_0 (?_ : Go _ _ 37 _ _ _ _)
        refine Go.ialdK ixk_0 vik_0_32 shq_65 dX6_ifWall_37 (?_ : Go _ _ 38 _ _ _ _)
        refine Go.bipush dX6_ifWall_38 k_bi_6 (?_ : Go _ _ 40 _ _ _ _)
        refine Go.icmp_ne 46 dX6_ifWall_40 rfl ⟨fun c10 => ?_, fun c10 => (?_ : Go _ _ 43 _ _ _ _)⟩
        · have h := h.1 c10
          refine Go.aload_n 0 dX6_ifWall_46 rfl rfl (?_ : Go _ _ 47 _ _ _ _)
          refine Go.iload_n 1 dX6_ifWall_47 rfl rfl (?_ : Go _ _ 48 _ _ _ _)
          refine Go.iload_n 2 dX6_ifWall_48 rfl rfl (?_ : Go _ _ 49 _ _ _ _)
          refine Go.iconst dX6_ifWall_49 k_ic_0 (?_ : Go _ _ 50 _ _ _ _)
          refine Go.iconst dX6_ifWall_50 k_ic_1 (?_ : Go _ _ 51 _ _ _ _)
          refine Go.callV (as := [.int x1, .int x2, .int 0, .int 1]) (st := []) mk_X6_add wl_X6_67 shq_64 rfl rfl (Nat.le_of_ble_eq_true rfl) dX6_ifWall_51 h ?_
          rintro _ s11 ⟨rfl, h⟩
          show Go _ _ 54 _ [] _ _
          refine Go.aload_n 0 dX6_ifWall_54 rfl rfl (?_ : Go _ _ 55 _ _ _ _)
          refine Go.callV (as := []) (st := []) mk_X6_listen wl_X6_117 shq_64 rfl rfl (Nat.le_of_ble_eq_true rfl) dX6_ifWall_55 h ?_
          rintro _ s12 ⟨rfl, h⟩
          show Go _ _ 58 _ [] _ _
          refine Go.iload_n 3 dX6_ifWall_58 rfl rfl (?_ : Go _ _ 59 _ _ _ _)
          refine Go.if_ne 76 dX6_ifWall_59 rfl ⟨fun c13 => ?_, fun c13 => (?_ : Go _ _ 62 _ _ _ _)⟩
          · have h := h.1 c13
            refine Go.aload_n 0 dX6_ifWall_76 rfl rfl (?_ : Go _ _ 77 _ _ _ _)
            refine Go.iconst dX6_ifWall_77 k_ic_0 (?_ : Go _ _ 78 _ _ _ _)
            refine Go.callV (as := [.int 0]) (st := []) mk_X6_toldMany wl_X6_139 shq_64 rfl rfl (Nat.le_of_ble_eq_true rfl) dX6_ifWall_78 h ?_
            rintro _ s14 ⟨r15, rfl, h⟩
            show Go _ _ 81 _ [.int r15] _ _
            refine Go.istore dX6_ifWall_81 (by decide) rfl rfl (?_ : Go _ _ 83 [.ref 64, .int x1, .int x2, .int x3, .int r15] _ _ _)
            refine Go.aload_n 0 dX6_ifWall_83 rfl rfl (?_ : Go _ _ 84 _ _ _ _)
            refine Go.getR fk_X6_7 shq_64 frq_64_0 dX6_ifWall_84 (?_ : Go _ _ 87 _ _ _ _)
            refine Go.iconst dX6_ifWall_87 k_ic_0 (?_ : Go _ _ 88 _ _ _ _)
            refine Go.dup2 dX6_ifWall_88 rfl rfl (?_ : Go _ _ 89 _ _ _ _)
            refine Go.ialdK ixk_0 vik_0_32 shq_65 dX6_ifWall_89 (?_ : Go _ _ 90 _ _ _ _)
            refine Go.iconst dX6_ifWall_90 k_ic_1 (?_ : Go _ _ 91 _ _ _ _)
            refine Go.isub dX6_ifWall_91 (?_ : Go _ _ 92 _ _ _ _)
            refine Go.iastK ixk_0 vik_0_32 shq_65 dX6_ifWall_92 (?_ : Go _ _ 93 _ _ _ _)
            generalize es16 : setA s14 65 0 ((sA s14 65 0) - 1) = s16
            have h := h s16 es16.symm
            refine Go.iload dX6_ifWall_93 rfl (?_ : Go _ _ 95 _ _ _ _)
            exact Go.iret rfl dX6_ifWall_95 ⟨_, rfl, h⟩
          · have h := h.2 c13
            refine Go.aload_n 0 dX6_ifWall_62 rfl rfl (?_ : Go _ _ 63 _ _ _ _)
            refine Go.getI fk_X6_82 shq_64 frq_64_8 dX6_ifWall_63 (?_ : Go _ _ 66 _ _ _ _)
            refine Go.aload_n 0 dX6_ifWall_66 rfl rfl (?_ : Go _ _ 67 _ _ _ _)
            refine Go.getR fk_X6_7 shq_64 frq_64_0 dX6_ifWall_67 (?_ : Go _ _ 70 _ _ _ _)
            refine Go.iconst dX6_ifWall_70 k_ic_0 (?_ : Go _ _ 71 _ _ _ _)
            refine Go.ialdK ixk_0 vik_0_32 shq_65 dX6_ifWall_71 (?_ : Go _ _ 72 _ _ _ _)
            refine Go.isub dX6_ifWall_72 (?_ : Go _ _ 73 _ _ _ _)
            refine Go.goto 81 dX6_ifWall_73 rfl ?_
            refine Go.istore dX6_ifWall_81 (by decide) rfl rfl (?_ : Go _ _ 83 [.ref 64, .int x1, .int x2, .int x3, .int ((sF s12 64 8) - (sA s12 65 0))] _ _ _)
            refine Go.aload_n 0 dX6_ifWall_83 rfl rfl (?_ : Go _ _ 84 _ _ _ _)
            refine Go.getR fk_X6_7 shq_64 frq_64_0 dX6_ifWall_84 (?_ : Go _ _ 87 _ _ _ _)
            refine Go.iconst dX6_ifWall_87 k_ic_0 (?_ : Go _ _ 88 _ _ _ _)
            refine Go.dup2 dX6_ifWall_88 rfl rfl (?_ : Go _ _ 89 _ _ _ _)
            refine Go.ialdK ixk_0 vik_0_32 shq_65 dX6_ifWall_89 (?_ : Go _ _ 90 _ _ _ _)
            refine Go.iconst dX6_ifWall_90 k_ic_1 (?_ : Go _ _ 91 _ _ _ _)
            refine Go.isub dX6_ifWall_91 (?_ : Go _ _ 92 _ _ _ _)
            refine Go.iastK ixk_0 vik_0_32 shq_65 dX6_ifWall_92 (?_ : Go _ _ 93 _ _ _ _)
            generalize es17 : setA s12 65 0 ((sA s12 65 0) - 1) = s17
            have h := h s17 es17.symm
            refine Go.iload dX6_ifWall_93 rfl (?_ : Go _ _ 95 _ _ _ _)
            exact Go.iret rfl dX6_ifWall_95 ⟨_, rfl, h⟩
        · have h := h.2 c10
          refine Go.bipush dX6_ifWall_43 k_bi_m3 (?_ : Go _ _ 45 _ _ _ _)
          exact Go.iret rfl dX6_ifWall_45 ⟨_, rfl, h⟩
      · have h := h.2 c9
        refine Go.bipush dX6_ifWall_29 k_bi_m2 (?_ : Go _ _ 31 _ _ _ _)
        exact Go.iret rfl dX6_ifWall_31 ⟨_, rfl, h⟩
    · have h := h.2 c6
      refine Go.iconst dX6_ifWall_18 k_ic_m1 (?_ : Go _ _ 19 _ _ _ _)
      exact Go.iret rfl dX6_ifWall_19 ⟨_, rfl, h⟩
theorem cgX6_ifWall {d : Nat} {σ : St} {x1 : Int32} {x2 : Int32} {x3 : Int32} {K : Int32 → St → Prop} (h : CallI d mX6_isBody [.int x1, .int x2, .int 0] σ (fun r2 s1 => (r2 = 0 → K (-1) s1) ∧ (¬ r2 = 0 → CallI d mX6_in [.int x3, .int 0, .int 1] s1 (fun r5 s4 => (¬ r5 = 0 → CallI d mX6_isThere [.ref 64, .int x1, .int 0] s4 (fun r8 s7 => (r8 = 0 → (¬ (sA s7 65 0) = 6 → CallU d mX6_add [.ref 64, .int x1, .int x2, .int 0, .int 1] s7 (fun s11 => CallU d mX6_listen [.ref 64] s11 (fun s12 => (¬ x3 = 0 → CallI d mX6_toldMany [.ref 64, .int 0] s12 (fun r15 s14 => ∀ s16, s16 = setA s14 65 0 ((sA s14 65 0) - 1) → K r15 s16)) ∧ (x3 = 0 → ∀ s17, s17 = setA s12 65 0 ((sA s12 65 0) - 1) → K ((sF s12 64 8) - (sA s12 65 0)) s17)))) ∧ ((sA s7 65 0) = 6 → K (-3) s7)) ∧ (¬ r8 = 0 → K (-2) s7))) ∧ (r5 = 0 → K (-1) s4))))) : CallI (d + 1) mX6_ifWall [.ref 64, .int x1, .int x2, .int x3] σ K := Call_of_Go (by decide +kernel) (ls := [.ref 64, .int x1, .int x2, .int x3, .null]) rfl (Nat.le_of_ble_eq_true rfl) (sgX6_ifWall_0 h)
set_option maxHeartbeats 4000000 in
set_option maxRecDepth 100000 in
theorem sgX6_sets_0 {d : Nat} {σ : St} {x1 : Int32} {K : St → Prop} (h : vp_in (sF σ 64 12) 90 ∧ ∀ s1, s1 = setA σ 72 (ix (sF σ 64 12)) (nch ((x1).toUInt32 % 65536).toInt32) → ∀ s2, s2 = setF s1 64 12 ((sF s1 64 12) + 1) → K s2) : Go mX6_sets (d + 1) 0 [.ref 64, .int x1] [] σ (QU K) := by
  refine Go.aload_n 0 dX6_sets_0 rfl rfl (?_ : Go _ _ 1 _ _ _ _)
  refine Go.getR fk_X6_32 shq_64 frq_64_11 dX6_sets_1 (?_ : Go _ _ 4 _ _ _ _)
  refine Go.aload_n 0 dX6_sets_4 rfl rfl (?_ : Go _ _ 5 _ _ _ _)
  refine Go.getI fk_X6_149 shq_64 frq_64_12 dX6_sets_5 (?_ : Go _ _ 8 _ _ _ _)
  refine Go.iload_n 1 dX6_sets_8 rfl rfl (?_ : Go _ _ 9 _ _ _ _)
  refine Go.i2c dX6_sets_9 rfl (?_ : Go _ _ 10 _ _ _ _)
  refine Go.cast shq_72 dX6_sets_10 ⟨h.1, (?_ : Go _ _ 11 _ _ _ _)⟩
  generalize es1 : setA σ 72 (ix (sF σ 64 12)) (nch ((x1).toUInt32 % 65536).toInt32) = s1
  have h := h.2 s1 es1.symm
  refine Go.aload_n 0 dX6_sets_11 rfl rfl (?_ : Go _ _ 12 _ _ _ _)
  refine Go.dup dX6_sets_12 rfl (?_ : Go _ _ 13 _ _ _ _)
  refine Go.getI fk_X6_149 shq_64 frq_64_12 dX6_sets_13 (?_ : Go _ _ 16 _ _ _ _)
  refine Go.iconst dX6_sets_16 k_ic_1 (?_ : Go _ _ 17 _ _ _ _)
  refine Go.iadd dX6_sets_17 (?_ : Go _ _ 18 _ _ _ _)
  refine Go.putI fp_X6_149 shq_64 frq_64_12 dX6_sets_18 (?_ : Go _ _ 21 _ _ _ _)
  generalize es2 : setF s1 64 12 ((sF s1 64 12) + 1) = s2
  have h := h s2 es2.symm
  exact Go.vret rfl dX6_sets_21 ⟨rfl, h⟩
theorem cgX6_sets {d : Nat} {σ : St} {x1 : Int32} {K : St → Prop} (h : vp_in (sF σ 64 12) 90 ∧ ∀ s1, s1 = setA σ 72 (ix (sF σ 64 12)) (nch ((x1).toUInt32 % 65536).toInt32) → ∀ s2, s2 = setF s1 64 12 ((sF s1 64 12) + 1) → K s2) : CallU (d + 1) mX6_sets [.ref 64, .int x1] σ K := Call_of_Go (by decide +kernel) (ls := [.ref 64, .int x1]) rfl (Nat.le_of_ble_eq_true rfl) (sgX6_sets_0 h)
set_option maxHeartbeats 4000000 in
set_option maxRecDepth 100000 in
theorem sgX6_setsNumber_0 {d : Nat} {σ : St} {x1 : Int32} {K : St → Prop} (h : (x1 ≤ 99 → (x1 ≤ 9 → CallU d mX6_sets [.ref 64, .int (48 + (irem x1 10))] σ (fun s3 => K s3)) ∧ (¬ x1 ≤ 9 → CallU d mX6_sets [.ref 64, .int (48 + (irem (x1 / 10) 10))] σ (fun s4 => CallU d mX6_sets [.ref 64, .int (48 + (irem x1 10))] s4 (fun s5 => K s5)))) ∧ (¬ x1 ≤ 99 → CallU d mX6_sets [.ref 64, .int (48 + (x1 / 100))] σ (fun s6 => (x1 ≤ 9 → CallU d mX6_sets [.ref 64, .int (48 + (irem x1 10))] s6 (fun s8 => K s8)) ∧ (¬ x1 ≤ 9 → CallU d mX6_sets [.ref 64, .int (48 + (irem (x1 / 10) 10))] s6 (fun s9 => CallU d mX6_sets [.ref 64, .int (48 + (irem x1 10))] s9 (fun s10 => K s10)))))) : Go mX6_setsNumber (d + 1) 0 [.ref 64, .int x1] [] σ (QU K) := by
  refine Go.iload_n 1 dX6_setsNumber_0 rfl rfl (?_ : Go _ _ 1 _ _ _ _)
  refine Go.bipush dX6_setsNumber_1 k_bi_99 (?_ : Go _ _ 3 _ _ _ _)
  refine Go.icmp_le 17 dX6_setsNumber_3 rfl ⟨fun c1 => ?_, fun c1 => (?_ : Go _ _ 6 _ _ _ _)⟩
  · have h := h.1 c1
    refine Go.iload_n 1 dX6_setsNumber_17 rfl rfl (?_ : Go _ _ 18 _ _ _ _)
    refine Go.bipush dX6_setsNumber_18 k_bi_9 (?_ : Go _ _ 20 _ _ _ _)
    refine Go.icmp_le 37 dX6_setsNumber_20 rfl ⟨fun c2 => ?_, fun c2 => (?_ : Go _ _ 23 _ _ _ _)⟩
    · have h := h.1 c2
      refine Go.aload_n 0 dX6_setsNumber_37 rfl rfl (?_ : Go _ _ 38 _ _ _ _)
      refine Go.bipush dX6_setsNumber_38 k_bi_48 (?_ : Go _ _ 40 _ _ _ _)
      refine Go.iload_n 1 dX6_setsNumber_40 rfl rfl (?_ : Go _ _ 41 _ _ _ _)
      refine Go.bipush dX6_setsNumber_41 k_bi_10 (?_ : Go _ _ 43 _ _ _ _)
      refine Go.irem dX6_setsNumber_43 (by decide) (?_ : Go _ _ 44 _ _ _ _)
      refine Go.iadd dX6_setsNumber_44 (?_ : Go _ _ 45 _ _ _ _)
      refine Go.callV (as := [.int (48 + (irem x1 10))]) (st := []) mk_X6_sets wl_X6_158 shq_64 rfl rfl (Nat.le_of_ble_eq_true rfl) dX6_setsNumber_45 h ?_
      rintro _ s3 ⟨rfl, h⟩
      show Go _ _ 48 _ [] _ _
      exact Go.vret rfl dX6_setsNumber_48 ⟨rfl, h⟩
    · have h := h.2 c2
      refine Go.aload_n 0 dX6_setsNumber_23 rfl rfl (?_ : Go _ _ 24 _ _ _ _)
      refine Go.bipush dX6_setsNumber_24 k_bi_48 (?_ : Go _ _ 26 _ _ _ _)
      refine Go.iload_n 1 dX6_setsNumber_26 rfl rfl (?_ : Go _ _ 27 _ _ _ _)
      refine Go.bipush dX6_setsNumber_27 k_bi_10 (?_ : Go _ _ 29 _ _ _ _)
      refine Go.idiv dX6_setsNumber_29 (by decide) (?_ : Go _ _ 30 _ _ _ _)
      refine Go.bipush dX6_setsNumber_30 k_bi_10 (?_ : Go _ _ 32 _ _ _ _)
      refine Go.irem dX6_setsNumber_32 (by decide) (?_ : Go _ _ 33 _ _ _ _)
      refine Go.iadd dX6_setsNumber_33 (?_ : Go _ _ 34 _ _ _ _)
      refine Go.callV (as := [.int (48 + (irem (x1 / 10) 10))]) (st := []) mk_X6_sets wl_X6_158 shq_64 rfl rfl (Nat.le_of_ble_eq_true rfl) dX6_setsNumber_34 h ?_
      rintro _ s4 ⟨rfl, h⟩
      show Go _ _ 37 _ [] _ _
      refine Go.aload_n 0 dX6_setsNumber_37 rfl rfl (?_ : Go _ _ 38 _ _ _ _)
      refine Go.bipush dX6_setsNumber_38 k_bi_48 (?_ : Go _ _ 40 _ _ _ _)
      refine Go.iload_n 1 dX6_setsNumber_40 rfl rfl (?_ : Go _ _ 41 _ _ _ _)
      refine Go.bipush dX6_setsNumber_41 k_bi_10 (?_ : Go _ _ 43 _ _ _ _)
      refine Go.irem dX6_setsNumber_43 (by decide) (?_ : Go _ _ 44 _ _ _ _)
      refine Go.iadd dX6_setsNumber_44 (?_ : Go _ _ 45 _ _ _ _)
      refine Go.callV (as := [.int (48 + (irem x1 10))]) (st := []) mk_X6_sets wl_X6_158 shq_64 rfl rfl (Nat.le_of_ble_eq_true rfl) dX6_setsNumber_45 h ?_
      rintro _ s5 ⟨rfl, h⟩
      show Go _ _ 48 _ [] _ _
      exact Go.vret rfl dX6_setsNumber_48 ⟨rfl, h⟩
  · have h := h.2 c1
    refine Go.aload_n 0 dX6_setsNumber_6 rfl rfl (?_ : Go _ _ 7 _ _ _ _)
    refine Go.bipush dX6_setsNumber_7 k_bi_48 (?_ : Go _ _ 9 _ _ _ _)
    refine Go.iload_n 1 dX6_setsNumber_9 rfl rfl (?_ : Go _ _ 10 _ _ _ _)
    refine Go.bipush dX6_setsNumber_10 k_bi_100 (?_ : Go _ _ 12 _ _ _ _)
    refine Go.idiv dX6_setsNumber_12 (by decide) (?_ : Go _ _ 13 _ _ _ _)
    refine Go.iadd dX6_setsNumber_13 (?_ : Go _ _ 14 _ _ _ _)
    refine Go.callV (as := [.int (48 + (x1 / 100))]) (st := []) mk_X6_sets wl_X6_158 shq_64 rfl rfl (Nat.le_of_ble_eq_true rfl) dX6_setsNumber_14 h ?_
    rintro _ s6 ⟨rfl, h⟩
    show Go _ _ 17 _ [] _ _
    refine Go.iload_n 1 dX6_setsNumber_17 rfl rfl (?_ : Go _ _ 18 _ _ _ _)
    refine Go.bipush dX6_setsNumber_18 k_bi_9 (?_ : Go _ _ 20 _ _ _ _)
    refine Go.icmp_le 37 dX6_setsNumber_20 rfl ⟨fun c7 => ?_, fun c7 => (?_ : Go _ _ 23 _ _ _ _)⟩
    · have h := h.1 c7
      refine Go.aload_n 0 dX6_setsNumber_37 rfl rfl (?_ : Go _ _ 38 _ _ _ _)
      refine Go.bipush dX6_setsNumber_38 k_bi_48 (?_ : Go _ _ 40 _ _ _ _)
      refine Go.iload_n 1 dX6_setsNumber_40 rfl rfl (?_ : Go _ _ 41 _ _ _ _)
      refine Go.bipush dX6_setsNumber_41 k_bi_10 (?_ : Go _ _ 43 _ _ _ _)
      refine Go.irem dX6_setsNumber_43 (by decide) (?_ : Go _ _ 44 _ _ _ _)
      refine Go.iadd dX6_setsNumber_44 (?_ : Go _ _ 45 _ _ _ _)
      refine Go.callV (as := [.int (48 + (irem x1 10))]) (st := []) mk_X6_sets wl_X6_158 shq_64 rfl rfl (Nat.le_of_ble_eq_true rfl) dX6_setsNumber_45 h ?_
      rintro _ s8 ⟨rfl, h⟩
      show Go _ _ 48 _ [] _ _
      exact Go.vret rfl dX6_setsNumber_48 ⟨rfl, h⟩
    · have h := h.2 c7
      refine Go.aload_n 0 dX6_setsNumber_23 rfl rfl (?_ : Go _ _ 24 _ _ _ _)
      refine Go.bipush dX6_setsNumber_24 k_bi_48 (?_ : Go _ _ 26 _ _ _ _)
      refine Go.iload_n 1 dX6_setsNumber_26 rfl rfl (?_ : Go _ _ 27 _ _ _ _)
      refine Go.bipush dX6_setsNumber_27 k_bi_10 (?_ : Go _ _ 29 _ _ _ _)
      refine Go.idiv dX6_setsNumber_29 (by decide) (?_ : Go _ _ 30 _ _ _ _)
      refine Go.bipush dX6_setsNumber_30 k_bi_10 (?_ : Go _ _ 32 _ _ _ _)
      refine Go.irem dX6_setsNumber_32 (by decide) (?_ : Go _ _ 33 _ _ _ _)
      refine Go.iadd dX6_setsNumber_33 (?_ : Go _ _ 34 _ _ _ _)
      refine Go.callV (as := [.int (48 + (irem (x1 / 10) 10))]) (st := []) mk_X6_sets wl_X6_158 shq_64 rfl rfl (Nat.le_of_ble_eq_true rfl) dX6_setsNumber_34 h ?_
      rintro _ s9 ⟨rfl, h⟩
      show Go _ _ 37 _ [] _ _
      refine Go.aload_n 0 dX6_setsNumber_37 rfl rfl (?_ : Go _ _ 38 _ _ _ _)
      refine Go.bipush dX6_setsNumber_38 k_bi_48 (?_ : Go _ _ 40 _ _ _ _)
      refine Go.iload_n 1 dX6_setsNumber_40 rfl rfl (?_ : Go _ _ 41 _ _ _ _)
      refine Go.bipush dX6_setsNumber_41 k_bi_10 (?_ : Go _ _ 43 _ _ _ _)
      refine Go.irem dX6_setsNumber_43 (by decide) (?_ : Go _ _ 44 _ _ _ _)
      refine Go.iadd dX6_setsNumber_44 (?_ : Go _ _ 45 _ _ _ _)
      refine Go.callV (as := [.int (48 + (irem x1 10))]) (st := []) mk_X6_sets wl_X6_158 shq_64 rfl rfl (Nat.le_of_ble_eq_true rfl) dX6_setsNumber_45 h ?_
      rintro _ s10 ⟨rfl, h⟩
      show Go _ _ 48 _ [] _ _
      exact Go.vret rfl dX6_setsNumber_48 ⟨rfl, h⟩
theorem cgX6_setsNumber {d : Nat} {σ : St} {x1 : Int32} {K : St → Prop} (h : (x1 ≤ 99 → (x1 ≤ 9 → CallU d mX6_sets [.ref 64, .int (48 + (irem x1 10))] σ (fun s3 => K s3)) ∧ (¬ x1 ≤ 9 → CallU d mX6_sets [.ref 64, .int (48 + (irem (x1 / 10) 10))] σ (fun s4 => CallU d mX6_sets [.ref 64, .int (48 + (irem x1 10))] s4 (fun s5 => K s5)))) ∧ (¬ x1 ≤ 99 → CallU d mX6_sets [.ref 64, .int (48 + (x1 / 100))] σ (fun s6 => (x1 ≤ 9 → CallU d mX6_sets [.ref 64, .int (48 + (irem x1 10))] s6 (fun s8 => K s8)) ∧ (¬ x1 ≤ 9 → CallU d mX6_sets [.ref 64, .int (48 + (irem (x1 / 10) 10))] s6 (fun s9 => CallU d mX6_sets [.ref 64, .int (48 + (irem x1 10))] s9 (fun s10 => K s10)))))) : CallU (d + 1) mX6_setsNumber [.ref 64, .int x1] σ K := Call_of_Go (by decide +kernel) (ls := [.ref 64, .int x1]) rfl (Nat.le_of_ble_eq_true rfl) (sgX6_setsNumber_0 h)
set_option maxHeartbeats 4000000 in
set_option maxRecDepth 100000 in
theorem sgX6_write_0 {d : Nat} {σ : St} {K : St → Prop} (h : ∀ s1, s1 = setF σ 64 12 0 → Go mX6_write (d + 1) 7 [.ref 64, .int 0] [] s1 (QU K)) : Go mX6_write (d + 1) 0 [.ref 64, .null] [] σ (QU K) := by
  refine Go.aload_n 0 dX6_write_0 rfl rfl (?_ : Go _ _ 1 _ _ _ _)
  refine Go.iconst dX6_write_1 k_ic_0 (?_ : Go _ _ 2 _ _ _ _)
  refine Go.putI fp_X6_149 shq_64 frq_64_12 dX6_write_2 (?_ : Go _ _ 5 _ _ _ _)
  generalize es1 : setF σ 64 12 0 = s1
  have h := h s1 es1.symm
  refine Go.iconst dX6_write_5 k_ic_0 (?_ : Go _ _ 6 _ _ _ _)
  refine Go.istore_n 1 dX6_write_6 rfl (by decide) rfl rfl (?_ : Go _ _ 7 [.ref 64, .int 0] _ _ _)
  exact h
theorem cgX6_write {d : Nat} {σ : St} {K : St → Prop} (h : ∀ s1, s1 = setF σ 64 12 0 → Go mX6_write (d + 1) 7 [.ref 64, .int 0] [] s1 (QU K)) : CallU (d + 1) mX6_write [.ref 64] σ K := Call_of_Go (by decide +kernel) (ls := [.ref 64, .null]) rfl (Nat.le_of_ble_eq_true rfl) (sgX6_write_0 h)
set_option maxHeartbeats 4000000 in
set_option maxRecDepth 100000 in
theorem sgX6_write_7 {d : Nat} {σ : St} {v1 : Int32} {K : St → Prop} (h : ((sA σ 65 0) ≤ v1 → Go mX6_write (d + 1) 143 [.ref 64, .int 0] [] σ (QU K)) ∧ (¬ (sA σ 65 0) ≤ v1 → (v1 ≤ 0 → CallI d mX6_of [.ref 64, .int v1, .int 3] σ (fun r4 s3 => (¬ r4 = 1 → CallU d mX6_sets [.ref 64, .int 116] s3 (fun s6 => CallI d mX6_of [.ref 64, .int v1, .int 0] s6 (fun r8 s7 => CallU d mX6_setsNumber [.ref 64, .int r8] s7 (fun s9 => CallU d mX6_sets [.ref 64, .int 42] s9 (fun s10 => CallI d mX6_of [.ref 64, .int v1, .int 1] s10 (fun r12 s11 => CallU d mX6_setsNumber [.ref 64, .int r12] s11 (fun s13 => CallI d mX6_of [.ref 64, .int v1, .int 2] s13 (fun r15 s14 => (r15 = 0 → Go mX6_write (d + 1) 7 [.ref 64, .int (v1 + 1)] [] s14 (QU K)) ∧ (¬ r15 = 0 → CallI d mX6_of [.ref 64, .int v1, .int 2] s14 (fun r18 s17 => (0 ≤ r18 → CallU d mX6_sets [.ref 64, .int 43] s17 (fun s20 => CallI d mX6_of [.ref 64, .int v1, .int 2] s20 (fun r22 s21 => (0 ≤ r22 → CallI d mX6_of [.ref 64, .int v1, .int 2] s21 (fun r25 s24 => CallU d mX6_sets [.ref 64, .int (48 + r25)] s24 (fun s26 => Go mX6_write (d + 1) 7 [.ref 64, .int (v1 + 1)] [] s26 (QU K)))) ∧ (¬ 0 ≤ r22 → CallI d mX6_of [.ref 64, .int v1, .int 2] s21 (fun r28 s27 => CallU d mX6_sets [.ref 64, .int (48 + (-r28))] s27 (fun s29 => Go mX6_write (d + 1) 7 [.ref 64, .int (v1 + 1)] [] s29 (QU K))))))) ∧ (¬ 0 ≤ r18 → CallU d mX6_sets [.ref 64, .int 45] s17 (fun s30 => CallI d mX6_of [.ref 64, .int v1, .int 2] s30 (fun r32 s31 => (0 ≤ r32 → CallI d mX6_of [.ref 64, .int v1, .int 2] s31 (fun r35 s34 => CallU d mX6_sets [.ref 64, .int (48 + r35)] s34 (fun s36 => Go mX6_write (d + 1) 7 [.ref 64, .int (v1 + 1)] [] s36 (QU K)))) ∧ (¬ 0 ≤ r32 → CallI d mX6_of [.ref 64, .int v1, .int 2] s31 (fun r38 s37 => CallU d mX6_sets [.ref 64, .int (48 + (-r38))] s37 (fun s39 => Go mX6_write (d + 1) 7 [.ref 64, .int (v1 + 1)] [] s39 (QU K))))))))))))))))) ∧ (r4 = 1 → CallU d mX6_sets [.ref 64, .int 119] s3 (fun s40 => CallI d mX6_of [.ref 64, .int v1, .int 0] s40 (fun r42 s41 => CallU d mX6_setsNumber [.ref 64, .int r42] s41 (fun s43 => CallU d mX6_sets [.ref 64, .int 42] s43 (fun s44 => CallI d mX6_of [.ref 64, .int v1, .int 1] s44 (fun r46 s45 => CallU d mX6_setsNumber [.ref 64, .int r46] s45 (fun s47 => CallI d mX6_of [.ref 64, .int v1, .int 2] s47 (fun r49 s48 => (r49 = 0 → Go mX6_write (d + 1) 7 [.ref 64, .int (v1 + 1)] [] s48 (QU K)) ∧ (¬ r49 = 0 → CallI d mX6_of [.ref 64, .int v1, .int 2] s48 (fun r52 s51 => (0 ≤ r52 → CallU d mX6_sets [.ref 64, .int 43] s51 (fun s54 => CallI d mX6_of [.ref 64, .int v1, .int 2] s54 (fun r56 s55 => (0 ≤ r56 → CallI d mX6_of [.ref 64, .int v1, .int 2] s55 (fun r59 s58 => CallU d mX6_sets [.ref 64, .int (48 + r59)] s58 (fun s60 => Go mX6_write (d + 1) 7 [.ref 64, .int (v1 + 1)] [] s60 (QU K)))) ∧ (¬ 0 ≤ r56 → CallI d mX6_of [.ref 64, .int v1, .int 2] s55 (fun r62 s61 => CallU d mX6_sets [.ref 64, .int (48 + (-r62))] s61 (fun s63 => Go mX6_write (d + 1) 7 [.ref 64, .int (v1 + 1)] [] s63 (QU K))))))) ∧ (¬ 0 ≤ r52 → CallU d mX6_sets [.ref 64, .int 45] s51 (fun s64 => CallI d mX6_of [.ref 64, .int v1, .int 2] s64 (fun r66 s65 => (0 ≤ r66 → CallI d mX6_of [.ref 64, .int v1, .int 2] s65 (fun r69 s68 => CallU d mX6_sets [.ref 64, .int (48 + r69)] s68 (fun s70 => Go mX6_write (d + 1) 7 [.ref 64, .int (v1 + 1)] [] s70 (QU K)))) ∧ (¬ 0 ≤ r66 → CallI d mX6_of [.ref 64, .int v1, .int 2] s65 (fun r72 s71 => CallU d mX6_sets [.ref 64, .int (48 + (-r72))] s71 (fun s73 => Go mX6_write (d + 1) 7 [.ref 64, .int (v1 + 1)] [] s73 (QU K))))))))))))))))))) ∧ (¬ v1 ≤ 0 → CallU d mX6_sets [.ref 64, .int 44] σ (fun s74 => CallI d mX6_of [.ref 64, .int v1, .int 3] s74 (fun r76 s75 => (¬ r76 = 1 → CallU d mX6_sets [.ref 64, .int 116] s75 (fun s78 => CallI d mX6_of [.ref 64, .int v1, .int 0] s78 (fun r80 s79 => CallU d mX6_setsNumber [.ref 64, .int r80] s79 (fun s81 => CallU d mX6_sets [.ref 64, .int 42] s81 (fun s82 => CallI d mX6_of [.ref 64, .int v1, .int 1] s82 (fun r84 s83 => CallU d mX6_setsNumber [.ref 64, .int r84] s83 (fun s85 => CallI d mX6_of [.ref 64, .int v1, .int 2] s85 (fun r87 s86 => (r87 = 0 → Go mX6_write (d + 1) 7 [.ref 64, .int (v1 + 1)] [] s86 (QU K)) ∧ (¬ r87 = 0 → CallI d mX6_of [.ref 64, .int v1, .int 2] s86 (fun r90 s89 => (0 ≤ r90 → CallU d mX6_sets [.ref 64, .int 43] s89 (fun s92 => CallI d mX6_of [.ref 64, .int v1, .int 2] s92 (fun r94 s93 => (0 ≤ r94 → CallI d mX6_of [.ref 64, .int v1, .int 2] s93 (fun r97 s96 => CallU d mX6_sets [.ref 64, .int (48 + r97)] s96 (fun s98 => Go mX6_write (d + 1) 7 [.ref 64, .int (v1 + 1)] [] s98 (QU K)))) ∧ (¬ 0 ≤ r94 → CallI d mX6_of [.ref 64, .int v1, .int 2] s93 (fun r100 s99 => CallU d mX6_sets [.ref 64, .int (48 + (-r100))] s99 (fun s101 => Go mX6_write (d + 1) 7 [.ref 64, .int (v1 + 1)] [] s101 (QU K))))))) ∧ (¬ 0 ≤ r90 → CallU d mX6_sets [.ref 64, .int 45] s89 (fun s102 => CallI d mX6_of [.ref 64, .int v1, .int 2] s102 (fun r104 s103 => (0 ≤ r104 → CallI d mX6_of [.ref 64, .int v1, .int 2] s103 (fun r107 s106 => CallU d mX6_sets [.ref 64, .int (48 + r107)] s106 (fun s108 => Go mX6_write (d + 1) 7 [.ref 64, .int (v1 + 1)] [] s108 (QU K)))) ∧ (¬ 0 ≤ r104 → CallI d mX6_of [.ref 64, .int v1, .int 2] s103 (fun r110 s109 => CallU d mX6_sets [.ref 64, .int (48 + (-r110))] s109 (fun s111 => Go mX6_write (d + 1) 7 [.ref 64, .int (v1 + 1)] [] s111 (QU K))))))))))))))))) ∧ (r76 = 1 → CallU d mX6_sets [.ref 64, .int 119] s75 (fun s112 => CallI d mX6_of [.ref 64, .int v1, .int 0] s112 (fun r114 s113 => CallU d mX6_setsNumber [.ref 64, .int r114] s113 (fun s115 => CallU d mX6_sets [.ref 64, .int 42] s115 (fun s116 => CallI d mX6_of [.ref 64, .int v1, .int 1] s116 (fun r118 s117 => CallU d mX6_setsNumber [.ref 64, .int r118] s117 (fun s119 => CallI d mX6_of [.ref 64, .int v1, .int 2] s119 (fun r121 s120 => (r121 = 0 → Go mX6_write (d + 1) 7 [.ref 64, .int (v1 + 1)] [] s120 (QU K)) ∧ (¬ r121 = 0 → CallI d mX6_of [.ref 64, .int v1, .int 2] s120 (fun r124 s123 => (0 ≤ r124 → CallU d mX6_sets [.ref 64, .int 43] s123 (fun s126 => CallI d mX6_of [.ref 64, .int v1, .int 2] s126 (fun r128 s127 => (0 ≤ r128 → CallI d mX6_of [.ref 64, .int v1, .int 2] s127 (fun r131 s130 => CallU d mX6_sets [.ref 64, .int (48 + r131)] s130 (fun s132 => Go mX6_write (d + 1) 7 [.ref 64, .int (v1 + 1)] [] s132 (QU K)))) ∧ (¬ 0 ≤ r128 → CallI d mX6_of [.ref 64, .int v1, .int 2] s127 (fun r134 s133 => CallU d mX6_sets [.ref 64, .int (48 + (-r134))] s133 (fun s135 => Go mX6_write (d + 1) 7 [.ref 64, .int (v1 + 1)] [] s135 (QU K))))))) ∧ (¬ 0 ≤ r124 → CallU d mX6_sets [.ref 64, .int 45] s123 (fun s136 => CallI d mX6_of [.ref 64, .int v1, .int 2] s136 (fun r138 s137 => (0 ≤ r138 → CallI d mX6_of [.ref 64, .int v1, .int 2] s137 (fun r141 s140 => CallU d mX6_sets [.ref 64, .int (48 + r141)] s140 (fun s142 => Go mX6_write (d + 1) 7 [.ref 64, .int (v1 + 1)] [] s142 (QU K)))) ∧ (¬ 0 ≤ r138 → CallI d mX6_of [.ref 64, .int v1, .int 2] s137 (fun r144 s143 => CallU d mX6_sets [.ref 64, .int (48 + (-r144))] s143 (fun s145 => Go mX6_write (d + 1) 7 [.ref 64, .int (v1 + 1)] [] s145 (QU K)))))))))))))))))))))) : Go mX6_write (d + 1) 7 [.ref 64, .int v1] [] σ (QU K) := by
  refine Go.iload_n 1 dX6_write_7 rfl rfl (?_ : Go _ _ 8 _ _ _ _)
  refine Go.aload_n 0 dX6_write_8 rfl rfl (?_ : Go _ _ 9 _ _ _ _)
  refine Go.getR fk_X6_7 shq_64 frq_64_0 dX6_write_9 (?_ : Go _ _ 12 _ _ _ _)
  refine Go.iconst dX6_write_12 k_ic_0 (?_ : Go _ _ 13 _ _ _ _)
  refine Go.ialdK ixk_0 vik_0_32 shq_65 dX6_write_13 (?_ : Go _ _ 14 _ _ _ _)
  refine Go.icmp_ge 141 dX6_write_14 rfl ⟨fun c1 => ?_, fun c1 => (?_ : Go _ _ 17 _ _ _ _)⟩
  · have h := h.1 c1
    refine Go.iconst dX6_write_141 k_ic_0 (?_ : Go _ _ 142 _ _ _ _)
    refine Go.istore_n 1 dX6_write_142 rfl (by decide) rfl rfl (?_ : Go _ _ 143 [.ref 64, .int 0] _ _ _)
    exact h
  · have h := h.2 c1
    refine Go.iload_n 1 dX6_write_17 rfl rfl (?_ : Go _ _ 18 _ _ _ _)
    refine Go.if_le 27 dX6_write_18 rfl ⟨fun c2 => ?_, fun c2 => (?_ : Go _ _ 21 _ _ _ _)⟩
    · have h := h.1 c2
      refine Go.aload_n 0 dX6_write_27 rfl rfl (?_ : Go _ _ 28 _ _ _ _)
      refine Go.aload_n 0 dX6_write_28 rfl rfl (?_ : Go _ _ 29 _ _ _ _)
      refine Go.iload_n 1 dX6_write_29 rfl rfl (?_ : Go _ _ 30 _ _ _ _)
      refine Go.iconst dX6_write_30 k_ic_3 (?_ : Go _ _ 31 _ _ _ _)
      refine Go.callV (as := [.int v1, .int 3]) (st := [.ref 64]) mk_X6_of wl_X6_56 shq_64 rfl rfl (Nat.le_of_ble_eq_true rfl) dX6_write_31 h ?_
      rintro _ s3 ⟨r4, rfl, h⟩
      show Go _ _ 34 _ [.int r4, .ref 64] _ _
      refine Go.iconst dX6_write_34 k_ic_1 (?_ : Go _ _ 35 _ _ _ _)
      refine Go.icmp_ne 43 dX6_write_35 rfl ⟨fun c5 => ?_, fun c5 => (?_ : Go _ _ 38 _ _ _ _)⟩
      · have h := h.1 c5
        refine Go.bipush dX6_write_43 k_bi_116 (?_ : Go _ _ 45 _ _ _ _)
        refine Go.callV (as := [.int 116]) (st := []) mk_X6_sets wl_X6_158 shq_64 rfl rfl (Nat.le_of_ble_eq_true rfl) dX6_write_45 h ?_
        rintro _ s6 ⟨rfl, h⟩
        show Go _ _ 48 _ [] _ _
        refine Go.aload_n 0 dX6_write_48 rfl rfl (?_ : Go _ _ 49 _ _ _ _)
        refine Go.aload_n 0 dX6_write_49 rfl rfl (?_ : Go _ _ 50 _ _ _ _)
        refine Go.iload_n 1 dX6_write_50 rfl rfl (?_ : Go _ _ 51 _ _ _ _)
        refine Go.iconst dX6_write_51 k_ic_0 (?_ : Go _ _ 52 _ _ _ _)
        refine Go.callV (as := [.int v1, .int 0]) (st := [.ref 64]) mk_X6_of wl_X6_56 shq_64 rfl rfl (Nat.le_of_ble_eq_true rfl) dX6_write_52 h ?_
        rintro _ s7 ⟨r8, rfl, h⟩
        show Go _ _ 55 _ [.int r8, .ref 64] _ _
        refine Go.callV (as := [.int r8]) (st := []) mk_X6_setsNumber wl_X6_161 shq_64 rfl rfl (Nat.le_of_ble_eq_true rfl) dX6_write_55 h ?_
        rintro _ s9 ⟨rfl, h⟩
        show Go _ _ 58 _ [] _ _
        refine Go.aload_n 0 dX6_write_58 rfl rfl (?_ : Go _ _ 59 _ _ _ _)
        refine Go.bipush dX6_write_59 k_bi_42 (?_ : Go _ _ 61 _ _ _ _)
        refine Go.callV (as := [.int 42]) (st := []) mk_X6_sets wl_X6_158 shq_64 rfl rfl (Nat.le_of_ble_eq_true rfl) dX6_write_61 h ?_
        rintro _ s10 ⟨rfl, h⟩
        show Go _ _ 64 _ [] _ _
        refine Go.aload_n 0 dX6_write_64 rfl rfl (?_ : Go _ _ 65 _ _ _ _)
        refine Go.aload_n 0 dX6_write_65 rfl rfl (?_ : Go _ _ 66 _ _ _ _)
        refine Go.iload_n 1 dX6_write_66 rfl rfl (?_ : Go _ _ 67 _ _ _ _)
        refine Go.iconst dX6_write_67 k_ic_1 (?_ : Go _ _ 68 _ _ _ _)
        refine Go.callV (as := [.int v1, .int 1]) (st := [.ref 64]) mk_X6_of wl_X6_56 shq_64 rfl rfl (Nat.le_of_ble_eq_true rfl) dX6_write_68 h ?_
        rintro _ s11 ⟨r12, rfl, h⟩
        show Go _ _ 71 _ [.int r12, .ref 64] _ _
        refine Go.callV (as := [.int r12]) (st := []) mk_X6_setsNumber wl_X6_161 shq_64 rfl rfl (Nat.le_of_ble_eq_true rfl) dX6_write_71 h ?_
        rintro _ s13 ⟨rfl, h⟩
        show Go _ _ 74 _ [] _ _
        refine Go.aload_n 0 dX6_write_74 rfl rfl (?_ : Go _ _ 75 _ _ _ _)
        refine Go.iload_n 1 dX6_write_75 rfl rfl (?_ : Go _ _ 76 _ _ _ _)
        refine Go.iconst dX6_write_76 k_ic_2 (?_ : Go _ _ 77 _ _ _ _)
        refine Go.callV (as := [.int v1, .int 2]) (st := []) mk_X6_of wl_X6_56 shq_64 rfl rfl (Nat.le_of_ble_eq_true rfl) dX6_write_77 h ?_
        rintro _ s14 ⟨r15, rfl, h⟩
        show Go _ _ 80 _ [.int r15] _ _
        refine Go.if_eq 135 dX6_write_80 rfl ⟨fun c16 => ?_, fun c16 => (?_ : Go _ _ 83 _ _ _ _)⟩
        · have h := h.1 c16
          refine Go.iinc dX6_write_135 rfl (congrArg (fun z => v1 + z) k_ic_1) (by decide) rfl rfl (?_ : Go _ _ 138 [.ref 64, .int (v1 + 1)] _ _ _)
          refine Go.goto 7 dX6_write_138 rfl ?_
          exact h
        · have h := h.2 c16
          refine Go.aload_n 0 dX6_write_83 rfl rfl (?_ : Go _ _ 84 _ _ _ _)
          refine Go.aload_n 0 dX6_write_84 rfl rfl (?_ : Go _ _ 85 _ _ _ _)
          refine Go.iload_n 1 dX6_write_85 rfl rfl (?_ : Go _ _ 86 _ _ _ _)
          refine Go.iconst dX6_write_86 k_ic_2 (?_ : Go _ _ 87 _ _ _ _)
          refine Go.callV (as := [.int v1, .int 2]) (st := [.ref 64]) mk_X6_of wl_X6_56 shq_64 rfl rfl (Nat.le_of_ble_eq_true rfl) dX6_write_87 h ?_
          rintro _ s17 ⟨r18, rfl, h⟩
          show Go _ _ 90 _ [.int r18, .ref 64] _ _
          refine Go.if_ge 98 dX6_write_90 rfl ⟨fun c19 => ?_, fun c19 => (?_ : Go _ _ 93 _ _ _ _)⟩
          · have h := h.1 c19
            refine Go.bipush dX6_write_98 k_bi_43 (?_ : Go _ _ 100 _ _ _ _)
            refine Go.callV (as := [.int 43]) (st := []) mk_X6_sets wl_X6_158 shq_64 rfl rfl (Nat.le_of_ble_eq_true rfl) dX6_write_100 h ?_
            rintro _ s20 ⟨rfl, h⟩
            show Go _ _ 103 _ [] _ _
            refine Go.aload_n 0 dX6_write_103 rfl rfl (?_ : Go _ _ 104 _ _ _ _)
            refine Go.bipush dX6_write_104 k_bi_48 (?_ : Go _ _ 106 _ _ _ _)
            refine Go.aload_n 0 dX6_write_106 rfl rfl (?_ : Go _ _ 107 _ _ _ _)
            refine Go.iload_n 1 dX6_write_107 rfl rfl (?_ : Go _ _ 108 _ _ _ _)
            refine Go.iconst dX6_write_108 k_ic_2 (?_ : Go _ _ 109 _ _ _ _)
            refine Go.callV (as := [.int v1, .int 2]) (st := [.int 48, .ref 64]) mk_X6_of wl_X6_56 shq_64 rfl rfl (Nat.le_of_ble_eq_true rfl) dX6_write_109 h ?_
            rintro _ s21 ⟨r22, rfl, h⟩
            show Go _ _ 112 _ [.int r22, .int 48, .ref 64] _ _
            refine Go.if_ge 125 dX6_write_112 rfl ⟨fun c23 => ?_, fun c23 => (?_ : Go _ _ 115 _ _ _ _)⟩
            · have h := h.1 c23
              refine Go.aload_n 0 dX6_write_125 rfl rfl (?_ : Go _ _ 126 _ _ _ _)
              refine Go.iload_n 1 dX6_write_126 rfl rfl (?_ : Go _ _ 127 _ _ _ _)
              refine Go.iconst dX6_write_127 k_ic_2 (?_ : Go _ _ 128 _ _ _ _)
              refine Go.callV (as := [.int v1, .int 2]) (st := [.int 48, .ref 64]) mk_X6_of wl_X6_56 shq_64 rfl rfl (Nat.le_of_ble_eq_true rfl) dX6_write_128 h ?_
              rintro _ s24 ⟨r25, rfl, h⟩
              show Go _ _ 131 _ [.int r25, .int 48, .ref 64] _ _
              refine Go.iadd dX6_write_131 (?_ : Go _ _ 132 _ _ _ _)
              refine Go.callV (as := [.int (48 + r25)]) (st := []) mk_X6_sets wl_X6_158 shq_64 rfl rfl (Nat.le_of_ble_eq_true rfl) dX6_write_132 h ?_
              rintro _ s26 ⟨rfl, h⟩
              show Go _ _ 135 _ [] _ _
              refine Go.iinc dX6_write_135 rfl (congrArg (fun z => v1 + z) k_ic_1) (by decide) rfl rfl (?_ : Go _ _ 138 [.ref 64, .int (v1 + 1)] _ _ _)
              refine Go.goto 7 dX6_write_138 rfl ?_
              exact h
            · have h := h.2 c23
              refine Go.aload_n 0 dX6_write_115 rfl rfl (?_ : Go _ _ 116 _ _ _ _)
              refine Go.iload_n 1 dX6_write_116 rfl rfl (?_ : Go _ _ 117 _ _ _ _)
              refine Go.iconst dX6_write_117 k_ic_2 (?_ : Go _ _ 118 _ _ _ _)
              refine Go.callV (as := [.int v1, .int 2]) (st := [.int 48, .ref 64]) mk_X6_of wl_X6_56 shq_64 rfl rfl (Nat.le_of_ble_eq_true rfl) dX6_write_118 h ?_
              rintro _ s27 ⟨r28, rfl, h⟩
              show Go _ _ 121 _ [.int r28, .int 48, .ref 64] _ _
              refine Go.ineg dX6_write_121 (?_ : Go _ _ 122 _ _ _ _)
              refine Go.goto 131 dX6_write_122 rfl ?_
              refine Go.iadd dX6_write_131 (?_ : Go _ _ 132 _ _ _ _)
              refine Go.callV (as := [.int (48 + (-r28))]) (st := []) mk_X6_sets wl_X6_158 shq_64 rfl rfl (Nat.le_of_ble_eq_true rfl) dX6_write_132 h ?_
              rintro _ s29 ⟨rfl, h⟩
              show Go _ _ 135 _ [] _ _
              refine Go.iinc dX6_write_135 rfl (congrArg (fun z => v1 + z) k_ic_1) (by decide) rfl rfl (?_ : Go _ _ 138 [.ref 64, .int (v1 + 1)] _ _ _)
              refine Go.goto 7 dX6_write_138 rfl ?_
              exact h
          · have h := h.2 c19
            refine Go.bipush dX6_write_93 k_bi_45 (?_ : Go _ _ 95 _ _ _ _)
            refine Go.goto 100 dX6_write_95 rfl ?_
            refine Go.callV (as := [.int 45]) (st := []) mk_X6_sets wl_X6_158 shq_64 rfl rfl (Nat.le_of_ble_eq_true rfl) dX6_write_100 h ?_
            rintro _ s30 ⟨rfl, h⟩
            show Go _ _ 103 _ [] _ _
            refine Go.aload_n 0 dX6_write_103 rfl rfl (?_ : Go _ _ 104 _ _ _ _)
            refine Go.bipush dX6_write_104 k_bi_48 (?_ : Go _ _ 106 _ _ _ _)
            refine Go.aload_n 0 dX6_write_106 rfl rfl (?_ : Go _ _ 107 _ _ _ _)
            refine Go.iload_n 1 dX6_write_107 rfl rfl (?_ : Go _ _ 108 _ _ _ _)
            refine Go.iconst dX6_write_108 k_ic_2 (?_ : Go _ _ 109 _ _ _ _)
            refine Go.callV (as := [.int v1, .int 2]) (st := [.int 48, .ref 64]) mk_X6_of wl_X6_56 shq_64 rfl rfl (Nat.le_of_ble_eq_true rfl) dX6_write_109 h ?_
            rintro _ s31 ⟨r32, rfl, h⟩
            show Go _ _ 112 _ [.int r32, .int 48, .ref 64] _ _
            refine Go.if_ge 125 dX6_write_112 rfl ⟨fun c33 => ?_, fun c33 => (?_ : Go _ _ 115 _ _ _ _)⟩
            · have h := h.1 c33
              refine Go.aload_n 0 dX6_write_125 rfl rfl (?_ : Go _ _ 126 _ _ _ _)
              refine Go.iload_n 1 dX6_write_126 rfl rfl (?_ : Go _ _ 127 _ _ _ _)
              refine Go.iconst dX6_write_127 k_ic_2 (?_ : Go _ _ 128 _ _ _ _)
              refine Go.callV (as := [.int v1, .int 2]) (st := [.int 48, .ref 64]) mk_X6_of wl_X6_56 shq_64 rfl rfl (Nat.le_of_ble_eq_true rfl) dX6_write_128 h ?_
              rintro _ s34 ⟨r35, rfl, h⟩
              show Go _ _ 131 _ [.int r35, .int 48, .ref 64] _ _
              refine Go.iadd dX6_write_131 (?_ : Go _ _ 132 _ _ _ _)
              refine Go.callV (as := [.int (48 + r35)]) (st := []) mk_X6_sets wl_X6_158 shq_64 rfl rfl (Nat.le_of_ble_eq_true rfl) dX6_write_132 h ?_
              rintro _ s36 ⟨rfl, h⟩
              show Go _ _ 135 _ [] _ _
              refine Go.iinc dX6_write_135 rfl (congrArg (fun z => v1 + z) k_ic_1) (by decide) rfl rfl (?_ : Go _ _ 138 [.ref 64, .int (v1 + 1)] _ _ _)
              refine Go.goto 7 dX6_write_138 rfl ?_
              exact h
            · have h := h.2 c33
              refine Go.aload_n 0 dX6_write_115 rfl rfl (?_ : Go _ _ 116 _ _ _ _)
              refine Go.iload_n 1 dX6_write_116 rfl rfl (?_ : Go _ _ 117 _ _ _ _)
              refine Go.iconst dX6_write_117 k_ic_2 (?_ : Go _ _ 118 _ _ _ _)
              refine Go.callV (as := [.int v1, .int 2]) (st := [.int 48, .ref 64]) mk_X6_of wl_X6_56 shq_64 rfl rfl (Nat.le_of_ble_eq_true rfl) dX6_write_118 h ?_
              rintro _ s37 ⟨r38, rfl, h⟩
              show Go _ _ 121 _ [.int r38, .int 48, .ref 64] _ _
              refine Go.ineg dX6_write_121 (?_ : Go _ _ 122 _ _ _ _)
              refine Go.goto 131 dX6_write_122 rfl ?_
              refine Go.iadd dX6_write_131 (?_ : Go _ _ 132 _ _ _ _)
              refine Go.callV (as := [.int (48 + (-r38))]) (st := []) mk_X6_sets wl_X6_158 shq_64 rfl rfl (Nat.le_of_ble_eq_true rfl) dX6_write_132 h ?_
              rintro _ s39 ⟨rfl, h⟩
              show Go _ _ 135 _ [] _ _
              refine Go.iinc dX6_write_135 rfl (congrArg (fun z => v1 + z) k_ic_1) (by decide) rfl rfl (?_ : Go _ _ 138 [.ref 64, .int (v1 + 1)] _ _ _)
              refine Go.goto 7 dX6_write_138 rfl ?_
              exact h
      · have h := h.2 c5
        refine Go.bipush dX6_write_38 k_bi_119 (?_ : Go _ _ 40 _ _ _ _)
        refine Go.goto 45 dX6_write_40 rfl ?_
        refine Go.callV (as := [.int 119]) (st := []) mk_X6_sets wl_X6_158 shq_64 rfl rfl (Nat.le_of_ble_eq_true rfl) dX6_write_45 h ?_
        rintro _ s40 ⟨rfl, h⟩
        show Go _ _ 48 _ [] _ _
        refine Go.aload_n 0 dX6_write_48 rfl rfl (?_ : Go _ _ 49 _ _ _ _)
        refine Go.aload_n 0 dX6_write_49 rfl rfl (?_ : Go _ _ 50 _ _ _ _)
        refine Go.iload_n 1 dX6_write_50 rfl rfl (?_ : Go _ _ 51 _ _ _ _)
        refine Go.iconst dX6_write_51 k_ic_0 (?_ : Go _ _ 52 _ _ _ _)
        refine Go.callV (as := [.int v1, .int 0]) (st := [.ref 64]) mk_X6_of wl_X6_56 shq_64 rfl rfl (Nat.le_of_ble_eq_true rfl) dX6_write_52 h ?_
        rintro _ s41 ⟨r42, rfl, h⟩
        show Go _ _ 55 _ [.int r42, .ref 64] _ _
        refine Go.callV (as := [.int r42]) (st := []) mk_X6_setsNumber wl_X6_161 shq_64 rfl rfl (Nat.le_of_ble_eq_true rfl) dX6_write_55 h ?_
        rintro _ s43 ⟨rfl, h⟩
        show Go _ _ 58 _ [] _ _
        refine Go.aload_n 0 dX6_write_58 rfl rfl (?_ : Go _ _ 59 _ _ _ _)
        refine Go.bipush dX6_write_59 k_bi_42 (?_ : Go _ _ 61 _ _ _ _)
        refine Go.callV (as := [.int 42]) (st := []) mk_X6_sets wl_X6_158 shq_64 rfl rfl (Nat.le_of_ble_eq_true rfl) dX6_write_61 h ?_
        rintro _ s44 ⟨rfl, h⟩
        show Go _ _ 64 _ [] _ _
        refine Go.aload_n 0 dX6_write_64 rfl rfl (?_ : Go _ _ 65 _ _ _ _)
        refine Go.aload_n 0 dX6_write_65 rfl rfl (?_ : Go _ _ 66 _ _ _ _)
        refine Go.iload_n 1 dX6_write_66 rfl rfl (?_ : Go _ _ 67 _ _ _ _)
        refine Go.iconst dX6_write_67 k_ic_1 (?_ : Go _ _ 68 _ _ _ _)
        refine Go.callV (as := [.int v1, .int 1]) (st := [.ref 64]) mk_X6_of wl_X6_56 shq_64 rfl rfl (Nat.le_of_ble_eq_true rfl) dX6_write_68 h ?_
        rintro _ s45 ⟨r46, rfl, h⟩
        show Go _ _ 71 _ [.int r46, .ref 64] _ _
        refine Go.callV (as := [.int r46]) (st := []) mk_X6_setsNumber wl_X6_161 shq_64 rfl rfl (Nat.le_of_ble_eq_true rfl) dX6_write_71 h ?_
        rintro _ s47 ⟨rfl, h⟩
        show Go _ _ 74 _ [] _ _
        refine Go.aload_n 0 dX6_write_74 rfl rfl (?_ : Go _ _ 75 _ _ _ _)
        refine Go.iload_n 1 dX6_write_75 rfl rfl (?_ : Go _ _ 76 _ _ _ _)
        refine Go.iconst dX6_write_76 k_ic_2 (?_ : Go _ _ 77 _ _ _ _)
        refine Go.callV (as := [.int v1, .int 2]) (st := []) mk_X6_of wl_X6_56 shq_64 rfl rfl (Nat.le_of_ble_eq_true rfl) dX6_write_77 h ?_
        rintro _ s48 ⟨r49, rfl, h⟩
        show Go _ _ 80 _ [.int r49] _ _
        refine Go.if_eq 135 dX6_write_80 rfl ⟨fun c50 => ?_, fun c50 => (?_ : Go _ _ 83 _ _ _ _)⟩
        · have h := h.1 c50
          refine Go.iinc dX6_write_135 rfl (congrArg (fun z => v1 + z) k_ic_1) (by decide) rfl rfl (?_ : Go _ _ 138 [.ref 64, .int (v1 + 1)] _ _ _)
          refine Go.goto 7 dX6_write_138 rfl ?_
          exact h
        · have h := h.2 c50
          refine Go.aload_n 0 dX6_write_83 rfl rfl (?_ : Go _ _ 84 _ _ _ _)
          refine Go.aload_n 0 dX6_write_84 rfl rfl (?_ : Go _ _ 85 _ _ _ _)
          refine Go.iload_n 1 dX6_write_85 rfl rfl (?_ : Go _ _ 86 _ _ _ _)
          refine Go.iconst dX6_write_86 k_ic_2 (?_ : Go _ _ 87 _ _ _ _)
          refine Go.callV (as := [.int v1, .int 2]) (st := [.ref 64]) mk_X6_of wl_X6_56 shq_64 rfl rfl (Nat.le_of_ble_eq_true rfl) dX6_write_87 h ?_
          rintro _ s51 ⟨r52, rfl, h⟩
          show Go _ _ 90 _ [.int r52, .ref 64] _ _
          refine Go.if_ge 98 dX6_write_90 rfl ⟨fun c53 => ?_, fun c53 => (?_ : Go _ _ 93 _ _ _ _)⟩
          · have h := h.1 c53
            refine Go.bipush dX6_write_98 k_bi_43 (?_ : Go _ _ 100 _ _ _ _)
            refine Go.callV (as := [.int 43]) (st := []) mk_X6_sets wl_X6_158 shq_64 rfl rfl (Nat.le_of_ble_eq_true rfl) dX6_write_100 h ?_
            rintro _ s54 ⟨rfl, h⟩
            show Go _ _ 103 _ [] _ _
            refine Go.aload_n 0 dX6_write_103 rfl rfl (?_ : Go _ _ 104 _ _ _ _)
            refine Go.bipush dX6_write_104 k_bi_48 (?_ : Go _ _ 106 _ _ _ _)
            refine Go.aload_n 0 dX6_write_106 rfl rfl (?_ : Go _ _ 107 _ _ _ _)
            refine Go.iload_n 1 dX6_write_107 rfl rfl (?_ : Go _ _ 108 _ _ _ _)
            refine Go.iconst dX6_write_108 k_ic_2 (?_ : Go _ _ 109 _ _ _ _)
            refine Go.callV (as := [.int v1, .int 2]) (st := [.int 48, .ref 64]) mk_X6_of wl_X6_56 shq_64 rfl rfl (Nat.le_of_ble_eq_true rfl) dX6_write_109 h ?_
            rintro _ s55 ⟨r56, rfl, h⟩
            show Go _ _ 112 _ [.int r56, .int 48, .ref 64] _ _
            refine Go.if_ge 125 dX6_write_112 rfl ⟨fun c57 => ?_, fun c57 => (?_ : Go _ _ 115 _ _ _ _)⟩
            · have h := h.1 c57
              refine Go.aload_n 0 dX6_write_125 rfl rfl (?_ : Go _ _ 126 _ _ _ _)
              refine Go.iload_n 1 dX6_write_126 rfl rfl (?_ : Go _ _ 127 _ _ _ _)
              refine Go.iconst dX6_write_127 k_ic_2 (?_ : Go _ _ 128 _ _ _ _)
              refine Go.callV (as := [.int v1, .int 2]) (st := [.int 48, .ref 64]) mk_X6_of wl_X6_56 shq_64 rfl rfl (Nat.le_of_ble_eq_true rfl) dX6_write_128 h ?_
              rintro _ s58 ⟨r59, rfl, h⟩
              show Go _ _ 131 _ [.int r59, .int 48, .ref 64] _ _
              refine Go.iadd dX6_write_131 (?_ : Go _ _ 132 _ _ _ _)
              refine Go.callV (as := [.int (48 + r59)]) (st := []) mk_X6_sets wl_X6_158 shq_64 rfl rfl (Nat.le_of_ble_eq_true rfl) dX6_write_132 h ?_
              rintro _ s60 ⟨rfl, h⟩
              show Go _ _ 135 _ [] _ _
              refine Go.iinc dX6_write_135 rfl (congrArg (fun z => v1 + z) k_ic_1) (by decide) rfl rfl (?_ : Go _ _ 138 [.ref 64, .int (v1 + 1)] _ _ _)
              refine Go.goto 7 dX6_write_138 rfl ?_
              exact h
            · have h := h.2 c57
              refine Go.aload_n 0 dX6_write_115 rfl rfl (?_ : Go _ _ 116 _ _ _ _)
              refine Go.iload_n 1 dX6_write_116 rfl rfl (?_ : Go _ _ 117 _ _ _ _)
              refine Go.iconst dX6_write_117 k_ic_2 (?_ : Go _ _ 118 _ _ _ _)
              refine Go.callV (as := [.int v1, .int 2]) (st := [.int 48, .ref 64]) mk_X6_of wl_X6_56 shq_64 rfl rfl (Nat.le_of_ble_eq_true rfl) dX6_write_118 h ?_
              rintro _ s61 ⟨r62, rfl, h⟩
              show Go _ _ 121 _ [.int r62, .int 48, .ref 64] _ _
              refine Go.ineg dX6_write_121 (?_ : Go _ _ 122 _ _ _ _)
              refine Go.goto 131 dX6_write_122 rfl ?_
              refine Go.iadd dX6_write_131 (?_ : Go _ _ 132 _ _ _ _)
              refine Go.callV (as := [.int (48 + (-r62))]) (st := []) mk_X6_sets wl_X6_158 shq_64 rfl rfl (Nat.le_of_ble_eq_true rfl) dX6_write_132 h ?_
              rintro _ s63 ⟨rfl, h⟩
              show Go _ _ 135 _ [] _ _
              refine Go.iinc dX6_write_135 rfl (congrArg (fun z => v1 + z) k_ic_1) (by decide) rfl rfl (?_ : Go _ _ 138 [.ref 64, .int (v1 + 1)] _ _ _)
              refine Go.goto 7 dX6_write_138 rfl ?_
              exact h
          · have h := h.2 c53
            refine Go.bipush dX6_write_93 k_bi_45 (?_ : Go _ _ 95 _ _ _ _)
            refine Go.goto 100 dX6_write_95 rfl ?_
            refine Go.callV (as := [.int 45]) (st := []) mk_X6_sets wl_X6_158 shq_64 rfl rfl (Nat.le_of_ble_eq_true rfl) dX6_write_100 h ?_
            rintro _ s64 ⟨rfl, h⟩
            show Go _ _ 103 _ [] _ _
            refine Go.aload_n 0 dX6_write_103 rfl rfl (?_ : Go _ _ 104 _ _ _ _)
            refine Go.bipush dX6_write_104 k_bi_48 (?_ : Go _ _ 106 _ _ _ _)
            refine Go.aload_n 0 dX6_write_106 rfl rfl (?_ : Go _ _ 107 _ _ _ _)
            refine Go.iload_n 1 dX6_write_107 rfl rfl (?_ : Go _ _ 108 _ _ _ _)
            refine Go.iconst dX6_write_108 k_ic_2 (?_ : Go _ _ 109 _ _ _ _)
            refine Go.callV (as := [.int v1, .int 2]) (st := [.int 48, .ref 64]) mk_X6_of wl_X6_56 shq_64 rfl rfl (Nat.le_of_ble_eq_true rfl) dX6_write_109 h ?_
            rintro _ s65 ⟨r66, rfl, h⟩
            show Go _ _ 112 _ [.int r66, .int 48, .ref 64] _ _
            refine Go.if_ge 125 dX6_write_112 rfl ⟨fun c67 => ?_, fun c67 => (?_ : Go _ _ 115 _ _ _ _)⟩
            · have h := h.1 c67
              refine Go.aload_n 0 dX6_write_125 rfl rfl (?_ : Go _ _ 126 _ _ _ _)
              refine Go.iload_n 1 dX6_write_126 rfl rfl (?_ : Go _ _ 127 _ _ _ _)
              refine Go.iconst dX6_write_127 k_ic_2 (?_ : Go _ _ 128 _ _ _ _)
              refine Go.callV (as := [.int v1, .int 2]) (st := [.int 48, .ref 64]) mk_X6_of wl_X6_56 shq_64 rfl rfl (Nat.le_of_ble_eq_true rfl) dX6_write_128 h ?_
              rintro _ s68 ⟨r69, rfl, h⟩
              show Go _ _ 131 _ [.int r69, .int 48, .ref 64] _ _
              refine Go.iadd dX6_write_131 (?_ : Go _ _ 132 _ _ _ _)
              refine Go.callV (as := [.int (48 + r69)]) (st := []) mk_X6_sets wl_X6_158 shq_64 rfl rfl (Nat.le_of_ble_eq_true rfl) dX6_write_132 h ?_
              rintro _ s70 ⟨rfl, h⟩
              show Go _ _ 135 _ [] _ _
              refine Go.iinc dX6_write_135 rfl (congrArg (fun z => v1 + z) k_ic_1) (by decide) rfl rfl (?_ : Go _ _ 138 [.ref 64, .int (v1 + 1)] _ _ _)
              refine Go.goto 7 dX6_write_138 rfl ?_
              exact h
            · have h := h.2 c67
              refine Go.aload_n 0 dX6_write_115 rfl rfl (?_ : Go _ _ 116 _ _ _ _)
              refine Go.iload_n 1 dX6_write_116 rfl rfl (?_ : Go _ _ 117 _ _ _ _)
              refine Go.iconst dX6_write_117 k_ic_2 (?_ : Go _ _ 118 _ _ _ _)
              refine Go.callV (as := [.int v1, .int 2]) (st := [.int 48, .ref 64]) mk_X6_of wl_X6_56 shq_64 rfl rfl (Nat.le_of_ble_eq_true rfl) dX6_write_118 h ?_
              rintro _ s71 ⟨r72, rfl, h⟩
              show Go _ _ 121 _ [.int r72, .int 48, .ref 64] _ _
              refine Go.ineg dX6_write_121 (?_ : Go _ _ 122 _ _ _ _)
              refine Go.goto 131 dX6_write_122 rfl ?_
              refine Go.iadd dX6_write_131 (?_ : Go _ _ 132 _ _ _ _)
              refine Go.callV (as := [.int (48 + (-r72))]) (st := []) mk_X6_sets wl_X6_158 shq_64 rfl rfl (Nat.le_of_ble_eq_true rfl) dX6_write_132 h ?_
              rintro _ s73 ⟨rfl, h⟩
              show Go _ _ 135 _ [] _ _
              refine Go.iinc dX6_write_135 rfl (congrArg (fun z => v1 + z) k_ic_1) (by decide) rfl rfl (?_ : Go _ _ 138 [.ref 64, .int (v1 + 1)] _ _ _)
              refine Go.goto 7 dX6_write_138 rfl ?_
              exact h
    · have h := h.2 c2
      refine Go.aload_n 0 dX6_write_21 rfl rfl (?_ : Go _ _ 22 _ _ _ _)
      refine Go.bipush dX6_write_22 k_bi_44 (?_ : Go _ _ 24 _ _ _ _)
      refine Go.callV (as := [.int 44]) (st := []) mk_X6_sets wl_X6_158 shq_64 rfl rfl (Nat.le_of_ble_eq_true rfl) dX6_write_24 h ?_
      rintro _ s74 ⟨rfl, h⟩
      show Go _ _ 27 _ [] _ _
      refine Go.aload_n 0 dX6_write_27 rfl rfl (?_ : Go _ _ 28 _ _ _ _)
      refine Go.aload_n 0 dX6_write_28 rfl rfl (?_ : Go _ _ 29 _ _ _ _)
      refine Go.iload_n 1 dX6_write_29 rfl rfl (?_ : Go _ _ 30 _ _ _ _)
      refine Go.iconst dX6_write_30 k_ic_3 (?_ : Go _ _ 31 _ _ _ _)
      refine Go.callV (as := [.int v1, .int 3]) (st := [.ref 64]) mk_X6_of wl_X6_56 shq_64 rfl rfl (Nat.le_of_ble_eq_true rfl) dX6_write_31 h ?_
      rintro _ s75 ⟨r76, rfl, h⟩
      show Go _ _ 34 _ [.int r76, .ref 64] _ _
      refine Go.iconst dX6_write_34 k_ic_1 (?_ : Go _ _ 35 _ _ _ _)
      refine Go.icmp_ne 43 dX6_write_35 rfl ⟨fun c77 => ?_, fun c77 => (?_ : Go _ _ 38 _ _ _ _)⟩
      · have h := h.1 c77
        refine Go.bipush dX6_write_43 k_bi_116 (?_ : Go _ _ 45 _ _ _ _)
        refine Go.callV (as := [.int 116]) (st := []) mk_X6_sets wl_X6_158 shq_64 rfl rfl (Nat.le_of_ble_eq_true rfl) dX6_write_45 h ?_
        rintro _ s78 ⟨rfl, h⟩
        show Go _ _ 48 _ [] _ _
        refine Go.aload_n 0 dX6_write_48 rfl rfl (?_ : Go _ _ 49 _ _ _ _)
        refine Go.aload_n 0 dX6_write_49 rfl rfl (?_ : Go _ _ 50 _ _ _ _)
        refine Go.iload_n 1 dX6_write_50 rfl rfl (?_ : Go _ _ 51 _ _ _ _)
        refine Go.iconst dX6_write_51 k_ic_0 (?_ : Go _ _ 52 _ _ _ _)
        refine Go.callV (as := [.int v1, .int 0]) (st := [.ref 64]) mk_X6_of wl_X6_56 shq_64 rfl rfl (Nat.le_of_ble_eq_true rfl) dX6_write_52 h ?_
        rintro _ s79 ⟨r80, rfl, h⟩
        show Go _ _ 55 _ [.int r80, .ref 64] _ _
        refine Go.callV (as := [.int r80]) (st := []) mk_X6_setsNumber wl_X6_161 shq_64 rfl rfl (Nat.le_of_ble_eq_true rfl) dX6_write_55 h ?_
        rintro _ s81 ⟨rfl, h⟩
        show Go _ _ 58 _ [] _ _
        refine Go.aload_n 0 dX6_write_58 rfl rfl (?_ : Go _ _ 59 _ _ _ _)
        refine Go.bipush dX6_write_59 k_bi_42 (?_ : Go _ _ 61 _ _ _ _)
        refine Go.callV (as := [.int 42]) (st := []) mk_X6_sets wl_X6_158 shq_64 rfl rfl (Nat.le_of_ble_eq_true rfl) dX6_write_61 h ?_
        rintro _ s82 ⟨rfl, h⟩
        show Go _ _ 64 _ [] _ _
        refine Go.aload_n 0 dX6_write_64 rfl rfl (?_ : Go _ _ 65 _ _ _ _)
        refine Go.aload_n 0 dX6_write_65 rfl rfl (?_ : Go _ _ 66 _ _ _ _)
        refine Go.iload_n 1 dX6_write_66 rfl rfl (?_ : Go _ _ 67 _ _ _ _)
        refine Go.iconst dX6_write_67 k_ic_1 (?_ : Go _ _ 68 _ _ _ _)
        refine Go.callV (as := [.int v1, .int 1]) (st := [.ref 64]) mk_X6_of wl_X6_56 shq_64 rfl rfl (Nat.le_of_ble_eq_true rfl) dX6_write_68 h ?_
        rintro _ s83 ⟨r84, rfl, h⟩
        show Go _ _ 71 _ [.int r84, .ref 64] _ _
        refine Go.callV (as := [.int r84]) (st := []) mk_X6_setsNumber wl_X6_161 shq_64 rfl rfl (Nat.le_of_ble_eq_true rfl) dX6_write_71 h ?_
        rintro _ s85 ⟨rfl, h⟩
        show Go _ _ 74 _ [] _ _
        refine Go.aload_n 0 dX6_write_74 rfl rfl (?_ : Go _ _ 75 _ _ _ _)
        refine Go.iload_n 1 dX6_write_75 rfl rfl (?_ : Go _ _ 76 _ _ _ _)
        refine Go.iconst dX6_write_76 k_ic_2 (?_ : Go _ _ 77 _ _ _ _)
        refine Go.callV (as := [.int v1, .int 2]) (st := []) mk_X6_of wl_X6_56 shq_64 rfl rfl (Nat.le_of_ble_eq_true rfl) dX6_write_77 h ?_
        rintro _ s86 ⟨r87, rfl, h⟩
        show Go _ _ 80 _ [.int r87] _ _
        refine Go.if_eq 135 dX6_write_80 rfl ⟨fun c88 => ?_, fun c88 => (?_ : Go _ _ 83 _ _ _ _)⟩
        · have h := h.1 c88
          refine Go.iinc dX6_write_135 rfl (congrArg (fun z => v1 + z) k_ic_1) (by decide) rfl rfl (?_ : Go _ _ 138 [.ref 64, .int (v1 + 1)] _ _ _)
          refine Go.goto 7 dX6_write_138 rfl ?_
          exact h
        · have h := h.2 c88
          refine Go.aload_n 0 dX6_write_83 rfl rfl (?_ : Go _ _ 84 _ _ _ _)
          refine Go.aload_n 0 dX6_write_84 rfl rfl (?_ : Go _ _ 85 _ _ _ _)
          refine Go.iload_n 1 dX6_write_85 rfl rfl (?_ : Go _ _ 86 _ _ _ _)
          refine Go.iconst dX6_write_86 k_ic_2 (?_ : Go _ _ 87 _ _ _ _)
          refine Go.callV (as := [.int v1, .int 2]) (st := [.ref 64]) mk_X6_of wl_X6_56 shq_64 rfl rfl (Nat.le_of_ble_eq_true rfl) dX6_write_87 h ?_
          rintro _ s89 ⟨r90, rfl, h⟩
          show Go _ _ 90 _ [.int r90, .ref 64] _ _
          refine Go.if_ge 98 dX6_write_90 rfl ⟨fun c91 => ?_, fun c91 => (?_ : Go _ _ 93 _ _ _ _)⟩
          · have h := h.1 c91
            refine Go.bipush dX6_write_98 k_bi_43 (?_ : Go _ _ 100 _ _ _ _)
            refine Go.callV (as := [.int 43]) (st := []) mk_X6_sets wl_X6_158 shq_64 rfl rfl (Nat.le_of_ble_eq_true rfl) dX6_write_100 h ?_
            rintro _ s92 ⟨rfl, h⟩
            show Go _ _ 103 _ [] _ _
            refine Go.aload_n 0 dX6_write_103 rfl rfl (?_ : Go _ _ 104 _ _ _ _)
            refine Go.bipush dX6_write_104 k_bi_48 (?_ : Go _ _ 106 _ _ _ _)
            refine Go.aload_n 0 dX6_write_106 rfl rfl (?_ : Go _ _ 107 _ _ _ _)
            refine Go.iload_n 1 dX6_write_107 rfl rfl (?_ : Go _ _ 108 _ _ _ _)
            refine Go.iconst dX6_write_108 k_ic_2 (?_ : Go _ _ 109 _ _ _ _)
            refine Go.callV (as := [.int v1, .int 2]) (st := [.int 48, .ref 64]) mk_X6_of wl_X6_56 shq_64 rfl rfl (Nat.le_of_ble_eq_true rfl) dX6_write_109 h ?_
            rintro _ s93 ⟨r94, rfl, h⟩
            show Go _ _ 112 _ [.int r94, .int 48, .ref 64] _ _
            refine Go.if_ge 125 dX6_write_112 rfl ⟨fun c95 => ?_, fun c95 => (?_ : Go _ _ 115 _ _ _ _)⟩
            · have h := h.1 c95
              refine Go.aload_n 0 dX6_write_125 rfl rfl (?_ : Go _ _ 126 _ _ _ _)
              refine Go.iload_n 1 dX6_write_126 rfl rfl (?_ : Go _ _ 127 _ _ _ _)
              refine Go.iconst dX6_write_127 k_ic_2 (?_ : Go _ _ 128 _ _ _ _)
              refine Go.callV (as := [.int v1, .int 2]) (st := [.int 48, .ref 64]) mk_X6_of wl_X6_56 shq_64 rfl rfl (Nat.le_of_ble_eq_true rfl) dX6_write_128 h ?_
              rintro _ s96 ⟨r97, rfl, h⟩
              show Go _ _ 131 _ [.int r97, .int 48, .ref 64] _ _
              refine Go.iadd dX6_write_131 (?_ : Go _ _ 132 _ _ _ _)
              refine Go.callV (as := [.int (48 + r97)]) (st := []) mk_X6_sets wl_X6_158 shq_64 rfl rfl (Nat.le_of_ble_eq_true rfl) dX6_write_132 h ?_
              rintro _ s98 ⟨rfl, h⟩
              show Go _ _ 135 _ [] _ _
              refine Go.iinc dX6_write_135 rfl (congrArg (fun z => v1 + z) k_ic_1) (by decide) rfl rfl (?_ : Go _ _ 138 [.ref 64, .int (v1 + 1)] _ _ _)
              refine Go.goto 7 dX6_write_138 rfl ?_
              exact h
            · have h := h.2 c95
              refine Go.aload_n 0 dX6_write_115 rfl rfl (?_ : Go _ _ 116 _ _ _ _)
              refine Go.iload_n 1 dX6_write_116 rfl rfl (?_ : Go _ _ 117 _ _ _ _)
              refine Go.iconst dX6_write_117 k_ic_2 (?_ : Go _ _ 118 _ _ _ _)
              refine Go.callV (as := [.int v1, .int 2]) (st := [.int 48, .ref 64]) mk_X6_of wl_X6_56 shq_64 rfl rfl (Nat.le_of_ble_eq_true rfl) dX6_write_118 h ?_
              rintro _ s99 ⟨r100, rfl, h⟩
              show Go _ _ 121 _ [.int r100, .int 48, .ref 64] _ _
              refine Go.ineg dX6_write_121 (?_ : Go _ _ 122 _ _ _ _)
              refine Go.goto 131 dX6_write_122 rfl ?_
              refine Go.iadd dX6_write_131 (?_ : Go _ _ 132 _ _ _ _)
              refine Go.callV (as := [.int (48 + (-r100))]) (st := []) mk_X6_sets wl_X6_158 shq_64 rfl rfl (Nat.le_of_ble_eq_true rfl) dX6_write_132 h ?_
              rintro _ s101 ⟨rfl, h⟩
              show Go _ _ 135 _ [] _ _
              refine Go.iinc dX6_write_135 rfl (congrArg (fun z => v1 + z) k_ic_1) (by decide) rfl rfl (?_ : Go _ _ 138 [.ref 64, .int (v1 + 1)] _ _ _)
              refine Go.goto 7 dX6_write_138 rfl ?_
              exact h
          · have h := h.2 c91
            refine Go.bipush dX6_write_93 k_bi_45 (?_ : Go _ _ 95 _ _ _ _)
            refine Go.goto 100 dX6_write_95 rfl ?_
            refine Go.callV (as := [.int 45]) (st := []) mk_X6_sets wl_X6_158 shq_64 rfl rfl (Nat.le_of_ble_eq_true rfl) dX6_write_100 h ?_
            rintro _ s102 ⟨rfl, h⟩
            show Go _ _ 103 _ [] _ _
            refine Go.aload_n 0 dX6_write_103 rfl rfl (?_ : Go _ _ 104 _ _ _ _)
            refine Go.bipush dX6_write_104 k_bi_48 (?_ : Go _ _ 106 _ _ _ _)
            refine Go.aload_n 0 dX6_write_106 rfl rfl (?_ : Go _ _ 107 _ _ _ _)
            refine Go.iload_n 1 dX6_write_107 rfl rfl (?_ : Go _ _ 108 _ _ _ _)
            refine Go.iconst dX6_write_108 k_ic_2 (?_ : Go _ _ 109 _ _ _ _)
            refine Go.callV (as := [.int v1, .int 2]) (st := [.int 48, .ref 64]) mk_X6_of wl_X6_56 shq_64 rfl rfl (Nat.le_of_ble_eq_true rfl) dX6_write_109 h ?_
            rintro _ s103 ⟨r104, rfl, h⟩
            show Go _ _ 112 _ [.int r104, .int 48, .ref 64] _ _
            refine Go.if_ge 125 dX6_write_112 rfl ⟨fun c105 => ?_, fun c105 => (?_ : Go _ _ 115 _ _ _ _)⟩
            · have h := h.1 c105
              refine Go.aload_n 0 dX6_write_125 rfl rfl (?_ : Go _ _ 126 _ _ _ _)
              refine Go.iload_n 1 dX6_write_126 rfl rfl (?_ : Go _ _ 127 _ _ _ _)
              refine Go.iconst dX6_write_127 k_ic_2 (?_ : Go _ _ 128 _ _ _ _)
              refine Go.callV (as := [.int v1, .int 2]) (st := [.int 48, .ref 64]) mk_X6_of wl_X6_56 shq_64 rfl rfl (Nat.le_of_ble_eq_true rfl) dX6_write_128 h ?_
              rintro _ s106 ⟨r107, rfl, h⟩
              show Go _ _ 131 _ [.int r107, .int 48, .ref 64] _ _
              refine Go.iadd dX6_write_131 (?_ : Go _ _ 132 _ _ _ _)
              refine Go.callV (as := [.int (48 + r107)]) (st := []) mk_X6_sets wl_X6_158 shq_64 rfl rfl (Nat.le_of_ble_eq_true rfl) dX6_write_132 h ?_
              rintro _ s108 ⟨rfl, h⟩
              show Go _ _ 135 _ [] _ _
              refine Go.iinc dX6_write_135 rfl (congrArg (fun z => v1 + z) k_ic_1) (by decide) rfl rfl (?_ : Go _ _ 138 [.ref 64, .int (v1 + 1)] _ _ _)
              refine Go.goto 7 dX6_write_138 rfl ?_
              exact h
            · have h := h.2 c105
              refine Go.aload_n 0 dX6_write_115 rfl rfl (?_ : Go _ _ 116 _ _ _ _)
              refine Go.iload_n 1 dX6_write_116 rfl rfl (?_ : Go _ _ 117 _ _ _ _)
              refine Go.iconst dX6_write_117 k_ic_2 (?_ : Go _ _ 118 _ _ _ _)
              refine Go.callV (as := [.int v1, .int 2]) (st := [.int 48, .ref 64]) mk_X6_of wl_X6_56 shq_64 rfl rfl (Nat.le_of_ble_eq_true rfl) dX6_write_118 h ?_
              rintro _ s109 ⟨r110, rfl, h⟩
              show Go _ _ 121 _ [.int r110, .int 48, .ref 64] _ _
              refine Go.ineg dX6_write_121 (?_ : Go _ _ 122 _ _ _ _)
              refine Go.goto 131 dX6_write_122 rfl ?_
              refine Go.iadd dX6_write_131 (?_ : Go _ _ 132 _ _ _ _)
              refine Go.callV (as := [.int (48 + (-r110))]) (st := []) mk_X6_sets wl_X6_158 shq_64 rfl rfl (Nat.le_of_ble_eq_true rfl) dX6_write_132 h ?_
              rintro _ s111 ⟨rfl, h⟩
              show Go _ _ 135 _ [] _ _
              refine Go.iinc dX6_write_135 rfl (congrArg (fun z => v1 + z) k_ic_1) (by decide) rfl rfl (?_ : Go _ _ 138 [.ref 64, .int (v1 + 1)] _ _ _)
              refine Go.goto 7 dX6_write_138 rfl ?_
              exact h
      · have h := h.2 c77
        refine Go.bipush dX6_write_38 k_bi_119 (?_ : Go _ _ 40 _ _ _ _)
        refine Go.goto 45 dX6_write_40 rfl ?_
        refine Go.callV (as := [.int 119]) (st := []) mk_X6_sets wl_X6_158 shq_64 rfl rfl (Nat.le_of_ble_eq_true rfl) dX6_write_45 h ?_
        rintro _ s112 ⟨rfl, h⟩
        show Go _ _ 48 _ [] _ _
        refine Go.aload_n 0 dX6_write_48 rfl rfl (?_ : Go _ _ 49 _ _ _ _)
        refine Go.aload_n 0 dX6_write_49 rfl rfl (?_ : Go _ _ 50 _ _ _ _)
        refine Go.iload_n 1 dX6_write_50 rfl rfl (?_ : Go _ _ 51 _ _ _ _)
        refine Go.iconst dX6_write_51 k_ic_0 (?_ : Go _ _ 52 _ _ _ _)
        refine Go.callV (as := [.int v1, .int 0]) (st := [.ref 64]) mk_X6_of wl_X6_56 shq_64 rfl rfl (Nat.le_of_ble_eq_true rfl) dX6_write_52 h ?_
        rintro _ s113 ⟨r114, rfl, h⟩
        show Go _ _ 55 _ [.int r114, .ref 64] _ _
        refine Go.callV (as := [.int r114]) (st := []) mk_X6_setsNumber wl_X6_161 shq_64 rfl rfl (Nat.le_of_ble_eq_true rfl) dX6_write_55 h ?_
        rintro _ s115 ⟨rfl, h⟩
        show Go _ _ 58 _ [] _ _
        refine Go.aload_n 0 dX6_write_58 rfl rfl (?_ : Go _ _ 59 _ _ _ _)
        refine Go.bipush dX6_write_59 k_bi_42 (?_ : Go _ _ 61 _ _ _ _)
        refine Go.callV (as := [.int 42]) (st := []) mk_X6_sets wl_X6_158 shq_64 rfl rfl (Nat.le_of_ble_eq_true rfl) dX6_write_61 h ?_
        rintro _ s116 ⟨rfl, h⟩
        show Go _ _ 64 _ [] _ _
        refine Go.aload_n 0 dX6_write_64 rfl rfl (?_ : Go _ _ 65 _ _ _ _)
        refine Go.aload_n 0 dX6_write_65 rfl rfl (?_ : Go _ _ 66 _ _ _ _)
        refine Go.iload_n 1 dX6_write_66 rfl rfl (?_ : Go _ _ 67 _ _ _ _)
        refine Go.iconst dX6_write_67 k_ic_1 (?_ : Go _ _ 68 _ _ _ _)
        refine Go.callV (as := [.int v1, .int 1]) (st := [.ref 64]) mk_X6_of wl_X6_56 shq_64 rfl rfl (Nat.le_of_ble_eq_true rfl) dX6_write_68 h ?_
        rintro _ s117 ⟨r118, rfl, h⟩
        show Go _ _ 71 _ [.int r118, .ref 64] _ _
        refine Go.callV (as := [.int r118]) (st := []) mk_X6_setsNumber wl_X6_161 shq_64 rfl rfl (Nat.le_of_ble_eq_true rfl) dX6_write_71 h ?_
        rintro _ s119 ⟨rfl, h⟩
        show Go _ _ 74 _ [] _ _
        refine Go.aload_n 0 dX6_write_74 rfl rfl (?_ : Go _ _ 75 _ _ _ _)
        refine Go.iload_n 1 dX6_write_75 rfl rfl (?_ : Go _ _ 76 _ _ _ _)
        refine Go.iconst dX6_write_76 k_ic_2 (?_ : Go _ _ 77 _ _ _ _)
        refine Go.callV (as := [.int v1, .int 2]) (st := []) mk_X6_of wl_X6_56 shq_64 rfl rfl (Nat.le_of_ble_eq_true rfl) dX6_write_77 h ?_
        rintro _ s120 ⟨r121, rfl, h⟩
        show Go _ _ 80 _ [.int r121] _ _
        refine Go.if_eq 135 dX6_write_80 rfl ⟨fun c122 => ?_, fun c122 => (?_ : Go _ _ 83 _ _ _ _)⟩
        · have h := h.1 c122
          refine Go.iinc dX6_write_135 rfl (congrArg (fun z => v1 + z) k_ic_1) (by decide) rfl rfl (?_ : Go _ _ 138 [.ref 64, .int (v1 + 1)] _ _ _)
          refine Go.goto 7 dX6_write_138 rfl ?_
          exact h
        · have h := h.2 c122
          refine Go.aload_n 0 dX6_write_83 rfl rfl (?_ : Go _ _ 84 _ _ _ _)
          refine Go.aload_n 0 dX6_write_84 rfl rfl (?_ : Go _ _ 85 _ _ _ _)
          refine Go.iload_n 1 dX6_write_85 rfl rfl (?_ : Go _ _ 86 _ _ _ _)
          refine Go.iconst dX6_write_86 k_ic_2 (?_ : Go _ _ 87 _ _ _ _)
          refine Go.callV (as := [.int v1, .int 2]) (st := [.ref 64]) mk_X6_of wl_X6_56 shq_64 rfl rfl (Nat.le_of_ble_eq_true rfl) dX6_write_87 h ?_
          rintro _ s123 ⟨r124, rfl, h⟩
          show Go _ _ 90 _ [.int r124, .ref 64] _ _
          refine Go.if_ge 98 dX6_write_90 rfl ⟨fun c125 => ?_, fun c125 => (?_ : Go _ _ 93 _ _ _ _)⟩
          · have h := h.1 c125
            refine Go.bipush dX6_write_98 k_bi_43 (?_ : Go _ _ 100 _ _ _ _)
            refine Go.callV (as := [.int 43]) (st := []) mk_X6_sets wl_X6_158 shq_64 rfl rfl (Nat.le_of_ble_eq_true rfl) dX6_write_100 h ?_
            rintro _ s126 ⟨rfl, h⟩
            show Go _ _ 103 _ [] _ _
            refine Go.aload_n 0 dX6_write_103 rfl rfl (?_ : Go _ _ 104 _ _ _ _)
            refine Go.bipush dX6_write_104 k_bi_48 (?_ : Go _ _ 106 _ _ _ _)
            refine Go.aload_n 0 dX6_write_106 rfl rfl (?_ : Go _ _ 107 _ _ _ _)
            refine Go.iload_n 1 dX6_write_107 rfl rfl (?_ : Go _ _ 108 _ _ _ _)
            refine Go.iconst dX6_write_108 k_ic_2 (?_ : Go _ _ 109 _ _ _ _)
            refine Go.callV (as := [.int v1, .int 2]) (st := [.int 48, .ref 64]) mk_X6_of wl_X6_56 shq_64 rfl rfl (Nat.le_of_ble_eq_true rfl) dX6_write_109 h ?_
            rintro _ s127 ⟨r128, rfl, h⟩
            show Go _ _ 112 _ [.int r128, .int 48, .ref 64] _ _
            refine Go.if_ge 125 dX6_write_112 rfl ⟨fun c129 => ?_, fun c129 => (?_ : Go _ _ 115 _ _ _ _)⟩
            · have h := h.1 c129
              refine Go.aload_n 0 dX6_write_125 rfl rfl (?_ : Go _ _ 126 _ _ _ _)
              refine Go.iload_n 1 dX6_write_126 rfl rfl (?_ : Go _ _ 127 _ _ _ _)
              refine Go.iconst dX6_write_127 k_ic_2 (?_ : Go _ _ 128 _ _ _ _)
              refine Go.callV (as := [.int v1, .int 2]) (st := [.int 48, .ref 64]) mk_X6_of wl_X6_56 shq_64 rfl rfl (Nat.le_of_ble_eq_true rfl) dX6_write_128 h ?_
              rintro _ s130 ⟨r131, rfl, h⟩
              show Go _ _ 131 _ [.int r131, .int 48, .ref 64] _ _
              refine Go.iadd dX6_write_131 (?_ : Go _ _ 132 _ _ _ _)
              refine Go.callV (as := [.int (48 + r131)]) (st := []) mk_X6_sets wl_X6_158 shq_64 rfl rfl (Nat.le_of_ble_eq_true rfl) dX6_write_132 h ?_
              rintro _ s132 ⟨rfl, h⟩
              show Go _ _ 135 _ [] _ _
              refine Go.iinc dX6_write_135 rfl (congrArg (fun z => v1 + z) k_ic_1) (by decide) rfl rfl (?_ : Go _ _ 138 [.ref 64, .int (v1 + 1)] _ _ _)
              refine Go.goto 7 dX6_write_138 rfl ?_
              exact h
            · have h := h.2 c129
              refine Go.aload_n 0 dX6_write_115 rfl rfl (?_ : Go _ _ 116 _ _ _ _)
              refine Go.iload_n 1 dX6_write_116 rfl rfl (?_ : Go _ _ 117 _ _ _ _)
              refine Go.iconst dX6_write_117 k_ic_2 (?_ : Go _ _ 118 _ _ _ _)
              refine Go.callV (as := [.int v1, .int 2]) (st := [.int 48, .ref 64]) mk_X6_of wl_X6_56 shq_64 rfl rfl (Nat.le_of_ble_eq_true rfl) dX6_write_118 h ?_
              rintro _ s133 ⟨r134, rfl, h⟩
              show Go _ _ 121 _ [.int r134, .int 48, .ref 64] _ _
              refine Go.ineg dX6_write_121 (?_ : Go _ _ 122 _ _ _ _)
              refine Go.goto 131 dX6_write_122 rfl ?_
              refine Go.iadd dX6_write_131 (?_ : Go _ _ 132 _ _ _ _)
              refine Go.callV (as := [.int (48 + (-r134))]) (st := []) mk_X6_sets wl_X6_158 shq_64 rfl rfl (Nat.le_of_ble_eq_true rfl) dX6_write_132 h ?_
              rintro _ s135 ⟨rfl, h⟩
              show Go _ _ 135 _ [] _ _
              refine Go.iinc dX6_write_135 rfl (congrArg (fun z => v1 + z) k_ic_1) (by decide) rfl rfl (?_ : Go _ _ 138 [.ref 64, .int (v1 + 1)] _ _ _)
              refine Go.goto 7 dX6_write_138 rfl ?_
              exact h
          · have h := h.2 c125
            refine Go.bipush dX6_write_93 k_bi_45 (?_ : Go _ _ 95 _ _ _ _)
            refine Go.goto 100 dX6_write_95 rfl ?_
            refine Go.callV (as := [.int 45]) (st := []) mk_X6_sets wl_X6_158 shq_64 rfl rfl (Nat.le_of_ble_eq_true rfl) dX6_write_100 h ?_
            rintro _ s136 ⟨rfl, h⟩
            show Go _ _ 103 _ [] _ _
            refine Go.aload_n 0 dX6_write_103 rfl rfl (?_ : Go _ _ 104 _ _ _ _)
            refine Go.bipush dX6_write_104 k_bi_48 (?_ : Go _ _ 106 _ _ _ _)
            refine Go.aload_n 0 dX6_write_106 rfl rfl (?_ : Go _ _ 107 _ _ _ _)
            refine Go.iload_n 1 dX6_write_107 rfl rfl (?_ : Go _ _ 108 _ _ _ _)
            refine Go.iconst dX6_write_108 k_ic_2 (?_ : Go _ _ 109 _ _ _ _)
            refine Go.callV (as := [.int v1, .int 2]) (st := [.int 48, .ref 64]) mk_X6_of wl_X6_56 shq_64 rfl rfl (Nat.le_of_ble_eq_true rfl) dX6_write_109 h ?_
            rintro _ s137 ⟨r138, rfl, h⟩
            show Go _ _ 112 _ [.int r138, .int 48, .ref 64] _ _
            refine Go.if_ge 125 dX6_write_112 rfl ⟨fun c139 => ?_, fun c139 => (?_ : Go _ _ 115 _ _ _ _)⟩
            · have h := h.1 c139
              refine Go.aload_n 0 dX6_write_125 rfl rfl (?_ : Go _ _ 126 _ _ _ _)
              refine Go.iload_n 1 dX6_write_126 rfl rfl (?_ : Go _ _ 127 _ _ _ _)
              refine Go.iconst dX6_write_127 k_ic_2 (?_ : Go _ _ 128 _ _ _ _)
              refine Go.callV (as := [.int v1, .int 2]) (st := [.int 48, .ref 64]) mk_X6_of wl_X6_56 shq_64 rfl rfl (Nat.le_of_ble_eq_true rfl) dX6_write_128 h ?_
              rintro _ s140 ⟨r141, rfl, h⟩
              show Go _ _ 131 _ [.int r141, .int 48, .ref 64] _ _
              refine Go.iadd dX6_write_131 (?_ : Go _ _ 132 _ _ _ _)
              refine Go.callV (as := [.int (48 + r141)]) (st := []) mk_X6_sets wl_X6_158 shq_64 rfl rfl (Nat.le_of_ble_eq_true rfl) dX6_write_132 h ?_
              rintro _ s142 ⟨rfl, h⟩
              show Go _ _ 135 _ [] _ _
              refine Go.iinc dX6_write_135 rfl (congrArg (fun z => v1 + z) k_ic_1) (by decide) rfl rfl (?_ : Go _ _ 138 [.ref 64, .int (v1 + 1)] _ _ _)
              refine Go.goto 7 dX6_write_138 rfl ?_
              exact h
            · have h := h.2 c139
              refine Go.aload_n 0 dX6_write_115 rfl rfl (?_ : Go _ _ 116 _ _ _ _)
              refine Go.iload_n 1 dX6_write_116 rfl rfl (?_ : Go _ _ 117 _ _ _ _)
              refine Go.iconst dX6_write_117 k_ic_2 (?_ : Go _ _ 118 _ _ _ _)
              refine Go.callV (as := [.int v1, .int 2]) (st := [.int 48, .ref 64]) mk_X6_of wl_X6_56 shq_64 rfl rfl (Nat.le_of_ble_eq_true rfl) dX6_write_118 h ?_
              rintro _ s143 ⟨r144, rfl, h⟩
              show Go _ _ 121 _ [.int r144, .int 48, .ref 64] _ _
              refine Go.ineg dX6_write_121 (?_ : Go _ _ 122 _ _ _ _)
              refine Go.goto 131 dX6_write_122 rfl ?_
              refine Go.iadd dX6_write_131 (?_ : Go _ _ 132 _ _ _ _)
              refine Go.callV (as := [.int (48 + (-r144))]) (st := []) mk_X6_sets wl_X6_158 shq_64 rfl rfl (Nat.le_of_ble_eq_true rfl) dX6_write_132 h ?_
              rintro _ s145 ⟨rfl, h⟩
              show Go _ _ 135 _ [] _ _
              refine Go.iinc dX6_write_135 rfl (congrArg (fun z => v1 + z) k_ic_1) (by decide) rfl rfl (?_ : Go _ _ 138 [.ref 64, .int (v1 + 1)] _ _ _)
              refine Go.goto 7 dX6_write_138 rfl ?_
              exact h
set_option maxHeartbeats 4000000 in
set_option maxRecDepth 100000 in
theorem sgX6_write_143 {d : Nat} {σ : St} {v1 : Int32} {K : St → Prop} (h : ((sA σ 65 1) ≤ v1 → K σ) ∧ (¬ (sA σ 65 1) ≤ v1 → ((sA σ 65 0) ≤ 0 → K σ) ∧ (¬ (sA σ 65 0) ≤ 0 → (¬ v1 = 0 → CallU d mX6_sets [.ref 64, .int 47] σ (fun s4 => vp_in (2 + v1) 32 ∧ CallU d mX6_setsNumber [.ref 64, .int (sA s4 65 (ix (2 + v1)))] s4 (fun s5 => Go mX6_write (d + 1) 143 [.ref 64, .int (v1 + 1)] [] s5 (QU K)))) ∧ (v1 = 0 → CallU d mX6_sets [.ref 64, .int 59] σ (fun s6 => vp_in (2 + v1) 32 ∧ CallU d mX6_setsNumber [.ref 64, .int (sA s6 65 (ix (2 + v1)))] s6 (fun s7 => Go mX6_write (d + 1) 143 [.ref 64, .int (v1 + 1)] [] s7 (QU K))))))) : Go mX6_write (d + 1) 143 [.ref 64, .int v1] [] σ (QU K) := by
  refine Go.iload_n 1 dX6_write_143 rfl rfl (?_ : Go _ _ 144 _ _ _ _)
  refine Go.aload_n 0 dX6_write_144 rfl rfl (?_ : Go _ _ 145 _ _ _ _)
  refine Go.getR fk_X6_7 shq_64 frq_64_0 dX6_write_145 (?_ : Go _ _ 148 _ _ _ _)
  refine Go.iconst dX6_write_148 k_ic_1 (?_ : Go _ _ 149 _ _ _ _)
  refine Go.ialdK ixk_1 vik_1_32 shq_65 dX6_write_149 (?_ : Go _ _ 150 _ _ _ _)
  refine Go.icmp_ge 195 dX6_write_150 rfl ⟨fun c1 => ?_, fun c1 => (?_ : Go _ _ 153 _ _ _ _)⟩
  · have h := h.1 c1
    exact Go.vret rfl dX6_write_195 ⟨rfl, h⟩
  · have h := h.2 c1
    refine Go.aload_n 0 dX6_write_153 rfl rfl (?_ : Go _ _ 154 _ _ _ _)
    refine Go.getR fk_X6_7 shq_64 frq_64_0 dX6_write_154 (?_ : Go _ _ 157 _ _ _ _)
    refine Go.iconst dX6_write_157 k_ic_0 (?_ : Go _ _ 158 _ _ _ _)
    refine Go.ialdK ixk_0 vik_0_32 shq_65 dX6_write_158 (?_ : Go _ _ 159 _ _ _ _)
    refine Go.if_le 195 dX6_write_159 rfl ⟨fun c2 => ?_, fun c2 => (?_ : Go _ _ 162 _ _ _ _)⟩
    · have h := h.1 c2
      exact Go.vret rfl dX6_write_195 ⟨rfl, h⟩
    · have h := h.2 c2
      refine Go.aload_n 0 dX6_write_162 rfl rfl (?_ : Go _ _ 163 _ _ _ _)
      refine Go.iload_n 1 dX6_write_163 rfl rfl (?_ : Go _ _ 164 _ _ _ _)
      refine Go.if_ne 172 dX6_write_164 rfl ⟨fun c3 => ?_, fun c3 => (?_ : Go _ _ 167 _ _ _ _)⟩
      · have h := h.1 c3
        refine Go.bipush dX6_write_172 k_bi_47 (?_ : Go _ _ 174 _ _ _ _)
        refine Go.callV (as := [.int 47]) (st := []) mk_X6_sets wl_X6_158 shq_64 rfl rfl (Nat.le_of_ble_eq_true rfl) dX6_write_174 h ?_
        rintro _ s4 ⟨rfl, h⟩
        show Go _ _ 177 _ [] _ _
        refine Go.aload_n 0 dX6_write_177 rfl rfl (?_ : Go _ _ 178 _ _ _ _)
        refine Go.aload_n 0 dX6_write_178 rfl rfl (?_ : Go _ _ 179 _ _ _ _)
        refine Go.getR fk_X6_7 shq_64 frq_64_0 dX6_write_179 (?_ : Go _ _ 182 _ _ _ _)
        refine Go.iconst dX6_write_182 k_ic_2 (?_ : Go _ _ 183 _ _ _ _)
        refine Go.iload_n 1 dX6_write_183 rfl rfl (?_ : Go _ _ 184 _ _ _ _)
        refine Go.iadd dX6_write_184 (?_ : Go _ _ 185 _ _ _ _)
        refine Go.iald shq_65 dX6_write_185 ⟨h.1, (?_ : Go _ _ 186 _ _ _ _)⟩
        have h := h.2
        refine Go.callV (as := [.int (sA s4 65 (ix (2 + v1)))]) (st := []) mk_X6_setsNumber wl_X6_161 shq_64 rfl rfl (Nat.le_of_ble_eq_true rfl) dX6_write_186 h ?_
        rintro _ s5 ⟨rfl, h⟩
        show Go _ _ 189 _ [] _ _
        refine Go.iinc dX6_write_189 rfl (congrArg (fun z => v1 + z) k_ic_1) (by decide) rfl rfl (?_ : Go _ _ 192 [.ref 64, .int (v1 + 1)] _ _ _)
        refine Go.goto 143 dX6_write_192 rfl ?_
        exact h
      · have h := h.2 c3
        refine Go.bipush dX6_write_167 k_bi_59 (?_ : Go _ _ 169 _ _ _ _)
        refine Go.goto 174 dX6_write_169 rfl ?_
        refine Go.callV (as := [.int 59]) (st := []) mk_X6_sets wl_X6_158 shq_64 rfl rfl (Nat.le_of_ble_eq_true rfl) dX6_write_174 h ?_
        rintro _ s6 ⟨rfl, h⟩
        show Go _ _ 177 _ [] _ _
        refine Go.aload_n 0 dX6_write_177 rfl rfl (?_ : Go _ _ 178 _ _ _ _)
        refine Go.aload_n 0 dX6_write_178 rfl rfl (?_ : Go _ _ 179 _ _ _ _)
        refine Go.getR fk_X6_7 shq_64 frq_64_0 dX6_write_179 (?_ : Go _ _ 182 _ _ _ _)
        refine Go.iconst dX6_write_182 k_ic_2 (?_ : Go _ _ 183 _ _ _ _)
        refine Go.iload_n 1 dX6_write_183 rfl rfl (?_ : Go _ _ 184 _ _ _ _)
        refine Go.iadd dX6_write_184 (?_ : Go _ _ 185 _ _ _ _)
        refine Go.iald shq_65 dX6_write_185 ⟨h.1, (?_ : Go _ _ 186 _ _ _ _)⟩
        have h := h.2
        refine Go.callV (as := [.int (sA s6 65 (ix (2 + v1)))]) (st := []) mk_X6_setsNumber wl_X6_161 shq_64 rfl rfl (Nat.le_of_ble_eq_true rfl) dX6_write_186 h ?_
        rintro _ s7 ⟨rfl, h⟩
        show Go _ _ 189 _ [] _ _
        refine Go.iinc dX6_write_189 rfl (congrArg (fun z => v1 + z) k_ic_1) (by decide) rfl rfl (?_ : Go _ _ 192 [.ref 64, .int (v1 + 1)] _ _ _)
        refine Go.goto 143 dX6_write_192 rfl ?_
        exact h
set_option maxHeartbeats 4000000 in
set_option maxRecDepth 100000 in
theorem sgX6_sign_0 {d : Nat} {σ : St} {x1 : Int32} {K : Int32 → St → Prop} (h : (0 ≤ x1 → CallU d mX6_write [.ref 64] σ (fun s2 => ((sF s2 64 12) ≤ x1 → K (-4) s2) ∧ (¬ (sF s2 64 12) ≤ x1 → vp_in x1 90 ∧ K (sA s2 72 (ix x1)) s2))) ∧ (¬ 0 ≤ x1 → K (-1) σ)) : Go mX6_sign (d + 1) 0 [.ref 64, .int x1] [] σ (QI K) := by
  refine Go.iload_n 1 dX6_sign_0 rfl rfl (?_ : Go _ _ 1 _ _ _ _)
  refine Go.if_ge 6 dX6_sign_1 rfl ⟨fun c1 => ?_, fun c1 => (?_ : Go _ _ 4 _ _ _ _)⟩
  · have h := h.1 c1
    refine Go.aload_n 0 dX6_sign_6 rfl rfl (?_ : Go _ _ 7 _ _ _ _)
    refine Go.callV (as := []) (st := []) mk_X6_write wl_X6_146 shq_64 rfl rfl (Nat.le_of_ble_eq_true rfl) dX6_sign_7 h ?_
    rintro _ s2 ⟨rfl, h⟩
    show Go _ _ 10 _ [] _ _
    refine Go.iload_n 1 dX6_sign_10 rfl rfl (?_ : Go _ _ 11 _ _ _ _)
    refine Go.aload_n 0 dX6_sign_11 rfl rfl (?_ : Go _ _ 12 _ _ _ _)
    refine Go.getI fk_X6_149 shq_64 frq_64_12 dX6_sign_12 (?_ : Go _ _ 15 _ _ _ _)
    refine Go.icmp_ge 27 dX6_sign_15 rfl ⟨fun c3 => ?_, fun c3 => (?_ : Go _ _ 18 _ _ _ _)⟩
    · have h := h.1 c3
      refine Go.bipush dX6_sign_27 k_bi_m4 (?_ : Go _ _ 29 _ _ _ _)
      exact Go.iret rfl dX6_sign_29 ⟨_, rfl, h⟩
    · have h := h.2 c3
      refine Go.aload_n 0 dX6_sign_18 rfl rfl (?_ : Go _ _ 19 _ _ _ _)
      refine Go.getR fk_X6_32 shq_64 frq_64_11 dX6_sign_19 (?_ : Go _ _ 22 _ _ _ _)
      refine Go.iload_n 1 dX6_sign_22 rfl rfl (?_ : Go _ _ 23 _ _ _ _)
      refine Go.cald shq_72 dX6_sign_23 ⟨h.1, (?_ : Go _ _ 24 _ _ _ _)⟩
      have h := h.2
      refine Go.goto 29 dX6_sign_24 rfl ?_
      exact Go.iret rfl dX6_sign_29 ⟨_, rfl, h⟩
  · have h := h.2 c1
    refine Go.iconst dX6_sign_4 k_ic_m1 (?_ : Go _ _ 5 _ _ _ _)
    exact Go.iret rfl dX6_sign_5 ⟨_, rfl, h⟩
theorem cgX6_sign {d : Nat} {σ : St} {x1 : Int32} {K : Int32 → St → Prop} (h : (0 ≤ x1 → CallU d mX6_write [.ref 64] σ (fun s2 => ((sF s2 64 12) ≤ x1 → K (-4) s2) ∧ (¬ (sF s2 64 12) ≤ x1 → vp_in x1 90 ∧ K (sA s2 72 (ix x1)) s2))) ∧ (¬ 0 ≤ x1 → K (-1) σ)) : CallI (d + 1) mX6_sign [.ref 64, .int x1] σ K := Call_of_Go (by decide +kernel) (ls := [.ref 64, .int x1]) rfl (Nat.le_of_ble_eq_true rfl) (sgX6_sign_0 h)
set_option maxHeartbeats 4000000 in
set_option maxRecDepth 100000 in
theorem sgX6_append_0 {d : Nat} {σ : St} {x1 : Int32} {K : Int32 → St → Prop} (h : CallI d mX6_in [.int x1, .int 33, .int 126] σ (fun r2 s1 => (¬ r2 = 0 → (¬ (sF s1 64 6) = 60 → vp_in (sF s1 64 6) 60 ∧ ∀ s5, s5 = setA s1 68 (ix (sF s1 64 6)) (nch ((x1).toUInt32 % 65536).toInt32) → ∀ s6, s6 = setF s5 64 6 ((sF s5 64 6) + 1) → K (sF s6 64 6) s6) ∧ ((sF s1 64 6) = 60 → K (-3) s1)) ∧ (r2 = 0 → K (-1) s1))) : Go mX6_append (d + 1) 0 [.ref 64, .int x1] [] σ (QI K) := by
  refine Go.iload_n 1 dX6_append_0 rfl rfl (?_ : Go _ _ 1 _ _ _ _)
  refine Go.bipush dX6_append_1 k_bi_33 (?_ : Go _ _ 3 _ _ _ _)
  refine Go.bipush dX6_append_3 k_bi_126 (?_ : Go _ _ 5 _ _ _ _)
  refine Go.callS (as := [.int x1, .int 33, .int 126]) (st := []) mk_X6_in wl_X6_41 rfl rfl (Nat.le_of_ble_eq_true rfl) dX6_append_5 h ?_
  rintro _ s1 ⟨r2, rfl, h⟩
  show Go _ _ 8 _ [.int r2] _ _
  refine Go.if_ne 13 dX6_append_8 rfl ⟨fun c3 => ?_, fun c3 => (?_ : Go _ _ 11 _ _ _ _)⟩
  · have h := h.1 c3
    refine Go.aload_n 0 dX6_append_13 rfl rfl (?_ : Go _ _ 14 _ _ _ _)
    refine Go.getI fk_X6_152 shq_64 frq_64_6 dX6_append_14 (?_ : Go _ _ 17 _ _ _ _)
    refine Go.bipush dX6_append_17 k_bi_60 (?_ : Go _ _ 19 _ _ _ _)
    refine Go.icmp_ne 25 dX6_append_19 rfl ⟨fun c4 => ?_, fun c4 => (?_ : Go _ _ 22 _ _ _ _)⟩
    · have h := h.1 c4
      refine Go.aload_n 0 dX6_append_25 rfl rfl (?_ : Go _ _ 26 _ _ _ _)
      refine Go.getR fk_X6_19 shq_64 frq_64_5 dX6_append_26 (?_ : Go _ _ 29 _ _ _ _)
      refine Go.aload_n 0 dX6_append_29 rfl rfl (?_ : Go _ _ 30 _ _ _ _)
      refine Go.getI fk_X6_152 shq_64 frq_64_6 dX6_append_30 (?_ : Go _ _ 33 _ _ _ _)
      refine Go.iload_n 1 dX6_append_33 rfl rfl (?_ : Go _ _ 34 _ _ _ _)
      refine Go.i2c dX6_append_34 rfl (?_ : Go _ _ 35 _ _ _ _)
      refine Go.cast shq_68 dX6_append_35 ⟨h.1, (?_ : Go _ _ 36 _ _ _ _)⟩
      generalize es5 : setA s1 68 (ix (sF s1 64 6)) (nch ((x1).toUInt32 % 65536).toInt32) = s5
      have h := h.2 s5 es5.symm
      refine Go.aload_n 0 dX6_append_36 rfl rfl (?_ : Go _ _ 37 _ _ _ _)
      refine Go.dup dX6_append_37 rfl (?_ : Go _ _ 38 _ _ _ _)
      refine Go.getI fk_X6_152 shq_64 frq_64_6 dX6_append_38 (?_ : Go _ _ 41 _ _ _ _)
      refine Go.iconst dX6_append_41 k_ic_1 (?_ : Go _ _ 42 _ _ _ _)
      refine Go.iadd dX6_append_42 (?_ : Go _ _ 43 _ _ _ _)
      refine Go.putI fp_X6_152 shq_64 frq_64_6 dX6_append_43 (?_ : Go _ _ 46 _ _ _ _)
      generalize es6 : setF s5 64 6 ((sF s5 64 6) + 1) = s6
      have h := h s6 es6.symm
      refine Go.aload_n 0 dX6_append_46 rfl rfl (?_ : Go _ _ 47 _ _ _ _)
      refine Go.getI fk_X6_152 shq_64 frq_64_6 dX6_append_47 (?_ : Go _ _ 50 _ _ _ _)
      exact Go.iret rfl dX6_append_50 ⟨_, rfl, h⟩
    · have h := h.2 c4
      refine Go.bipush dX6_append_22 k_bi_m3 (?_ : Go _ _ 24 _ _ _ _)
      exact Go.iret rfl dX6_append_24 ⟨_, rfl, h⟩
  · have h := h.2 c3
    refine Go.iconst dX6_append_11 k_ic_m1 (?_ : Go _ _ 12 _ _ _ _)
    exact Go.iret rfl dX6_append_12 ⟨_, rfl, h⟩
theorem cgX6_append {d : Nat} {σ : St} {x1 : Int32} {K : Int32 → St → Prop} (h : CallI d mX6_in [.int x1, .int 33, .int 126] σ (fun r2 s1 => (¬ r2 = 0 → (¬ (sF s1 64 6) = 60 → vp_in (sF s1 64 6) 60 ∧ ∀ s5, s5 = setA s1 68 (ix (sF s1 64 6)) (nch ((x1).toUInt32 % 65536).toInt32) → ∀ s6, s6 = setF s5 64 6 ((sF s5 64 6) + 1) → K (sF s6 64 6) s6) ∧ ((sF s1 64 6) = 60 → K (-3) s1)) ∧ (r2 = 0 → K (-1) s1))) : CallI (d + 1) mX6_append [.ref 64, .int x1] σ K := Call_of_Go (by decide +kernel) (ls := [.ref 64, .int x1]) rfl (Nat.le_of_ble_eq_true rfl) (sgX6_append_0 h)
set_option maxHeartbeats 4000000 in
set_option maxRecDepth 100000 in
theorem sgX6_clear_0 {d : Nat} {σ : St} {K : Int32 → St → Prop} (h : ∀ s1, s1 = setF σ 64 6 0 → K (sF σ 64 6) s1) : Go mX6_clear (d + 1) 0 [.ref 64, .null] [] σ (QI K) := by
  refine Go.aload_n 0 dX6_clear_0 rfl rfl (?_ : Go _ _ 1 _ _ _ _)
  refine Go.getI fk_X6_152 shq_64 frq_64_6 dX6_clear_1 (?_ : Go _ _ 4 _ _ _ _)
  refine Go.istore_n 1 dX6_clear_4 rfl (by decide) rfl rfl (?_ : Go _ _ 5 [.ref 64, .int (sF σ 64 6)] _ _ _)
  refine Go.aload_n 0 dX6_clear_5 rfl rfl (?_ : Go _ _ 6 _ _ _ _)
  refine Go.iconst dX6_clear_6 k_ic_0 (?_ : Go _ _ 7 _ _ _ _)
  refine Go.putI fp_X6_152 shq_64 frq_64_6 dX6_clear_7 (?_ : Go _ _ 10 _ _ _ _)
  generalize es1 : setF σ 64 6 0 = s1
  have h := h s1 es1.symm
  refine Go.iload_n 1 dX6_clear_10 rfl rfl (?_ : Go _ _ 11 _ _ _ _)
  exact Go.iret rfl dX6_clear_11 ⟨_, rfl, h⟩
theorem cgX6_clear {d : Nat} {σ : St} {K : Int32 → St → Prop} (h : ∀ s1, s1 = setF σ 64 6 0 → K (sF σ 64 6) s1) : CallI (d + 1) mX6_clear [.ref 64] σ K := Call_of_Go (by decide +kernel) (ls := [.ref 64, .null]) rfl (Nat.le_of_ble_eq_true rfl) (sgX6_clear_0 h)
set_option maxHeartbeats 4000000 in
set_option maxRecDepth 100000 in
theorem sgX6_letter_0 {d : Nat} {σ : St} {K : Int32 → St → Prop} (h : ((sF σ 64 6) ≤ (sF σ 64 17) → K (-4) σ) ∧ (¬ (sF σ 64 6) ≤ (sF σ 64 17) → vp_in (sF σ 64 17) 60 ∧ K (sA σ 68 (ix (sF σ 64 17))) σ)) : Go mX6_letter (d + 1) 0 [.ref 64] [] σ (QI K) := by
  refine Go.aload_n 0 dX6_letter_0 rfl rfl (?_ : Go _ _ 1 _ _ _ _)
  refine Go.getI fk_X6_164 shq_64 frq_64_17 dX6_letter_1 (?_ : Go _ _ 4 _ _ _ _)
  refine Go.aload_n 0 dX6_letter_4 rfl rfl (?_ : Go _ _ 5 _ _ _ _)
  refine Go.getI fk_X6_152 shq_64 frq_64_6 dX6_letter_5 (?_ : Go _ _ 8 _ _ _ _)
  refine Go.icmp_ge 23 dX6_letter_8 rfl ⟨fun c1 => ?_, fun c1 => (?_ : Go _ _ 11 _ _ _ _)⟩
  · have h := h.1 c1
    refine Go.bipush dX6_letter_23 k_bi_m4 (?_ : Go _ _ 25 _ _ _ _)
    exact Go.iret rfl dX6_letter_25 ⟨_, rfl, h⟩
  · have h := h.2 c1
    refine Go.aload_n 0 dX6_letter_11 rfl rfl (?_ : Go _ _ 12 _ _ _ _)
    refine Go.getR fk_X6_19 shq_64 frq_64_5 dX6_letter_12 (?_ : Go _ _ 15 _ _ _ _)
    refine Go.aload_n 0 dX6_letter_15 rfl rfl (?_ : Go _ _ 16 _ _ _ _)
    refine Go.getI fk_X6_164 shq_64 frq_64_17 dX6_letter_16 (?_ : Go _ _ 19 _ _ _ _)
    refine Go.cald shq_68 dX6_letter_19 ⟨h.1, (?_ : Go _ _ 20 _ _ _ _)⟩
    have h := h.2
    refine Go.goto 25 dX6_letter_20 rfl ?_
    exact Go.iret rfl dX6_letter_25 ⟨_, rfl, h⟩
theorem cgX6_letter {d : Nat} {σ : St} {K : Int32 → St → Prop} (h : ((sF σ 64 6) ≤ (sF σ 64 17) → K (-4) σ) ∧ (¬ (sF σ 64 6) ≤ (sF σ 64 17) → vp_in (sF σ 64 17) 60 ∧ K (sA σ 68 (ix (sF σ 64 17))) σ)) : CallI (d + 1) mX6_letter [.ref 64] σ K := Call_of_Go (by decide +kernel) (ls := [.ref 64]) rfl (Nat.le_of_ble_eq_true rfl) (sgX6_letter_0 h)
set_option maxHeartbeats 4000000 in
set_option maxRecDepth 100000 in
theorem sgX6_figure_0 {d : Nat} {σ : St} {K : Int32 → St → Prop} (h : CallI d mX6_letter [.ref 64] σ (fun r2 s1 => CallI d mX6_in [.int (r2 - 48), .int 0, .int 9] s1 (fun r4 s3 => (r4 = 0 → K (-4) s3) ∧ (¬ r4 = 0 → K (r2 - 48) s3)))) : Go mX6_figure (d + 1) 0 [.ref 64, .null] [] σ (QI K) := by
  refine Go.aload_n 0 dX6_figure_0 rfl rfl (?_ : Go _ _ 1 _ _ _ _)
  refine Go.callV (as := []) (st := []) mk_X6_letter wl_X6_167 shq_64 rfl rfl (Nat.le_of_ble_eq_true rfl) dX6_figure_1 h ?_
  rintro _ s1 ⟨r2, rfl, h⟩
  show Go _ _ 4 _ [.int r2] _ _
  refine Go.bipush dX6_figure_4 k_bi_48 (?_ : Go _ _ 6 _ _ _ _)
  refine Go.isub dX6_figure_6 (?_ : Go _ _ 7 _ _ _ _)
  refine Go.istore_n 1 dX6_figure_7 rfl (by decide) rfl rfl (?_ : Go _ _ 8 [.ref 64, .int (r2 - 48)] _ _ _)
  refine Go.iload_n 1 dX6_figure_8 rfl rfl (?_ : Go _ _ 9 _ _ _ _)
  refine Go.iconst dX6_figure_9 k_ic_0 (?_ : Go _ _ 10 _ _ _ _)
  refine Go.bipush dX6_figure_10 k_bi_9 (?_ : Go _ _ 12 _ _ _ _)
  refine Go.callS (as := [.int (r2 - 48), .int 0, .int 9]) (st := []) mk_X6_in wl_X6_41 rfl rfl (Nat.le_of_ble_eq_true rfl) dX6_figure_12 h ?_
  rintro _ s3 ⟨r4, rfl, h⟩
  show Go _ _ 15 _ [.int r4] _ _
  refine Go.if_eq 22 dX6_figure_15 rfl ⟨fun c5 => ?_, fun c5 => (?_ : Go _ _ 18 _ _ _ _)⟩
  · have h := h.1 c5
    refine Go.bipush dX6_figure_22 k_bi_m4 (?_ : Go _ _ 24 _ _ _ _)
    exact Go.iret rfl dX6_figure_24 ⟨_, rfl, h⟩
  · have h := h.2 c5
    refine Go.iload_n 1 dX6_figure_18 rfl rfl (?_ : Go _ _ 19 _ _ _ _)
    refine Go.goto 24 dX6_figure_19 rfl ?_
    exact Go.iret rfl dX6_figure_24 ⟨_, rfl, h⟩
theorem cgX6_figure {d : Nat} {σ : St} {K : Int32 → St → Prop} (h : CallI d mX6_letter [.ref 64] σ (fun r2 s1 => CallI d mX6_in [.int (r2 - 48), .int 0, .int 9] s1 (fun r4 s3 => (r4 = 0 → K (-4) s3) ∧ (¬ r4 = 0 → K (r2 - 48) s3)))) : CallI (d + 1) mX6_figure [.ref 64] σ K := Call_of_Go (by decide +kernel) (ls := [.ref 64, .null]) rfl (Nat.le_of_ble_eq_true rfl) (sgX6_figure_0 h)
set_option maxHeartbeats 4000000 in
set_option maxRecDepth 100000 in
theorem sgX6_wants_0 {d : Nat} {σ : St} {x1 : Int32} {K : St → Prop} (h : (¬ (sF σ 64 18) = (-4) → K σ) ∧ ((sF σ 64 18) = (-4) → (x1 = 0 → ∀ s3, s3 = setF σ 64 18 (sF σ 64 17) → ∀ s4, s4 = setF s3 64 17 ((sF s3 64 17) + 1) → K s4) ∧ (¬ x1 = 0 → ∀ s5, s5 = setF σ 64 18 (-4) → ∀ s6, s6 = setF s5 64 17 ((sF s5 64 17) + 1) → K s6))) : Go mX6_wants (d + 1) 0 [.ref 64, .int x1] [] σ (QU K) := by
  refine Go.aload_n 0 dX6_wants_0 rfl rfl (?_ : Go _ _ 1 _ _ _ _)
  refine Go.getI fk_X6_170 shq_64 frq_64_18 dX6_wants_1 (?_ : Go _ _ 4 _ _ _ _)
  refine Go.bipush dX6_wants_4 k_bi_m4 (?_ : Go _ _ 6 _ _ _ _)
  refine Go.icmp_ne 36 dX6_wants_6 rfl ⟨fun c1 => ?_, fun c1 => (?_ : Go _ _ 9 _ _ _ _)⟩
  · have h := h.1 c1
    exact Go.vret rfl dX6_wants_36 ⟨rfl, h⟩
  · have h := h.2 c1
    refine Go.aload_n 0 dX6_wants_9 rfl rfl (?_ : Go _ _ 10 _ _ _ _)
    refine Go.iload_n 1 dX6_wants_10 rfl rfl (?_ : Go _ _ 11 _ _ _ _)
    refine Go.if_eq 19 dX6_wants_11 rfl ⟨fun c2 => ?_, fun c2 => (?_ : Go _ _ 14 _ _ _ _)⟩
    · have h := h.1 c2
      refine Go.aload_n 0 dX6_wants_19 rfl rfl (?_ : Go _ _ 20 _ _ _ _)
      refine Go.getI fk_X6_164 shq_64 frq_64_17 dX6_wants_20 (?_ : Go _ _ 23 _ _ _ _)
      refine Go.putI fp_X6_170 shq_64 frq_64_18 dX6_wants_23 (?_ : Go _ _ 26 _ _ _ _)
      generalize es3 : setF σ 64 18 (sF σ 64 17) = s3
      have h := h s3 es3.symm
      refine Go.aload_n 0 dX6_wants_26 rfl rfl (?_ : Go _ _ 27 _ _ _ _)
      refine Go.dup dX6_wants_27 rfl (?_ : Go _ _ 28 _ _ _ _)
      refine Go.getI fk_X6_164 shq_64 frq_64_17 dX6_wants_28 (?_ : Go _ _ 31 _ _ _ _)
      refine Go.iconst dX6_wants_31 k_ic_1 (?_ : Go _ _ 32 _ _ _ _)
      refine Go.iadd dX6_wants_32 (?_ : Go _ _ 33 _ _ _ _)
      refine Go.putI fp_X6_164 shq_64 frq_64_17 dX6_wants_33 (?_ : Go _ _ 36 _ _ _ _)
      generalize es4 : setF s3 64 17 ((sF s3 64 17) + 1) = s4
      have h := h s4 es4.symm
      exact Go.vret rfl dX6_wants_36 ⟨rfl, h⟩
    · have h := h.2 c2
      refine Go.bipush dX6_wants_14 k_bi_m4 (?_ : Go _ _ 16 _ _ _ _)
      refine Go.goto 23 dX6_wants_16 rfl ?_
      refine Go.putI fp_X6_170 shq_64 frq_64_18 dX6_wants_23 (?_ : Go _ _ 26 _ _ _ _)
      generalize es5 : setF σ 64 18 (-4) = s5
      have h := h s5 es5.symm
      refine Go.aload_n 0 dX6_wants_26 rfl rfl (?_ : Go _ _ 27 _ _ _ _)
      refine Go.dup dX6_wants_27 rfl (?_ : Go _ _ 28 _ _ _ _)
      refine Go.getI fk_X6_164 shq_64 frq_64_17 dX6_wants_28 (?_ : Go _ _ 31 _ _ _ _)
      refine Go.iconst dX6_wants_31 k_ic_1 (?_ : Go _ _ 32 _ _ _ _)
      refine Go.iadd dX6_wants_32 (?_ : Go _ _ 33 _ _ _ _)
      refine Go.putI fp_X6_164 shq_64 frq_64_17 dX6_wants_33 (?_ : Go _ _ 36 _ _ _ _)
      generalize es6 : setF s5 64 17 ((sF s5 64 17) + 1) = s6
      have h := h s6 es6.symm
      exact Go.vret rfl dX6_wants_36 ⟨rfl, h⟩
theorem cgX6_wants {d : Nat} {σ : St} {x1 : Int32} {K : St → Prop} (h : (¬ (sF σ 64 18) = (-4) → K σ) ∧ ((sF σ 64 18) = (-4) → (x1 = 0 → ∀ s3, s3 = setF σ 64 18 (sF σ 64 17) → ∀ s4, s4 = setF s3 64 17 ((sF s3 64 17) + 1) → K s4) ∧ (¬ x1 = 0 → ∀ s5, s5 = setF σ 64 18 (-4) → ∀ s6, s6 = setF s5 64 17 ((sF s5 64 17) + 1) → K s6))) : CallU (d + 1) mX6_wants [.ref 64, .int x1] σ K := Call_of_Go (by decide +kernel) (ls := [.ref 64, .int x1]) rfl (Nat.le_of_ble_eq_true rfl) (sgX6_wants_0 h)
set_option maxHeartbeats 4000000 in
set_option maxRecDepth 100000 in
theorem sgX6_number_0 {d : Nat} {σ : St} {x1 : Int32} {K : Int32 → St → Prop} (h : CallI d mX6_figure [.ref 64] σ (fun r2 s1 => (r2 ≤ 0 → CallU d mX6_wants [.ref 64, .int 0] s1 (fun s4 => Go mX6_number (d + 1) 18 [.ref 64, .int x1, .int r2] [] s4 (QI K))) ∧ (¬ r2 ≤ 0 → CallU d mX6_wants [.ref 64, .int 1] s1 (fun s5 => Go mX6_number (d + 1) 18 [.ref 64, .int x1, .int r2] [] s5 (QI K))))) : Go mX6_number (d + 1) 0 [.ref 64, .int x1, .null] [] σ (QI K) := by
  refine Go.aload_n 0 dX6_number_0 rfl rfl (?_ : Go _ _ 1 _ _ _ _)
  refine Go.callV (as := []) (st := []) mk_X6_figure wl_X6_173 shq_64 rfl rfl (Nat.le_of_ble_eq_true rfl) dX6_number_1 h ?_
  rintro _ s1 ⟨r2, rfl, h⟩
  show Go _ _ 4 _ [.int r2] _ _
  refine Go.istore_n 2 dX6_number_4 rfl (by decide) rfl rfl (?_ : Go _ _ 5 [.ref 64, .int x1, .int r2] _ _ _)
  refine Go.aload_n 0 dX6_number_5 rfl rfl (?_ : Go _ _ 6 _ _ _ _)
  refine Go.iload_n 2 dX6_number_6 rfl rfl (?_ : Go _ _ 7 _ _ _ _)
  refine Go.if_le 14 dX6_number_7 rfl ⟨fun c3 => ?_, fun c3 => (?_ : Go _ _ 10 _ _ _ _)⟩
  · have h := h.1 c3
    refine Go.iconst dX6_number_14 k_ic_0 (?_ : Go _ _ 15 _ _ _ _)
    refine Go.callV (as := [.int 0]) (st := []) mk_X6_wants wl_X6_176 shq_64 rfl rfl (Nat.le_of_ble_eq_true rfl) dX6_number_15 h ?_
    rintro _ s4 ⟨rfl, h⟩
    show Go _ _ 18 _ [] _ _
    exact h
  · have h := h.2 c3
    refine Go.iconst dX6_number_10 k_ic_1 (?_ : Go _ _ 11 _ _ _ _)
    refine Go.goto 15 dX6_number_11 rfl ?_
    refine Go.callV (as := [.int 1]) (st := []) mk_X6_wants wl_X6_176 shq_64 rfl rfl (Nat.le_of_ble_eq_true rfl) dX6_number_15 h ?_
    rintro _ s5 ⟨rfl, h⟩
    show Go _ _ 18 _ [] _ _
    exact h
theorem cgX6_number {d : Nat} {σ : St} {x1 : Int32} {K : Int32 → St → Prop} (h : CallI d mX6_figure [.ref 64] σ (fun r2 s1 => (r2 ≤ 0 → CallU d mX6_wants [.ref 64, .int 0] s1 (fun s4 => Go mX6_number (d + 1) 18 [.ref 64, .int x1, .int r2] [] s4 (QI K))) ∧ (¬ r2 ≤ 0 → CallU d mX6_wants [.ref 64, .int 1] s1 (fun s5 => Go mX6_number (d + 1) 18 [.ref 64, .int x1, .int r2] [] s5 (QI K))))) : CallI (d + 1) mX6_number [.ref 64, .int x1] σ K := Call_of_Go (by decide +kernel) (ls := [.ref 64, .int x1, .null]) rfl (Nat.le_of_ble_eq_true rfl) (sgX6_number_0 h)
set_option maxHeartbeats 4000000 in
set_option maxRecDepth 100000 in
theorem sgX6_number_18 {d : Nat} {σ : St} {v1 : Int32} {v2 : Int32} {K : Int32 → St → Prop} (h : (¬ (sF σ 64 18) = (-4) → K v2 σ) ∧ ((sF σ 64 18) = (-4) → CallI d mX6_figure [.ref 64] σ (fun r3 s2 => (r3 = (-4) → K v2 s2) ∧ (¬ r3 = (-4) → CallI d mX6_figure [.ref 64] s2 (fun r6 s5 => (v1 < ((10 * v2) + r6) → K v2 s5) ∧ (¬ v1 < ((10 * v2) + r6) → CallI d mX6_figure [.ref 64] s5 (fun r9 s8 => ∀ s10, s10 = setF s8 64 17 ((sF s8 64 17) + 1) → Go mX6_number (d + 1) 18 [.ref 64, .int v1, .int ((10 * v2) + r9)] [] s10 (QI K)))))))) : Go mX6_number (d + 1) 18 [.ref 64, .int v1, .int v2] [] σ (QI K) := by
  refine Go.aload_n 0 dX6_number_18 rfl rfl (?_ : Go _ _ 19 _ _ _ _)
  refine Go.getI fk_X6_170 shq_64 frq_64_18 dX6_number_19 (?_ : Go _ _ 22 _ _ _ _)
  refine Go.bipush dX6_number_22 k_bi_m4 (?_ : Go _ _ 24 _ _ _ _)
  refine Go.icmp_ne 72 dX6_number_24 rfl ⟨fun c1 => ?_, fun c1 => (?_ : Go _ _ 27 _ _ _ _)⟩
  · have h := h.1 c1
    refine Go.iload_n 2 dX6_number_72 rfl rfl (?_ : Go _ _ 73 _ _ _ _)
    exact Go.iret rfl dX6_number_73 ⟨_, rfl, h⟩
  · have h := h.2 c1
    refine Go.aload_n 0 dX6_number_27 rfl rfl (?_ : Go _ _ 28 _ _ _ _)
    refine Go.callV (as := []) (st := []) mk_X6_figure wl_X6_173 shq_64 rfl rfl (Nat.le_of_ble_eq_true rfl) dX6_number_28 h ?_
    rintro _ s2 ⟨r3, rfl, h⟩
    show Go _ _ 31 _ [.int r3] _ _
    refine Go.bipush dX6_number_31 k_bi_m4 (?_ : Go _ _ 33 _ _ _ _)
    refine Go.icmp_eq 72 dX6_number_33 rfl ⟨fun c4 => ?_, fun c4 => (?_ : Go _ _ 36 _ _ _ _)⟩
    · have h := h.1 c4
      refine Go.iload_n 2 dX6_number_72 rfl rfl (?_ : Go _ _ 73 _ _ _ _)
      exact Go.iret rfl dX6_number_73 ⟨_, rfl, h⟩
    · have h := h.2 c4
      refine Go.bipush dX6_number_36 k_bi_10 (?_ : Go _ _ 38 _ _ _ _)
      refine Go.iload_n 2 dX6_number_38 rfl rfl (?_ : Go _ _ 39 _ _ _ _)
      refine Go.imul dX6_number_39 (?_ : Go _ _ 40 _ _ _ _)
      refine Go.aload_n 0 dX6_number_40 rfl rfl (?_ : Go _ _ 41 _ _ _ _)
      refine Go.callV (as := []) (st := [.int (10 * v2)]) mk_X6_figure wl_X6_173 shq_64 rfl rfl (Nat.le_of_ble_eq_true rfl) dX6_number_41 h ?_
      rintro _ s5 ⟨r6, rfl, h⟩
      show Go _ _ 44 _ [.int r6, .int (10 * v2)] _ _
      refine Go.iadd dX6_number_44 (?_ : Go _ _ 45 _ _ _ _)
      refine Go.iload_n 1 dX6_number_45 rfl rfl (?_ : Go _ _ 46 _ _ _ _)
      refine Go.icmp_gt 72 dX6_number_46 rfl ⟨fun c7 => ?_, fun c7 => (?_ : Go _ _ 49 _ _ _ _)⟩
      · have h := h.1 c7
        refine Go.iload_n 2 dX6_number_72 rfl rfl (?_ : Go _ _ 73 _ _ _ _)
        exact Go.iret rfl dX6_number_73 ⟨_, rfl, h⟩
      · have h := h.2 c7
        refine Go.bipush dX6_number_49 k_bi_10 (?_ : Go _ _ 51 _ _ _ _)
        refine Go.iload_n 2 dX6_number_51 rfl rfl (?_ : Go _ _ 52 _ _ _ _)
        refine Go.imul dX6_number_52 (?_ : Go _ _ 53 _ _ _ _)
        refine Go.aload_n 0 dX6_number_53 rfl rfl (?_ : Go _ _ 54 _ _ _ _)
        refine Go.callV (as := []) (st := [.int (10 * v2)]) mk_X6_figure wl_X6_173 shq_64 rfl rfl (Nat.le_of_ble_eq_true rfl) dX6_number_54 h ?_
        rintro _ s8 ⟨r9, rfl, h⟩
        show Go _ _ 57 _ [.int r9, .int (10 * v2)] _ _
        refine Go.iadd dX6_number_57 (?_ : Go _ _ 58 _ _ _ _)
        refine Go.istore_n 2 dX6_number_58 rfl (by decide) rfl rfl (?_ : Go _ _ 59 [.ref 64, .int v1, .int ((10 * v2) + r9)] _ _ _)
        refine Go.aload_n 0 dX6_number_59 rfl rfl (?_ : Go _ _ 60 _ _ _ _)
        refine Go.dup dX6_number_60 rfl (?_ : Go _ _ 61 _ _ _ _)
        refine Go.getI fk_X6_164 shq_64 frq_64_17 dX6_number_61 (?_ : Go _ _ 64 _ _ _ _)
        refine Go.iconst dX6_number_64 k_ic_1 (?_ : Go _ _ 65 _ _ _ _)
        refine Go.iadd dX6_number_65 (?_ : Go _ _ 66 _ _ _ _)
        refine Go.putI fp_X6_164 shq_64 frq_64_17 dX6_number_66 (?_ : Go _ _ 69 _ _ _ _)
        generalize es10 : setF s8 64 17 ((sF s8 64 17) + 1) = s10
        have h := h s10 es10.symm
        refine Go.goto 18 dX6_number_69 rfl ?_
        exact h
set_option maxHeartbeats 4000000 in
set_option maxRecDepth 100000 in
theorem sgX6_readTarget_0 {d : Nat} {σ : St} {K : St → Prop} (h : CallI d mX6_letter [.ref 64] σ (fun r2 s1 => (¬ r2 = 119 → Go mX6_readTarget (d + 1) 14 [.ref 64, .null, .null, .null, .null, .null] [.int 0] s1 (QU K)) ∧ (r2 = 119 → Go mX6_readTarget (d + 1) 14 [.ref 64, .null, .null, .null, .null, .null] [.int 1] s1 (QU K)))) : Go mX6_readTarget (d + 1) 0 [.ref 64, .null, .null, .null, .null, .null] [] σ (QU K) := by
  refine Go.aload_n 0 dX6_readTarget_0 rfl rfl (?_ : Go _ _ 1 _ _ _ _)
  refine Go.callV (as := []) (st := []) mk_X6_letter wl_X6_167 shq_64 rfl rfl (Nat.le_of_ble_eq_true rfl) dX6_readTarget_1 h ?_
  rintro _ s1 ⟨r2, rfl, h⟩
  show Go _ _ 4 _ [.int r2] _ _
  refine Go.bipush dX6_readTarget_4 k_bi_119 (?_ : Go _ _ 6 _ _ _ _)
  refine Go.icmp_ne 13 dX6_readTarget_6 rfl ⟨fun c3 => ?_, fun c3 => (?_ : Go _ _ 9 _ _ _ _)⟩
  · have h := h.1 c3
    refine Go.iconst dX6_readTarget_13 k_ic_0 (?_ : Go _ _ 14 _ _ _ _)
    exact h
  · have h := h.2 c3
    refine Go.iconst dX6_readTarget_9 k_ic_1 (?_ : Go _ _ 10 _ _ _ _)
    refine Go.goto 14 dX6_readTarget_10 rfl ?_
    exact h
theorem cgX6_readTarget {d : Nat} {σ : St} {K : St → Prop} (h : CallI d mX6_letter [.ref 64] σ (fun r2 s1 => (¬ r2 = 119 → Go mX6_readTarget (d + 1) 14 [.ref 64, .null, .null, .null, .null, .null] [.int 0] s1 (QU K)) ∧ (r2 = 119 → Go mX6_readTarget (d + 1) 14 [.ref 64, .null, .null, .null, .null, .null] [.int 1] s1 (QU K)))) : CallU (d + 1) mX6_readTarget [.ref 64] σ K := Call_of_Go (by decide +kernel) (ls := [.ref 64, .null, .null, .null, .null, .null]) rfl (Nat.le_of_ble_eq_true rfl) (sgX6_readTarget_0 h)
set_option maxHeartbeats 4000000 in
set_option maxRecDepth 100000 in
theorem sgX6_readTarget_14 {d : Nat} {σ : St} {w0 : Int32} {K : St → Prop} (h : (¬ w0 = 0 → Go mX6_readTarget (d + 1) 29 [.ref 64, .int w0, .null, .null, .null, .null] [.ref 64] σ (QU K)) ∧ (w0 = 0 → CallI d mX6_letter [.ref 64] σ (fun r3 s2 => (¬ r3 = 116 → Go mX6_readTarget (d + 1) 34 [.ref 64, .int w0, .null, .null, .null, .null] [.int 0, .ref 64] s2 (QU K)) ∧ (r3 = 116 → Go mX6_readTarget (d + 1) 29 [.ref 64, .int w0, .null, .null, .null, .null] [.ref 64] s2 (QU K))))) : Go mX6_readTarget (d + 1) 14 [.ref 64, .null, .null, .null, .null, .null] [.int w0] σ (QU K) := by
  refine Go.istore_n 1 dX6_readTarget_14 rfl (by decide) rfl rfl (?_ : Go _ _ 15 [.ref 64, .int w0, .null, .null, .null, .null] _ _ _)
  refine Go.aload_n 0 dX6_readTarget_15 rfl rfl (?_ : Go _ _ 16 _ _ _ _)
  refine Go.iload_n 1 dX6_readTarget_16 rfl rfl (?_ : Go _ _ 17 _ _ _ _)
  refine Go.if_ne 29 dX6_readTarget_17 rfl ⟨fun c1 => ?_, fun c1 => (?_ : Go _ _ 20 _ _ _ _)⟩
  · have h := h.1 c1
    exact h
  · have h := h.2 c1
    refine Go.aload_n 0 dX6_readTarget_20 rfl rfl (?_ : Go _ _ 21 _ _ _ _)
    refine Go.callV (as := []) (st := [.ref 64]) mk_X6_letter wl_X6_167 shq_64 rfl rfl (Nat.le_of_ble_eq_true rfl) dX6_readTarget_21 h ?_
    rintro _ s2 ⟨r3, rfl, h⟩
    show Go _ _ 24 _ [.int r3, .ref 64] _ _
    refine Go.bipush dX6_readTarget_24 k_bi_116 (?_ : Go _ _ 26 _ _ _ _)
    refine Go.icmp_ne 33 dX6_readTarget_26 rfl ⟨fun c4 => ?_, fun c4 => (?_ : Go _ _ 29 _ _ _ _)⟩
    · have h := h.1 c4
      refine Go.iconst dX6_readTarget_33 k_ic_0 (?_ : Go _ _ 34 _ _ _ _)
      exact h
    · have h := h.2 c4
      exact h
set_option maxHeartbeats 4000000 in
set_option maxRecDepth 100000 in
theorem sgX6_readTarget_29 {d : Nat} {σ : St} {v1 : Int32} {K : St → Prop} (h : Go mX6_readTarget (d + 1) 34 [.ref 64, .int v1, .null, .null, .null, .null] [.int 1, .ref 64] σ (QU K)) : Go mX6_readTarget (d + 1) 29 [.ref 64, .int v1, .null, .null, .null, .null] [.ref 64] σ (QU K) := by
  refine Go.iconst dX6_readTarget_29 k_ic_1 (?_ : Go _ _ 30 _ _ _ _)
  refine Go.goto 34 dX6_readTarget_30 rfl ?_
  exact h
set_option maxHeartbeats 4000000 in
set_option maxRecDepth 100000 in
theorem sgX6_readTarget_34 {d : Nat} {σ : St} {v1 : Int32} {w0 : Int32} {K : St → Prop} (h : CallU d mX6_wants [.ref 64, .int w0] σ (fun s1 => CallI d mX6_number [.ref 64, .int 300] s1 (fun r3 s2 => CallI d mX6_letter [.ref 64] s2 (fun r5 s4 => (¬ r5 = 42 → Go mX6_readTarget (d + 1) 60 [.ref 64, .int v1, .int r3, .null, .null, .null] [.int 0, .ref 64] s4 (QU K)) ∧ (r5 = 42 → Go mX6_readTarget (d + 1) 60 [.ref 64, .int v1, .int r3, .null, .null, .null] [.int 1, .ref 64] s4 (QU K)))))) : Go mX6_readTarget (d + 1) 34 [.ref 64, .int v1, .null, .null, .null, .null] [.int w0, .ref 64] σ (QU K) := by
  refine Go.callV (as := [.int w0]) (st := []) mk_X6_wants wl_X6_176 shq_64 rfl rfl (Nat.le_of_ble_eq_true rfl) dX6_readTarget_34 h ?_
  rintro _ s1 ⟨rfl, h⟩
  show Go _ _ 37 _ [] _ _
  refine Go.aload_n 0 dX6_readTarget_37 rfl rfl (?_ : Go _ _ 38 _ _ _ _)
  refine Go.sipush dX6_readTarget_38 k_si_300 (?_ : Go _ _ 41 _ _ _ _)
  refine Go.callV (as := [.int 300]) (st := []) mk_X6_number wl_X6_180 shq_64 rfl rfl (Nat.le_of_ble_eq_true rfl) dX6_readTarget_41 h ?_
  rintro _ s2 ⟨r3, rfl, h⟩
  show Go _ _ 44 _ [.int r3] _ _
  refine Go.istore_n 2 dX6_readTarget_44 rfl (by decide) rfl rfl (?_ : Go _ _ 45 [.ref 64, .int v1, .int r3, .null, .null, .null] _ _ _)
  refine Go.aload_n 0 dX6_readTarget_45 rfl rfl (?_ : Go _ _ 46 _ _ _ _)
  refine Go.aload_n 0 dX6_readTarget_46 rfl rfl (?_ : Go _ _ 47 _ _ _ _)
  refine Go.callV (as := []) (st := [.ref 64]) mk_X6_letter wl_X6_167 shq_64 rfl rfl (Nat.le_of_ble_eq_true rfl) dX6_readTarget_47 h ?_
  rintro _ s4 ⟨r5, rfl, h⟩
  show Go _ _ 50 _ [.int r5, .ref 64] _ _
  refine Go.bipush dX6_readTarget_50 k_bi_42 (?_ : Go _ _ 52 _ _ _ _)
  refine Go.icmp_ne 59 dX6_readTarget_52 rfl ⟨fun c6 => ?_, fun c6 => (?_ : Go _ _ 55 _ _ _ _)⟩
  · have h := h.1 c6
    refine Go.iconst dX6_readTarget_59 k_ic_0 (?_ : Go _ _ 60 _ _ _ _)
    exact h
  · have h := h.2 c6
    refine Go.iconst dX6_readTarget_55 k_ic_1 (?_ : Go _ _ 56 _ _ _ _)
    refine Go.goto 60 dX6_readTarget_56 rfl ?_
    exact h
set_option maxHeartbeats 4000000 in
set_option maxRecDepth 100000 in
theorem sgX6_readTarget_60 {d : Nat} {σ : St} {v1 : Int32} {v2 : Int32} {w0 : Int32} {K : St → Prop} (h : CallU d mX6_wants [.ref 64, .int w0] σ (fun s1 => CallI d mX6_number [.ref 64, .int 99] s1 (fun r3 s2 => (¬ (sF s2 64 18) = (-4) → Go mX6_readTarget (d + 1) 152 [.ref 64, .int v1, .int v2, .int r3, .int 0, .null] [] s2 (QU K)) ∧ ((sF s2 64 18) = (-4) → (¬ v1 = 0 → Go mX6_readTarget (d + 1) 152 [.ref 64, .int v1, .int v2, .int r3, .int 0, .null] [] s2 (QU K)) ∧ (v1 = 0 → CallI d mX6_letter [.ref 64] s2 (fun r7 s6 => (r7 = 43 → Go mX6_readTarget (d + 1) 104 [.ref 64, .int v1, .int v2, .int r3, .int 0, .null] [] s6 (QU K)) ∧ (¬ r7 = 43 → CallI d mX6_letter [.ref 64] s6 (fun r10 s9 => (¬ r10 = 45 → Go mX6_readTarget (d + 1) 152 [.ref 64, .int v1, .int v2, .int r3, .int 0, .null] [] s9 (QU K)) ∧ (r10 = 45 → Go mX6_readTarget (d + 1) 104 [.ref 64, .int v1, .int v2, .int r3, .int 0, .null] [] s9 (QU K)))))))))) : Go mX6_readTarget (d + 1) 60 [.ref 64, .int v1, .int v2, .null, .null, .null] [.int w0, .ref 64] σ (QU K) := by
  refine Go.callV (as := [.int w0]) (st := []) mk_X6_wants wl_X6_176 shq_64 rfl rfl (Nat.le_of_ble_eq_true rfl) dX6_readTarget_60 h ?_
  rintro _ s1 ⟨rfl, h⟩
  show Go _ _ 63 _ [] _ _
  refine Go.aload_n 0 dX6_readTarget_63 rfl rfl (?_ : Go _ _ 64 _ _ _ _)
  refine Go.bipush dX6_readTarget_64 k_bi_99 (?_ : Go _ _ 66 _ _ _ _)
  refine Go.callV (as := [.int 99]) (st := []) mk_X6_number wl_X6_180 shq_64 rfl rfl (Nat.le_of_ble_eq_true rfl) dX6_readTarget_66 h ?_
  rintro _ s2 ⟨r3, rfl, h⟩
  show Go _ _ 69 _ [.int r3] _ _
  refine Go.istore_n 3 dX6_readTarget_69 rfl (by decide) rfl rfl (?_ : Go _ _ 70 [.ref 64, .int v1, .int v2, .int r3, .null, .null] _ _ _)
  refine Go.iconst dX6_readTarget_70 k_ic_0 (?_ : Go _ _ 71 _ _ _ _)
  refine Go.istore dX6_readTarget_71 (by decide) rfl rfl (?_ : Go _ _ 73 [.ref 64, .int v1, .int v2, .int r3, .int 0, .null] _ _ _)
  refine Go.aload_n 0 dX6_readTarget_73 rfl rfl (?_ : Go _ _ 74 _ _ _ _)
  refine Go.getI fk_X6_170 shq_64 frq_64_18 dX6_readTarget_74 (?_ : Go _ _ 77 _ _ _ _)
  refine Go.bipush dX6_readTarget_77 k_bi_m4 (?_ : Go _ _ 79 _ _ _ _)
  refine Go.icmp_ne 152 dX6_readTarget_79 rfl ⟨fun c4 => ?_, fun c4 => (?_ : Go _ _ 82 _ _ _ _)⟩
  · have h := h.1 c4
    exact h
  · have h := h.2 c4
    refine Go.iload_n 1 dX6_readTarget_82 rfl rfl (?_ : Go _ _ 83 _ _ _ _)
    refine Go.if_ne 152 dX6_readTarget_83 rfl ⟨fun c5 => ?_, fun c5 => (?_ : Go _ _ 86 _ _ _ _)⟩
    · have h := h.1 c5
      exact h
    · have h := h.2 c5
      refine Go.aload_n 0 dX6_readTarget_86 rfl rfl (?_ : Go _ _ 87 _ _ _ _)
      refine Go.callV (as := []) (st := []) mk_X6_letter wl_X6_167 shq_64 rfl rfl (Nat.le_of_ble_eq_true rfl) dX6_readTarget_87 h ?_
      rintro _ s6 ⟨r7, rfl, h⟩
      show Go _ _ 90 _ [.int r7] _ _
      refine Go.bipush dX6_readTarget_90 k_bi_43 (?_ : Go _ _ 92 _ _ _ _)
      refine Go.icmp_eq 104 dX6_readTarget_92 rfl ⟨fun c8 => ?_, fun c8 => (?_ : Go _ _ 95 _ _ _ _)⟩
      · have h := h.1 c8
        exact h
      · have h := h.2 c8
        refine Go.aload_n 0 dX6_readTarget_95 rfl rfl (?_ : Go _ _ 96 _ _ _ _)
        refine Go.callV (as := []) (st := []) mk_X6_letter wl_X6_167 shq_64 rfl rfl (Nat.le_of_ble_eq_true rfl) dX6_readTarget_96 h ?_
        rintro _ s9 ⟨r10, rfl, h⟩
        show Go _ _ 99 _ [.int r10] _ _
        refine Go.bipush dX6_readTarget_99 k_bi_45 (?_ : Go _ _ 101 _ _ _ _)
        refine Go.icmp_ne 152 dX6_readTarget_101 rfl ⟨fun c11 => ?_, fun c11 => (?_ : Go _ _ 104 _ _ _ _)⟩
        · have h := h.1 c11
          exact h
        · have h := h.2 c11
          exact h
set_option maxHeartbeats 4000000 in
set_option maxRecDepth 100000 in
theorem sgX6_readTarget_104 {d : Nat} {σ : St} {v1 : Int32} {v2 : Int32} {v3 : Int32} {v4 : Int32} {K : St → Prop} (h : CallI d mX6_letter [.ref 64] σ (fun r2 s1 => (¬ r2 = 43 → Go mX6_readTarget (d + 1) 118 [.ref 64, .int v1, .int v2, .int v3, .int v4, .null] [.int (-1)] s1 (QU K)) ∧ (r2 = 43 → Go mX6_readTarget (d + 1) 118 [.ref 64, .int v1, .int v2, .int v3, .int v4, .null] [.int 1] s1 (QU K)))) : Go mX6_readTarget (d + 1) 104 [.ref 64, .int v1, .int v2, .int v3, .int v4, .null] [] σ (QU K) := by
  refine Go.aload_n 0 dX6_readTarget_104 rfl rfl (?_ : Go _ _ 105 _ _ _ _)
  refine Go.callV (as := []) (st := []) mk_X6_letter wl_X6_167 shq_64 rfl rfl (Nat.le_of_ble_eq_true rfl) dX6_readTarget_105 h ?_
  rintro _ s1 ⟨r2, rfl, h⟩
  show Go _ _ 108 _ [.int r2] _ _
  refine Go.bipush dX6_readTarget_108 k_bi_43 (?_ : Go _ _ 110 _ _ _ _)
  refine Go.icmp_ne 117 dX6_readTarget_110 rfl ⟨fun c3 => ?_, fun c3 => (?_ : Go _ _ 113 _ _ _ _)⟩
  · have h := h.1 c3
    refine Go.iconst dX6_readTarget_117 k_ic_m1 (?_ : Go _ _ 118 _ _ _ _)
    exact h
  · have h := h.2 c3
    refine Go.iconst dX6_readTarget_113 k_ic_1 (?_ : Go _ _ 114 _ _ _ _)
    refine Go.goto 118 dX6_readTarget_114 rfl ?_
    exact h
set_option maxHeartbeats 4000000 in
set_option maxRecDepth 100000 in
theorem sgX6_readTarget_118 {d : Nat} {σ : St} {v1 : Int32} {v2 : Int32} {v3 : Int32} {v4 : Int32} {w0 : Int32} {K : St → Prop} (h : ∀ s1, s1 = setF σ 64 17 ((sF σ 64 17) + 1) → CallI d mX6_figure [.ref 64] s1 (fun r3 s2 => CallI d mX6_figure [.ref 64] s2 (fun r5 s4 => CallI d mX6_in [.int r5, .int 1, .int 5] s4 (fun r7 s6 => CallU d mX6_wants [.ref 64, .int r7] s6 (fun s8 => Go mX6_readTarget (d + 1) 152 [.ref 64, .int v1, .int v2, .int v3, .int (r3 * w0), .null] [] s8 (QU K)))))) : Go mX6_readTarget (d + 1) 118 [.ref 64, .int v1, .int v2, .int v3, .int v4, .null] [.int w0] σ (QU K) := by
  refine Go.istore dX6_readTarget_118 (by decide) rfl rfl (?_ : Go _ _ 120 [.ref 64, .int v1, .int v2, .int v3, .int v4, .int w0] _ _ _)
  refine Go.aload_n 0 dX6_readTarget_120 rfl rfl (?_ : Go _ _ 121 _ _ _ _)
  refine Go.dup dX6_readTarget_121 rfl (?_ : Go _ _ 122 _ _ _ _)
  refine Go.getI fk_X6_164 shq_64 frq_64_17 dX6_readTarget_122 (?_ : Go _ _ 125 _ _ _ _)
  refine Go.iconst dX6_readTarget_125 k_ic_1 (?_ : Go _ _ 126 _ _ _ _)
  refine Go.iadd dX6_readTarget_126 (?_ : Go _ _ 127 _ _ _ _)
  refine Go.putI fp_X6_164 shq_64 frq_64_17 dX6_readTarget_127 (?_ : Go _ _ 130 _ _ _ _)
  generalize es1 : setF σ 64 17 ((sF σ 64 17) + 1) = s1
  have h := h s1 es1.symm
  refine Go.aload_n 0 dX6_readTarget_130 rfl rfl (?_ : Go _ _ 131 _ _ _ _)
  refine Go.callV (as := []) (st := []) mk_X6_figure wl_X6_173 shq_64 rfl rfl (Nat.le_of_ble_eq_true rfl) dX6_readTarget_131 h ?_
  rintro _ s2 ⟨r3, rfl, h⟩
  show Go _ _ 134 _ [.int r3] _ _
  refine Go.iload dX6_readTarget_134 rfl (?_ : Go _ _ 136 _ _ _ _)
  refine Go.imul dX6_readTarget_136 (?_ : Go _ _ 137 _ _ _ _)
  refine Go.istore dX6_readTarget_137 (by decide) rfl rfl (?_ : Go _ _ 139 [.ref 64, .int v1, .int v2, .int v3, .int (r3 * w0), .int w0] _ _ _)
  refine Go.aload_n 0 dX6_readTarget_139 rfl rfl (?_ : Go _ _ 140 _ _ _ _)
  refine Go.aload_n 0 dX6_readTarget_140 rfl rfl (?_ : Go _ _ 141 _ _ _ _)
  refine Go.callV (as := []) (st := [.ref 64]) mk_X6_figure wl_X6_173 shq_64 rfl rfl (Nat.le_of_ble_eq_true rfl) dX6_readTarget_141 h ?_
  rintro _ s4 ⟨r5, rfl, h⟩
  show Go _ _ 144 _ [.int r5, .ref 64] _ _
  refine Go.iconst dX6_readTarget_144 k_ic_1 (?_ : Go _ _ 145 _ _ _ _)
  refine Go.iconst dX6_readTarget_145 k_ic_5 (?_ : Go _ _ 146 _ _ _ _)
  refine Go.callS (as := [.int r5, .int 1, .int 5]) (st := [.ref 64]) mk_X6_in wl_X6_41 rfl rfl (Nat.le_of_ble_eq_true rfl) dX6_readTarget_146 h ?_
  rintro _ s6 ⟨r7, rfl, h⟩
  show Go _ _ 149 _ [.int r7, .ref 64] _ _
  refine Go.callV (as := [.int r7]) (st := []) mk_X6_wants wl_X6_176 shq_64 rfl rfl (Nat.le_of_ble_eq_true rfl) dX6_readTarget_149 h ?_
  rintro _ s8 ⟨rfl, h⟩
  show Go _ _ 152 _ [] _ _
  refine Go.drop (ls' := [.ref 64, .int v1, .int v2, .int v3, .int (r3 * w0), .null]) 5 rfl ?_
  exact h
set_option maxHeartbeats 4000000 in
set_option maxRecDepth 100000 in
theorem sgX6_readTarget_152 {d : Nat} {σ : St} {v1 : Int32} {v2 : Int32} {v3 : Int32} {v4 : Int32} {K : St → Prop} (h : (¬ (sF σ 64 18) = (-4) → Go mX6_readTarget (d + 1) 226 [.ref 64, .int v1, .int v2, .int v3, .int v4, .null] [] σ (QU K)) ∧ ((sF σ 64 18) = (-4) → vp_in (4 * (sF σ 64 14)) 64 ∧ ∀ s2, s2 = setA σ 73 (ix (4 * (sF σ 64 14))) v2 → vp_in ((4 * (sF σ 64 14)) + 1) 64 ∧ ∀ s3, s3 = setA s2 73 (ix ((4 * (sF σ 64 14)) + 1)) v3 → vp_in ((4 * (sF σ 64 14)) + 2) 64 ∧ ∀ s4, s4 = setA s3 73 (ix ((4 * (sF σ 64 14)) + 2)) v4 → (v1 = 0 → Go mX6_readTarget (d + 1) 215 [.ref 64, .int v1, .int v2, .int v3, .int v4, .int (4 * (sF σ 64 14))] [.int 0, .int ((4 * (sF σ 64 14)) + 3), .ref 73] s4 (QU K)) ∧ (¬ v1 = 0 → Go mX6_readTarget (d + 1) 215 [.ref 64, .int v1, .int v2, .int v3, .int v4, .int (4 * (sF σ 64 14))] [.int 1, .int ((4 * (sF σ 64 14)) + 3), .ref 73] s4 (QU K)))) : Go mX6_readTarget (d + 1) 152 [.ref 64, .int v1, .int v2, .int v3, .int v4, .null] [] σ (QU K) := by
  refine Go.aload_n 0 dX6_readTarget_152 rfl rfl (?_ : Go _ _ 153 _ _ _ _)
  refine Go.getI fk_X6_170 shq_64 frq_64_18 dX6_readTarget_153 (?_ : Go _ _ 156 _ _ _ _)
  refine Go.bipush dX6_readTarget_156 k_bi_m4 (?_ : Go _ _ 158 _ _ _ _)
  refine Go.icmp_ne 226 dX6_readTarget_158 rfl ⟨fun c1 => ?_, fun c1 => (?_ : Go _ _ 161 _ _ _ _)⟩
  · have h := h.1 c1
    exact h
  · have h := h.2 c1
    refine Go.iconst dX6_readTarget_161 k_ic_4 (?_ : Go _ _ 162 _ _ _ _)
    refine Go.aload_n 0 dX6_readTarget_162 rfl rfl (?_ : Go _ _ 163 _ _ _ _)
    refine Go.getI fk_X6_184 shq_64 frq_64_14 dX6_readTarget_163 (?_ : Go _ _ 166 _ _ _ _)
    refine Go.imul dX6_readTarget_166 (?_ : Go _ _ 167 _ _ _ _)
    refine Go.istore dX6_readTarget_167 (by decide) rfl rfl (?_ : Go _ _ 169 [.ref 64, .int v1, .int v2, .int v3, .int v4, .int (4 * (sF σ 64 14))] _ _ _)
    refine Go.aload_n 0 dX6_readTarget_169 rfl rfl (?_ : Go _ _ 170 _ _ _ _)
    refine Go.getR fk_X6_35 shq_64 frq_64_13 dX6_readTarget_170 (?_ : Go _ _ 173 _ _ _ _)
    refine Go.iload dX6_readTarget_173 rfl (?_ : Go _ _ 175 _ _ _ _)
    refine Go.iload_n 2 dX6_readTarget_175 rfl rfl (?_ : Go _ _ 176 _ _ _ _)
    refine Go.iast shq_73 dX6_readTarget_176 ⟨h.1, (?_ : Go _ _ 177 _ _ _ _)⟩
    generalize es2 : setA σ 73 (ix (4 * (sF σ 64 14))) v2 = s2
    have h := h.2 s2 es2.symm
    refine Go.aload_n 0 dX6_readTarget_177 rfl rfl (?_ : Go _ _ 178 _ _ _ _)
    refine Go.getR fk_X6_35 shq_64 frq_64_13 dX6_readTarget_178 (?_ : Go _ _ 181 _ _ _ _)
    refine Go.iload dX6_readTarget_181 rfl (?_ : Go _ _ 183 _ _ _ _)
    refine Go.iconst dX6_readTarget_183 k_ic_1 (?_ : Go _ _ 184 _ _ _ _)
    refine Go.iadd dX6_readTarget_184 (?_ : Go _ _ 185 _ _ _ _)
    refine Go.iload_n 3 dX6_readTarget_185 rfl rfl (?_ : Go _ _ 186 _ _ _ _)
    refine Go.iast shq_73 dX6_readTarget_186 ⟨h.1, (?_ : Go _ _ 187 _ _ _ _)⟩
    generalize es3 : setA s2 73 (ix ((4 * (sF σ 64 14)) + 1)) v3 = s3
    have h := h.2 s3 es3.symm
    refine Go.aload_n 0 dX6_readTarget_187 rfl rfl (?_ : Go _ _ 188 _ _ _ _)
    refine Go.getR fk_X6_35 shq_64 frq_64_13 dX6_readTarget_188 (?_ : Go _ _ 191 _ _ _ _)
    refine Go.iload dX6_readTarget_191 rfl (?_ : Go _ _ 193 _ _ _ _)
    refine Go.iconst dX6_readTarget_193 k_ic_2 (?_ : Go _ _ 194 _ _ _ _)
    refine Go.iadd dX6_readTarget_194 (?_ : Go _ _ 195 _ _ _ _)
    refine Go.iload dX6_readTarget_195 rfl (?_ : Go _ _ 197 _ _ _ _)
    refine Go.iast shq_73 dX6_readTarget_197 ⟨h.1, (?_ : Go _ _ 198 _ _ _ _)⟩
    generalize es4 : setA s3 73 (ix ((4 * (sF σ 64 14)) + 2)) v4 = s4
    have h := h.2 s4 es4.symm
    refine Go.aload_n 0 dX6_readTarget_198 rfl rfl (?_ : Go _ _ 199 _ _ _ _)
    refine Go.getR fk_X6_35 shq_64 frq_64_13 dX6_readTarget_199 (?_ : Go _ _ 202 _ _ _ _)
    refine Go.iload dX6_readTarget_202 rfl (?_ : Go _ _ 204 _ _ _ _)
    refine Go.iconst dX6_readTarget_204 k_ic_3 (?_ : Go _ _ 205 _ _ _ _)
    refine Go.iadd dX6_readTarget_205 (?_ : Go _ _ 206 _ _ _ _)
    refine Go.iload_n 1 dX6_readTarget_206 rfl rfl (?_ : Go _ _ 207 _ _ _ _)
    refine Go.if_eq 214 dX6_readTarget_207 rfl ⟨fun c5 => ?_, fun c5 => (?_ : Go _ _ 210 _ _ _ _)⟩
    · have h := h.1 c5
      refine Go.iconst dX6_readTarget_214 k_ic_0 (?_ : Go _ _ 215 _ _ _ _)
      exact h
    · have h := h.2 c5
      refine Go.iconst dX6_readTarget_210 k_ic_1 (?_ : Go _ _ 211 _ _ _ _)
      refine Go.goto 215 dX6_readTarget_211 rfl ?_
      exact h
set_option maxHeartbeats 4000000 in
set_option maxRecDepth 100000 in
theorem sgX6_readTarget_215 {d : Nat} {σ : St} {v1 : Int32} {v2 : Int32} {v3 : Int32} {v4 : Int32} {v5 : Int32} {w0 : Int32} {w1 : Int32} {K : St → Prop} (h : vp_in w1 64 ∧ ∀ s1, s1 = setA σ 73 (ix w1) w0 → ∀ s2, s2 = setF s1 64 14 ((sF s1 64 14) + 1) → Go mX6_readTarget (d + 1) 226 [.ref 64, .int v1, .int v2, .int v3, .int v4, .null] [] s2 (QU K)) : Go mX6_readTarget (d + 1) 215 [.ref 64, .int v1, .int v2, .int v3, .int v4, .int v5] [.int w0, .int w1, .ref 73] σ (QU K) := by
  refine Go.iast shq_73 dX6_readTarget_215 ⟨h.1, (?_ : Go _ _ 216 _ _ _ _)⟩
  generalize es1 : setA σ 73 (ix w1) w0 = s1
  have h := h.2 s1 es1.symm
  refine Go.aload_n 0 dX6_readTarget_216 rfl rfl (?_ : Go _ _ 217 _ _ _ _)
  refine Go.dup dX6_readTarget_217 rfl (?_ : Go _ _ 218 _ _ _ _)
  refine Go.getI fk_X6_184 shq_64 frq_64_14 dX6_readTarget_218 (?_ : Go _ _ 221 _ _ _ _)
  refine Go.iconst dX6_readTarget_221 k_ic_1 (?_ : Go _ _ 222 _ _ _ _)
  refine Go.iadd dX6_readTarget_222 (?_ : Go _ _ 223 _ _ _ _)
  refine Go.putI fp_X6_184 shq_64 frq_64_14 dX6_readTarget_223 (?_ : Go _ _ 226 _ _ _ _)
  generalize es2 : setF s1 64 14 ((sF s1 64 14) + 1) = s2
  have h := h s2 es2.symm
  refine Go.drop (ls' := [.ref 64, .int v1, .int v2, .int v3, .int v4, .null]) 5 rfl ?_
  exact h
set_option maxHeartbeats 4000000 in
set_option maxRecDepth 100000 in
theorem sgX6_readTarget_226 {d : Nat} {σ : St} {v1 : Int32} {v2 : Int32} {v3 : Int32} {v4 : Int32} {K : St → Prop} (h : K σ) : Go mX6_readTarget (d + 1) 226 [.ref 64, .int v1, .int v2, .int v3, .int v4, .null] [] σ (QU K) := by
  exact Go.vret rfl dX6_readTarget_226 ⟨rfl, h⟩
set_option maxHeartbeats 4000000 in
set_option maxRecDepth 100000 in
theorem sgX6_readSpacing_0 {d : Nat} {σ : St} {K : St → Prop} (h : CallI d mX6_figure [.ref 64] σ (fun r2 s1 => CallI d mX6_in [.int r2, .int 1, .int 5] s1 (fun r4 s3 => CallU d mX6_wants [.ref 64, .int r4] s3 (fun s5 => CallI d mX6_figure [.ref 64] s5 (fun r7 s6 => (r7 = (-4) → Go mX6_readSpacing (d + 1) 42 [.ref 64, .int r2, .int r7] [.ref 64] s6 (QU K)) ∧ (¬ r7 = (-4) → (50 < ((10 * r2) + r7) → Go mX6_readSpacing (d + 1) 42 [.ref 64, .int r2, .int r7] [.ref 64] s6 (QU K)) ∧ (¬ 50 < ((10 * r2) + r7) → Go mX6_readSpacing (d + 1) 43 [.ref 64, .int r2, .int r7] [.int 1, .ref 64] s6 (QU K)))))))) : Go mX6_readSpacing (d + 1) 0 [.ref 64, .null, .null] [] σ (QU K) := by
  refine Go.aload_n 0 dX6_readSpacing_0 rfl rfl (?_ : Go _ _ 1 _ _ _ _)
  refine Go.callV (as := []) (st := []) mk_X6_figure wl_X6_173 shq_64 rfl rfl (Nat.le_of_ble_eq_true rfl) dX6_readSpacing_1 h ?_
  rintro _ s1 ⟨r2, rfl, h⟩
  show Go _ _ 4 _ [.int r2] _ _
  refine Go.istore_n 1 dX6_readSpacing_4 rfl (by decide) rfl rfl (?_ : Go _ _ 5 [.ref 64, .int r2, .null] _ _ _)
  refine Go.aload_n 0 dX6_readSpacing_5 rfl rfl (?_ : Go _ _ 6 _ _ _ _)
  refine Go.iload_n 1 dX6_readSpacing_6 rfl rfl (?_ : Go _ _ 7 _ _ _ _)
  refine Go.iconst dX6_readSpacing_7 k_ic_1 (?_ : Go _ _ 8 _ _ _ _)
  refine Go.iconst dX6_readSpacing_8 k_ic_5 (?_ : Go _ _ 9 _ _ _ _)
  refine Go.callS (as := [.int r2, .int 1, .int 5]) (st := [.ref 64]) mk_X6_in wl_X6_41 rfl rfl (Nat.le_of_ble_eq_true rfl) dX6_readSpacing_9 h ?_
  rintro _ s3 ⟨r4, rfl, h⟩
  show Go _ _ 12 _ [.int r4, .ref 64] _ _
  refine Go.callV (as := [.int r4]) (st := []) mk_X6_wants wl_X6_176 shq_64 rfl rfl (Nat.le_of_ble_eq_true rfl) dX6_readSpacing_12 h ?_
  rintro _ s5 ⟨rfl, h⟩
  show Go _ _ 15 _ [] _ _
  refine Go.aload_n 0 dX6_readSpacing_15 rfl rfl (?_ : Go _ _ 16 _ _ _ _)
  refine Go.callV (as := []) (st := []) mk_X6_figure wl_X6_173 shq_64 rfl rfl (Nat.le_of_ble_eq_true rfl) dX6_readSpacing_16 h ?_
  rintro _ s6 ⟨r7, rfl, h⟩
  show Go _ _ 19 _ [.int r7] _ _
  refine Go.istore_n 2 dX6_readSpacing_19 rfl (by decide) rfl rfl (?_ : Go _ _ 20 [.ref 64, .int r2, .int r7] _ _ _)
  refine Go.aload_n 0 dX6_readSpacing_20 rfl rfl (?_ : Go _ _ 21 _ _ _ _)
  refine Go.iload_n 2 dX6_readSpacing_21 rfl rfl (?_ : Go _ _ 22 _ _ _ _)
  refine Go.bipush dX6_readSpacing_22 k_bi_m4 (?_ : Go _ _ 24 _ _ _ _)
  refine Go.icmp_eq 42 dX6_readSpacing_24 rfl ⟨fun c8 => ?_, fun c8 => (?_ : Go _ _ 27 _ _ _ _)⟩
  · have h := h.1 c8
    exact h
  · have h := h.2 c8
    refine Go.bipush dX6_readSpacing_27 k_bi_10 (?_ : Go _ _ 29 _ _ _ _)
    refine Go.iload_n 1 dX6_readSpacing_29 rfl rfl (?_ : Go _ _ 30 _ _ _ _)
    refine Go.imul dX6_readSpacing_30 (?_ : Go _ _ 31 _ _ _ _)
    refine Go.iload_n 2 dX6_readSpacing_31 rfl rfl (?_ : Go _ _ 32 _ _ _ _)
    refine Go.iadd dX6_readSpacing_32 (?_ : Go _ _ 33 _ _ _ _)
    refine Go.bipush dX6_readSpacing_33 k_bi_50 (?_ : Go _ _ 35 _ _ _ _)
    refine Go.icmp_gt 42 dX6_readSpacing_35 rfl ⟨fun c9 => ?_, fun c9 => (?_ : Go _ _ 38 _ _ _ _)⟩
    · have h := h.1 c9
      exact h
    · have h := h.2 c9
      refine Go.iconst dX6_readSpacing_38 k_ic_1 (?_ : Go _ _ 39 _ _ _ _)
      refine Go.goto 43 dX6_readSpacing_39 rfl ?_
      exact h
theorem cgX6_readSpacing {d : Nat} {σ : St} {K : St → Prop} (h : CallI d mX6_figure [.ref 64] σ (fun r2 s1 => CallI d mX6_in [.int r2, .int 1, .int 5] s1 (fun r4 s3 => CallU d mX6_wants [.ref 64, .int r4] s3 (fun s5 => CallI d mX6_figure [.ref 64] s5 (fun r7 s6 => (r7 = (-4) → Go mX6_readSpacing (d + 1) 42 [.ref 64, .int r2, .int r7] [.ref 64] s6 (QU K)) ∧ (¬ r7 = (-4) → (50 < ((10 * r2) + r7) → Go mX6_readSpacing (d + 1) 42 [.ref 64, .int r2, .int r7] [.ref 64] s6 (QU K)) ∧ (¬ 50 < ((10 * r2) + r7) → Go mX6_readSpacing (d + 1) 43 [.ref 64, .int r2, .int r7] [.int 1, .ref 64] s6 (QU K)))))))) : CallU (d + 1) mX6_readSpacing [.ref 64] σ K := Call_of_Go (by decide +kernel) (ls := [.ref 64, .null, .null]) rfl (Nat.le_of_ble_eq_true rfl) (sgX6_readSpacing_0 h)
set_option maxHeartbeats 4000000 in
set_option maxRecDepth 100000 in
theorem sgX6_readSpacing_42 {d : Nat} {σ : St} {v1 : Int32} {v2 : Int32} {K : St → Prop} (h : Go mX6_readSpacing (d + 1) 43 [.ref 64, .int v1, .int v2] [.int 0, .ref 64] σ (QU K)) : Go mX6_readSpacing (d + 1) 42 [.ref 64, .int v1, .int v2] [.ref 64] σ (QU K) := by
  refine Go.iconst dX6_readSpacing_42 k_ic_0 (?_ : Go _ _ 43 _ _ _ _)
  exact h
set_option maxHeartbeats 4000000 in
set_option maxRecDepth 100000 in
theorem sgX6_readSpacing_43 {d : Nat} {σ : St} {v1 : Int32} {v2 : Int32} {w0 : Int32} {K : St → Prop} (h : CallU d mX6_wants [.ref 64, .int w0] σ (fun s1 => (¬ (sF s1 64 18) = (-4) → Go mX6_readSpacing (d + 1) 80 [.ref 64, .int v1, .int v2] [] s1 (QU K)) ∧ ((sF s1 64 18) = (-4) → vp_in (sF s1 64 16) 4 ∧ ∀ s3, s3 = setA s1 74 (ix (sF s1 64 16)) ((10 * v1) + v2) → ∀ s4, s4 = setF s3 64 16 ((sF s3 64 16) + 1) → Go mX6_readSpacing (d + 1) 80 [.ref 64, .int v1, .int v2] [] s4 (QU K)))) : Go mX6_readSpacing (d + 1) 43 [.ref 64, .int v1, .int v2] [.int w0, .ref 64] σ (QU K) := by
  refine Go.callV (as := [.int w0]) (st := []) mk_X6_wants wl_X6_176 shq_64 rfl rfl (Nat.le_of_ble_eq_true rfl) dX6_readSpacing_43 h ?_
  rintro _ s1 ⟨rfl, h⟩
  show Go _ _ 46 _ [] _ _
  refine Go.aload_n 0 dX6_readSpacing_46 rfl rfl (?_ : Go _ _ 47 _ _ _ _)
  refine Go.getI fk_X6_170 shq_64 frq_64_18 dX6_readSpacing_47 (?_ : Go _ _ 50 _ _ _ _)
  refine Go.bipush dX6_readSpacing_50 k_bi_m4 (?_ : Go _ _ 52 _ _ _ _)
  refine Go.icmp_ne 80 dX6_readSpacing_52 rfl ⟨fun c2 => ?_, fun c2 => (?_ : Go _ _ 55 _ _ _ _)⟩
  · have h := h.1 c2
    exact h
  · have h := h.2 c2
    refine Go.aload_n 0 dX6_readSpacing_55 rfl rfl (?_ : Go _ _ 56 _ _ _ _)
    refine Go.getR fk_X6_38 shq_64 frq_64_15 dX6_readSpacing_56 (?_ : Go _ _ 59 _ _ _ _)
    refine Go.aload_n 0 dX6_readSpacing_59 rfl rfl (?_ : Go _ _ 60 _ _ _ _)
    refine Go.getI fk_X6_187 shq_64 frq_64_16 dX6_readSpacing_60 (?_ : Go _ _ 63 _ _ _ _)
    refine Go.bipush dX6_readSpacing_63 k_bi_10 (?_ : Go _ _ 65 _ _ _ _)
    refine Go.iload_n 1 dX6_readSpacing_65 rfl rfl (?_ : Go _ _ 66 _ _ _ _)
    refine Go.imul dX6_readSpacing_66 (?_ : Go _ _ 67 _ _ _ _)
    refine Go.iload_n 2 dX6_readSpacing_67 rfl rfl (?_ : Go _ _ 68 _ _ _ _)
    refine Go.iadd dX6_readSpacing_68 (?_ : Go _ _ 69 _ _ _ _)
    refine Go.iast shq_74 dX6_readSpacing_69 ⟨h.1, (?_ : Go _ _ 70 _ _ _ _)⟩
    generalize es3 : setA s1 74 (ix (sF s1 64 16)) ((10 * v1) + v2) = s3
    have h := h.2 s3 es3.symm
    refine Go.aload_n 0 dX6_readSpacing_70 rfl rfl (?_ : Go _ _ 71 _ _ _ _)
    refine Go.dup dX6_readSpacing_71 rfl (?_ : Go _ _ 72 _ _ _ _)
    refine Go.getI fk_X6_187 shq_64 frq_64_16 dX6_readSpacing_72 (?_ : Go _ _ 75 _ _ _ _)
    refine Go.iconst dX6_readSpacing_75 k_ic_1 (?_ : Go _ _ 76 _ _ _ _)
    refine Go.iadd dX6_readSpacing_76 (?_ : Go _ _ 77 _ _ _ _)
    refine Go.putI fp_X6_187 shq_64 frq_64_16 dX6_readSpacing_77 (?_ : Go _ _ 80 _ _ _ _)
    generalize es4 : setF s3 64 16 ((sF s3 64 16) + 1) = s4
    have h := h s4 es4.symm
    exact h
set_option maxHeartbeats 4000000 in
set_option maxRecDepth 100000 in
theorem sgX6_readSpacing_80 {d : Nat} {σ : St} {v1 : Int32} {v2 : Int32} {K : St → Prop} (h : K σ) : Go mX6_readSpacing (d + 1) 80 [.ref 64, .int v1, .int v2] [] σ (QU K) := by
  exact Go.vret rfl dX6_readSpacing_80 ⟨rfl, h⟩
set_option maxHeartbeats 4000000 in
set_option maxRecDepth 100000 in
theorem sgX6_fault_0 {d : Nat} {σ : St} {K : Int32 → St → Prop} (h : ∀ s1, s1 = setF σ 64 14 0 → ∀ s2, s2 = setF s1 64 16 0 → ∀ s3, s3 = setF s2 64 17 0 → ∀ s4, s4 = setF s3 64 18 (-4) → CallU d mX6_readTarget [.ref 64] s4 (fun s5 => Go mX6_fault (d + 1) 25 [.ref 64] [] s5 (QI K))) : Go mX6_fault (d + 1) 0 [.ref 64] [] σ (QI K) := by
  refine Go.aload_n 0 dX6_fault_0 rfl rfl (?_ : Go _ _ 1 _ _ _ _)
  refine Go.iconst dX6_fault_1 k_ic_0 (?_ : Go _ _ 2 _ _ _ _)
  refine Go.putI fp_X6_184 shq_64 frq_64_14 dX6_fault_2 (?_ : Go _ _ 5 _ _ _ _)
  generalize es1 : setF σ 64 14 0 = s1
  have h := h s1 es1.symm
  refine Go.aload_n 0 dX6_fault_5 rfl rfl (?_ : Go _ _ 6 _ _ _ _)
  refine Go.iconst dX6_fault_6 k_ic_0 (?_ : Go _ _ 7 _ _ _ _)
  refine Go.putI fp_X6_187 shq_64 frq_64_16 dX6_fault_7 (?_ : Go _ _ 10 _ _ _ _)
  generalize es2 : setF s1 64 16 0 = s2
  have h := h s2 es2.symm
  refine Go.aload_n 0 dX6_fault_10 rfl rfl (?_ : Go _ _ 11 _ _ _ _)
  refine Go.iconst dX6_fault_11 k_ic_0 (?_ : Go _ _ 12 _ _ _ _)
  refine Go.putI fp_X6_164 shq_64 frq_64_17 dX6_fault_12 (?_ : Go _ _ 15 _ _ _ _)
  generalize es3 : setF s2 64 17 0 = s3
  have h := h s3 es3.symm
  refine Go.aload_n 0 dX6_fault_15 rfl rfl (?_ : Go _ _ 16 _ _ _ _)
  refine Go.bipush dX6_fault_16 k_bi_m4 (?_ : Go _ _ 18 _ _ _ _)
  refine Go.putI fp_X6_170 shq_64 frq_64_18 dX6_fault_18 (?_ : Go _ _ 21 _ _ _ _)
  generalize es4 : setF s3 64 18 (-4) = s4
  have h := h s4 es4.symm
  refine Go.aload_n 0 dX6_fault_21 rfl rfl (?_ : Go _ _ 22 _ _ _ _)
  refine Go.callV (as := []) (st := []) mk_X6_readTarget wl_X6_190 shq_64 rfl rfl (Nat.le_of_ble_eq_true rfl) dX6_fault_22 h ?_
  rintro _ s5 ⟨rfl, h⟩
  show Go _ _ 25 _ [] _ _
  exact h
theorem cgX6_fault {d : Nat} {σ : St} {K : Int32 → St → Prop} (h : ∀ s1, s1 = setF σ 64 14 0 → ∀ s2, s2 = setF s1 64 16 0 → ∀ s3, s3 = setF s2 64 17 0 → ∀ s4, s4 = setF s3 64 18 (-4) → CallU d mX6_readTarget [.ref 64] s4 (fun s5 => Go mX6_fault (d + 1) 25 [.ref 64] [] s5 (QI K))) : CallI (d + 1) mX6_fault [.ref 64] σ K := Call_of_Go (by decide +kernel) (ls := [.ref 64]) rfl (Nat.le_of_ble_eq_true rfl) (sgX6_fault_0 h)
set_option maxHeartbeats 4000000 in
set_option maxRecDepth 100000 in
theorem sgX6_fault_25 {d : Nat} {σ : St} {K : Int32 → St → Prop} (h : (¬ (sF σ 64 18) = (-4) → (¬ (sF σ 64 18) = (-4) → K (sF σ 64 18) σ) ∧ ((sF σ 64 18) = (-4) → ((sF σ 64 6) ≤ (sF σ 64 17) → K (sF σ 64 18) σ) ∧ (¬ (sF σ 64 6) ≤ (sF σ 64 17) → CallI d mX6_letter [.ref 64] σ (fun r5 s4 => (¬ r5 = 59 → CallU d mX6_wants [.ref 64, .int 0] s4 (fun s7 => (¬ (sF s7 64 18) = (-4) → Go mX6_fault (d + 1) 111 [.ref 64] [] s7 (QI K)) ∧ ((sF s7 64 18) = (-4) → CallU d mX6_readSpacing [.ref 64] s7 (fun s9 => Go mX6_fault (d + 1) 111 [.ref 64] [] s9 (QI K))))) ∧ (r5 = 59 → CallU d mX6_wants [.ref 64, .int 1] s4 (fun s10 => (¬ (sF s10 64 18) = (-4) → Go mX6_fault (d + 1) 111 [.ref 64] [] s10 (QI K)) ∧ ((sF s10 64 18) = (-4) → CallU d mX6_readSpacing [.ref 64] s10 (fun s12 => Go mX6_fault (d + 1) 111 [.ref 64] [] s12 (QI K))))))))) ∧ ((sF σ 64 18) = (-4) → CallI d mX6_letter [.ref 64] σ (fun r14 s13 => (¬ r14 = 44 → (¬ (sF s13 64 18) = (-4) → K (sF s13 64 18) s13) ∧ ((sF s13 64 18) = (-4) → ((sF s13 64 6) ≤ (sF s13 64 17) → K (sF s13 64 18) s13) ∧ (¬ (sF s13 64 6) ≤ (sF s13 64 17) → CallI d mX6_letter [.ref 64] s13 (fun r19 s18 => (¬ r19 = 59 → CallU d mX6_wants [.ref 64, .int 0] s18 (fun s21 => (¬ (sF s21 64 18) = (-4) → Go mX6_fault (d + 1) 111 [.ref 64] [] s21 (QI K)) ∧ ((sF s21 64 18) = (-4) → CallU d mX6_readSpacing [.ref 64] s21 (fun s23 => Go mX6_fault (d + 1) 111 [.ref 64] [] s23 (QI K))))) ∧ (r19 = 59 → CallU d mX6_wants [.ref 64, .int 1] s18 (fun s24 => (¬ (sF s24 64 18) = (-4) → Go mX6_fault (d + 1) 111 [.ref 64] [] s24 (QI K)) ∧ ((sF s24 64 18) = (-4) → CallU d mX6_readSpacing [.ref 64] s24 (fun s26 => Go mX6_fault (d + 1) 111 [.ref 64] [] s26 (QI K))))))))) ∧ (r14 = 44 → ∀ s27, s27 = setF s13 64 17 ((sF s13 64 17) + 1) → CallU d mX6_readTarget [.ref 64] s27 (fun s28 => Go mX6_fault (d + 1) 25 [.ref 64] [] s28 (QI K)))))) : Go mX6_fault (d + 1) 25 [.ref 64] [] σ (QI K) := by
  refine Go.aload_n 0 dX6_fault_25 rfl rfl (?_ : Go _ _ 26 _ _ _ _)
  refine Go.getI fk_X6_170 shq_64 frq_64_18 dX6_fault_26 (?_ : Go _ _ 29 _ _ _ _)
  refine Go.bipush dX6_fault_29 k_bi_m4 (?_ : Go _ _ 31 _ _ _ _)
  refine Go.icmp_ne 60 dX6_fault_31 rfl ⟨fun c1 => ?_, fun c1 => (?_ : Go _ _ 34 _ _ _ _)⟩
  · have h := h.1 c1
    refine Go.aload_n 0 dX6_fault_60 rfl rfl (?_ : Go _ _ 61 _ _ _ _)
    refine Go.getI fk_X6_170 shq_64 frq_64_18 dX6_fault_61 (?_ : Go _ _ 64 _ _ _ _)
    refine Go.bipush dX6_fault_64 k_bi_m4 (?_ : Go _ _ 66 _ _ _ _)
    refine Go.icmp_ne 173 dX6_fault_66 rfl ⟨fun c2 => ?_, fun c2 => (?_ : Go _ _ 69 _ _ _ _)⟩
    · have h := h.1 c2
      refine Go.aload_n 0 dX6_fault_173 rfl rfl (?_ : Go _ _ 174 _ _ _ _)
      refine Go.getI fk_X6_170 shq_64 frq_64_18 dX6_fault_174 (?_ : Go _ _ 177 _ _ _ _)
      exact Go.iret rfl dX6_fault_177 ⟨_, rfl, h⟩
    · have h := h.2 c2
      refine Go.aload_n 0 dX6_fault_69 rfl rfl (?_ : Go _ _ 70 _ _ _ _)
      refine Go.getI fk_X6_164 shq_64 frq_64_17 dX6_fault_70 (?_ : Go _ _ 73 _ _ _ _)
      refine Go.aload_n 0 dX6_fault_73 rfl rfl (?_ : Go _ _ 74 _ _ _ _)
      refine Go.getI fk_X6_152 shq_64 frq_64_6 dX6_fault_74 (?_ : Go _ _ 77 _ _ _ _)
      refine Go.icmp_ge 173 dX6_fault_77 rfl ⟨fun c3 => ?_, fun c3 => (?_ : Go _ _ 80 _ _ _ _)⟩
      · have h := h.1 c3
        refine Go.aload_n 0 dX6_fault_173 rfl rfl (?_ : Go _ _ 174 _ _ _ _)
        refine Go.getI fk_X6_170 shq_64 frq_64_18 dX6_fault_174 (?_ : Go _ _ 177 _ _ _ _)
        exact Go.iret rfl dX6_fault_177 ⟨_, rfl, h⟩
      · have h := h.2 c3
        refine Go.aload_n 0 dX6_fault_80 rfl rfl (?_ : Go _ _ 81 _ _ _ _)
        refine Go.aload_n 0 dX6_fault_81 rfl rfl (?_ : Go _ _ 82 _ _ _ _)
        refine Go.callV (as := []) (st := [.ref 64]) mk_X6_letter wl_X6_167 shq_64 rfl rfl (Nat.le_of_ble_eq_true rfl) dX6_fault_82 h ?_
        rintro _ s4 ⟨r5, rfl, h⟩
        show Go _ _ 85 _ [.int r5, .ref 64] _ _
        refine Go.bipush dX6_fault_85 k_bi_59 (?_ : Go _ _ 87 _ _ _ _)
        refine Go.icmp_ne 94 dX6_fault_87 rfl ⟨fun c6 => ?_, fun c6 => (?_ : Go _ _ 90 _ _ _ _)⟩
        · have h := h.1 c6
          refine Go.iconst dX6_fault_94 k_ic_0 (?_ : Go _ _ 95 _ _ _ _)
          refine Go.callV (as := [.int 0]) (st := []) mk_X6_wants wl_X6_176 shq_64 rfl rfl (Nat.le_of_ble_eq_true rfl) dX6_fault_95 h ?_
          rintro _ s7 ⟨rfl, h⟩
          show Go _ _ 98 _ [] _ _
          refine Go.aload_n 0 dX6_fault_98 rfl rfl (?_ : Go _ _ 99 _ _ _ _)
          refine Go.getI fk_X6_170 shq_64 frq_64_18 dX6_fault_99 (?_ : Go _ _ 102 _ _ _ _)
          refine Go.bipush dX6_fault_102 k_bi_m4 (?_ : Go _ _ 104 _ _ _ _)
          refine Go.icmp_ne 111 dX6_fault_104 rfl ⟨fun c8 => ?_, fun c8 => (?_ : Go _ _ 107 _ _ _ _)⟩
          · have h := h.1 c8
            exact h
          · have h := h.2 c8
            refine Go.aload_n 0 dX6_fault_107 rfl rfl (?_ : Go _ _ 108 _ _ _ _)
            refine Go.callV (as := []) (st := []) mk_X6_readSpacing wl_X6_193 shq_64 rfl rfl (Nat.le_of_ble_eq_true rfl) dX6_fault_108 h ?_
            rintro _ s9 ⟨rfl, h⟩
            show Go _ _ 111 _ [] _ _
            exact h
        · have h := h.2 c6
          refine Go.iconst dX6_fault_90 k_ic_1 (?_ : Go _ _ 91 _ _ _ _)
          refine Go.goto 95 dX6_fault_91 rfl ?_
          refine Go.callV (as := [.int 1]) (st := []) mk_X6_wants wl_X6_176 shq_64 rfl rfl (Nat.le_of_ble_eq_true rfl) dX6_fault_95 h ?_
          rintro _ s10 ⟨rfl, h⟩
          show Go _ _ 98 _ [] _ _
          refine Go.aload_n 0 dX6_fault_98 rfl rfl (?_ : Go _ _ 99 _ _ _ _)
          refine Go.getI fk_X6_170 shq_64 frq_64_18 dX6_fault_99 (?_ : Go _ _ 102 _ _ _ _)
          refine Go.bipush dX6_fault_102 k_bi_m4 (?_ : Go _ _ 104 _ _ _ _)
          refine Go.icmp_ne 111 dX6_fault_104 rfl ⟨fun c11 => ?_, fun c11 => (?_ : Go _ _ 107 _ _ _ _)⟩
          · have h := h.1 c11
            exact h
          · have h := h.2 c11
            refine Go.aload_n 0 dX6_fault_107 rfl rfl (?_ : Go _ _ 108 _ _ _ _)
            refine Go.callV (as := []) (st := []) mk_X6_readSpacing wl_X6_193 shq_64 rfl rfl (Nat.le_of_ble_eq_true rfl) dX6_fault_108 h ?_
            rintro _ s12 ⟨rfl, h⟩
            show Go _ _ 111 _ [] _ _
            exact h
  · have h := h.2 c1
    refine Go.aload_n 0 dX6_fault_34 rfl rfl (?_ : Go _ _ 35 _ _ _ _)
    refine Go.callV (as := []) (st := []) mk_X6_letter wl_X6_167 shq_64 rfl rfl (Nat.le_of_ble_eq_true rfl) dX6_fault_35 h ?_
    rintro _ s13 ⟨r14, rfl, h⟩
    show Go _ _ 38 _ [.int r14] _ _
    refine Go.bipush dX6_fault_38 k_bi_44 (?_ : Go _ _ 40 _ _ _ _)
    refine Go.icmp_ne 60 dX6_fault_40 rfl ⟨fun c15 => ?_, fun c15 => (?_ : Go _ _ 43 _ _ _ _)⟩
    · have h := h.1 c15
      refine Go.aload_n 0 dX6_fault_60 rfl rfl (?_ : Go _ _ 61 _ _ _ _)
      refine Go.getI fk_X6_170 shq_64 frq_64_18 dX6_fault_61 (?_ : Go _ _ 64 _ _ _ _)
      refine Go.bipush dX6_fault_64 k_bi_m4 (?_ : Go _ _ 66 _ _ _ _)
      refine Go.icmp_ne 173 dX6_fault_66 rfl ⟨fun c16 => ?_, fun c16 => (?_ : Go _ _ 69 _ _ _ _)⟩
      · have h := h.1 c16
        refine Go.aload_n 0 dX6_fault_173 rfl rfl (?_ : Go _ _ 174 _ _ _ _)
        refine Go.getI fk_X6_170 shq_64 frq_64_18 dX6_fault_174 (?_ : Go _ _ 177 _ _ _ _)
        exact Go.iret rfl dX6_fault_177 ⟨_, rfl, h⟩
      · have h := h.2 c16
        refine Go.aload_n 0 dX6_fault_69 rfl rfl (?_ : Go _ _ 70 _ _ _ _)
        refine Go.getI fk_X6_164 shq_64 frq_64_17 dX6_fault_70 (?_ : Go _ _ 73 _ _ _ _)
        refine Go.aload_n 0 dX6_fault_73 rfl rfl (?_ : Go _ _ 74 _ _ _ _)
        refine Go.getI fk_X6_152 shq_64 frq_64_6 dX6_fault_74 (?_ : Go _ _ 77 _ _ _ _)
        refine Go.icmp_ge 173 dX6_fault_77 rfl ⟨fun c17 => ?_, fun c17 => (?_ : Go _ _ 80 _ _ _ _)⟩
        · have h := h.1 c17
          refine Go.aload_n 0 dX6_fault_173 rfl rfl (?_ : Go _ _ 174 _ _ _ _)
          refine Go.getI fk_X6_170 shq_64 frq_64_18 dX6_fault_174 (?_ : Go _ _ 177 _ _ _ _)
          exact Go.iret rfl dX6_fault_177 ⟨_, rfl, h⟩
        · have h := h.2 c17
          refine Go.aload_n 0 dX6_fault_80 rfl rfl (?_ : Go _ _ 81 _ _ _ _)
          refine Go.aload_n 0 dX6_fault_81 rfl rfl (?_ : Go _ _ 82 _ _ _ _)
          refine Go.callV (as := []) (st := [.ref 64]) mk_X6_letter wl_X6_167 shq_64 rfl rfl (Nat.le_of_ble_eq_true rfl) dX6_fault_82 h ?_
          rintro _ s18 ⟨r19, rfl, h⟩
          show Go _ _ 85 _ [.int r19, .ref 64] _ _
          refine Go.bipush dX6_fault_85 k_bi_59 (?_ : Go _ _ 87 _ _ _ _)
          refine Go.icmp_ne 94 dX6_fault_87 rfl ⟨fun c20 => ?_, fun c20 => (?_ : Go _ _ 90 _ _ _ _)⟩
          · have h := h.1 c20
            refine Go.iconst dX6_fault_94 k_ic_0 (?_ : Go _ _ 95 _ _ _ _)
            refine Go.callV (as := [.int 0]) (st := []) mk_X6_wants wl_X6_176 shq_64 rfl rfl (Nat.le_of_ble_eq_true rfl) dX6_fault_95 h ?_
            rintro _ s21 ⟨rfl, h⟩
            show Go _ _ 98 _ [] _ _
            refine Go.aload_n 0 dX6_fault_98 rfl rfl (?_ : Go _ _ 99 _ _ _ _)
            refine Go.getI fk_X6_170 shq_64 frq_64_18 dX6_fault_99 (?_ : Go _ _ 102 _ _ _ _)
            refine Go.bipush dX6_fault_102 k_bi_m4 (?_ : Go _ _ 104 _ _ _ _)
            refine Go.icmp_ne 111 dX6_fault_104 rfl ⟨fun c22 => ?_, fun c22 => (?_ : Go _ _ 107 _ _ _ _)⟩
            · have h := h.1 c22
              exact h
            · have h := h.2 c22
              refine Go.aload_n 0 dX6_fault_107 rfl rfl (?_ : Go _ _ 108 _ _ _ _)
              refine Go.callV (as := []) (st := []) mk_X6_readSpacing wl_X6_193 shq_64 rfl rfl (Nat.le_of_ble_eq_true rfl) dX6_fault_108 h ?_
              rintro _ s23 ⟨rfl, h⟩
              show Go _ _ 111 _ [] _ _
              exact h
          · have h := h.2 c20
            refine Go.iconst dX6_fault_90 k_ic_1 (?_ : Go _ _ 91 _ _ _ _)
            refine Go.goto 95 dX6_fault_91 rfl ?_
            refine Go.callV (as := [.int 1]) (st := []) mk_X6_wants wl_X6_176 shq_64 rfl rfl (Nat.le_of_ble_eq_true rfl) dX6_fault_95 h ?_
            rintro _ s24 ⟨rfl, h⟩
            show Go _ _ 98 _ [] _ _
            refine Go.aload_n 0 dX6_fault_98 rfl rfl (?_ : Go _ _ 99 _ _ _ _)
            refine Go.getI fk_X6_170 shq_64 frq_64_18 dX6_fault_99 (?_ : Go _ _ 102 _ _ _ _)
            refine Go.bipush dX6_fault_102 k_bi_m4 (?_ : Go _ _ 104 _ _ _ _)
            refine Go.icmp_ne 111 dX6_fault_104 rfl ⟨fun c25 => ?_, fun c25 => (?_ : Go _ _ 107 _ _ _ _)⟩
            · have h := h.1 c25
              exact h
            · have h := h.2 c25
              refine Go.aload_n 0 dX6_fault_107 rfl rfl (?_ : Go _ _ 108 _ _ _ _)
              refine Go.callV (as := []) (st := []) mk_X6_readSpacing wl_X6_193 shq_64 rfl rfl (Nat.le_of_ble_eq_true rfl) dX6_fault_108 h ?_
              rintro _ s26 ⟨rfl, h⟩
              show Go _ _ 111 _ [] _ _
              exact h
    · have h := h.2 c15
      refine Go.aload_n 0 dX6_fault_43 rfl rfl (?_ : Go _ _ 44 _ _ _ _)
      refine Go.dup dX6_fault_44 rfl (?_ : Go _ _ 45 _ _ _ _)
      refine Go.getI fk_X6_164 shq_64 frq_64_17 dX6_fault_45 (?_ : Go _ _ 48 _ _ _ _)
      refine Go.iconst dX6_fault_48 k_ic_1 (?_ : Go _ _ 49 _ _ _ _)
      refine Go.iadd dX6_fault_49 (?_ : Go _ _ 50 _ _ _ _)
      refine Go.putI fp_X6_164 shq_64 frq_64_17 dX6_fault_50 (?_ : Go _ _ 53 _ _ _ _)
      generalize es27 : setF s13 64 17 ((sF s13 64 17) + 1) = s27
      have h := h s27 es27.symm
      refine Go.aload_n 0 dX6_fault_53 rfl rfl (?_ : Go _ _ 54 _ _ _ _)
      refine Go.callV (as := []) (st := []) mk_X6_readTarget wl_X6_190 shq_64 rfl rfl (Nat.le_of_ble_eq_true rfl) dX6_fault_54 h ?_
      rintro _ s28 ⟨rfl, h⟩
      show Go _ _ 57 _ [] _ _
      refine Go.goto 25 dX6_fault_57 rfl ?_
      exact h
set_option maxHeartbeats 4000000 in
set_option maxRecDepth 100000 in
theorem sgX6_fault_111 {d : Nat} {σ : St} {K : Int32 → St → Prop} (h : (¬ (sF σ 64 18) = (-4) → K (sF σ 64 18) σ) ∧ ((sF σ 64 18) = (-4) → ((sF σ 64 6) ≤ (sF σ 64 17) → K (sF σ 64 18) σ) ∧ (¬ (sF σ 64 6) ≤ (sF σ 64 17) → CallI d mX6_letter [.ref 64] σ (fun r4 s3 => (¬ r4 = 47 → CallU d mX6_wants [.ref 64, .int 0] s3 (fun s6 => (¬ (sF s6 64 18) = (-4) → Go mX6_fault (d + 1) 111 [.ref 64] [] s6 (QI K)) ∧ ((sF s6 64 18) = (-4) → CallU d mX6_readSpacing [.ref 64] s6 (fun s8 => Go mX6_fault (d + 1) 111 [.ref 64] [] s8 (QI K))))) ∧ (r4 = 47 → (4 ≤ (sF s3 64 16) → CallU d mX6_wants [.ref 64, .int 0] s3 (fun s10 => (¬ (sF s10 64 18) = (-4) → Go mX6_fault (d + 1) 111 [.ref 64] [] s10 (QI K)) ∧ ((sF s10 64 18) = (-4) → CallU d mX6_readSpacing [.ref 64] s10 (fun s12 => Go mX6_fault (d + 1) 111 [.ref 64] [] s12 (QI K))))) ∧ (¬ 4 ≤ (sF s3 64 16) → CallU d mX6_wants [.ref 64, .int 1] s3 (fun s13 => (¬ (sF s13 64 18) = (-4) → Go mX6_fault (d + 1) 111 [.ref 64] [] s13 (QI K)) ∧ ((sF s13 64 18) = (-4) → CallU d mX6_readSpacing [.ref 64] s13 (fun s15 => Go mX6_fault (d + 1) 111 [.ref 64] [] s15 (QI K)))))))))) : Go mX6_fault (d + 1) 111 [.ref 64] [] σ (QI K) := by
  refine Go.aload_n 0 dX6_fault_111 rfl rfl (?_ : Go _ _ 112 _ _ _ _)
  refine Go.getI fk_X6_170 shq_64 frq_64_18 dX6_fault_112 (?_ : Go _ _ 115 _ _ _ _)
  refine Go.bipush dX6_fault_115 k_bi_m4 (?_ : Go _ _ 117 _ _ _ _)
  refine Go.icmp_ne 173 dX6_fault_117 rfl ⟨fun c1 => ?_, fun c1 => (?_ : Go _ _ 120 _ _ _ _)⟩
  · have h := h.1 c1
    refine Go.aload_n 0 dX6_fault_173 rfl rfl (?_ : Go _ _ 174 _ _ _ _)
    refine Go.getI fk_X6_170 shq_64 frq_64_18 dX6_fault_174 (?_ : Go _ _ 177 _ _ _ _)
    exact Go.iret rfl dX6_fault_177 ⟨_, rfl, h⟩
  · have h := h.2 c1
    refine Go.aload_n 0 dX6_fault_120 rfl rfl (?_ : Go _ _ 121 _ _ _ _)
    refine Go.getI fk_X6_164 shq_64 frq_64_17 dX6_fault_121 (?_ : Go _ _ 124 _ _ _ _)
    refine Go.aload_n 0 dX6_fault_124 rfl rfl (?_ : Go _ _ 125 _ _ _ _)
    refine Go.getI fk_X6_152 shq_64 frq_64_6 dX6_fault_125 (?_ : Go _ _ 128 _ _ _ _)
    refine Go.icmp_ge 173 dX6_fault_128 rfl ⟨fun c2 => ?_, fun c2 => (?_ : Go _ _ 131 _ _ _ _)⟩
    · have h := h.1 c2
      refine Go.aload_n 0 dX6_fault_173 rfl rfl (?_ : Go _ _ 174 _ _ _ _)
      refine Go.getI fk_X6_170 shq_64 frq_64_18 dX6_fault_174 (?_ : Go _ _ 177 _ _ _ _)
      exact Go.iret rfl dX6_fault_177 ⟨_, rfl, h⟩
    · have h := h.2 c2
      refine Go.aload_n 0 dX6_fault_131 rfl rfl (?_ : Go _ _ 132 _ _ _ _)
      refine Go.aload_n 0 dX6_fault_132 rfl rfl (?_ : Go _ _ 133 _ _ _ _)
      refine Go.callV (as := []) (st := [.ref 64]) mk_X6_letter wl_X6_167 shq_64 rfl rfl (Nat.le_of_ble_eq_true rfl) dX6_fault_133 h ?_
      rintro _ s3 ⟨r4, rfl, h⟩
      show Go _ _ 136 _ [.int r4, .ref 64] _ _
      refine Go.bipush dX6_fault_136 k_bi_47 (?_ : Go _ _ 138 _ _ _ _)
      refine Go.icmp_ne 153 dX6_fault_138 rfl ⟨fun c5 => ?_, fun c5 => (?_ : Go _ _ 141 _ _ _ _)⟩
      · have h := h.1 c5
        refine Go.iconst dX6_fault_153 k_ic_0 (?_ : Go _ _ 154 _ _ _ _)
        refine Go.callV (as := [.int 0]) (st := []) mk_X6_wants wl_X6_176 shq_64 rfl rfl (Nat.le_of_ble_eq_true rfl) dX6_fault_154 h ?_
        rintro _ s6 ⟨rfl, h⟩
        show Go _ _ 157 _ [] _ _
        refine Go.aload_n 0 dX6_fault_157 rfl rfl (?_ : Go _ _ 158 _ _ _ _)
        refine Go.getI fk_X6_170 shq_64 frq_64_18 dX6_fault_158 (?_ : Go _ _ 161 _ _ _ _)
        refine Go.bipush dX6_fault_161 k_bi_m4 (?_ : Go _ _ 163 _ _ _ _)
        refine Go.icmp_ne 111 dX6_fault_163 rfl ⟨fun c7 => ?_, fun c7 => (?_ : Go _ _ 166 _ _ _ _)⟩
        · have h := h.1 c7
          exact h
        · have h := h.2 c7
          refine Go.aload_n 0 dX6_fault_166 rfl rfl (?_ : Go _ _ 167 _ _ _ _)
          refine Go.callV (as := []) (st := []) mk_X6_readSpacing wl_X6_193 shq_64 rfl rfl (Nat.le_of_ble_eq_true rfl) dX6_fault_167 h ?_
          rintro _ s8 ⟨rfl, h⟩
          show Go _ _ 170 _ [] _ _
          refine Go.goto 111 dX6_fault_170 rfl ?_
          exact h
      · have h := h.2 c5
        refine Go.aload_n 0 dX6_fault_141 rfl rfl (?_ : Go _ _ 142 _ _ _ _)
        refine Go.getI fk_X6_187 shq_64 frq_64_16 dX6_fault_142 (?_ : Go _ _ 145 _ _ _ _)
        refine Go.iconst dX6_fault_145 k_ic_4 (?_ : Go _ _ 146 _ _ _ _)
        refine Go.icmp_ge 153 dX6_fault_146 rfl ⟨fun c9 => ?_, fun c9 => (?_ : Go _ _ 149 _ _ _ _)⟩
        · have h := h.1 c9
          refine Go.iconst dX6_fault_153 k_ic_0 (?_ : Go _ _ 154 _ _ _ _)
          refine Go.callV (as := [.int 0]) (st := []) mk_X6_wants wl_X6_176 shq_64 rfl rfl (Nat.le_of_ble_eq_true rfl) dX6_fault_154 h ?_
          rintro _ s10 ⟨rfl, h⟩
          show Go _ _ 157 _ [] _ _
          refine Go.aload_n 0 dX6_fault_157 rfl rfl (?_ : Go _ _ 158 _ _ _ _)
          refine Go.getI fk_X6_170 shq_64 frq_64_18 dX6_fault_158 (?_ : Go _ _ 161 _ _ _ _)
          refine Go.bipush dX6_fault_161 k_bi_m4 (?_ : Go _ _ 163 _ _ _ _)
          refine Go.icmp_ne 111 dX6_fault_163 rfl ⟨fun c11 => ?_, fun c11 => (?_ : Go _ _ 166 _ _ _ _)⟩
          · have h := h.1 c11
            exact h
          · have h := h.2 c11
            refine Go.aload_n 0 dX6_fault_166 rfl rfl (?_ : Go _ _ 167 _ _ _ _)
            refine Go.callV (as := []) (st := []) mk_X6_readSpacing wl_X6_193 shq_64 rfl rfl (Nat.le_of_ble_eq_true rfl) dX6_fault_167 h ?_
            rintro _ s12 ⟨rfl, h⟩
            show Go _ _ 170 _ [] _ _
            refine Go.goto 111 dX6_fault_170 rfl ?_
            exact h
        · have h := h.2 c9
          refine Go.iconst dX6_fault_149 k_ic_1 (?_ : Go _ _ 150 _ _ _ _)
          refine Go.goto 154 dX6_fault_150 rfl ?_
          refine Go.callV (as := [.int 1]) (st := []) mk_X6_wants wl_X6_176 shq_64 rfl rfl (Nat.le_of_ble_eq_true rfl) dX6_fault_154 h ?_
          rintro _ s13 ⟨rfl, h⟩
          show Go _ _ 157 _ [] _ _
          refine Go.aload_n 0 dX6_fault_157 rfl rfl (?_ : Go _ _ 158 _ _ _ _)
          refine Go.getI fk_X6_170 shq_64 frq_64_18 dX6_fault_158 (?_ : Go _ _ 161 _ _ _ _)
          refine Go.bipush dX6_fault_161 k_bi_m4 (?_ : Go _ _ 163 _ _ _ _)
          refine Go.icmp_ne 111 dX6_fault_163 rfl ⟨fun c14 => ?_, fun c14 => (?_ : Go _ _ 166 _ _ _ _)⟩
          · have h := h.1 c14
            exact h
          · have h := h.2 c14
            refine Go.aload_n 0 dX6_fault_166 rfl rfl (?_ : Go _ _ 167 _ _ _ _)
            refine Go.callV (as := []) (st := []) mk_X6_readSpacing wl_X6_193 shq_64 rfl rfl (Nat.le_of_ble_eq_true rfl) dX6_fault_167 h ?_
            rintro _ s15 ⟨rfl, h⟩
            show Go _ _ 170 _ [] _ _
            refine Go.goto 111 dX6_fault_170 rfl ?_
            exact h
set_option maxHeartbeats 4000000 in
set_option maxRecDepth 100000 in
theorem sgX6_load_0 {d : Nat} {σ : St} {K : Int32 → St → Prop} (h : CallI d mX6_fault [.ref 64] σ (fun r2 s1 => (r2 = (-4) → Go mX6_load (d + 1) 16 [.ref 64, .int 0, .int 0, .null] [] s1 (QI K)) ∧ (¬ r2 = (-4) → K (-2) s1))) : Go mX6_load (d + 1) 0 [.ref 64, .null, .null, .null] [] σ (QI K) := by
  refine Go.aload_n 0 dX6_load_0 rfl rfl (?_ : Go _ _ 1 _ _ _ _)
  refine Go.callV (as := []) (st := []) mk_X6_fault wl_X6_196 shq_64 rfl rfl (Nat.le_of_ble_eq_true rfl) dX6_load_1 h ?_
  rintro _ s1 ⟨r2, rfl, h⟩
  show Go _ _ 4 _ [.int r2] _ _
  refine Go.bipush dX6_load_4 k_bi_m4 (?_ : Go _ _ 6 _ _ _ _)
  refine Go.icmp_eq 12 dX6_load_6 rfl ⟨fun c3 => ?_, fun c3 => (?_ : Go _ _ 9 _ _ _ _)⟩
  · have h := h.1 c3
    refine Go.iconst dX6_load_12 k_ic_0 (?_ : Go _ _ 13 _ _ _ _)
    refine Go.istore_n 1 dX6_load_13 rfl (by decide) rfl rfl (?_ : Go _ _ 14 [.ref 64, .int 0, .null, .null] _ _ _)
    refine Go.iconst dX6_load_14 k_ic_0 (?_ : Go _ _ 15 _ _ _ _)
    refine Go.istore_n 2 dX6_load_15 rfl (by decide) rfl rfl (?_ : Go _ _ 16 [.ref 64, .int 0, .int 0, .null] _ _ _)
    exact h
  · have h := h.2 c3
    refine Go.bipush dX6_load_9 k_bi_m2 (?_ : Go _ _ 11 _ _ _ _)
    exact Go.iret rfl dX6_load_11 ⟨_, rfl, h⟩
theorem cgX6_load {d : Nat} {σ : St} {K : Int32 → St → Prop} (h : CallI d mX6_fault [.ref 64] σ (fun r2 s1 => (r2 = (-4) → Go mX6_load (d + 1) 16 [.ref 64, .int 0, .int 0, .null] [] s1 (QI K)) ∧ (¬ r2 = (-4) → K (-2) s1))) : CallI (d + 1) mX6_load [.ref 64] σ K := Call_of_Go (by decide +kernel) (ls := [.ref 64, .null, .null, .null]) rfl (Nat.le_of_ble_eq_true rfl) (sgX6_load_0 h)
set_option maxHeartbeats 4000000 in
set_option maxRecDepth 100000 in
theorem sgX6_load_16 {d : Nat} {σ : St} {v1 : Int32} {v2 : Int32} {K : Int32 → St → Prop} (h : ((sF σ 64 14) ≤ v2 → (v1 = 0 → ((sF σ 64 14) ≤ 6 → CallU d mX6_record [.ref 64] σ (fun s4 => ∀ s5, s5 = setA s4 65 0 0 → Go mX6_load (d + 1) 127 [.ref 64, .int v1, .int 0, .null] [] s5 (QI K))) ∧ (¬ (sF σ 64 14) ≤ 6 → K (-3) σ)) ∧ (¬ v1 = 0 → K (-2) σ)) ∧ (¬ (sF σ 64 14) ≤ v2 → Go mX6_load (d + 1) 26 [.ref 64, .int v1, .int v2, .int 0] [] σ (QI K))) : Go mX6_load (d + 1) 16 [.ref 64, .int v1, .int v2, .null] [] σ (QI K) := by
  refine Go.iload_n 2 dX6_load_16 rfl rfl (?_ : Go _ _ 17 _ _ _ _)
  refine Go.aload_n 0 dX6_load_17 rfl rfl (?_ : Go _ _ 18 _ _ _ _)
  refine Go.getI fk_X6_184 shq_64 frq_64_14 dX6_load_18 (?_ : Go _ _ 21 _ _ _ _)
  refine Go.icmp_ge 95 dX6_load_21 rfl ⟨fun c1 => ?_, fun c1 => (?_ : Go _ _ 24 _ _ _ _)⟩
  · have h := h.1 c1
    refine Go.iload_n 1 dX6_load_95 rfl rfl (?_ : Go _ _ 96 _ _ _ _)
    refine Go.if_eq 102 dX6_load_96 rfl ⟨fun c2 => ?_, fun c2 => (?_ : Go _ _ 99 _ _ _ _)⟩
    · have h := h.1 c2
      refine Go.aload_n 0 dX6_load_102 rfl rfl (?_ : Go _ _ 103 _ _ _ _)
      refine Go.getI fk_X6_184 shq_64 frq_64_14 dX6_load_103 (?_ : Go _ _ 106 _ _ _ _)
      refine Go.bipush dX6_load_106 k_bi_6 (?_ : Go _ _ 108 _ _ _ _)
      refine Go.icmp_le 114 dX6_load_108 rfl ⟨fun c3 => ?_, fun c3 => (?_ : Go _ _ 111 _ _ _ _)⟩
      · have h := h.1 c3
        refine Go.aload_n 0 dX6_load_114 rfl rfl (?_ : Go _ _ 115 _ _ _ _)
        refine Go.callV (as := []) (st := []) mk_X6_record wl_X6_53 shq_64 rfl rfl (Nat.le_of_ble_eq_true rfl) dX6_load_115 h ?_
        rintro _ s4 ⟨rfl, h⟩
        show Go _ _ 118 _ [] _ _
        refine Go.aload_n 0 dX6_load_118 rfl rfl (?_ : Go _ _ 119 _ _ _ _)
        refine Go.getR fk_X6_7 shq_64 frq_64_0 dX6_load_119 (?_ : Go _ _ 122 _ _ _ _)
        refine Go.iconst dX6_load_122 k_ic_0 (?_ : Go _ _ 123 _ _ _ _)
        refine Go.iconst dX6_load_123 k_ic_0 (?_ : Go _ _ 124 _ _ _ _)
        refine Go.iastK ixk_0 vik_0_32 shq_65 dX6_load_124 (?_ : Go _ _ 125 _ _ _ _)
        generalize es5 : setA s4 65 0 0 = s5
        have h := h s5 es5.symm
        refine Go.iconst dX6_load_125 k_ic_0 (?_ : Go _ _ 126 _ _ _ _)
        refine Go.istore_n 2 dX6_load_126 rfl (by decide) rfl rfl (?_ : Go _ _ 127 [.ref 64, .int v1, .int 0, .null] _ _ _)
        exact h
      · have h := h.2 c3
        refine Go.bipush dX6_load_111 k_bi_m3 (?_ : Go _ _ 113 _ _ _ _)
        exact Go.iret rfl dX6_load_113 ⟨_, rfl, h⟩
    · have h := h.2 c2
      refine Go.bipush dX6_load_99 k_bi_m2 (?_ : Go _ _ 101 _ _ _ _)
      exact Go.iret rfl dX6_load_101 ⟨_, rfl, h⟩
  · have h := h.2 c1
    refine Go.iconst dX6_load_24 k_ic_0 (?_ : Go _ _ 25 _ _ _ _)
    refine Go.istore_n 3 dX6_load_25 rfl (by decide) rfl rfl (?_ : Go _ _ 26 [.ref 64, .int v1, .int v2, .int 0] _ _ _)
    exact h
set_option maxHeartbeats 4000000 in
set_option maxRecDepth 100000 in
theorem sgX6_load_26 {d : Nat} {σ : St} {v1 : Int32} {v2 : Int32} {v3 : Int32} {K : Int32 → St → Prop} (h : (v2 ≤ v3 → Go mX6_load (d + 1) 16 [.ref 64, .int v1, .int (v2 + 1), .null] [] σ (QI K)) ∧ (¬ v2 ≤ v3 → (¬ v1 = 0 → Go mX6_load (d + 1) 26 [.ref 64, .int 1, .int v2, .int (v3 + 1)] [] σ (QI K)) ∧ (v1 = 0 → vp_in (4 * v2) 64 ∧ vp_in (4 * v3) 64 ∧ (¬ (sA σ 73 (ix (4 * v2))) = (sA σ 73 (ix (4 * v3))) → Go mX6_load (d + 1) 26 [.ref 64, .int 0, .int v2, .int (v3 + 1)] [] σ (QI K)) ∧ ((sA σ 73 (ix (4 * v2))) = (sA σ 73 (ix (4 * v3))) → vp_in ((4 * v2) + 2) 64 ∧ vp_in ((4 * v3) + 2) 64 ∧ (¬ (sA σ 73 (ix ((4 * v2) + 2))) = (sA σ 73 (ix ((4 * v3) + 2))) → Go mX6_load (d + 1) 26 [.ref 64, .int 0, .int v2, .int (v3 + 1)] [] σ (QI K)) ∧ ((sA σ 73 (ix ((4 * v2) + 2))) = (sA σ 73 (ix ((4 * v3) + 2))) → Go mX6_load (d + 1) 26 [.ref 64, .int 1, .int v2, .int (v3 + 1)] [] σ (QI K)))))) : Go mX6_load (d + 1) 26 [.ref 64, .int v1, .int v2, .int v3] [] σ (QI K) := by
  refine Go.iload_n 3 dX6_load_26 rfl rfl (?_ : Go _ _ 27 _ _ _ _)
  refine Go.iload_n 2 dX6_load_27 rfl rfl (?_ : Go _ _ 28 _ _ _ _)
  refine Go.icmp_ge 89 dX6_load_28 rfl ⟨fun c1 => ?_, fun c1 => (?_ : Go _ _ 31 _ _ _ _)⟩
  · have h := h.1 c1
    refine Go.iinc dX6_load_89 rfl (congrArg (fun z => v2 + z) k_ic_1) (by decide) rfl rfl (?_ : Go _ _ 92 [.ref 64, .int v1, .int (v2 + 1), .int v3] _ _ _)
    refine Go.goto 16 dX6_load_92 rfl ?_
    refine Go.drop (ls' := [.ref 64, .int v1, .int (v2 + 1), .null]) 3 rfl ?_
    exact h
  · have h := h.2 c1
    refine Go.iload_n 1 dX6_load_31 rfl rfl (?_ : Go _ _ 32 _ _ _ _)
    refine Go.if_ne 77 dX6_load_32 rfl ⟨fun c2 => ?_, fun c2 => (?_ : Go _ _ 35 _ _ _ _)⟩
    · have h := h.1 c2
      refine Go.iconst dX6_load_77 k_ic_1 (?_ : Go _ _ 78 _ _ _ _)
      refine Go.goto 82 dX6_load_78 rfl ?_
      refine Go.istore_n 1 dX6_load_82 rfl (by decide) rfl rfl (?_ : Go _ _ 83 [.ref 64, .int 1, .int v2, .int v3] _ _ _)
      refine Go.iinc dX6_load_83 rfl (congrArg (fun z => v3 + z) k_ic_1) (by decide) rfl rfl (?_ : Go _ _ 86 [.ref 64, .int 1, .int v2, .int (v3 + 1)] _ _ _)
      refine Go.goto 26 dX6_load_86 rfl ?_
      exact h
    · have h := h.2 c2
      refine Go.aload_n 0 dX6_load_35 rfl rfl (?_ : Go _ _ 36 _ _ _ _)
      refine Go.getR fk_X6_35 shq_64 frq_64_13 dX6_load_36 (?_ : Go _ _ 39 _ _ _ _)
      refine Go.iconst dX6_load_39 k_ic_4 (?_ : Go _ _ 40 _ _ _ _)
      refine Go.iload_n 2 dX6_load_40 rfl rfl (?_ : Go _ _ 41 _ _ _ _)
      refine Go.imul dX6_load_41 (?_ : Go _ _ 42 _ _ _ _)
      refine Go.iald shq_73 dX6_load_42 ⟨h.1, (?_ : Go _ _ 43 _ _ _ _)⟩
      have h := h.2
      refine Go.aload_n 0 dX6_load_43 rfl rfl (?_ : Go _ _ 44 _ _ _ _)
      refine Go.getR fk_X6_35 shq_64 frq_64_13 dX6_load_44 (?_ : Go _ _ 47 _ _ _ _)
      refine Go.iconst dX6_load_47 k_ic_4 (?_ : Go _ _ 48 _ _ _ _)
      refine Go.iload_n 3 dX6_load_48 rfl rfl (?_ : Go _ _ 49 _ _ _ _)
      refine Go.imul dX6_load_49 (?_ : Go _ _ 50 _ _ _ _)
      refine Go.iald shq_73 dX6_load_50 ⟨h.1, (?_ : Go _ _ 51 _ _ _ _)⟩
      have h := h.2
      refine Go.icmp_ne 81 dX6_load_51 rfl ⟨fun c3 => ?_, fun c3 => (?_ : Go _ _ 54 _ _ _ _)⟩
      · have h := h.1 c3
        refine Go.iconst dX6_load_81 k_ic_0 (?_ : Go _ _ 82 _ _ _ _)
        refine Go.istore_n 1 dX6_load_82 rfl (by decide) rfl rfl (?_ : Go _ _ 83 [.ref 64, .int 0, .int v2, .int v3] _ _ _)
        refine Go.iinc dX6_load_83 rfl (congrArg (fun z => v3 + z) k_ic_1) (by decide) rfl rfl (?_ : Go _ _ 86 [.ref 64, .int 0, .int v2, .int (v3 + 1)] _ _ _)
        refine Go.goto 26 dX6_load_86 rfl ?_
        exact h
      · have h := h.2 c3
        refine Go.aload_n 0 dX6_load_54 rfl rfl (?_ : Go _ _ 55 _ _ _ _)
        refine Go.getR fk_X6_35 shq_64 frq_64_13 dX6_load_55 (?_ : Go _ _ 58 _ _ _ _)
        refine Go.iconst dX6_load_58 k_ic_4 (?_ : Go _ _ 59 _ _ _ _)
        refine Go.iload_n 2 dX6_load_59 rfl rfl (?_ : Go _ _ 60 _ _ _ _)
        refine Go.imul dX6_load_60 (?_ : Go _ _ 61 _ _ _ _)
        refine Go.iconst dX6_load_61 k_ic_2 (?_ : Go _ _ 62 _ _ _ _)
        refine Go.iadd dX6_load_62 (?_ : Go _ _ 63 _ _ _ _)
        refine Go.iald shq_73 dX6_load_63 ⟨h.1, (?_ : Go _ _ 64 _ _ _ _)⟩
        have h := h.2
        refine Go.aload_n 0 dX6_load_64 rfl rfl (?_ : Go _ _ 65 _ _ _ _)
        refine Go.getR fk_X6_35 shq_64 frq_64_13 dX6_load_65 (?_ : Go _ _ 68 _ _ _ _)
        refine Go.iconst dX6_load_68 k_ic_4 (?_ : Go _ _ 69 _ _ _ _)
        refine Go.iload_n 3 dX6_load_69 rfl rfl (?_ : Go _ _ 70 _ _ _ _)
        refine Go.imul dX6_load_70 (?_ : Go _ _ 71 _ _ _ _)
        refine Go.iconst dX6_load_71 k_ic_2 (?_ : Go _ _ 72 _ _ _ _)
        refine Go.iadd dX6_load_72 (?_ : Go _ _ 73 _ _ _ _)
        refine Go.iald shq_73 dX6_load_73 ⟨h.1, (?_ : Go _ _ 74 _ _ _ _)⟩
        have h := h.2
        refine Go.icmp_ne 81 dX6_load_74 rfl ⟨fun c4 => ?_, fun c4 => (?_ : Go _ _ 77 _ _ _ _)⟩
        · have h := h.1 c4
          refine Go.iconst dX6_load_81 k_ic_0 (?_ : Go _ _ 82 _ _ _ _)
          refine Go.istore_n 1 dX6_load_82 rfl (by decide) rfl rfl (?_ : Go _ _ 83 [.ref 64, .int 0, .int v2, .int v3] _ _ _)
          refine Go.iinc dX6_load_83 rfl (congrArg (fun z => v3 + z) k_ic_1) (by decide) rfl rfl (?_ : Go _ _ 86 [.ref 64, .int 0, .int v2, .int (v3 + 1)] _ _ _)
          refine Go.goto 26 dX6_load_86 rfl ?_
          exact h
        · have h := h.2 c4
          refine Go.iconst dX6_load_77 k_ic_1 (?_ : Go _ _ 78 _ _ _ _)
          refine Go.goto 82 dX6_load_78 rfl ?_
          refine Go.istore_n 1 dX6_load_82 rfl (by decide) rfl rfl (?_ : Go _ _ 83 [.ref 64, .int 1, .int v2, .int v3] _ _ _)
          refine Go.iinc dX6_load_83 rfl (congrArg (fun z => v3 + z) k_ic_1) (by decide) rfl rfl (?_ : Go _ _ 86 [.ref 64, .int 1, .int v2, .int (v3 + 1)] _ _ _)
          refine Go.goto 26 dX6_load_86 rfl ?_
          exact h
set_option maxHeartbeats 4000000 in
set_option maxRecDepth 100000 in
theorem sgX6_load_127 {d : Nat} {σ : St} {v1 : Int32} {v2 : Int32} {K : Int32 → St → Prop} (h : ((sF σ 64 14) ≤ v2 → Go mX6_load (d + 1) 185 [.ref 64, .int v1, .int 0, .null] [] σ (QI K)) ∧ (¬ (sF σ 64 14) ≤ v2 → vp_in (4 * v2) 64 ∧ vp_in ((4 * v2) + 1) 64 ∧ vp_in ((4 * v2) + 2) 64 ∧ vp_in ((4 * v2) + 3) 64 ∧ CallU d mX6_add [.ref 64, .int (sA σ 73 (ix (4 * v2))), .int (sA σ 73 (ix ((4 * v2) + 1))), .int (sA σ 73 (ix ((4 * v2) + 2))), .int (sA σ 73 (ix ((4 * v2) + 3)))] σ (fun s2 => Go mX6_load (d + 1) 127 [.ref 64, .int v1, .int (v2 + 1), .null] [] s2 (QI K)))) : Go mX6_load (d + 1) 127 [.ref 64, .int v1, .int v2, .null] [] σ (QI K) := by
  refine Go.iload_n 2 dX6_load_127 rfl rfl (?_ : Go _ _ 128 _ _ _ _)
  refine Go.aload_n 0 dX6_load_128 rfl rfl (?_ : Go _ _ 129 _ _ _ _)
  refine Go.getI fk_X6_184 shq_64 frq_64_14 dX6_load_129 (?_ : Go _ _ 132 _ _ _ _)
  refine Go.icmp_ge 183 dX6_load_132 rfl ⟨fun c1 => ?_, fun c1 => (?_ : Go _ _ 135 _ _ _ _)⟩
  · have h := h.1 c1
    refine Go.iconst dX6_load_183 k_ic_0 (?_ : Go _ _ 184 _ _ _ _)
    refine Go.istore_n 2 dX6_load_184 rfl (by decide) rfl rfl (?_ : Go _ _ 185 [.ref 64, .int v1, .int 0, .null] _ _ _)
    exact h
  · have h := h.2 c1
    refine Go.aload_n 0 dX6_load_135 rfl rfl (?_ : Go _ _ 136 _ _ _ _)
    refine Go.aload_n 0 dX6_load_136 rfl rfl (?_ : Go _ _ 137 _ _ _ _)
    refine Go.getR fk_X6_35 shq_64 frq_64_13 dX6_load_137 (?_ : Go _ _ 140 _ _ _ _)
    refine Go.iconst dX6_load_140 k_ic_4 (?_ : Go _ _ 141 _ _ _ _)
    refine Go.iload_n 2 dX6_load_141 rfl rfl (?_ : Go _ _ 142 _ _ _ _)
    refine Go.imul dX6_load_142 (?_ : Go _ _ 143 _ _ _ _)
    refine Go.iald shq_73 dX6_load_143 ⟨h.1, (?_ : Go _ _ 144 _ _ _ _)⟩
    have h := h.2
    refine Go.aload_n 0 dX6_load_144 rfl rfl (?_ : Go _ _ 145 _ _ _ _)
    refine Go.getR fk_X6_35 shq_64 frq_64_13 dX6_load_145 (?_ : Go _ _ 148 _ _ _ _)
    refine Go.iconst dX6_load_148 k_ic_4 (?_ : Go _ _ 149 _ _ _ _)
    refine Go.iload_n 2 dX6_load_149 rfl rfl (?_ : Go _ _ 150 _ _ _ _)
    refine Go.imul dX6_load_150 (?_ : Go _ _ 151 _ _ _ _)
    refine Go.iconst dX6_load_151 k_ic_1 (?_ : Go _ _ 152 _ _ _ _)
    refine Go.iadd dX6_load_152 (?_ : Go _ _ 153 _ _ _ _)
    refine Go.iald shq_73 dX6_load_153 ⟨h.1, (?_ : Go _ _ 154 _ _ _ _)⟩
    have h := h.2
    refine Go.aload_n 0 dX6_load_154 rfl rfl (?_ : Go _ _ 155 _ _ _ _)
    refine Go.getR fk_X6_35 shq_64 frq_64_13 dX6_load_155 (?_ : Go _ _ 158 _ _ _ _)
    refine Go.iconst dX6_load_158 k_ic_4 (?_ : Go _ _ 159 _ _ _ _)
    refine Go.iload_n 2 dX6_load_159 rfl rfl (?_ : Go _ _ 160 _ _ _ _)
    refine Go.imul dX6_load_160 (?_ : Go _ _ 161 _ _ _ _)
    refine Go.iconst dX6_load_161 k_ic_2 (?_ : Go _ _ 162 _ _ _ _)
    refine Go.iadd dX6_load_162 (?_ : Go _ _ 163 _ _ _ _)
    refine Go.iald shq_73 dX6_load_163 ⟨h.1, (?_ : Go _ _ 164 _ _ _ _)⟩
    have h := h.2
    refine Go.aload_n 0 dX6_load_164 rfl rfl (?_ : Go _ _ 165 _ _ _ _)
    refine Go.getR fk_X6_35 shq_64 frq_64_13 dX6_load_165 (?_ : Go _ _ 168 _ _ _ _)
    refine Go.iconst dX6_load_168 k_ic_4 (?_ : Go _ _ 169 _ _ _ _)
    refine Go.iload_n 2 dX6_load_169 rfl rfl (?_ : Go _ _ 170 _ _ _ _)
    refine Go.imul dX6_load_170 (?_ : Go _ _ 171 _ _ _ _)
    refine Go.iconst dX6_load_171 k_ic_3 (?_ : Go _ _ 172 _ _ _ _)
    refine Go.iadd dX6_load_172 (?_ : Go _ _ 173 _ _ _ _)
    refine Go.iald shq_73 dX6_load_173 ⟨h.1, (?_ : Go _ _ 174 _ _ _ _)⟩
    have h := h.2
    refine Go.callV (as := [.int (sA σ 73 (ix (4 * v2))), .int (sA σ 73 (ix ((4 * v2) + 1))), .int (sA σ 73 (ix ((4 * v2) + 2))), .int (sA σ 73 (ix ((4 * v2) + 3)))]) (st := []) mk_X6_add wl_X6_67 shq_64 rfl rfl (Nat.le_of_ble_eq_true rfl) dX6_load_174 h ?_
    rintro _ s2 ⟨rfl, h⟩
    show Go _ _ 177 _ [] _ _
    refine Go.iinc dX6_load_177 rfl (congrArg (fun z => v2 + z) k_ic_1) (by decide) rfl rfl (?_ : Go _ _ 180 [.ref 64, .int v1, .int (v2 + 1), .null] _ _ _)
    refine Go.goto 127 dX6_load_180 rfl ?_
    exact h
set_option maxHeartbeats 4000000 in
set_option maxRecDepth 100000 in
theorem sgX6_load_185 {d : Nat} {σ : St} {v1 : Int32} {v2 : Int32} {K : Int32 → St → Prop} (h : (4 ≤ v2 → ((sF σ 64 16) ≤ 0 → ∀ s3, s3 = setA σ 65 1 (sA σ 65 1) → ∀ s4, s4 = setF s3 64 6 0 → K (sA s4 65 0) s4) ∧ (¬ (sF σ 64 16) ≤ 0 → ∀ s5, s5 = setA σ 65 1 (sF σ 64 16) → ∀ s6, s6 = setF s5 64 6 0 → K (sA s6 65 0) s6)) ∧ (¬ 4 ≤ v2 → ((sF σ 64 16) ≤ 0 → ((sF σ 64 16) ≤ 0 → ∀ s9, s9 = setA σ 65 1 (sA σ 65 1) → ∀ s10, s10 = setF s9 64 6 0 → K (sA s10 65 0) s10) ∧ (¬ (sF σ 64 16) ≤ 0 → ∀ s11, s11 = setA σ 65 1 (sF σ 64 16) → ∀ s12, s12 = setF s11 64 6 0 → K (sA s12 65 0) s12)) ∧ (¬ (sF σ 64 16) ≤ 0 → ((sF σ 64 16) ≤ v2 → vp_in (2 + v2) 32 ∧ ∀ s14, s14 = setA σ 65 (ix (2 + v2)) 0 → Go mX6_load (d + 1) 185 [.ref 64, .int v1, .int (v2 + 1), .null] [] s14 (QI K)) ∧ (¬ (sF σ 64 16) ≤ v2 → vp_in v2 4 ∧ vp_in (2 + v2) 32 ∧ ∀ s15, s15 = setA σ 65 (ix (2 + v2)) (sA σ 74 (ix v2)) → Go mX6_load (d + 1) 185 [.ref 64, .int v1, .int (v2 + 1), .null] [] s15 (QI K))))) : Go mX6_load (d + 1) 185 [.ref 64, .int v1, .int v2, .null] [] σ (QI K) := by
  refine Go.iload_n 2 dX6_load_185 rfl rfl (?_ : Go _ _ 186 _ _ _ _)
  refine Go.iconst dX6_load_186 k_ic_4 (?_ : Go _ _ 187 _ _ _ _)
  refine Go.icmp_ge 229 dX6_load_187 rfl ⟨fun c1 => ?_, fun c1 => (?_ : Go _ _ 190 _ _ _ _)⟩
  · have h := h.1 c1
    refine Go.aload_n 0 dX6_load_229 rfl rfl (?_ : Go _ _ 230 _ _ _ _)
    refine Go.getR fk_X6_7 shq_64 frq_64_0 dX6_load_230 (?_ : Go _ _ 233 _ _ _ _)
    refine Go.iconst dX6_load_233 k_ic_1 (?_ : Go _ _ 234 _ _ _ _)
    refine Go.aload_n 0 dX6_load_234 rfl rfl (?_ : Go _ _ 235 _ _ _ _)
    refine Go.getI fk_X6_187 shq_64 frq_64_16 dX6_load_235 (?_ : Go _ _ 238 _ _ _ _)
    refine Go.if_le 248 dX6_load_238 rfl ⟨fun c2 => ?_, fun c2 => (?_ : Go _ _ 241 _ _ _ _)⟩
    · have h := h.1 c2
      refine Go.aload_n 0 dX6_load_248 rfl rfl (?_ : Go _ _ 249 _ _ _ _)
      refine Go.getR fk_X6_7 shq_64 frq_64_0 dX6_load_249 (?_ : Go _ _ 252 _ _ _ _)
      refine Go.iconst dX6_load_252 k_ic_1 (?_ : Go _ _ 253 _ _ _ _)
      refine Go.ialdK ixk_1 vik_1_32 shq_65 dX6_load_253 (?_ : Go _ _ 254 _ _ _ _)
      refine Go.iastK ixk_1 vik_1_32 shq_65 dX6_load_254 (?_ : Go _ _ 255 _ _ _ _)
      generalize es3 : setA σ 65 1 (sA σ 65 1) = s3
      have h := h s3 es3.symm
      refine Go.aload_n 0 dX6_load_255 rfl rfl (?_ : Go _ _ 256 _ _ _ _)
      refine Go.iconst dX6_load_256 k_ic_0 (?_ : Go _ _ 257 _ _ _ _)
      refine Go.putI fp_X6_152 shq_64 frq_64_6 dX6_load_257 (?_ : Go _ _ 260 _ _ _ _)
      generalize es4 : setF s3 64 6 0 = s4
      have h := h s4 es4.symm
      refine Go.aload_n 0 dX6_load_260 rfl rfl (?_ : Go _ _ 261 _ _ _ _)
      refine Go.getR fk_X6_7 shq_64 frq_64_0 dX6_load_261 (?_ : Go _ _ 264 _ _ _ _)
      refine Go.iconst dX6_load_264 k_ic_0 (?_ : Go _ _ 265 _ _ _ _)
      refine Go.ialdK ixk_0 vik_0_32 shq_65 dX6_load_265 (?_ : Go _ _ 266 _ _ _ _)
      exact Go.iret rfl dX6_load_266 ⟨_, rfl, h⟩
    · have h := h.2 c2
      refine Go.aload_n 0 dX6_load_241 rfl rfl (?_ : Go _ _ 242 _ _ _ _)
      refine Go.getI fk_X6_187 shq_64 frq_64_16 dX6_load_242 (?_ : Go _ _ 245 _ _ _ _)
      refine Go.goto 254 dX6_load_245 rfl ?_
      refine Go.iastK ixk_1 vik_1_32 shq_65 dX6_load_254 (?_ : Go _ _ 255 _ _ _ _)
      generalize es5 : setA σ 65 1 (sF σ 64 16) = s5
      have h := h s5 es5.symm
      refine Go.aload_n 0 dX6_load_255 rfl rfl (?_ : Go _ _ 256 _ _ _ _)
      refine Go.iconst dX6_load_256 k_ic_0 (?_ : Go _ _ 257 _ _ _ _)
      refine Go.putI fp_X6_152 shq_64 frq_64_6 dX6_load_257 (?_ : Go _ _ 260 _ _ _ _)
      generalize es6 : setF s5 64 6 0 = s6
      have h := h s6 es6.symm
      refine Go.aload_n 0 dX6_load_260 rfl rfl (?_ : Go _ _ 261 _ _ _ _)
      refine Go.getR fk_X6_7 shq_64 frq_64_0 dX6_load_261 (?_ : Go _ _ 264 _ _ _ _)
      refine Go.iconst dX6_load_264 k_ic_0 (?_ : Go _ _ 265 _ _ _ _)
      refine Go.ialdK ixk_0 vik_0_32 shq_65 dX6_load_265 (?_ : Go _ _ 266 _ _ _ _)
      exact Go.iret rfl dX6_load_266 ⟨_, rfl, h⟩
  · have h := h.2 c1
    refine Go.aload_n 0 dX6_load_190 rfl rfl (?_ : Go _ _ 191 _ _ _ _)
    refine Go.getI fk_X6_187 shq_64 frq_64_16 dX6_load_191 (?_ : Go _ _ 194 _ _ _ _)
    refine Go.if_le 229 dX6_load_194 rfl ⟨fun c7 => ?_, fun c7 => (?_ : Go _ _ 197 _ _ _ _)⟩
    · have h := h.1 c7
      refine Go.aload_n 0 dX6_load_229 rfl rfl (?_ : Go _ _ 230 _ _ _ _)
      refine Go.getR fk_X6_7 shq_64 frq_64_0 dX6_load_230 (?_ : Go _ _ 233 _ _ _ _)
      refine Go.iconst dX6_load_233 k_ic_1 (?_ : Go _ _ 234 _ _ _ _)
      refine Go.aload_n 0 dX6_load_234 rfl rfl (?_ : Go _ _ 235 _ _ _ _)
      refine Go.getI fk_X6_187 shq_64 frq_64_16 dX6_load_235 (?_ : Go _ _ 238 _ _ _ _)
      refine Go.if_le 248 dX6_load_238 rfl ⟨fun c8 => ?_, fun c8 => (?_ : Go _ _ 241 _ _ _ _)⟩
      · have h := h.1 c8
        refine Go.aload_n 0 dX6_load_248 rfl rfl (?_ : Go _ _ 249 _ _ _ _)
        refine Go.getR fk_X6_7 shq_64 frq_64_0 dX6_load_249 (?_ : Go _ _ 252 _ _ _ _)
        refine Go.iconst dX6_load_252 k_ic_1 (?_ : Go _ _ 253 _ _ _ _)
        refine Go.ialdK ixk_1 vik_1_32 shq_65 dX6_load_253 (?_ : Go _ _ 254 _ _ _ _)
        refine Go.iastK ixk_1 vik_1_32 shq_65 dX6_load_254 (?_ : Go _ _ 255 _ _ _ _)
        generalize es9 : setA σ 65 1 (sA σ 65 1) = s9
        have h := h s9 es9.symm
        refine Go.aload_n 0 dX6_load_255 rfl rfl (?_ : Go _ _ 256 _ _ _ _)
        refine Go.iconst dX6_load_256 k_ic_0 (?_ : Go _ _ 257 _ _ _ _)
        refine Go.putI fp_X6_152 shq_64 frq_64_6 dX6_load_257 (?_ : Go _ _ 260 _ _ _ _)
        generalize es10 : setF s9 64 6 0 = s10
        have h := h s10 es10.symm
        refine Go.aload_n 0 dX6_load_260 rfl rfl (?_ : Go _ _ 261 _ _ _ _)
        refine Go.getR fk_X6_7 shq_64 frq_64_0 dX6_load_261 (?_ : Go _ _ 264 _ _ _ _)
        refine Go.iconst dX6_load_264 k_ic_0 (?_ : Go _ _ 265 _ _ _ _)
        refine Go.ialdK ixk_0 vik_0_32 shq_65 dX6_load_265 (?_ : Go _ _ 266 _ _ _ _)
        exact Go.iret rfl dX6_load_266 ⟨_, rfl, h⟩
      · have h := h.2 c8
        refine Go.aload_n 0 dX6_load_241 rfl rfl (?_ : Go _ _ 242 _ _ _ _)
        refine Go.getI fk_X6_187 shq_64 frq_64_16 dX6_load_242 (?_ : Go _ _ 245 _ _ _ _)
        refine Go.goto 254 dX6_load_245 rfl ?_
        refine Go.iastK ixk_1 vik_1_32 shq_65 dX6_load_254 (?_ : Go _ _ 255 _ _ _ _)
        generalize es11 : setA σ 65 1 (sF σ 64 16) = s11
        have h := h s11 es11.symm
        refine Go.aload_n 0 dX6_load_255 rfl rfl (?_ : Go _ _ 256 _ _ _ _)
        refine Go.iconst dX6_load_256 k_ic_0 (?_ : Go _ _ 257 _ _ _ _)
        refine Go.putI fp_X6_152 shq_64 frq_64_6 dX6_load_257 (?_ : Go _ _ 260 _ _ _ _)
        generalize es12 : setF s11 64 6 0 = s12
        have h := h s12 es12.symm
        refine Go.aload_n 0 dX6_load_260 rfl rfl (?_ : Go _ _ 261 _ _ _ _)
        refine Go.getR fk_X6_7 shq_64 frq_64_0 dX6_load_261 (?_ : Go _ _ 264 _ _ _ _)
        refine Go.iconst dX6_load_264 k_ic_0 (?_ : Go _ _ 265 _ _ _ _)
        refine Go.ialdK ixk_0 vik_0_32 shq_65 dX6_load_265 (?_ : Go _ _ 266 _ _ _ _)
        exact Go.iret rfl dX6_load_266 ⟨_, rfl, h⟩
    · have h := h.2 c7
      refine Go.aload_n 0 dX6_load_197 rfl rfl (?_ : Go _ _ 198 _ _ _ _)
      refine Go.getR fk_X6_7 shq_64 frq_64_0 dX6_load_198 (?_ : Go _ _ 201 _ _ _ _)
      refine Go.iconst dX6_load_201 k_ic_2 (?_ : Go _ _ 202 _ _ _ _)
      refine Go.iload_n 2 dX6_load_202 rfl rfl (?_ : Go _ _ 203 _ _ _ _)
      refine Go.iadd dX6_load_203 (?_ : Go _ _ 204 _ _ _ _)
      refine Go.iload_n 2 dX6_load_204 rfl rfl (?_ : Go _ _ 205 _ _ _ _)
      refine Go.aload_n 0 dX6_load_205 rfl rfl (?_ : Go _ _ 206 _ _ _ _)
      refine Go.getI fk_X6_187 shq_64 frq_64_16 dX6_load_206 (?_ : Go _ _ 209 _ _ _ _)
      refine Go.icmp_ge 221 dX6_load_209 rfl ⟨fun c13 => ?_, fun c13 => (?_ : Go _ _ 212 _ _ _ _)⟩
      · have h := h.1 c13
        refine Go.iconst dX6_load_221 k_ic_0 (?_ : Go _ _ 222 _ _ _ _)
        refine Go.iast shq_65 dX6_load_222 ⟨h.1, (?_ : Go _ _ 223 _ _ _ _)⟩
        generalize es14 : setA σ 65 (ix (2 + v2)) 0 = s14
        have h := h.2 s14 es14.symm
        refine Go.iinc dX6_load_223 rfl (congrArg (fun z => v2 + z) k_ic_1) (by decide) rfl rfl (?_ : Go _ _ 226 [.ref 64, .int v1, .int (v2 + 1), .null] _ _ _)
        refine Go.goto 185 dX6_load_226 rfl ?_
        exact h
      · have h := h.2 c13
        refine Go.aload_n 0 dX6_load_212 rfl rfl (?_ : Go _ _ 213 _ _ _ _)
        refine Go.getR fk_X6_38 shq_64 frq_64_15 dX6_load_213 (?_ : Go _ _ 216 _ _ _ _)
        refine Go.iload_n 2 dX6_load_216 rfl rfl (?_ : Go _ _ 217 _ _ _ _)
        refine Go.iald shq_74 dX6_load_217 ⟨h.1, (?_ : Go _ _ 218 _ _ _ _)⟩
        have h := h.2
        refine Go.goto 222 dX6_load_218 rfl ?_
        refine Go.iast shq_65 dX6_load_222 ⟨h.1, (?_ : Go _ _ 223 _ _ _ _)⟩
        generalize es15 : setA σ 65 (ix (2 + v2)) (sA σ 74 (ix v2)) = s15
        have h := h.2 s15 es15.symm
        refine Go.iinc dX6_load_223 rfl (congrArg (fun z => v2 + z) k_ic_1) (by decide) rfl rfl (?_ : Go _ _ 226 [.ref 64, .int v1, .int (v2 + 1), .null] _ _ _)
        refine Go.goto 185 dX6_load_226 rfl ?_
        exact h
