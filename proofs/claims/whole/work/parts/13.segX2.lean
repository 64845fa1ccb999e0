set_option maxHeartbeats 4000000 in
set_option maxRecDepth 100000 in
theorem sgX2_read_0 {d : Nat} {σ : St} {K : Int32 → St → Prop} (h : ∀ s1, s1 = setF σ 46 5 0 → ∀ s2, s2 = setF s1 46 6 0 → ∀ s3, s3 = setF s2 46 7 0 → Go mX2_read (d + 1) 17 [.ref 46, .ref 44, .int 0] [] s3 (QI K)) : Go mX2_read (d + 1) 0 [.ref 46, .ref 44, .null] [] σ (QI K) := by
  refine Go.aload_n 0 dX2_read_0 rfl rfl (?_ : Go _ _ 1 _ _ _ _)
  refine Go.iconst dX2_read_1 k_ic_0 (?_ : Go _ _ 2 _ _ _ _)
  refine Go.putI fp_X2_28 shq_46 frq_46_5 dX2_read_2 (?_ : Go _ _ 5 _ _ _ _)
  generalize es1 : setF σ 46 5 0 = s1
  have h := h s1 es1.symm
  refine Go.aload_n 0 dX2_read_5 rfl rfl (?_ : Go _ _ 6 _ _ _ _)
  refine Go.iconst dX2_read_6 k_ic_0 (?_ : Go _ _ 7 _ _ _ _)
  refine Go.putI fp_X2_32 shq_46 frq_46_6 dX2_read_7 (?_ : Go _ _ 10 _ _ _ _)
  generalize es2 : setF s1 46 6 0 = s2
  have h := h s2 es2.symm
  refine Go.aload_n 0 dX2_read_10 rfl rfl (?_ : Go _ _ 11 _ _ _ _)
  refine Go.iconst dX2_read_11 k_ic_0 (?_ : Go _ _ 12 _ _ _ _)
  refine Go.putI fp_X2_35 shq_46 frq_46_7 dX2_read_12 (?_ : Go _ _ 15 _ _ _ _)
  generalize es3 : setF s2 46 7 0 = s3
  have h := h s3 es3.symm
  refine Go.iconst dX2_read_15 k_ic_0 (?_ : Go _ _ 16 _ _ _ _)
  refine Go.istore_n 2 dX2_read_16 rfl (by decide) rfl rfl (?_ : Go _ _ 17 [.ref 46, .ref 44, .int 0] _ _ _)
  exact h
theorem cgX2_read {d : Nat} {σ : St} {K : Int32 → St → Prop} (h : ∀ s1, s1 = setF σ 46 5 0 → ∀ s2, s2 = setF s1 46 6 0 → ∀ s3, s3 = setF s2 46 7 0 → Go mX2_read (d + 1) 17 [.ref 46, .ref 44, .int 0] [] s3 (QI K)) : CallI (d + 1) mX2_read [.ref 46, .ref 44] σ K := Call_of_Go (by decide +kernel) (ls := [.ref 46, .ref 44, .null]) rfl (Nat.le_of_ble_eq_true rfl) (sgX2_read_0 h)
set_option maxHeartbeats 4000000 in
set_option maxRecDepth 100000 in
theorem sgX2_read_17 {d : Nat} {σ : St} {v2 : Int32} {K : Int32 → St → Prop} (h : CallI d mX1_length [.ref 44] σ (fun r2 s1 => (r2 ≤ v2 → CallI d mX2_isComplete [.ref 46] s1 (fun r5 s4 => (¬ r5 = 0 → (¬ (sF s4 46 7) = 4 → K (-4) s4) ∧ ((sF s4 46 7) = 4 → CallU d mX2_keepTarget [.ref 46, .int (sF s4 46 8), .int 0] s4 (fun s8 => K (-4) s8))) ∧ (r5 = 0 → CallI d mX1_length [.ref 44] s4 (fun r10 s9 => K r10 s9)))) ∧ (¬ r2 ≤ v2 → CallI d mX1_signAt [.ref 44, .int v2] s1 (fun r12 s11 => CallI d mX2_accepts [.ref 46, .int r12] s11 (fun r14 s13 => (¬ r14 = 0 → Go mX2_read (d + 1) 17 [.ref 46, .ref 44, .int (v2 + 1)] [] s13 (QI K)) ∧ (r14 = 0 → K v2 s13)))))) : Go mX2_read (d + 1) 17 [.ref 46, .ref 44, .int v2] [] σ (QI K) := by
  refine Go.iload_n 2 dX2_read_17 rfl rfl (?_ : Go _ _ 18 _ _ _ _)
  refine Go.aload_n 1 dX2_read_18 rfl rfl (?_ : Go _ _ 19 _ _ _ _)
  refine Go.callV (as := []) (st := [.int v2]) mk_X1_length wl_X2_38 shq_44 rfl rfl (Nat.le_of_ble_eq_true rfl) dX2_read_19 h ?_
  rintro _ s1 ⟨r2, rfl, h⟩
  show Go _ _ 22 _ [.int r2, .int v2] _ _
  refine Go.icmp_ge 45 dX2_read_22 rfl ⟨fun c3 => ?_, fun c3 => (?_ : Go _ _ 25 _ _ _ _)⟩
  · have h := h.1 c3
    refine Go.aload_n 0 dX2_read_45 rfl rfl (?_ : Go _ _ 46 _ _ _ _)
    refine Go.callV (as := []) (st := []) mk_X2_isComplete wl_X2_52 shq_46 rfl rfl (Nat.le_of_ble_eq_true rfl) dX2_read_46 h ?_
    rintro _ s4 ⟨r5, rfl, h⟩
    show Go _ _ 49 _ [.int r5] _ _
    refine Go.if_ne 57 dX2_read_49 rfl ⟨fun c6 => ?_, fun c6 => (?_ : Go _ _ 52 _ _ _ _)⟩
    · have h := h.1 c6
      refine Go.aload_n 0 dX2_read_57 rfl rfl (?_ : Go _ _ 58 _ _ _ _)
      refine Go.getI fk_X2_35 shq_46 frq_46_7 dX2_read_58 (?_ : Go _ _ 61 _ _ _ _)
      refine Go.iconst dX2_read_61 k_ic_4 (?_ : Go _ _ 62 _ _ _ _)
      refine Go.icmp_ne 74 dX2_read_62 rfl ⟨fun c7 => ?_, fun c7 => (?_ : Go _ _ 65 _ _ _ _)⟩
      · have h := h.1 c7
        refine Go.bipush dX2_read_74 k_bi_m4 (?_ : Go _ _ 76 _ _ _ _)
        exact Go.iret rfl dX2_read_76 ⟨_, rfl, h⟩
      · have h := h.2 c7
        refine Go.aload_n 0 dX2_read_65 rfl rfl (?_ : Go _ _ 66 _ _ _ _)
        refine Go.aload_n 0 dX2_read_66 rfl rfl (?_ : Go _ _ 67 _ _ _ _)
        refine Go.getI fk_X2_56 shq_46 frq_46_8 dX2_read_67 (?_ : Go _ _ 70 _ _ _ _)
        refine Go.iconst dX2_read_70 k_ic_0 (?_ : Go _ _ 71 _ _ _ _)
        refine Go.callV (as := [.int (sF s4 46 8), .int 0]) (st := []) mk_X2_keepTarget wl_X2_59 shq_46 rfl rfl (Nat.le_of_ble_eq_true rfl) dX2_read_71 h ?_
        rintro _ s8 ⟨rfl, h⟩
        show Go _ _ 74 _ [] _ _
        refine Go.bipush dX2_read_74 k_bi_m4 (?_ : Go _ _ 76 _ _ _ _)
        exact Go.iret rfl dX2_read_76 ⟨_, rfl, h⟩
    · have h := h.2 c6
      refine Go.aload_n 1 dX2_read_52 rfl rfl (?_ : Go _ _ 53 _ _ _ _)
      refine Go.callV (as := []) (st := []) mk_X1_length wl_X2_38 shq_44 rfl rfl (Nat.le_of_ble_eq_true rfl) dX2_read_53 h ?_
      rintro _ s9 ⟨r10, rfl, h⟩
      show Go _ _ 56 _ [.int r10] _ _
      exact Go.iret rfl dX2_read_56 ⟨_, rfl, h⟩
  · have h := h.2 c3
    refine Go.aload_n 0 dX2_read_25 rfl rfl (?_ : Go _ _ 26 _ _ _ _)
    refine Go.aload_n 1 dX2_read_26 rfl rfl (?_ : Go _ _ 27 _ _ _ _)
    refine Go.iload_n 2 dX2_read_27 rfl rfl (?_ : Go _ _ 28 _ _ _ _)
    refine Go.callV (as := [.int v2]) (st := [.ref 46]) mk_X1_signAt wl_X2_44 shq_44 rfl rfl (Nat.le_of_ble_eq_true rfl) dX2_read_28 h ?_
    rintro _ s11 ⟨r12, rfl, h⟩
    show Go _ _ 31 _ [.int r12, .ref 46] _ _
    refine Go.callV (as := [.int r12]) (st := []) mk_X2_accepts wl_X2_48 shq_46 rfl rfl (Nat.le_of_ble_eq_true rfl) dX2_read_31 h ?_
    rintro _ s13 ⟨r14, rfl, h⟩
    show Go _ _ 34 _ [.int r14] _ _
    refine Go.if_ne 39 dX2_read_34 rfl ⟨fun c15 => ?_, fun c15 => (?_ : Go _ _ 37 _ _ _ _)⟩
    · have h := h.1 c15
      refine Go.iinc dX2_read_39 rfl (congrArg (fun z => v2 + z) k_ic_1) (by decide) rfl rfl (?_ : Go _ _ 42 [.ref 46, .ref 44, .int (v2 + 1)] _ _ _)
      refine Go.goto 17 dX2_read_42 rfl ?_
      exact h
    · have h := h.2 c15
      refine Go.iload_n 2 dX2_read_37 rfl rfl (?_ : Go _ _ 38 _ _ _ _)
      exact Go.iret rfl dX2_read_38 ⟨_, rfl, h⟩
set_option maxHeartbeats 4000000 in
set_option maxRecDepth 100000 in
theorem sgX2_targetCount_0 {d : Nat} {σ : St} {K : Int32 → St → Prop} (h : K (sF σ 46 5) σ) : Go mX2_targetCount (d + 1) 0 [.ref 46] [] σ (QI K) := by
  refine Go.aload_n 0 dX2_targetCount_0 rfl rfl (?_ : Go _ _ 1 _ _ _ _)
  refine Go.getI fk_X2_28 shq_46 frq_46_5 dX2_targetCount_1 (?_ : Go _ _ 4 _ _ _ _)
  exact Go.iret rfl dX2_targetCount_4 ⟨_, rfl, h⟩
theorem cgX2_targetCount {d : Nat} {σ : St} {K : Int32 → St → Prop} (h : K (sF σ 46 5) σ) : CallI (d + 1) mX2_targetCount [.ref 46] σ K := Call_of_Go (by decide +kernel) (ls := [.ref 46]) rfl (Nat.le_of_ble_eq_true rfl) (sgX2_targetCount_0 h)
set_option maxHeartbeats 4000000 in
set_option maxRecDepth 100000 in
theorem sgX2_hasTwins_0 {d : Nat} {σ : St} {K : Int32 → St → Prop} (h : Go mX2_hasTwins (d + 1) 2 [.ref 46, .int 0, .null] [] σ (QI K)) : Go mX2_hasTwins (d + 1) 0 [.ref 46, .null, .null] [] σ (QI K) := by
  refine Go.iconst dX2_hasTwins_0 k_ic_0 (?_ : Go _ _ 1 _ _ _ _)
  refine Go.istore_n 1 dX2_hasTwins_1 rfl (by decide) rfl rfl (?_ : Go _ _ 2 [.ref 46, .int 0, .null] _ _ _)
  exact h
theorem cgX2_hasTwins {d : Nat} {σ : St} {K : Int32 → St → Prop} (h : Go mX2_hasTwins (d + 1) 2 [.ref 46, .int 0, .null] [] σ (QI K)) : CallI (d + 1) mX2_hasTwins [.ref 46] σ K := Call_of_Go (by decide +kernel) (ls := [.ref 46, .null, .null]) rfl (Nat.le_of_ble_eq_true rfl) (sgX2_hasTwins_0 h)
set_option maxHeartbeats 4000000 in
set_option maxRecDepth 100000 in
theorem sgX2_hasTwins_2 {d : Nat} {σ : St} {v1 : Int32} {K : Int32 → St → Prop} (h : ((sF σ 46 5) ≤ v1 → K 0 σ) ∧ (¬ (sF σ 46 5) ≤ v1 → (12 ≤ v1 → K 0 σ) ∧ (¬ 12 ≤ v1 → Go mX2_hasTwins (d + 1) 18 [.ref 46, .int v1, .int 0] [] σ (QI K)))) : Go mX2_hasTwins (d + 1) 2 [.ref 46, .int v1, .null] [] σ (QI K) := by
  refine Go.iload_n 1 dX2_hasTwins_2 rfl rfl (?_ : Go _ _ 3 _ _ _ _)
  refine Go.aload_n 0 dX2_hasTwins_3 rfl rfl (?_ : Go _ _ 4 _ _ _ _)
  refine Go.getI fk_X2_28 shq_46 frq_46_5 dX2_hasTwins_4 (?_ : Go _ _ 7 _ _ _ _)
  refine Go.icmp_ge 67 dX2_hasTwins_7 rfl ⟨fun c1 => ?_, fun c1 => (?_ : Go _ _ 10 _ _ _ _)⟩
  · have h := h.1 c1
    refine Go.iconst dX2_hasTwins_67 k_ic_0 (?_ : Go _ _ 68 _ _ _ _)
    exact Go.zret rfl rfl dX2_hasTwins_68 ⟨_, rfl, h⟩
  · have h := h.2 c1
    refine Go.iload_n 1 dX2_hasTwins_10 rfl rfl (?_ : Go _ _ 11 _ _ _ _)
    refine Go.bipush dX2_hasTwins_11 k_bi_12 (?_ : Go _ _ 13 _ _ _ _)
    refine Go.icmp_ge 67 dX2_hasTwins_13 rfl ⟨fun c2 => ?_, fun c2 => (?_ : Go _ _ 16 _ _ _ _)⟩
    · have h := h.1 c2
      refine Go.iconst dX2_hasTwins_67 k_ic_0 (?_ : Go _ _ 68 _ _ _ _)
      exact Go.zret rfl rfl dX2_hasTwins_68 ⟨_, rfl, h⟩
    · have h := h.2 c2
      refine Go.iconst dX2_hasTwins_16 k_ic_0 (?_ : Go _ _ 17 _ _ _ _)
      refine Go.istore_n 2 dX2_hasTwins_17 rfl (by decide) rfl rfl (?_ : Go _ _ 18 [.ref 46, .int v1, .int 0] _ _ _)
      exact h
set_option maxHeartbeats 4000000 in
set_option maxRecDepth 100000 in
theorem sgX2_hasTwins_18 {d : Nat} {σ : St} {v1 : Int32} {v2 : Int32} {K : Int32 → St → Prop} (h : (v1 ≤ v2 → Go mX2_hasTwins (d + 1) 2 [.ref 46, .int (v1 + 1), .null] [] σ (QI K)) ∧ (¬ v1 ≤ v2 → vp_in v1 12 ∧ vp_in v2 12 ∧ (¬ (sA σ 47 (ix v1)) = (sA σ 47 (ix v2)) → Go mX2_hasTwins (d + 1) 18 [.ref 46, .int v1, .int (v2 + 1)] [] σ (QI K)) ∧ ((sA σ 47 (ix v1)) = (sA σ 47 (ix v2)) → vp_in v1 12 ∧ vp_in v2 12 ∧ (¬ (sA σ 49 (ix v1)) = (sA σ 49 (ix v2)) → Go mX2_hasTwins (d + 1) 18 [.ref 46, .int v1, .int (v2 + 1)] [] σ (QI K)) ∧ ((sA σ 49 (ix v1)) = (sA σ 49 (ix v2)) → K 1 σ)))) : Go mX2_hasTwins (d + 1) 18 [.ref 46, .int v1, .int v2] [] σ (QI K) := by
  refine Go.iload_n 2 dX2_hasTwins_18 rfl rfl (?_ : Go _ _ 19 _ _ _ _)
  refine Go.iload_n 1 dX2_hasTwins_19 rfl rfl (?_ : Go _ _ 20 _ _ _ _)
  refine Go.icmp_ge 61 dX2_hasTwins_20 rfl ⟨fun c1 => ?_, fun c1 => (?_ : Go _ _ 23 _ _ _ _)⟩
  · have h := h.1 c1
    refine Go.iinc dX2_hasTwins_61 rfl (congrArg (fun z => v1 + z) k_ic_1) (by decide) rfl rfl (?_ : Go _ _ 64 [.ref 46, .int (v1 + 1), .int v2] _ _ _)
    refine Go.goto 2 dX2_hasTwins_64 rfl ?_
    refine Go.drop (ls' := [.ref 46, .int (v1 + 1), .null]) 2 rfl ?_
    exact h
  · have h := h.2 c1
    refine Go.aload_n 0 dX2_hasTwins_23 rfl rfl (?_ : Go _ _ 24 _ _ _ _)
    refine Go.getR fk_X2_11 shq_46 frq_46_0 dX2_hasTwins_24 (?_ : Go _ _ 27 _ _ _ _)
    refine Go.iload_n 1 dX2_hasTwins_27 rfl rfl (?_ : Go _ _ 28 _ _ _ _)
    refine Go.iald shq_47 dX2_hasTwins_28 ⟨h.1, (?_ : Go _ _ 29 _ _ _ _)⟩
    have h := h.2
    refine Go.aload_n 0 dX2_hasTwins_29 rfl rfl (?_ : Go _ _ 30 _ _ _ _)
    refine Go.getR fk_X2_11 shq_46 frq_46_0 dX2_hasTwins_30 (?_ : Go _ _ 33 _ _ _ _)
    refine Go.iload_n 2 dX2_hasTwins_33 rfl rfl (?_ : Go _ _ 34 _ _ _ _)
    refine Go.iald shq_47 dX2_hasTwins_34 ⟨h.1, (?_ : Go _ _ 35 _ _ _ _)⟩
    have h := h.2
    refine Go.icmp_ne 55 dX2_hasTwins_35 rfl ⟨fun c2 => ?_, fun c2 => (?_ : Go _ _ 38 _ _ _ _)⟩
    · have h := h.1 c2
      refine Go.iinc dX2_hasTwins_55 rfl (congrArg (fun z => v2 + z) k_ic_1) (by decide) rfl rfl (?_ : Go _ _ 58 [.ref 46, .int v1, .int (v2 + 1)] _ _ _)
      refine Go.goto 18 dX2_hasTwins_58 rfl ?_
      exact h
    · have h := h.2 c2
      refine Go.aload_n 0 dX2_hasTwins_38 rfl rfl (?_ : Go _ _ 39 _ _ _ _)
      refine Go.getR fk_X2_18 shq_46 frq_46_2 dX2_hasTwins_39 (?_ : Go _ _ 42 _ _ _ _)
      refine Go.iload_n 1 dX2_hasTwins_42 rfl rfl (?_ : Go _ _ 43 _ _ _ _)
      refine Go.iald shq_49 dX2_hasTwins_43 ⟨h.1, (?_ : Go _ _ 44 _ _ _ _)⟩
      have h := h.2
      refine Go.aload_n 0 dX2_hasTwins_44 rfl rfl (?_ : Go _ _ 45 _ _ _ _)
      refine Go.getR fk_X2_18 shq_46 frq_46_2 dX2_hasTwins_45 (?_ : Go _ _ 48 _ _ _ _)
      refine Go.iload_n 2 dX2_hasTwins_48 rfl rfl (?_ : Go _ _ 49 _ _ _ _)
      refine Go.iald shq_49 dX2_hasTwins_49 ⟨h.1, (?_ : Go _ _ 50 _ _ _ _)⟩
      have h := h.2
      refine Go.icmp_ne 55 dX2_hasTwins_50 rfl ⟨fun c3 => ?_, fun c3 => (?_ : Go _ _ 53 _ _ _ _)⟩
      · have h := h.1 c3
        refine Go.iinc dX2_hasTwins_55 rfl (congrArg (fun z => v2 + z) k_ic_1) (by decide) rfl rfl (?_ : Go _ _ 58 [.ref 46, .int v1, .int (v2 + 1)] _ _ _)
        refine Go.goto 18 dX2_hasTwins_58 rfl ?_
        exact h
      · have h := h.2 c3
        refine Go.iconst dX2_hasTwins_53 k_ic_1 (?_ : Go _ _ 54 _ _ _ _)
        exact Go.zret rfl rfl dX2_hasTwins_54 ⟨_, rfl, h⟩
set_option maxHeartbeats 4000000 in
set_option maxRecDepth 100000 in
theorem sgX2_putInto_0 {d : Nat} {σ : St} {K : St → Prop} {b : Nat} (h_b : isSc b) (h : CallU d mX3_leaveAll [.ref b] σ (fun s1 => Go mX2_putInto (d + 1) 6 [.ref 46, .ref b, .int 0] [] s1 (QU K))) : Go mX2_putInto (d + 1) 0 [.ref 46, .ref b, .null] [] σ (QU K) := by
  refine Go.aload_n 1 dX2_putInto_0 rfl rfl (?_ : Go _ _ 1 _ _ _ _)
  refine Go.callV (as := []) (st := []) mk_X3_leaveAll wl_X2_63 (sc_0 h_b) rfl rfl (Nat.le_of_ble_eq_true rfl) dX2_putInto_1 h ?_
  rintro _ s1 ⟨rfl, h⟩
  show Go _ _ 4 _ [] _ _
  refine Go.iconst dX2_putInto_4 k_ic_0 (?_ : Go _ _ 5 _ _ _ _)
  refine Go.istore_n 2 dX2_putInto_5 rfl (by decide) rfl rfl (?_ : Go _ _ 6 [.ref 46, .ref b, .int 0] _ _ _)
  exact h
theorem cgX2_putInto {d : Nat} {σ : St} {K : St → Prop} {b : Nat} (h_b : isSc b) (h : CallU d mX3_leaveAll [.ref b] σ (fun s1 => Go mX2_putInto (d + 1) 6 [.ref 46, .ref b, .int 0] [] s1 (QU K))) : CallU (d + 1) mX2_putInto [.ref 46, .ref b] σ K := Call_of_Go (by decide +kernel) (ls := [.ref 46, .ref b, .null]) rfl (Nat.le_of_ble_eq_true rfl) (sgX2_putInto_0 h_b h)
set_option maxHeartbeats 4000000 in
set_option maxRecDepth 100000 in
theorem sgX2_putInto_6 {d : Nat} {σ : St} {v2 : Int32} {K : St → Prop} {b : Nat} (h_b : isSc b) (h : ((sF σ 46 5) ≤ v2 → ((sF σ 46 6) ≤ 0 → Go mX2_putInto (d + 1) 68 [.ref 46, .ref b, .int 0] [] σ (QU K)) ∧ (¬ (sF σ 46 6) ≤ 0 → CallU d mX3_forgetTurns [.ref b] σ (fun s3 => Go mX2_putInto (d + 1) 68 [.ref 46, .ref b, .int 0] [] s3 (QU K)))) ∧ (¬ (sF σ 46 5) ≤ v2 → (12 ≤ v2 → ((sF σ 46 6) ≤ 0 → Go mX2_putInto (d + 1) 68 [.ref 46, .ref b, .int 0] [] σ (QU K)) ∧ (¬ (sF σ 46 6) ≤ 0 → CallU d mX3_forgetTurns [.ref b] σ (fun s6 => Go mX2_putInto (d + 1) 68 [.ref 46, .ref b, .int 0] [] s6 (QU K)))) ∧ (¬ 12 ≤ v2 → vp_in v2 12 ∧ vp_in v2 12 ∧ vp_in v2 12 ∧ vp_in v2 12 ∧ CallI d mX3_join [.ref b, .int (sA σ 47 (ix v2)), .int (sA σ 48 (ix v2)), .int (sA σ 49 (ix v2)), .int (sA σ 50 (ix v2))] σ (fun r8 s7 => Go mX2_putInto (d + 1) 6 [.ref 46, .ref b, .int (v2 + 1)] [] s7 (QU K))))) : Go mX2_putInto (d + 1) 6 [.ref 46, .ref b, .int v2] [] σ (QU K) := by
  refine Go.iload_n 2 dX2_putInto_6 rfl rfl (?_ : Go _ _ 7 _ _ _ _)
  refine Go.aload_n 0 dX2_putInto_7 rfl rfl (?_ : Go _ _ 8 _ _ _ _)
  refine Go.getI fk_X2_28 shq_46 frq_46_5 dX2_putInto_8 (?_ : Go _ _ 11 _ _ _ _)
  refine Go.icmp_ge 55 dX2_putInto_11 rfl ⟨fun c1 => ?_, fun c1 => (?_ : Go _ _ 14 _ _ _ _)⟩
  · have h := h.1 c1
    refine Go.aload_n 0 dX2_putInto_55 rfl rfl (?_ : Go _ _ 56 _ _ _ _)
    refine Go.getI fk_X2_32 shq_46 frq_46_6 dX2_putInto_56 (?_ : Go _ _ 59 _ _ _ _)
    refine Go.if_le 66 dX2_putInto_59 rfl ⟨fun c2 => ?_, fun c2 => (?_ : Go _ _ 62 _ _ _ _)⟩
    · have h := h.1 c2
      refine Go.iconst dX2_putInto_66 k_ic_0 (?_ : Go _ _ 67 _ _ _ _)
      refine Go.istore_n 2 dX2_putInto_67 rfl (by decide) rfl rfl (?_ : Go _ _ 68 [.ref 46, .ref b, .int 0] _ _ _)
      exact h
    · have h := h.2 c2
      refine Go.aload_n 1 dX2_putInto_62 rfl rfl (?_ : Go _ _ 63 _ _ _ _)
      refine Go.callV (as := []) (st := []) mk_X3_forgetTurns wl_X2_72 (sc_0 h_b) rfl rfl (Nat.le_of_ble_eq_true rfl) dX2_putInto_63 h ?_
      rintro _ s3 ⟨rfl, h⟩
      show Go _ _ 66 _ [] _ _
      refine Go.iconst dX2_putInto_66 k_ic_0 (?_ : Go _ _ 67 _ _ _ _)
      refine Go.istore_n 2 dX2_putInto_67 rfl (by decide) rfl rfl (?_ : Go _ _ 68 [.ref 46, .ref b, .int 0] _ _ _)
      exact h
  · have h := h.2 c1
    refine Go.iload_n 2 dX2_putInto_14 rfl rfl (?_ : Go _ _ 15 _ _ _ _)
    refine Go.bipush dX2_putInto_15 k_bi_12 (?_ : Go _ _ 17 _ _ _ _)
    refine Go.icmp_ge 55 dX2_putInto_17 rfl ⟨fun c4 => ?_, fun c4 => (?_ : Go _ _ 20 _ _ _ _)⟩
    · have h := h.1 c4
      refine Go.aload_n 0 dX2_putInto_55 rfl rfl (?_ : Go _ _ 56 _ _ _ _)
      refine Go.getI fk_X2_32 shq_46 frq_46_6 dX2_putInto_56 (?_ : Go _ _ 59 _ _ _ _)
      refine Go.if_le 66 dX2_putInto_59 rfl ⟨fun c5 => ?_, fun c5 => (?_ : Go _ _ 62 _ _ _ _)⟩
      · have h := h.1 c5
        refine Go.iconst dX2_putInto_66 k_ic_0 (?_ : Go _ _ 67 _ _ _ _)
        refine Go.istore_n 2 dX2_putInto_67 rfl (by decide) rfl rfl (?_ : Go _ _ 68 [.ref 46, .ref b, .int 0] _ _ _)
        exact h
      · have h := h.2 c5
        refine Go.aload_n 1 dX2_putInto_62 rfl rfl (?_ : Go _ _ 63 _ _ _ _)
        refine Go.callV (as := []) (st := []) mk_X3_forgetTurns wl_X2_72 (sc_0 h_b) rfl rfl (Nat.le_of_ble_eq_true rfl) dX2_putInto_63 h ?_
        rintro _ s6 ⟨rfl, h⟩
        show Go _ _ 66 _ [] _ _
        refine Go.iconst dX2_putInto_66 k_ic_0 (?_ : Go _ _ 67 _ _ _ _)
        refine Go.istore_n 2 dX2_putInto_67 rfl (by decide) rfl rfl (?_ : Go _ _ 68 [.ref 46, .ref b, .int 0] _ _ _)
        exact h
    · have h := h.2 c4
      refine Go.aload_n 1 dX2_putInto_20 rfl rfl (?_ : Go _ _ 21 _ _ _ _)
      refine Go.aload_n 0 dX2_putInto_21 rfl rfl (?_ : Go _ _ 22 _ _ _ _)
      refine Go.getR fk_X2_11 shq_46 frq_46_0 dX2_putInto_22 (?_ : Go _ _ 25 _ _ _ _)
      refine Go.iload_n 2 dX2_putInto_25 rfl rfl (?_ : Go _ _ 26 _ _ _ _)
      refine Go.iald shq_47 dX2_putInto_26 ⟨h.1, (?_ : Go _ _ 27 _ _ _ _)⟩
      have h := h.2
      refine Go.aload_n 0 dX2_putInto_27 rfl rfl (?_ : Go _ _ 28 _ _ _ _)
      refine Go.getR fk_X2_15 shq_46 frq_46_1 dX2_putInto_28 (?_ : Go _ _ 31 _ _ _ _)
      refine Go.iload_n 2 dX2_putInto_31 rfl rfl (?_ : Go _ _ 32 _ _ _ _)
      refine Go.iald shq_48 dX2_putInto_32 ⟨h.1, (?_ : Go _ _ 33 _ _ _ _)⟩
      have h := h.2
      refine Go.aload_n 0 dX2_putInto_33 rfl rfl (?_ : Go _ _ 34 _ _ _ _)
      refine Go.getR fk_X2_18 shq_46 frq_46_2 dX2_putInto_34 (?_ : Go _ _ 37 _ _ _ _)
      refine Go.iload_n 2 dX2_putInto_37 rfl rfl (?_ : Go _ _ 38 _ _ _ _)
      refine Go.iald shq_49 dX2_putInto_38 ⟨h.1, (?_ : Go _ _ 39 _ _ _ _)⟩
      have h := h.2
      refine Go.aload_n 0 dX2_putInto_39 rfl rfl (?_ : Go _ _ 40 _ _ _ _)
      refine Go.getR fk_X2_21 shq_46 frq_46_3 dX2_putInto_40 (?_ : Go _ _ 43 _ _ _ _)
      refine Go.iload_n 2 dX2_putInto_43 rfl rfl (?_ : Go _ _ 44 _ _ _ _)
      refine Go.zald shq_50 dX2_putInto_44 ⟨h.1, (?_ : Go _ _ 45 _ _ _ _)⟩
      have h := h.2
      refine Go.callV (as := [.int (sA σ 47 (ix v2)), .int (sA σ 48 (ix v2)), .int (sA σ 49 (ix v2)), .int (sA σ 50 (ix v2))]) (st := []) mk_X3_join wl_X2_68 (sc_0 h_b) rfl rfl (Nat.le_of_ble_eq_true rfl) dX2_putInto_45 h ?_
      rintro _ s7 ⟨r8, rfl, h⟩
      show Go _ _ 48 _ [.int r8] _ _
      refine Go.pop dX2_putInto_48 rfl (?_ : Go _ _ 49 _ _ _ _)
      refine Go.iinc dX2_putInto_49 rfl (congrArg (fun z => v2 + z) k_ic_1) (by decide) rfl rfl (?_ : Go _ _ 52 [.ref 46, .ref b, .int (v2 + 1)] _ _ _)
      refine Go.goto 6 dX2_putInto_52 rfl ?_
      exact h
set_option maxHeartbeats 4000000 in
set_option maxRecDepth 100000 in
theorem sgX2_putInto_68 {d : Nat} {σ : St} {v2 : Int32} {K : St → Prop} {b : Nat} (h_b : isSc b) (h : ((sF σ 46 6) ≤ v2 → K σ) ∧ (¬ (sF σ 46 6) ≤ v2 → (4 ≤ v2 → K σ) ∧ (¬ 4 ≤ v2 → vp_in v2 4 ∧ CallU d mX3_addTurn [.ref b, .int (sA σ 51 (ix v2))] σ (fun s3 => Go mX2_putInto (d + 1) 68 [.ref 46, .ref b, .int (v2 + 1)] [] s3 (QU K))))) : Go mX2_putInto (d + 1) 68 [.ref 46, .ref b, .int v2] [] σ (QU K) := by
  refine Go.iload_n 2 dX2_putInto_68 rfl rfl (?_ : Go _ _ 69 _ _ _ _)
  refine Go.aload_n 0 dX2_putInto_69 rfl rfl (?_ : Go _ _ 70 _ _ _ _)
  refine Go.getI fk_X2_32 shq_46 frq_46_6 dX2_putInto_70 (?_ : Go _ _ 73 _ _ _ _)
  refine Go.icmp_ge 97 dX2_putInto_73 rfl ⟨fun c1 => ?_, fun c1 => (?_ : Go _ _ 76 _ _ _ _)⟩
  · have h := h.1 c1
    exact Go.vret rfl dX2_putInto_97 ⟨rfl, h⟩
  · have h := h.2 c1
    refine Go.iload_n 2 dX2_putInto_76 rfl rfl (?_ : Go _ _ 77 _ _ _ _)
    refine Go.iconst dX2_putInto_77 k_ic_4 (?_ : Go _ _ 78 _ _ _ _)
    refine Go.icmp_ge 97 dX2_putInto_78 rfl ⟨fun c2 => ?_, fun c2 => (?_ : Go _ _ 81 _ _ _ _)⟩
    · have h := h.1 c2
      exact Go.vret rfl dX2_putInto_97 ⟨rfl, h⟩
    · have h := h.2 c2
      refine Go.aload_n 1 dX2_putInto_81 rfl rfl (?_ : Go _ _ 82 _ _ _ _)
      refine Go.aload_n 0 dX2_putInto_82 rfl rfl (?_ : Go _ _ 83 _ _ _ _)
      refine Go.getR fk_X2_25 shq_46 frq_46_4 dX2_putInto_83 (?_ : Go _ _ 86 _ _ _ _)
      refine Go.iload_n 2 dX2_putInto_86 rfl rfl (?_ : Go _ _ 87 _ _ _ _)
      refine Go.iald shq_51 dX2_putInto_87 ⟨h.1, (?_ : Go _ _ 88 _ _ _ _)⟩
      have h := h.2
      refine Go.callV (as := [.int (sA σ 51 (ix v2))]) (st := []) mk_X3_addTurn wl_X2_75 (sc_0 h_b) rfl rfl (Nat.le_of_ble_eq_true rfl) dX2_putInto_88 h ?_
      rintro _ s3 ⟨rfl, h⟩
      show Go _ _ 91 _ [] _ _
      refine Go.iinc dX2_putInto_91 rfl (congrArg (fun z => v2 + z) k_ic_1) (by decide) rfl rfl (?_ : Go _ _ 94 [.ref 46, .ref b, .int (v2 + 1)] _ _ _)
      refine Go.goto 68 dX2_putInto_94 rfl ?_
      exact h
set_option maxHeartbeats 4000000 in
set_option maxRecDepth 100000 in
theorem sgX2_isComplete_0 {d : Nat} {σ : St} {K : Int32 → St → Prop} (h : ((sF σ 46 7) = 4 → K 1 σ) ∧ (¬ (sF σ 46 7) = 4 → ((sF σ 46 7) = 6 → K 1 σ) ∧ (¬ (sF σ 46 7) = 6 → (¬ (sF σ 46 7) = 9 → K 0 σ) ∧ ((sF σ 46 7) = 9 → K 1 σ)))) : Go mX2_isComplete (d + 1) 0 [.ref 46] [] σ (QI K) := by
  refine Go.aload_n 0 dX2_isComplete_0 rfl rfl (?_ : Go _ _ 1 _ _ _ _)
  refine Go.getI fk_X2_35 shq_46 frq_46_7 dX2_isComplete_1 (?_ : Go _ _ 4 _ _ _ _)
  refine Go.iconst dX2_isComplete_4 k_ic_4 (?_ : Go _ _ 5 _ _ _ _)
  refine Go.icmp_eq 26 dX2_isComplete_5 rfl ⟨fun c1 => ?_, fun c1 => (?_ : Go _ _ 8 _ _ _ _)⟩
  · have h := h.1 c1
    refine Go.iconst dX2_isComplete_26 k_ic_1 (?_ : Go _ _ 27 _ _ _ _)
    refine Go.goto 31 dX2_isComplete_27 rfl ?_
    exact Go.zret rfl rfl dX2_isComplete_31 ⟨_, rfl, h⟩
  · have h := h.2 c1
    refine Go.aload_n 0 dX2_isComplete_8 rfl rfl (?_ : Go _ _ 9 _ _ _ _)
    refine Go.getI fk_X2_35 shq_46 frq_46_7 dX2_isComplete_9 (?_ : Go _ _ 12 _ _ _ _)
    refine Go.bipush dX2_isComplete_12 k_bi_6 (?_ : Go _ _ 14 _ _ _ _)
    refine Go.icmp_eq 26 dX2_isComplete_14 rfl ⟨fun c2 => ?_, fun c2 => (?_ : Go _ _ 17 _ _ _ _)⟩
    · have h := h.1 c2
      refine Go.iconst dX2_isComplete_26 k_ic_1 (?_ : Go _ _ 27 _ _ _ _)
      refine Go.goto 31 dX2_isComplete_27 rfl ?_
      exact Go.zret rfl rfl dX2_isComplete_31 ⟨_, rfl, h⟩
    · have h := h.2 c2
      refine Go.aload_n 0 dX2_isComplete_17 rfl rfl (?_ : Go _ _ 18 _ _ _ _)
      refine Go.getI fk_X2_35 shq_46 frq_46_7 dX2_isComplete_18 (?_ : Go _ _ 21 _ _ _ _)
      refine Go.bipush dX2_isComplete_21 k_bi_9 (?_ : Go _ _ 23 _ _ _ _)
      refine Go.icmp_ne 30 dX2_isComplete_23 rfl ⟨fun c3 => ?_, fun c3 => (?_ : Go _ _ 26 _ _ _ _)⟩
      · have h := h.1 c3
        refine Go.iconst dX2_isComplete_30 k_ic_0 (?_ : Go _ _ 31 _ _ _ _)
        exact Go.zret rfl rfl dX2_isComplete_31 ⟨_, rfl, h⟩
      · have h := h.2 c3
        refine Go.iconst dX2_isComplete_26 k_ic_1 (?_ : Go _ _ 27 _ _ _ _)
        refine Go.goto 31 dX2_isComplete_27 rfl ?_
        exact Go.zret rfl rfl dX2_isComplete_31 ⟨_, rfl, h⟩
theorem cgX2_isComplete {d : Nat} {σ : St} {K : Int32 → St → Prop} (h : ((sF σ 46 7) = 4 → K 1 σ) ∧ (¬ (sF σ 46 7) = 4 → ((sF σ 46 7) = 6 → K 1 σ) ∧ (¬ (sF σ 46 7) = 6 → (¬ (sF σ 46 7) = 9 → K 0 σ) ∧ ((sF σ 46 7) = 9 → K 1 σ)))) : CallI (d + 1) mX2_isComplete [.ref 46] σ K := Call_of_Go (by decide +kernel) (ls := [.ref 46]) rfl (Nat.le_of_ble_eq_true rfl) (sgX2_isComplete_0 h)
set_option maxHeartbeats 4000000 in
set_option maxRecDepth 100000 in
theorem sgX2_accepts_0 {d : Nat} {σ : St} {x1 : Int32} {K : Int32 → St → Prop} (h : ((sF σ 46 7) = 0 → CallI d mX2_acceptsKind [.ref 46, .int x1] σ (fun r3 s2 => (narrow .boolean (.int r3) = .int r3) ∧ K r3 s2)) ∧ (¬ (sF σ 46 7) = 0 → ((sF σ 46 7) = 1 → CallI d mX2_acceptsBegin [.ref 46, .int x1, .int 9, .int 2] σ (fun r6 s5 => (narrow .boolean (.int r6) = .int r6) ∧ K r6 s5)) ∧ (¬ (sF σ 46 7) = 1 → ((sF σ 46 7) = 2 → (¬ x1 = 42 → CallI d mX2_acceptsDigit [.ref 46, .int x1, .int 300, .int 2] σ (fun r10 s9 => (narrow .boolean (.int r10) = .int r10) ∧ K r10 s9)) ∧ (x1 = 42 → CallI d mX2_endDistance [.ref 46] σ (fun r12 s11 => (narrow .boolean (.int r12) = .int r12) ∧ K r12 s11))) ∧ (¬ (sF σ 46 7) = 2 → ((sF σ 46 7) = 3 → CallI d mX2_acceptsBegin [.ref 46, .int x1, .int 9, .int 4] σ (fun r15 s14 => (narrow .boolean (.int r15) = .int r15) ∧ K r15 s14)) ∧ (¬ (sF σ 46 7) = 3 → ((sF σ 46 7) = 4 → CallI d mX2_acceptsBehindStrength [.ref 46, .int x1] σ (fun r18 s17 => (narrow .boolean (.int r18) = .int r18) ∧ K r18 s17)) ∧ (¬ (sF σ 46 7) = 4 → ((sF σ 46 7) = 5 → CallI d mX2_acceptsMovement [.ref 46, .int x1] σ (fun r21 s20 => (narrow .boolean (.int r21) = .int r21) ∧ K r21 s20)) ∧ (¬ (sF σ 46 7) = 5 → ((sF σ 46 7) = 6 → CallI d mX2_acceptsTargetEnd [.ref 46, .int x1] σ (fun r24 s23 => (narrow .boolean (.int r24) = .int r24) ∧ K r24 s23)) ∧ (¬ (sF σ 46 7) = 6 → ((sF σ 46 7) = 7 → CallI d mX2_acceptsBegin [.ref 46, .int x1, .int 5, .int 8] σ (fun r27 s26 => (narrow .boolean (.int r27) = .int r27) ∧ K r27 s26)) ∧ (¬ (sF σ 46 7) = 7 → ((sF σ 46 7) = 8 → CallI d mX2_acceptsDigit [.ref 46, .int x1, .int 50, .int 9] σ (fun r30 s29 => (r30 = 0 → K 0 s29) ∧ (¬ r30 = 0 → CallI d mX2_keepSpacing [.ref 46] s29 (fun r33 s32 => (r33 = 0 → K 0 s32) ∧ (¬ r33 = 0 → K 1 s32))))) ∧ (¬ (sF σ 46 7) = 8 → CallI d mX2_acceptsSlash [.ref 46, .int x1] σ (fun r36 s35 => (narrow .boolean (.int r36) = .int r36) ∧ K r36 s35))))))))))) : Go mX2_accepts (d + 1) 0 [.ref 46, .int x1] [] σ (QI K) := by
  refine Go.aload_n 0 dX2_accepts_0 rfl rfl (?_ : Go _ _ 1 _ _ _ _)
  refine Go.getI fk_X2_35 shq_46 frq_46_7 dX2_accepts_1 (?_ : Go _ _ 4 _ _ _ _)
  refine Go.tsw [(0, 56), (1, 62), (2, 71), (3, 94), (4, 103), (5, 109), (6, 115), (7, 121), (8, 130)] 155 dX2_accepts_4 (by decide +kernel) ?_
  refine And.intro (fun c1 => ?_) (fun c1 => ?_)
  · have h := h.1 c1
    show Go _ _ 56 _ _ _ _
    refine Go.aload_n 0 dX2_accepts_56 rfl rfl (?_ : Go _ _ 57 _ _ _ _)
    refine Go.iload_n 1 dX2_accepts_57 rfl rfl (?_ : Go _ _ 58 _ _ _ _)
    refine Go.callV (as := [.int x1]) (st := []) mk_X2_acceptsKind wl_X2_79 shq_46 rfl rfl (Nat.le_of_ble_eq_true rfl) dX2_accepts_58 h ?_
    rintro _ s2 ⟨r3, rfl, h⟩
    show Go _ _ 61 _ [.int r3] _ _
    exact Go.zret rfl h.1 dX2_accepts_61 ⟨_, rfl, h.2⟩
  · have h := h.2 c1
    refine And.intro (fun c4 => ?_) (fun c4 => ?_)
    · have h := h.1 c4
      show Go _ _ 62 _ _ _ _
      refine Go.aload_n 0 dX2_accepts_62 rfl rfl (?_ : Go _ _ 63 _ _ _ _)
      refine Go.iload_n 1 dX2_accepts_63 rfl rfl (?_ : Go _ _ 64 _ _ _ _)
      refine Go.bipush dX2_accepts_64 k_bi_9 (?_ : Go _ _ 66 _ _ _ _)
      refine Go.iconst dX2_accepts_66 k_ic_2 (?_ : Go _ _ 67 _ _ _ _)
      refine Go.callV (as := [.int x1, .int 9, .int 2]) (st := []) mk_X2_acceptsBegin wl_X2_82 shq_46 rfl rfl (Nat.le_of_ble_eq_true rfl) dX2_accepts_67 h ?_
      rintro _ s5 ⟨r6, rfl, h⟩
      show Go _ _ 70 _ [.int r6] _ _
      exact Go.zret rfl h.1 dX2_accepts_70 ⟨_, rfl, h.2⟩
    · have h := h.2 c4
      refine And.intro (fun c7 => ?_) (fun c7 => ?_)
      · have h := h.1 c7
        show Go _ _ 71 _ _ _ _
        refine Go.iload_n 1 dX2_accepts_71 rfl rfl (?_ : Go _ _ 72 _ _ _ _)
        refine Go.bipush dX2_accepts_72 k_bi_42 (?_ : Go _ _ 74 _ _ _ _)
        refine Go.icmp_ne 84 dX2_accepts_74 rfl ⟨fun c8 => ?_, fun c8 => (?_ : Go _ _ 77 _ _ _ _)⟩
        · have h := h.1 c8
          refine Go.aload_n 0 dX2_accepts_84 rfl rfl (?_ : Go _ _ 85 _ _ _ _)
          refine Go.iload_n 1 dX2_accepts_85 rfl rfl (?_ : Go _ _ 86 _ _ _ _)
          refine Go.sipush dX2_accepts_86 k_si_300 (?_ : Go _ _ 89 _ _ _ _)
          refine Go.iconst dX2_accepts_89 k_ic_2 (?_ : Go _ _ 90 _ _ _ _)
          refine Go.callV (as := [.int x1, .int 300, .int 2]) (st := []) mk_X2_acceptsDigit wl_X2_89 shq_46 rfl rfl (Nat.le_of_ble_eq_true rfl) dX2_accepts_90 h ?_
          rintro _ s9 ⟨r10, rfl, h⟩
          show Go _ _ 93 _ [.int r10] _ _
          exact Go.zret rfl h.1 dX2_accepts_93 ⟨_, rfl, h.2⟩
        · have h := h.2 c8
          refine Go.aload_n 0 dX2_accepts_77 rfl rfl (?_ : Go _ _ 78 _ _ _ _)
          refine Go.callV (as := []) (st := []) mk_X2_endDistance wl_X2_86 shq_46 rfl rfl (Nat.le_of_ble_eq_true rfl) dX2_accepts_78 h ?_
          rintro _ s11 ⟨r12, rfl, h⟩
          show Go _ _ 81 _ [.int r12] _ _
          refine Go.goto 93 dX2_accepts_81 rfl ?_
          exact Go.zret rfl h.1 dX2_accepts_93 ⟨_, rfl, h.2⟩
      · have h := h.2 c7
        refine And.intro (fun c13 => ?_) (fun c13 => ?_)
        · have h := h.1 c13
          show Go _ _ 94 _ _ _ _
          refine Go.aload_n 0 dX2_accepts_94 rfl rfl (?_ : Go _ _ 95 _ _ _ _)
          refine Go.iload_n 1 dX2_accepts_95 rfl rfl (?_ : Go _ _ 96 _ _ _ _)
          refine Go.bipush dX2_accepts_96 k_bi_9 (?_ : Go _ _ 98 _ _ _ _)
          refine Go.iconst dX2_accepts_98 k_ic_4 (?_ : Go _ _ 99 _ _ _ _)
          refine Go.callV (as := [.int x1, .int 9, .int 4]) (st := []) mk_X2_acceptsBegin wl_X2_82 shq_46 rfl rfl (Nat.le_of_ble_eq_true rfl) dX2_accepts_99 h ?_
          rintro _ s14 ⟨r15, rfl, h⟩
          show Go _ _ 102 _ [.int r15] _ _
          exact Go.zret rfl h.1 dX2_accepts_102 ⟨_, rfl, h.2⟩
        · have h := h.2 c13
          refine And.intro (fun c16 => ?_) (fun c16 => ?_)
          · have h := h.1 c16
            show Go _ _ 103 _ _ _ _
            refine Go.aload_n 0 dX2_accepts_103 rfl rfl (?_ : Go _ _ 104 _ _ _ _)
            refine Go.iload_n 1 dX2_accepts_104 rfl rfl (?_ : Go _ _ 105 _ _ _ _)
            refine Go.callV (as := [.int x1]) (st := []) mk_X2_acceptsBehindStrength wl_X2_92 shq_46 rfl rfl (Nat.le_of_ble_eq_true rfl) dX2_accepts_105 h ?_
            rintro _ s17 ⟨r18, rfl, h⟩
            show Go _ _ 108 _ [.int r18] _ _
            exact Go.zret rfl h.1 dX2_accepts_108 ⟨_, rfl, h.2⟩
          · have h := h.2 c16
            refine And.intro (fun c19 => ?_) (fun c19 => ?_)
            · have h := h.1 c19
              show Go _ _ 109 _ _ _ _
              refine Go.aload_n 0 dX2_accepts_109 rfl rfl (?_ : Go _ _ 110 _ _ _ _)
              refine Go.iload_n 1 dX2_accepts_110 rfl rfl (?_ : Go _ _ 111 _ _ _ _)
              refine Go.callV (as := [.int x1]) (st := []) mk_X2_acceptsMovement wl_X2_95 shq_46 rfl rfl (Nat.le_of_ble_eq_true rfl) dX2_accepts_111 h ?_
              rintro _ s20 ⟨r21, rfl, h⟩
              show Go _ _ 114 _ [.int r21] _ _
              exact Go.zret rfl h.1 dX2_accepts_114 ⟨_, rfl, h.2⟩
            · have h := h.2 c19
              refine And.intro (fun c22 => ?_) (fun c22 => ?_)
              · have h := h.1 c22
                show Go _ _ 115 _ _ _ _
                refine Go.aload_n 0 dX2_accepts_115 rfl rfl (?_ : Go _ _ 116 _ _ _ _)
                refine Go.iload_n 1 dX2_accepts_116 rfl rfl (?_ : Go _ _ 117 _ _ _ _)
                refine Go.callV (as := [.int x1]) (st := []) mk_X2_acceptsTargetEnd wl_X2_98 shq_46 rfl rfl (Nat.le_of_ble_eq_true rfl) dX2_accepts_117 h ?_
                rintro _ s23 ⟨r24, rfl, h⟩
                show Go _ _ 120 _ [.int r24] _ _
                exact Go.zret rfl h.1 dX2_accepts_120 ⟨_, rfl, h.2⟩
              · have h := h.2 c22
                refine And.intro (fun c25 => ?_) (fun c25 => ?_)
                · have h := h.1 c25
                  show Go _ _ 121 _ _ _ _
                  refine Go.aload_n 0 dX2_accepts_121 rfl rfl (?_ : Go _ _ 122 _ _ _ _)
                  refine Go.iload_n 1 dX2_accepts_122 rfl rfl (?_ : Go _ _ 123 _ _ _ _)
                  refine Go.iconst dX2_accepts_123 k_ic_5 (?_ : Go _ _ 124 _ _ _ _)
                  refine Go.bipush dX2_accepts_124 k_bi_8 (?_ : Go _ _ 126 _ _ _ _)
                  refine Go.callV (as := [.int x1, .int 5, .int 8]) (st := []) mk_X2_acceptsBegin wl_X2_82 shq_46 rfl rfl (Nat.le_of_ble_eq_true rfl) dX2_accepts_126 h ?_
                  rintro _ s26 ⟨r27, rfl, h⟩
                  show Go _ _ 129 _ [.int r27] _ _
                  exact Go.zret rfl h.1 dX2_accepts_129 ⟨_, rfl, h.2⟩
                · have h := h.2 c25
                  refine And.intro (fun c28 => ?_) (fun c28 => ?_)
                  · have h := h.1 c28
                    show Go _ _ 130 _ _ _ _
                    refine Go.aload_n 0 dX2_accepts_130 rfl rfl (?_ : Go _ _ 131 _ _ _ _)
                    refine Go.iload_n 1 dX2_accepts_131 rfl rfl (?_ : Go _ _ 132 _ _ _ _)
                    refine Go.bipush dX2_accepts_132 k_bi_50 (?_ : Go _ _ 134 _ _ _ _)
                    refine Go.bipush dX2_accepts_134 k_bi_9 (?_ : Go _ _ 136 _ _ _ _)
                    refine Go.callV (as := [.int x1, .int 50, .int 9]) (st := []) mk_X2_acceptsDigit wl_X2_89 shq_46 rfl rfl (Nat.le_of_ble_eq_true rfl) dX2_accepts_136 h ?_
                    rintro _ s29 ⟨r30, rfl, h⟩
                    show Go _ _ 139 _ [.int r30] _ _
                    refine Go.if_eq 153 dX2_accepts_139 rfl ⟨fun c31 => ?_, fun c31 => (?_ : Go _ _ 142 _ _ _ _)⟩
                    · have h := h.1 c31
                      refine Go.iconst dX2_accepts_153 k_ic_0 (?_ : Go _ _ 154 _ _ _ _)
                      exact Go.zret rfl rfl dX2_accepts_154 ⟨_, rfl, h⟩
                    · have h := h.2 c31
                      refine Go.aload_n 0 dX2_accepts_142 rfl rfl (?_ : Go _ _ 143 _ _ _ _)
                      refine Go.callV (as := []) (st := []) mk_X2_keepSpacing wl_X2_101 shq_46 rfl rfl (Nat.le_of_ble_eq_true rfl) dX2_accepts_143 h ?_
                      rintro _ s32 ⟨r33, rfl, h⟩
                      show Go _ _ 146 _ [.int r33] _ _
                      refine Go.if_eq 153 dX2_accepts_146 rfl ⟨fun c34 => ?_, fun c34 => (?_ : Go _ _ 149 _ _ _ _)⟩
                      · have h := h.1 c34
                        refine Go.iconst dX2_accepts_153 k_ic_0 (?_ : Go _ _ 154 _ _ _ _)
                        exact Go.zret rfl rfl dX2_accepts_154 ⟨_, rfl, h⟩
                      · have h := h.2 c34
                        refine Go.iconst dX2_accepts_149 k_ic_1 (?_ : Go _ _ 150 _ _ _ _)
                        refine Go.goto 154 dX2_accepts_150 rfl ?_
                        exact Go.zret rfl rfl dX2_accepts_154 ⟨_, rfl, h⟩
                  · have h := h.2 c28
                    show Go _ _ 155 _ _ _ _
                    refine Go.aload_n 0 dX2_accepts_155 rfl rfl (?_ : Go _ _ 156 _ _ _ _)
                    refine Go.iload_n 1 dX2_accepts_156 rfl rfl (?_ : Go _ _ 157 _ _ _ _)
                    refine Go.callV (as := [.int x1]) (st := []) mk_X2_acceptsSlash wl_X2_104 shq_46 rfl rfl (Nat.le_of_ble_eq_true rfl) dX2_accepts_157 h ?_
                    rintro _ s35 ⟨r36, rfl, h⟩
                    show Go _ _ 160 _ [.int r36] _ _
                    exact Go.zret rfl h.1 dX2_accepts_160 ⟨_, rfl, h.2⟩
theorem cgX2_accepts {d : Nat} {σ : St} {x1 : Int32} {K : Int32 → St → Prop} (h : ((sF σ 46 7) = 0 → CallI d mX2_acceptsKind [.ref 46, .int x1] σ (fun r3 s2 => (narrow .boolean (.int r3) = .int r3) ∧ K r3 s2)) ∧ (¬ (sF σ 46 7) = 0 → ((sF σ 46 7) = 1 → CallI d mX2_acceptsBegin [.ref 46, .int x1, .int 9, .int 2] σ (fun r6 s5 => (narrow .boolean (.int r6) = .int r6) ∧ K r6 s5)) ∧ (¬ (sF σ 46 7) = 1 → ((sF σ 46 7) = 2 → (¬ x1 = 42 → CallI d mX2_acceptsDigit [.ref 46, .int x1, .int 300, .int 2] σ (fun r10 s9 => (narrow .boolean (.int r10) = .int r10) ∧ K r10 s9)) ∧ (x1 = 42 → CallI d mX2_endDistance [.ref 46] σ (fun r12 s11 => (narrow .boolean (.int r12) = .int r12) ∧ K r12 s11))) ∧ (¬ (sF σ 46 7) = 2 → ((sF σ 46 7) = 3 → CallI d mX2_acceptsBegin [.ref 46, .int x1, .int 9, .int 4] σ (fun r15 s14 => (narrow .boolean (.int r15) = .int r15) ∧ K r15 s14)) ∧ (¬ (sF σ 46 7) = 3 → ((sF σ 46 7) = 4 → CallI d mX2_acceptsBehindStrength [.ref 46, .int x1] σ (fun r18 s17 => (narrow .boolean (.int r18) = .int r18) ∧ K r18 s17)) ∧ (¬ (sF σ 46 7) = 4 → ((sF σ 46 7) = 5 → CallI d mX2_acceptsMovement [.ref 46, .int x1] σ (fun r21 s20 => (narrow .boolean (.int r21) = .int r21) ∧ K r21 s20)) ∧ (¬ (sF σ 46 7) = 5 → ((sF σ 46 7) = 6 → CallI d mX2_acceptsTargetEnd [.ref 46, .int x1] σ (fun r24 s23 => (narrow .boolean (.int r24) = .int r24) ∧ K r24 s23)) ∧ (¬ (sF σ 46 7) = 6 → ((sF σ 46 7) = 7 → CallI d mX2_acceptsBegin [.ref 46, .int x1, .int 5, .int 8] σ (fun r27 s26 => (narrow .boolean (.int r27) = .int r27) ∧ K r27 s26)) ∧ (¬ (sF σ 46 7) = 7 → ((sF σ 46 7) = 8 → CallI d mX2_acceptsDigit [.ref 46, .int x1, .int 50, .int 9] σ (fun r30 s29 => (r30 = 0 → K 0 s29) ∧ (¬ r30 = 0 → CallI d mX2_keepSpacing [.ref 46] s29 (fun r33 s32 => (r33 = 0 → K 0 s32) ∧ (¬ r33 = 0 → K 1 s32))))) ∧ (¬ (sF σ 46 7) = 8 → CallI d mX2_acceptsSlash [.ref 46, .int x1] σ (fun r36 s35 => (narrow .boolean (.int r36) = .int r36) ∧ K r36 s35))))))))))) : CallI (d + 1) mX2_accepts [.ref 46, .int x1] σ K := Call_of_Go (by decide +kernel) (ls := [.ref 46, .int x1]) rfl (Nat.le_of_ble_eq_true rfl) (sgX2_accepts_0 h)
set_option maxHeartbeats 4000000 in
set_option maxRecDepth 100000 in
theorem sgX2_acceptsKind_0 {d : Nat} {σ : St} {x1 : Int32} {K : Int32 → St → Prop} (h : (¬ x1 = 119 → ∀ s2, s2 = setF σ 46 11 0 → ∀ s3, s3 = setF s2 46 7 1 → (x1 = 116 → K 1 s3) ∧ (¬ x1 = 116 → (¬ x1 = 119 → K 0 s3) ∧ (x1 = 119 → K 1 s3))) ∧ (x1 = 119 → ∀ s6, s6 = setF σ 46 11 1 → ∀ s7, s7 = setF s6 46 7 1 → (x1 = 116 → K 1 s7) ∧ (¬ x1 = 116 → (¬ x1 = 119 → K 0 s7) ∧ (x1 = 119 → K 1 s7)))) : Go mX2_acceptsKind (d + 1) 0 [.ref 46, .int x1] [] σ (QI K) := by
  refine Go.aload_n 0 dX2_acceptsKind_0 rfl rfl (?_ : Go _ _ 1 _ _ _ _)
  refine Go.iload_n 1 dX2_acceptsKind_1 rfl rfl (?_ : Go _ _ 2 _ _ _ _)
  refine Go.bipush dX2_acceptsKind_2 k_bi_119 (?_ : Go _ _ 4 _ _ _ _)
  refine Go.icmp_ne 11 dX2_acceptsKind_4 rfl ⟨fun c1 => ?_, fun c1 => (?_ : Go _ _ 7 _ _ _ _)⟩
  · have h := h.1 c1
    refine Go.iconst dX2_acceptsKind_11 k_ic_0 (?_ : Go _ _ 12 _ _ _ _)
    refine Go.putZ (by decide) fp_X2_107 shq_46 frq_46_11 dX2_acceptsKind_12 (?_ : Go _ _ 15 _ _ _ _)
    generalize es2 : setF σ 46 11 0 = s2
    have h := h s2 es2.symm
    refine Go.aload_n 0 dX2_acceptsKind_15 rfl rfl (?_ : Go _ _ 16 _ _ _ _)
    refine Go.iconst dX2_acceptsKind_16 k_ic_1 (?_ : Go _ _ 17 _ _ _ _)
    refine Go.putI fp_X2_35 shq_46 frq_46_7 dX2_acceptsKind_17 (?_ : Go _ _ 20 _ _ _ _)
    generalize es3 : setF s2 46 7 1 = s3
    have h := h s3 es3.symm
    refine Go.iload_n 1 dX2_acceptsKind_20 rfl rfl (?_ : Go _ _ 21 _ _ _ _)
    refine Go.bipush dX2_acceptsKind_21 k_bi_116 (?_ : Go _ _ 23 _ _ _ _)
    refine Go.icmp_eq 32 dX2_acceptsKind_23 rfl ⟨fun c4 => ?_, fun c4 => (?_ : Go _ _ 26 _ _ _ _)⟩
    · have h := h.1 c4
      refine Go.iconst dX2_acceptsKind_32 k_ic_1 (?_ : Go _ _ 33 _ _ _ _)
      refine Go.goto 37 dX2_acceptsKind_33 rfl ?_
      exact Go.zret rfl rfl dX2_acceptsKind_37 ⟨_, rfl, h⟩
    · have h := h.2 c4
      refine Go.iload_n 1 dX2_acceptsKind_26 rfl rfl (?_ : Go _ _ 27 _ _ _ _)
      refine Go.bipush dX2_acceptsKind_27 k_bi_119 (?_ : Go _ _ 29 _ _ _ _)
      refine Go.icmp_ne 36 dX2_acceptsKind_29 rfl ⟨fun c5 => ?_, fun c5 => (?_ : Go _ _ 32 _ _ _ _)⟩
      · have h := h.1 c5
        refine Go.iconst dX2_acceptsKind_36 k_ic_0 (?_ : Go _ _ 37 _ _ _ _)
        exact Go.zret rfl rfl dX2_acceptsKind_37 ⟨_, rfl, h⟩
      · have h := h.2 c5
        refine Go.iconst dX2_acceptsKind_32 k_ic_1 (?_ : Go _ _ 33 _ _ _ _)
        refine Go.goto 37 dX2_acceptsKind_33 rfl ?_
        exact Go.zret rfl rfl dX2_acceptsKind_37 ⟨_, rfl, h⟩
  · have h := h.2 c1
    refine Go.iconst dX2_acceptsKind_7 k_ic_1 (?_ : Go _ _ 8 _ _ _ _)
    refine Go.goto 12 dX2_acceptsKind_8 rfl ?_
    refine Go.putZ (by decide) fp_X2_107 shq_46 frq_46_11 dX2_acceptsKind_12 (?_ : Go _ _ 15 _ _ _ _)
    generalize es6 : setF σ 46 11 1 = s6
    have h := h s6 es6.symm
    refine Go.aload_n 0 dX2_acceptsKind_15 rfl rfl (?_ : Go _ _ 16 _ _ _ _)
    refine Go.iconst dX2_acceptsKind_16 k_ic_1 (?_ : Go _ _ 17 _ _ _ _)
    refine Go.putI fp_X2_35 shq_46 frq_46_7 dX2_acceptsKind_17 (?_ : Go _ _ 20 _ _ _ _)
    generalize es7 : setF s6 46 7 1 = s7
    have h := h s7 es7.symm
    refine Go.iload_n 1 dX2_acceptsKind_20 rfl rfl (?_ : Go _ _ 21 _ _ _ _)
    refine Go.bipush dX2_acceptsKind_21 k_bi_116 (?_ : Go _ _ 23 _ _ _ _)
    refine Go.icmp_eq 32 dX2_acceptsKind_23 rfl ⟨fun c8 => ?_, fun c8 => (?_ : Go _ _ 26 _ _ _ _)⟩
    · have h := h.1 c8
      refine Go.iconst dX2_acceptsKind_32 k_ic_1 (?_ : Go _ _ 33 _ _ _ _)
      refine Go.goto 37 dX2_acceptsKind_33 rfl ?_
      exact Go.zret rfl rfl dX2_acceptsKind_37 ⟨_, rfl, h⟩
    · have h := h.2 c8
      refine Go.iload_n 1 dX2_acceptsKind_26 rfl rfl (?_ : Go _ _ 27 _ _ _ _)
      refine Go.bipush dX2_acceptsKind_27 k_bi_119 (?_ : Go _ _ 29 _ _ _ _)
      refine Go.icmp_ne 36 dX2_acceptsKind_29 rfl ⟨fun c9 => ?_, fun c9 => (?_ : Go _ _ 32 _ _ _ _)⟩
      · have h := h.1 c9
        refine Go.iconst dX2_acceptsKind_36 k_ic_0 (?_ : Go _ _ 37 _ _ _ _)
        exact Go.zret rfl rfl dX2_acceptsKind_37 ⟨_, rfl, h⟩
      · have h := h.2 c9
        refine Go.iconst dX2_acceptsKind_32 k_ic_1 (?_ : Go _ _ 33 _ _ _ _)
        refine Go.goto 37 dX2_acceptsKind_33 rfl ?_
        exact Go.zret rfl rfl dX2_acceptsKind_37 ⟨_, rfl, h⟩
theorem cgX2_acceptsKind {d : Nat} {σ : St} {x1 : Int32} {K : Int32 → St → Prop} (h : (¬ x1 = 119 → ∀ s2, s2 = setF σ 46 11 0 → ∀ s3, s3 = setF s2 46 7 1 → (x1 = 116 → K 1 s3) ∧ (¬ x1 = 116 → (¬ x1 = 119 → K 0 s3) ∧ (x1 = 119 → K 1 s3))) ∧ (x1 = 119 → ∀ s6, s6 = setF σ 46 11 1 → ∀ s7, s7 = setF s6 46 7 1 → (x1 = 116 → K 1 s7) ∧ (¬ x1 = 116 → (¬ x1 = 119 → K 0 s7) ∧ (x1 = 119 → K 1 s7)))) : CallI (d + 1) mX2_acceptsKind [.ref 46, .int x1] σ K := Call_of_Go (by decide +kernel) (ls := [.ref 46, .int x1]) rfl (Nat.le_of_ble_eq_true rfl) (sgX2_acceptsKind_0 h)
set_option maxHeartbeats 4000000 in
set_option maxRecDepth 100000 in
theorem sgX2_acceptsBegin_0 {d : Nat} {σ : St} {x1 : Int32} {x2 : Int32} {x3 : Int32} {K : Int32 → St → Prop} (h : ∀ s1, s1 = setF σ 46 8 (x1 - 48) → ∀ s2, s2 = setF s1 46 7 x3 → CallI d mX5_isWithin [.int (sF s2 46 8), .int 1, .int x2] s2 (fun r4 s3 => (narrow .boolean (.int r4) = .int r4) ∧ K r4 s3)) : Go mX2_acceptsBegin (d + 1) 0 [.ref 46, .int x1, .int x2, .int x3] [] σ (QI K) := by
  refine Go.aload_n 0 dX2_acceptsBegin_0 rfl rfl (?_ : Go _ _ 1 _ _ _ _)
  refine Go.iload_n 1 dX2_acceptsBegin_1 rfl rfl (?_ : Go _ _ 2 _ _ _ _)
  refine Go.bipush dX2_acceptsBegin_2 k_bi_48 (?_ : Go _ _ 4 _ _ _ _)
  refine Go.isub dX2_acceptsBegin_4 (?_ : Go _ _ 5 _ _ _ _)
  refine Go.putI fp_X2_56 shq_46 frq_46_8 dX2_acceptsBegin_5 (?_ : Go _ _ 8 _ _ _ _)
  generalize es1 : setF σ 46 8 (x1 - 48) = s1
  have h := h s1 es1.symm
  refine Go.aload_n 0 dX2_acceptsBegin_8 rfl rfl (?_ : Go _ _ 9 _ _ _ _)
  refine Go.iload_n 3 dX2_acceptsBegin_9 rfl rfl (?_ : Go _ _ 10 _ _ _ _)
  refine Go.putI fp_X2_35 shq_46 frq_46_7 dX2_acceptsBegin_10 (?_ : Go _ _ 13 _ _ _ _)
  generalize es2 : setF s1 46 7 x3 = s2
  have h := h s2 es2.symm
  refine Go.aload_n 0 dX2_acceptsBegin_13 rfl rfl (?_ : Go _ _ 14 _ _ _ _)
  refine Go.getI fk_X2_56 shq_46 frq_46_8 dX2_acceptsBegin_14 (?_ : Go _ _ 17 _ _ _ _)
  refine Go.iconst dX2_acceptsBegin_17 k_ic_1 (?_ : Go _ _ 18 _ _ _ _)
  refine Go.iload_n 2 dX2_acceptsBegin_18 rfl rfl (?_ : Go _ _ 19 _ _ _ _)
  refine Go.callSN (as := [.int (sF s2 46 8), .int 1, .int x2]) (st := []) mk_X5_isWithin wn_X2_111 rfl rfl (Nat.le_of_ble_eq_true rfl) dX2_acceptsBegin_19 h ?_
  rintro _ s3 ⟨r4, rfl, h⟩
  show Go _ _ 22 _ [.int r4] _ _
  exact Go.zret rfl h.1 dX2_acceptsBegin_22 ⟨_, rfl, h.2⟩
theorem cgX2_acceptsBegin {d : Nat} {σ : St} {x1 : Int32} {x2 : Int32} {x3 : Int32} {K : Int32 → St → Prop} (h : ∀ s1, s1 = setF σ 46 8 (x1 - 48) → ∀ s2, s2 = setF s1 46 7 x3 → CallI d mX5_isWithin [.int (sF s2 46 8), .int 1, .int x2] s2 (fun r4 s3 => (narrow .boolean (.int r4) = .int r4) ∧ K r4 s3)) : CallI (d + 1) mX2_acceptsBegin [.ref 46, .int x1, .int x2, .int x3] σ K := Call_of_Go (by decide +kernel) (ls := [.ref 46, .int x1, .int x2, .int x3]) rfl (Nat.le_of_ble_eq_true rfl) (sgX2_acceptsBegin_0 h)
set_option maxHeartbeats 4000000 in
set_option maxRecDepth 100000 in
theorem sgX2_acceptsDigit_0 {d : Nat} {σ : St} {x1 : Int32} {x2 : Int32} {x3 : Int32} {K : Int32 → St → Prop} (h : CallI d mX5_isWithin [.int (x1 - 48), .int 0, .int 9] σ (fun r2 s1 => (r2 = 0 → K 0 s1) ∧ (¬ r2 = 0 → ((((sF s1 46 8) * 10) + (x1 - 48)) ≤ x2 → ∀ s5, s5 = setF s1 46 8 (((sF s1 46 8) * 10) + (x1 - 48)) → ∀ s6, s6 = setF s5 46 7 x3 → K 1 s6) ∧ (¬ (((sF s1 46 8) * 10) + (x1 - 48)) ≤ x2 → K 0 s1)))) : Go mX2_acceptsDigit (d + 1) 0 [.ref 46, .int x1, .int x2, .int x3, .null] [] σ (QI K) := by
  refine Go.iload_n 1 dX2_acceptsDigit_0 rfl rfl (?_ : Go _ _ 1 _ _ _ _)
  refine Go.bipush dX2_acceptsDigit_1 k_bi_48 (?_ : Go _ _ 3 _ _ _ _)
  refine Go.isub dX2_acceptsDigit_3 (?_ : Go _ _ 4 _ _ _ _)
  refine Go.istore dX2_acceptsDigit_4 (by decide) rfl rfl (?_ : Go _ _ 6 [.ref 46, .int x1, .int x2, .int x3, .int (x1 - 48)] _ _ _)
  refine Go.iload dX2_acceptsDigit_6 rfl (?_ : Go _ _ 8 _ _ _ _)
  refine Go.iconst dX2_acceptsDigit_8 k_ic_0 (?_ : Go _ _ 9 _ _ _ _)
  refine Go.bipush dX2_acceptsDigit_9 k_bi_9 (?_ : Go _ _ 11 _ _ _ _)
  refine Go.callSN (as := [.int (x1 - 48), .int 0, .int 9]) (st := []) mk_X5_isWithin wn_X2_111 rfl rfl (Nat.le_of_ble_eq_true rfl) dX2_acceptsDigit_11 h ?_
  rintro _ s1 ⟨r2, rfl, h⟩
  show Go _ _ 14 _ [.int r2] _ _
  refine Go.if_eq 31 dX2_acceptsDigit_14 rfl ⟨fun c3 => ?_, fun c3 => (?_ : Go _ _ 17 _ _ _ _)⟩
  · have h := h.1 c3
    refine Go.iconst dX2_acceptsDigit_31 k_ic_0 (?_ : Go _ _ 32 _ _ _ _)
    exact Go.zret rfl rfl dX2_acceptsDigit_32 ⟨_, rfl, h⟩
  · have h := h.2 c3
    refine Go.aload_n 0 dX2_acceptsDigit_17 rfl rfl (?_ : Go _ _ 18 _ _ _ _)
    refine Go.getI fk_X2_56 shq_46 frq_46_8 dX2_acceptsDigit_18 (?_ : Go _ _ 21 _ _ _ _)
    refine Go.bipush dX2_acceptsDigit_21 k_bi_10 (?_ : Go _ _ 23 _ _ _ _)
    refine Go.imul dX2_acceptsDigit_23 (?_ : Go _ _ 24 _ _ _ _)
    refine Go.iload dX2_acceptsDigit_24 rfl (?_ : Go _ _ 26 _ _ _ _)
    refine Go.iadd dX2_acceptsDigit_26 (?_ : Go _ _ 27 _ _ _ _)
    refine Go.iload_n 2 dX2_acceptsDigit_27 rfl rfl (?_ : Go _ _ 28 _ _ _ _)
    refine Go.icmp_le 33 dX2_acceptsDigit_28 rfl ⟨fun c4 => ?_, fun c4 => (?_ : Go _ _ 31 _ _ _ _)⟩
    · have h := h.1 c4
      refine Go.aload_n 0 dX2_acceptsDigit_33 rfl rfl (?_ : Go _ _ 34 _ _ _ _)
      refine Go.aload_n 0 dX2_acceptsDigit_34 rfl rfl (?_ : Go _ _ 35 _ _ _ _)
      refine Go.getI fk_X2_56 shq_46 frq_46_8 dX2_acceptsDigit_35 (?_ : Go _ _ 38 _ _ _ _)
      refine Go.bipush dX2_acceptsDigit_38 k_bi_10 (?_ : Go _ _ 40 _ _ _ _)
      refine Go.imul dX2_acceptsDigit_40 (?_ : Go _ _ 41 _ _ _ _)
      refine Go.iload dX2_acceptsDigit_41 rfl (?_ : Go _ _ 43 _ _ _ _)
      refine Go.iadd dX2_acceptsDigit_43 (?_ : Go _ _ 44 _ _ _ _)
      refine Go.putI fp_X2_56 shq_46 frq_46_8 dX2_acceptsDigit_44 (?_ : Go _ _ 47 _ _ _ _)
      generalize es5 : setF s1 46 8 (((sF s1 46 8) * 10) + (x1 - 48)) = s5
      have h := h s5 es5.symm
      refine Go.aload_n 0 dX2_acceptsDigit_47 rfl rfl (?_ : Go _ _ 48 _ _ _ _)
      refine Go.iload_n 3 dX2_acceptsDigit_48 rfl rfl (?_ : Go _ _ 49 _ _ _ _)
      refine Go.putI fp_X2_35 shq_46 frq_46_7 dX2_acceptsDigit_49 (?_ : Go _ _ 52 _ _ _ _)
      generalize es6 : setF s5 46 7 x3 = s6
      have h := h s6 es6.symm
      refine Go.iconst dX2_acceptsDigit_52 k_ic_1 (?_ : Go _ _ 53 _ _ _ _)
      exact Go.zret rfl rfl dX2_acceptsDigit_53 ⟨_, rfl, h⟩
    · have h := h.2 c4
      refine Go.iconst dX2_acceptsDigit_31 k_ic_0 (?_ : Go _ _ 32 _ _ _ _)
      exact Go.zret rfl rfl dX2_acceptsDigit_32 ⟨_, rfl, h⟩
theorem cgX2_acceptsDigit {d : Nat} {σ : St} {x1 : Int32} {x2 : Int32} {x3 : Int32} {K : Int32 → St → Prop} (h : CallI d mX5_isWithin [.int (x1 - 48), .int 0, .int 9] σ (fun r2 s1 => (r2 = 0 → K 0 s1) ∧ (¬ r2 = 0 → ((((sF s1 46 8) * 10) + (x1 - 48)) ≤ x2 → ∀ s5, s5 = setF s1 46 8 (((sF s1 46 8) * 10) + (x1 - 48)) → ∀ s6, s6 = setF s5 46 7 x3 → K 1 s6) ∧ (¬ (((sF s1 46 8) * 10) + (x1 - 48)) ≤ x2 → K 0 s1)))) : CallI (d + 1) mX2_acceptsDigit [.ref 46, .int x1, .int x2, .int x3] σ K := Call_of_Go (by decide +kernel) (ls := [.ref 46, .int x1, .int x2, .int x3, .null]) rfl (Nat.le_of_ble_eq_true rfl) (sgX2_acceptsDigit_0 h)
set_option maxHeartbeats 4000000 in
set_option maxRecDepth 100000 in
theorem sgX2_endDistance_0 {d : Nat} {σ : St} {K : Int32 → St → Prop} (h : ∀ s1, s1 = setF σ 46 9 (sF σ 46 8) → ∀ s2, s2 = setF s1 46 7 3 → K 1 s2) : Go mX2_endDistance (d + 1) 0 [.ref 46] [] σ (QI K) := by
  refine Go.aload_n 0 dX2_endDistance_0 rfl rfl (?_ : Go _ _ 1 _ _ _ _)
  refine Go.aload_n 0 dX2_endDistance_1 rfl rfl (?_ : Go _ _ 2 _ _ _ _)
  refine Go.getI fk_X2_56 shq_46 frq_46_8 dX2_endDistance_2 (?_ : Go _ _ 5 _ _ _ _)
  refine Go.putI fp_X2_115 shq_46 frq_46_9 dX2_endDistance_5 (?_ : Go _ _ 8 _ _ _ _)
  generalize es1 : setF σ 46 9 (sF σ 46 8) = s1
  have h := h s1 es1.symm
  refine Go.aload_n 0 dX2_endDistance_8 rfl rfl (?_ : Go _ _ 9 _ _ _ _)
  refine Go.iconst dX2_endDistance_9 k_ic_3 (?_ : Go _ _ 10 _ _ _ _)
  refine Go.putI fp_X2_35 shq_46 frq_46_7 dX2_endDistance_10 (?_ : Go _ _ 13 _ _ _ _)
  generalize es2 : setF s1 46 7 3 = s2
  have h := h s2 es2.symm
  refine Go.iconst dX2_endDistance_13 k_ic_1 (?_ : Go _ _ 14 _ _ _ _)
  exact Go.zret rfl rfl dX2_endDistance_14 ⟨_, rfl, h⟩
theorem cgX2_endDistance {d : Nat} {σ : St} {K : Int32 → St → Prop} (h : ∀ s1, s1 = setF σ 46 9 (sF σ 46 8) → ∀ s2, s2 = setF s1 46 7 3 → K 1 s2) : CallI (d + 1) mX2_endDistance [.ref 46] σ K := Call_of_Go (by decide +kernel) (ls := [.ref 46]) rfl (Nat.le_of_ble_eq_true rfl) (sgX2_endDistance_0 h)
set_option maxHeartbeats 4000000 in
set_option maxRecDepth 100000 in
theorem sgX2_acceptsBehindStrength_0 {d : Nat} {σ : St} {x1 : Int32} {K : Int32 → St → Prop} (h : CallI d mX2_acceptsDigit [.ref 46, .int x1, .int 99, .int 4] σ (fun r2 s1 => (r2 = 0 → (¬ (sF s1 46 11) = 0 → (x1 = 44 → CallU d mX2_keepTarget [.ref 46, .int (sF s1 46 8), .int 0] s1 (fun s6 => CallI d mX2_acceptsTargetEnd [.ref 46, .int x1] s6 (fun r8 s7 => (narrow .boolean (.int r8) = .int r8) ∧ K r8 s7))) ∧ (¬ x1 = 44 → (x1 = 59 → CallU d mX2_keepTarget [.ref 46, .int (sF s1 46 8), .int 0] s1 (fun s10 => CallI d mX2_acceptsTargetEnd [.ref 46, .int x1] s10 (fun r12 s11 => (narrow .boolean (.int r12) = .int r12) ∧ K r12 s11))) ∧ (¬ x1 = 59 → K 0 s1))) ∧ ((sF s1 46 11) = 0 → (x1 = 43 → ∀ s14, s14 = setF s1 46 10 (sF s1 46 8) → (¬ x1 = 45 → ∀ s16, s16 = setF s14 46 12 0 → ∀ s17, s17 = setF s16 46 7 5 → K 1 s17) ∧ (x1 = 45 → ∀ s18, s18 = setF s14 46 12 1 → ∀ s19, s19 = setF s18 46 7 5 → K 1 s19)) ∧ (¬ x1 = 43 → (¬ x1 = 45 → (x1 = 44 → CallU d mX2_keepTarget [.ref 46, .int (sF s1 46 8), .int 0] s1 (fun s22 => CallI d mX2_acceptsTargetEnd [.ref 46, .int x1] s22 (fun r24 s23 => (narrow .boolean (.int r24) = .int r24) ∧ K r24 s23))) ∧ (¬ x1 = 44 → (x1 = 59 → CallU d mX2_keepTarget [.ref 46, .int (sF s1 46 8), .int 0] s1 (fun s26 => CallI d mX2_acceptsTargetEnd [.ref 46, .int x1] s26 (fun r28 s27 => (narrow .boolean (.int r28) = .int r28) ∧ K r28 s27))) ∧ (¬ x1 = 59 → K 0 s1))) ∧ (x1 = 45 → ∀ s29, s29 = setF s1 46 10 (sF s1 46 8) → (¬ x1 = 45 → ∀ s31, s31 = setF s29 46 12 0 → ∀ s32, s32 = setF s31 46 7 5 → K 1 s32) ∧ (x1 = 45 → ∀ s33, s33 = setF s29 46 12 1 → ∀ s34, s34 = setF s33 46 7 5 → K 1 s34))))) ∧ (¬ r2 = 0 → K 1 s1))) : Go mX2_acceptsBehindStrength (d + 1) 0 [.ref 46, .int x1] [] σ (QI K) := by
  refine Go.aload_n 0 dX2_acceptsBehindStrength_0 rfl rfl (?_ : Go _ _ 1 _ _ _ _)
  refine Go.iload_n 1 dX2_acceptsBehindStrength_1 rfl rfl (?_ : Go _ _ 2 _ _ _ _)
  refine Go.bipush dX2_acceptsBehindStrength_2 k_bi_99 (?_ : Go _ _ 4 _ _ _ _)
  refine Go.iconst dX2_acceptsBehindStrength_4 k_ic_4 (?_ : Go _ _ 5 _ _ _ _)
  refine Go.callV (as := [.int x1, .int 99, .int 4]) (st := []) mk_X2_acceptsDigit wl_X2_89 shq_46 rfl rfl (Nat.le_of_ble_eq_true rfl) dX2_acceptsBehindStrength_5 h ?_
  rintro _ s1 ⟨r2, rfl, h⟩
  show Go _ _ 8 _ [.int r2] _ _
  refine Go.if_eq 13 dX2_acceptsBehindStrength_8 rfl ⟨fun c3 => ?_, fun c3 => (?_ : Go _ _ 11 _ _ _ _)⟩
  · have h := h.1 c3
    refine Go.aload_n 0 dX2_acceptsBehindStrength_13 rfl rfl (?_ : Go _ _ 14 _ _ _ _)
    refine Go.getI fk_X2_107 shq_46 frq_46_11 dX2_acceptsBehindStrength_14 (?_ : Go _ _ 17 _ _ _ _)
    refine Go.if_ne 62 dX2_acceptsBehindStrength_17 rfl ⟨fun c4 => ?_, fun c4 => (?_ : Go _ _ 20 _ _ _ _)⟩
    · have h := h.1 c4
      refine Go.iload_n 1 dX2_acceptsBehindStrength_62 rfl rfl (?_ : Go _ _ 63 _ _ _ _)
      refine Go.bipush dX2_acceptsBehindStrength_63 k_bi_44 (?_ : Go _ _ 65 _ _ _ _)
      refine Go.icmp_eq 76 dX2_acceptsBehindStrength_65 rfl ⟨fun c5 => ?_, fun c5 => (?_ : Go _ _ 68 _ _ _ _)⟩
      · have h := h.1 c5
        refine Go.aload_n 0 dX2_acceptsBehindStrength_76 rfl rfl (?_ : Go _ _ 77 _ _ _ _)
        refine Go.aload_n 0 dX2_acceptsBehindStrength_77 rfl rfl (?_ : Go _ _ 78 _ _ _ _)
        refine Go.getI fk_X2_56 shq_46 frq_46_8 dX2_acceptsBehindStrength_78 (?_ : Go _ _ 81 _ _ _ _)
        refine Go.iconst dX2_acceptsBehindStrength_81 k_ic_0 (?_ : Go _ _ 82 _ _ _ _)
        refine Go.callV (as := [.int (sF s1 46 8), .int 0]) (st := []) mk_X2_keepTarget wl_X2_59 shq_46 rfl rfl (Nat.le_of_ble_eq_true rfl) dX2_acceptsBehindStrength_82 h ?_
        rintro _ s6 ⟨rfl, h⟩
        show Go _ _ 85 _ [] _ _
        refine Go.aload_n 0 dX2_acceptsBehindStrength_85 rfl rfl (?_ : Go _ _ 86 _ _ _ _)
        refine Go.iload_n 1 dX2_acceptsBehindStrength_86 rfl rfl (?_ : Go _ _ 87 _ _ _ _)
        refine Go.callV (as := [.int x1]) (st := []) mk_X2_acceptsTargetEnd wl_X2_98 shq_46 rfl rfl (Nat.le_of_ble_eq_true rfl) dX2_acceptsBehindStrength_87 h ?_
        rintro _ s7 ⟨r8, rfl, h⟩
        show Go _ _ 90 _ [.int r8] _ _
        exact Go.zret rfl h.1 dX2_acceptsBehindStrength_90 ⟨_, rfl, h.2⟩
      · have h := h.2 c5
        refine Go.iload_n 1 dX2_acceptsBehindStrength_68 rfl rfl (?_ : Go _ _ 69 _ _ _ _)
        refine Go.bipush dX2_acceptsBehindStrength_69 k_bi_59 (?_ : Go _ _ 71 _ _ _ _)
        refine Go.icmp_eq 76 dX2_acceptsBehindStrength_71 rfl ⟨fun c9 => ?_, fun c9 => (?_ : Go _ _ 74 _ _ _ _)⟩
        · have h := h.1 c9
          refine Go.aload_n 0 dX2_acceptsBehindStrength_76 rfl rfl (?_ : Go _ _ 77 _ _ _ _)
          refine Go.aload_n 0 dX2_acceptsBehindStrength_77 rfl rfl (?_ : Go _ _ 78 _ _ _ _)
          refine Go.getI fk_X2_56 shq_46 frq_46_8 dX2_acceptsBehindStrength_78 (?_ : Go _ _ 81 _ _ _ _)
          refine Go.iconst dX2_acceptsBehindStrength_81 k_ic_0 (?_ : Go _ _ 82 _ _ _ _)
          refine Go.callV (as := [.int (sF s1 46 8), .int 0]) (st := []) mk_X2_keepTarget wl_X2_59 shq_46 rfl rfl (Nat.le_of_ble_eq_true rfl) dX2_acceptsBehindStrength_82 h ?_
          rintro _ s10 ⟨rfl, h⟩
          show Go _ _ 85 _ [] _ _
          refine Go.aload_n 0 dX2_acceptsBehindStrength_85 rfl rfl (?_ : Go _ _ 86 _ _ _ _)
          refine Go.iload_n 1 dX2_acceptsBehindStrength_86 rfl rfl (?_ : Go _ _ 87 _ _ _ _)
          refine Go.callV (as := [.int x1]) (st := []) mk_X2_acceptsTargetEnd wl_X2_98 shq_46 rfl rfl (Nat.le_of_ble_eq_true rfl) dX2_acceptsBehindStrength_87 h ?_
          rintro _ s11 ⟨r12, rfl, h⟩
          show Go _ _ 90 _ [.int r12] _ _
          exact Go.zret rfl h.1 dX2_acceptsBehindStrength_90 ⟨_, rfl, h.2⟩
        · have h := h.2 c9
          refine Go.iconst dX2_acceptsBehindStrength_74 k_ic_0 (?_ : Go _ _ 75 _ _ _ _)
          exact Go.zret rfl rfl dX2_acceptsBehindStrength_75 ⟨_, rfl, h⟩
    · have h := h.2 c4
      refine Go.iload_n 1 dX2_acceptsBehindStrength_20 rfl rfl (?_ : Go _ _ 21 _ _ _ _)
      refine Go.bipush dX2_acceptsBehindStrength_21 k_bi_43 (?_ : Go _ _ 23 _ _ _ _)
      refine Go.icmp_eq 32 dX2_acceptsBehindStrength_23 rfl ⟨fun c13 => ?_, fun c13 => (?_ : Go _ _ 26 _ _ _ _)⟩
      · have h := h.1 c13
        refine Go.aload_n 0 dX2_acceptsBehindStrength_32 rfl rfl (?_ : Go _ _ 33 _ _ _ _)
        refine Go.aload_n 0 dX2_acceptsBehindStrength_33 rfl rfl (?_ : Go _ _ 34 _ _ _ _)
        refine Go.getI fk_X2_56 shq_46 frq_46_8 dX2_acceptsBehindStrength_34 (?_ : Go _ _ 37 _ _ _ _)
        refine Go.putI fp_X2_118 shq_46 frq_46_10 dX2_acceptsBehindStrength_37 (?_ : Go _ _ 40 _ _ _ _)
        generalize es14 : setF s1 46 10 (sF s1 46 8) = s14
        have h := h s14 es14.symm
        refine Go.aload_n 0 dX2_acceptsBehindStrength_40 rfl rfl (?_ : Go _ _ 41 _ _ _ _)
        refine Go.iload_n 1 dX2_acceptsBehindStrength_41 rfl rfl (?_ : Go _ _ 42 _ _ _ _)
        refine Go.bipush dX2_acceptsBehindStrength_42 k_bi_45 (?_ : Go _ _ 44 _ _ _ _)
        refine Go.icmp_ne 51 dX2_acceptsBehindStrength_44 rfl ⟨fun c15 => ?_, fun c15 => (?_ : Go _ _ 47 _ _ _ _)⟩
        · have h := h.1 c15
          refine Go.iconst dX2_acceptsBehindStrength_51 k_ic_0 (?_ : Go _ _ 52 _ _ _ _)
          refine Go.putZ (by decide) fp_X2_121 shq_46 frq_46_12 dX2_acceptsBehindStrength_52 (?_ : Go _ _ 55 _ _ _ _)
          generalize es16 : setF s14 46 12 0 = s16
          have h := h s16 es16.symm
          refine Go.aload_n 0 dX2_acceptsBehindStrength_55 rfl rfl (?_ : Go _ _ 56 _ _ _ _)
          refine Go.iconst dX2_acceptsBehindStrength_56 k_ic_5 (?_ : Go _ _ 57 _ _ _ _)
          refine Go.putI fp_X2_35 shq_46 frq_46_7 dX2_acceptsBehindStrength_57 (?_ : Go _ _ 60 _ _ _ _)
          generalize es17 : setF s16 46 7 5 = s17
          have h := h s17 es17.symm
          refine Go.iconst dX2_acceptsBehindStrength_60 k_ic_1 (?_ : Go _ _ 61 _ _ _ _)
          exact Go.zret rfl rfl dX2_acceptsBehindStrength_61 ⟨_, rfl, h⟩
        · have h := h.2 c15
          refine Go.iconst dX2_acceptsBehindStrength_47 k_ic_1 (?_ : Go _ _ 48 _ _ _ _)
          refine Go.goto 52 dX2_acceptsBehindStrength_48 rfl ?_
          refine Go.putZ (by decide) fp_X2_121 shq_46 frq_46_12 dX2_acceptsBehindStrength_52 (?_ : Go _ _ 55 _ _ _ _)
          generalize es18 : setF s14 46 12 1 = s18
          have h := h s18 es18.symm
          refine Go.aload_n 0 dX2_acceptsBehindStrength_55 rfl rfl (?_ : Go _ _ 56 _ _ _ _)
          refine Go.iconst dX2_acceptsBehindStrength_56 k_ic_5 (?_ : Go _ _ 57 _ _ _ _)
          refine Go.putI fp_X2_35 shq_46 frq_46_7 dX2_acceptsBehindStrength_57 (?_ : Go _ _ 60 _ _ _ _)
          generalize es19 : setF s18 46 7 5 = s19
          have h := h s19 es19.symm
          refine Go.iconst dX2_acceptsBehindStrength_60 k_ic_1 (?_ : Go _ _ 61 _ _ _ _)
          exact Go.zret rfl rfl dX2_acceptsBehindStrength_61 ⟨_, rfl, h⟩
      · have h := h.2 c13
        refine Go.iload_n 1 dX2_acceptsBehindStrength_26 rfl rfl (?_ : Go _ _ 27 _ _ _ _)
        refine Go.bipush dX2_acceptsBehindStrength_27 k_bi_45 (?_ : Go _ _ 29 _ _ _ _)
        refine Go.icmp_ne 62 dX2_acceptsBehindStrength_29 rfl ⟨fun c20 => ?_, fun c20 => (?_ : Go _ _ 32 _ _ _ _)⟩
        · have h := h.1 c20
          refine Go.iload_n 1 dX2_acceptsBehindStrength_62 rfl rfl (?_ : Go _ _ 63 _ _ _ _)
          refine Go.bipush dX2_acceptsBehindStrength_63 k_bi_44 (?_ : Go _ _ 65 _ _ _ _)
          refine Go.icmp_eq 76 dX2_acceptsBehindStrength_65 rfl ⟨fun c21 => ?_, fun c21 => (?_ : Go _ _ 68 _ _ _ _)⟩
          · have h := h.1 c21
            refine Go.aload_n 0 dX2_acceptsBehindStrength_76 rfl rfl (?_ : Go _ _ 77 _ _ _ _)
            refine Go.aload_n 0 dX2_acceptsBehindStrength_77 rfl rfl (?_ : Go _ _ 78 _ _ _ _)
            refine Go.getI fk_X2_56 shq_46 frq_46_8 dX2_acceptsBehindStrength_78 (?_ : Go _ _ 81 _ _ _ _)
            refine Go.iconst dX2_acceptsBehindStrength_81 k_ic_0 (?_ : Go _ _ 82 _ _ _ _)
            refine Go.callV (as := [.int (sF s1 46 8), .int 0]) (st := []) mk_X2_keepTarget wl_X2_59 shq_46 rfl rfl (Nat.le_of_ble_eq_true rfl) dX2_acceptsBehindStrength_82 h ?_
            rintro _ s22 ⟨rfl, h⟩
            show Go _ _ 85 _ [] _ _
            refine Go.aload_n 0 dX2_acceptsBehindStrength_85 rfl rfl (?_ : Go _ _ 86 _ _ _ _)
            refine Go.iload_n 1 dX2_acceptsBehindStrength_86 rfl rfl (?_ : Go _ _ 87 _ _ _ _)
            refine Go.callV (as := [.int x1]) (st := []) mk_X2_acceptsTargetEnd wl_X2_98 shq_46 rfl rfl (Nat.le_of_ble_eq_true rfl) dX2_acceptsBehindStrength_87 h ?_
            rintro _ s23 ⟨r24, rfl, h⟩
            show Go _ _ 90 _ [.int r24] _ _
            exact Go.zret rfl h.1 dX2_acceptsBehindStrength_90 ⟨_, rfl, h.2⟩
          · have h := h.2 c21
            refine Go.iload_n 1 dX2_acceptsBehindStrength_68 rfl rfl (?_ : Go _ _ 69 _ _ _ _)
            refine Go.bipush dX2_acceptsBehindStrength_69 k_bi_59 (?_ : Go _ _ 71 _ _ _ _)
            refine Go.icmp_eq 76 dX2_acceptsBehindStrength_71 rfl ⟨fun c25 => ?_, fun c25 => (?_ : Go _ _ 74 _ _ _ _)⟩
            · have h := h.1 c25
              refine Go.aload_n 0 dX2_acceptsBehindStrength_76 rfl rfl (?_ : Go _ _ 77 _ _ _ _)
              refine Go.aload_n 0 dX2_acceptsBehindStrength_77 rfl rfl (?_ : Go _ _ 78 _ _ _ _)
              refine Go.getI fk_X2_56 shq_46 frq_46_8 dX2_acceptsBehindStrength_78 (?_ : Go _ _ 81 _ _ _ _)
              refine Go.iconst dX2_acceptsBehindStrength_81 k_ic_0 (?_ : Go _ _ 82 _ _ _ _)
              refine Go.callV (as := [.int (sF s1 46 8), .int 0]) (st := []) mk_X2_keepTarget wl_X2_59 shq_46 rfl rfl (Nat.le_of_ble_eq_true rfl) dX2_acceptsBehindStrength_82 h ?_
              rintro _ s26 ⟨rfl, h⟩
              show Go _ _ 85 _ [] _ _
              refine Go.aload_n 0 dX2_acceptsBehindStrength_85 rfl rfl (?_ : Go _ _ 86 _ _ _ _)
              refine Go.iload_n 1 dX2_acceptsBehindStrength_86 rfl rfl (?_ : Go _ _ 87 _ _ _ _)
              refine Go.callV (as := [.int x1]) (st := []) mk_X2_acceptsTargetEnd wl_X2_98 shq_46 rfl rfl (Nat.le_of_ble_eq_true rfl) dX2_acceptsBehindStrength_87 h ?_
              rintro _ s27 ⟨r28, rfl, h⟩
              show Go _ _ 90 _ [.int r28] _ _
              exact Go.zret rfl h.1 dX2_acceptsBehindStrength_90 ⟨_, rfl, h.2⟩
            · have h := h.2 c25
              refine Go.iconst dX2_acceptsBehindStrength_74 k_ic_0 (?_ : Go _ _ 75 _ _ _ _)
              exact Go.zret rfl rfl dX2_acceptsBehindStrength_75 ⟨_, rfl, h⟩
        · have h := h.2 c20
          refine Go.aload_n 0 dX2_acceptsBehindStrength_32 rfl rfl (?_ : Go _ _ 33 _ _ _ _)
          refine Go.aload_n 0 dX2_acceptsBehindStrength_33 rfl rfl (?_ : Go _ _ 34 _ _ _ _)
          refine Go.getI fk_X2_56 shq_46 frq_46_8 dX2_acceptsBehindStrength_34 (?_ : Go _ _ 37 _ _ _ _)
          refine Go.putI fp_X2_118 shq_46 frq_46_10 dX2_acceptsBehindStrength_37 (?_ : Go _ _ 40 _ _ _ _)
          generalize es29 : setF s1 46 10 (sF s1 46 8) = s29
          have h := h s29 es29.symm
          refine Go.aload_n 0 dX2_acceptsBehindStrength_40 rfl rfl (?_ : Go _ _ 41 _ _ _ _)
          refine Go.iload_n 1 dX2_acceptsBehindStrength_41 rfl rfl (?_ : Go _ _ 42 _ _ _ _)
          refine Go.bipush dX2_acceptsBehindStrength_42 k_bi_45 (?_ : Go _ _ 44 _ _ _ _)
          refine Go.icmp_ne 51 dX2_acceptsBehindStrength_44 rfl ⟨fun c30 => ?_, fun c30 => (?_ : Go _ _ 47 _ _ _ _)⟩
          · have h := h.1 c30
            refine Go.iconst dX2_acceptsBehindStrength_51 k_ic_0 (?_ : Go _ _ 52 _ _ _ _)
            refine Go.putZ (by decide) fp_X2_121 shq_46 frq_46_12 dX2_acceptsBehindStrength_52 (?_ : Go _ _ 55 _ _ _ _)
            generalize es31 : setF s29 46 12 0 = s31
            have h := h s31 es31.symm
            refine Go.aload_n 0 dX2_acceptsBehindStrength_55 rfl rfl (?_ : Go _ _ 56 _ _ _ _)
            refine Go.iconst dX2_acceptsBehindStrength_56 k_ic_5 (?_ : Go _ _ 57 _ _ _ _)
            refine Go.putI fp_X2_35 shq_46 frq_46_7 dX2_acceptsBehindStrength_57 (?_ : Go _ _ 60 _ _ _ _)
            generalize es32 : setF s31 46 7 5 = s32
            have h := h s32 es32.symm
            refine Go.iconst dX2_acceptsBehindStrength_60 k_ic_1 (?_ : Go _ _ 61 _ _ _ _)
            exact Go.zret rfl rfl dX2_acceptsBehindStrength_61 ⟨_, rfl, h⟩
          · have h := h.2 c30
            refine Go.iconst dX2_acceptsBehindStrength_47 k_ic_1 (?_ : Go _ _ 48 _ _ _ _)
            refine Go.goto 52 dX2_acceptsBehindStrength_48 rfl ?_
            refine Go.putZ (by decide) fp_X2_121 shq_46 frq_46_12 dX2_acceptsBehindStrength_52 (?_ : Go _ _ 55 _ _ _ _)
            generalize es33 : setF s29 46 12 1 = s33
            have h := h s33 es33.symm
            refine Go.aload_n 0 dX2_acceptsBehindStrength_55 rfl rfl (?_ : Go _ _ 56 _ _ _ _)
            refine Go.iconst dX2_acceptsBehindStrength_56 k_ic_5 (?_ : Go _ _ 57 _ _ _ _)
            refine Go.putI fp_X2_35 shq_46 frq_46_7 dX2_acceptsBehindStrength_57 (?_ : Go _ _ 60 _ _ _ _)
            generalize es34 : setF s33 46 7 5 = s34
            have h := h s34 es34.symm
            refine Go.iconst dX2_acceptsBehindStrength_60 k_ic_1 (?_ : Go _ _ 61 _ _ _ _)
            exact Go.zret rfl rfl dX2_acceptsBehindStrength_61 ⟨_, rfl, h⟩
  · have h := h.2 c3
    refine Go.iconst dX2_acceptsBehindStrength_11 k_ic_1 (?_ : Go _ _ 12 _ _ _ _)
    exact Go.zret rfl rfl dX2_acceptsBehindStrength_12 ⟨_, rfl, h⟩
theorem cgX2_acceptsBehindStrength {d : Nat} {σ : St} {x1 : Int32} {K : Int32 → St → Prop} (h : CallI d mX2_acceptsDigit [.ref 46, .int x1, .int 99, .int 4] σ (fun r2 s1 => (r2 = 0 → (¬ (sF s1 46 11) = 0 → (x1 = 44 → CallU d mX2_keepTarget [.ref 46, .int (sF s1 46 8), .int 0] s1 (fun s6 => CallI d mX2_acceptsTargetEnd [.ref 46, .int x1] s6 (fun r8 s7 => (narrow .boolean (.int r8) = .int r8) ∧ K r8 s7))) ∧ (¬ x1 = 44 → (x1 = 59 → CallU d mX2_keepTarget [.ref 46, .int (sF s1 46 8), .int 0] s1 (fun s10 => CallI d mX2_acceptsTargetEnd [.ref 46, .int x1] s10 (fun r12 s11 => (narrow .boolean (.int r12) = .int r12) ∧ K r12 s11))) ∧ (¬ x1 = 59 → K 0 s1))) ∧ ((sF s1 46 11) = 0 → (x1 = 43 → ∀ s14, s14 = setF s1 46 10 (sF s1 46 8) → (¬ x1 = 45 → ∀ s16, s16 = setF s14 46 12 0 → ∀ s17, s17 = setF s16 46 7 5 → K 1 s17) ∧ (x1 = 45 → ∀ s18, s18 = setF s14 46 12 1 → ∀ s19, s19 = setF s18 46 7 5 → K 1 s19)) ∧ (¬ x1 = 43 → (¬ x1 = 45 → (x1 = 44 → CallU d mX2_keepTarget [.ref 46, .int (sF s1 46 8), .int 0] s1 (fun s22 => CallI d mX2_acceptsTargetEnd [.ref 46, .int x1] s22 (fun r24 s23 => (narrow .boolean (.int r24) = .int r24) ∧ K r24 s23))) ∧ (¬ x1 = 44 → (x1 = 59 → CallU d mX2_keepTarget [.ref 46, .int (sF s1 46 8), .int 0] s1 (fun s26 => CallI d mX2_acceptsTargetEnd [.ref 46, .int x1] s26 (fun r28 s27 => (narrow .boolean (.int r28) = .int r28) ∧ K r28 s27))) ∧ (¬ x1 = 59 → K 0 s1))) ∧ (x1 = 45 → ∀ s29, s29 = setF s1 46 10 (sF s1 46 8) → (¬ x1 = 45 → ∀ s31, s31 = setF s29 46 12 0 → ∀ s32, s32 = setF s31 46 7 5 → K 1 s32) ∧ (x1 = 45 → ∀ s33, s33 = setF s29 46 12 1 → ∀ s34, s34 = setF s33 46 7 5 → K 1 s34))))) ∧ (¬ r2 = 0 → K 1 s1))) : CallI (d + 1) mX2_acceptsBehindStrength [.ref 46, .int x1] σ K := Call_of_Go (by decide +kernel) (ls := [.ref 46, .int x1]) rfl (Nat.le_of_ble_eq_true rfl) (sgX2_acceptsBehindStrength_0 h)
set_option maxHeartbeats 4000000 in
set_option maxRecDepth 100000 in
theorem sgX2_acceptsMovement_0 {d : Nat} {σ : St} {x1 : Int32} {K : Int32 → St → Prop} (h : CallI d mX5_isWithin [.int (x1 - 48), .int 1, .int 5] σ (fun r2 s1 => (¬ r2 = 0 → ((sF s1 46 12) = 0 → CallU d mX2_keepTarget [.ref 46, .int (sF s1 46 10), .int (x1 - 48)] s1 (fun s5 => ∀ s6, s6 = setF s5 46 7 6 → K 1 s6)) ∧ (¬ (sF s1 46 12) = 0 → CallU d mX2_keepTarget [.ref 46, .int (sF s1 46 10), .int (-(x1 - 48))] s1 (fun s7 => ∀ s8, s8 = setF s7 46 7 6 → K 1 s8))) ∧ (r2 = 0 → K 0 s1))) : Go mX2_acceptsMovement (d + 1) 0 [.ref 46, .int x1, .null] [] σ (QI K) := by
  refine Go.iload_n 1 dX2_acceptsMovement_0 rfl rfl (?_ : Go _ _ 1 _ _ _ _)
  refine Go.bipush dX2_acceptsMovement_1 k_bi_48 (?_ : Go _ _ 3 _ _ _ _)
  refine Go.isub dX2_acceptsMovement_3 (?_ : Go _ _ 4 _ _ _ _)
  refine Go.istore_n 2 dX2_acceptsMovement_4 rfl (by decide) rfl rfl (?_ : Go _ _ 5 [.ref 46, .int x1, .int (x1 - 48)] _ _ _)
  refine Go.iload_n 2 dX2_acceptsMovement_5 rfl rfl (?_ : Go _ _ 6 _ _ _ _)
  refine Go.iconst dX2_acceptsMovement_6 k_ic_1 (?_ : Go _ _ 7 _ _ _ _)
  refine Go.iconst dX2_acceptsMovement_7 k_ic_5 (?_ : Go _ _ 8 _ _ _ _)
  refine Go.callSN (as := [.int (x1 - 48), .int 1, .int 5]) (st := []) mk_X5_isWithin wn_X2_111 rfl rfl (Nat.le_of_ble_eq_true rfl) dX2_acceptsMovement_8 h ?_
  rintro _ s1 ⟨r2, rfl, h⟩
  show Go _ _ 11 _ [.int r2] _ _
  refine Go.if_ne 16 dX2_acceptsMovement_11 rfl ⟨fun c3 => ?_, fun c3 => (?_ : Go _ _ 14 _ _ _ _)⟩
  · have h := h.1 c3
    refine Go.aload_n 0 dX2_acceptsMovement_16 rfl rfl (?_ : Go _ _ 17 _ _ _ _)
    refine Go.aload_n 0 dX2_acceptsMovement_17 rfl rfl (?_ : Go _ _ 18 _ _ _ _)
    refine Go.getI fk_X2_118 shq_46 frq_46_10 dX2_acceptsMovement_18 (?_ : Go _ _ 21 _ _ _ _)
    refine Go.aload_n 0 dX2_acceptsMovement_21 rfl rfl (?_ : Go _ _ 22 _ _ _ _)
    refine Go.getI fk_X2_121 shq_46 frq_46_12 dX2_acceptsMovement_22 (?_ : Go _ _ 25 _ _ _ _)
    refine Go.if_eq 33 dX2_acceptsMovement_25 rfl ⟨fun c4 => ?_, fun c4 => (?_ : Go _ _ 28 _ _ _ _)⟩
    · have h := h.1 c4
      refine Go.iload_n 2 dX2_acceptsMovement_33 rfl rfl (?_ : Go _ _ 34 _ _ _ _)
      refine Go.callV (as := [.int (sF s1 46 10), .int (x1 - 48)]) (st := []) mk_X2_keepTarget wl_X2_59 shq_46 rfl rfl (Nat.le_of_ble_eq_true rfl) dX2_acceptsMovement_34 h ?_
      rintro _ s5 ⟨rfl, h⟩
      show Go _ _ 37 _ [] _ _
      refine Go.aload_n 0 dX2_acceptsMovement_37 rfl rfl (?_ : Go _ _ 38 _ _ _ _)
      refine Go.bipush dX2_acceptsMovement_38 k_bi_6 (?_ : Go _ _ 40 _ _ _ _)
      refine Go.putI fp_X2_35 shq_46 frq_46_7 dX2_acceptsMovement_40 (?_ : Go _ _ 43 _ _ _ _)
      generalize es6 : setF s5 46 7 6 = s6
      have h := h s6 es6.symm
      refine Go.iconst dX2_acceptsMovement_43 k_ic_1 (?_ : Go _ _ 44 _ _ _ _)
      exact Go.zret rfl rfl dX2_acceptsMovement_44 ⟨_, rfl, h⟩
    · have h := h.2 c4
      refine Go.iload_n 2 dX2_acceptsMovement_28 rfl rfl (?_ : Go _ _ 29 _ _ _ _)
      refine Go.ineg dX2_acceptsMovement_29 (?_ : Go _ _ 30 _ _ _ _)
      refine Go.goto 34 dX2_acceptsMovement_30 rfl ?_
      refine Go.callV (as := [.int (sF s1 46 10), .int (-(x1 - 48))]) (st := []) mk_X2_keepTarget wl_X2_59 shq_46 rfl rfl (Nat.le_of_ble_eq_true rfl) dX2_acceptsMovement_34 h ?_
      rintro _ s7 ⟨rfl, h⟩
      show Go _ _ 37 _ [] _ _
      refine Go.aload_n 0 dX2_acceptsMovement_37 rfl rfl (?_ : Go _ _ 38 _ _ _ _)
      refine Go.bipush dX2_acceptsMovement_38 k_bi_6 (?_ : Go _ _ 40 _ _ _ _)
      refine Go.putI fp_X2_35 shq_46 frq_46_7 dX2_acceptsMovement_40 (?_ : Go _ _ 43 _ _ _ _)
      generalize es8 : setF s7 46 7 6 = s8
      have h := h s8 es8.symm
      refine Go.iconst dX2_acceptsMovement_43 k_ic_1 (?_ : Go _ _ 44 _ _ _ _)
      exact Go.zret rfl rfl dX2_acceptsMovement_44 ⟨_, rfl, h⟩
  · have h := h.2 c3
    refine Go.iconst dX2_acceptsMovement_14 k_ic_0 (?_ : Go _ _ 15 _ _ _ _)
    exact Go.zret rfl rfl dX2_acceptsMovement_15 ⟨_, rfl, h⟩
theorem cgX2_acceptsMovement {d : Nat} {σ : St} {x1 : Int32} {K : Int32 → St → Prop} (h : CallI d mX5_isWithin [.int (x1 - 48), .int 1, .int 5] σ (fun r2 s1 => (¬ r2 = 0 → ((sF s1 46 12) = 0 → CallU d mX2_keepTarget [.ref 46, .int (sF s1 46 10), .int (x1 - 48)] s1 (fun s5 => ∀ s6, s6 = setF s5 46 7 6 → K 1 s6)) ∧ (¬ (sF s1 46 12) = 0 → CallU d mX2_keepTarget [.ref 46, .int (sF s1 46 10), .int (-(x1 - 48))] s1 (fun s7 => ∀ s8, s8 = setF s7 46 7 6 → K 1 s8))) ∧ (r2 = 0 → K 0 s1))) : CallI (d + 1) mX2_acceptsMovement [.ref 46, .int x1] σ K := Call_of_Go (by decide +kernel) (ls := [.ref 46, .int x1, .null]) rfl (Nat.le_of_ble_eq_true rfl) (sgX2_acceptsMovement_0 h)
set_option maxHeartbeats 4000000 in
set_option maxRecDepth 100000 in
theorem sgX2_acceptsTargetEnd_0 {d : Nat} {σ : St} {x1 : Int32} {K : Int32 → St → Prop} (h : (¬ x1 = 44 → ∀ s2, s2 = setF σ 46 7 7 → (x1 = 44 → K 1 s2) ∧ (¬ x1 = 44 → (¬ x1 = 59 → K 0 s2) ∧ (x1 = 59 → K 1 s2))) ∧ (x1 = 44 → ∀ s5, s5 = setF σ 46 7 0 → (x1 = 44 → K 1 s5) ∧ (¬ x1 = 44 → (¬ x1 = 59 → K 0 s5) ∧ (x1 = 59 → K 1 s5)))) : Go mX2_acceptsTargetEnd (d + 1) 0 [.ref 46, .int x1] [] σ (QI K) := by
  refine Go.aload_n 0 dX2_acceptsTargetEnd_0 rfl rfl (?_ : Go _ _ 1 _ _ _ _)
  refine Go.iload_n 1 dX2_acceptsTargetEnd_1 rfl rfl (?_ : Go _ _ 2 _ _ _ _)
  refine Go.bipush dX2_acceptsTargetEnd_2 k_bi_44 (?_ : Go _ _ 4 _ _ _ _)
  refine Go.icmp_ne 11 dX2_acceptsTargetEnd_4 rfl ⟨fun c1 => ?_, fun c1 => (?_ : Go _ _ 7 _ _ _ _)⟩
  · have h := h.1 c1
    refine Go.bipush dX2_acceptsTargetEnd_11 k_bi_7 (?_ : Go _ _ 13 _ _ _ _)
    refine Go.putI fp_X2_35 shq_46 frq_46_7 dX2_acceptsTargetEnd_13 (?_ : Go _ _ 16 _ _ _ _)
    generalize es2 : setF σ 46 7 7 = s2
    have h := h s2 es2.symm
    refine Go.iload_n 1 dX2_acceptsTargetEnd_16 rfl rfl (?_ : Go _ _ 17 _ _ _ _)
    refine Go.bipush dX2_acceptsTargetEnd_17 k_bi_44 (?_ : Go _ _ 19 _ _ _ _)
    refine Go.icmp_eq 28 dX2_acceptsTargetEnd_19 rfl ⟨fun c3 => ?_, fun c3 => (?_ : Go _ _ 22 _ _ _ _)⟩
    · have h := h.1 c3
      refine Go.iconst dX2_acceptsTargetEnd_28 k_ic_1 (?_ : Go _ _ 29 _ _ _ _)
      refine Go.goto 33 dX2_acceptsTargetEnd_29 rfl ?_
      exact Go.zret rfl rfl dX2_acceptsTargetEnd_33 ⟨_, rfl, h⟩
    · have h := h.2 c3
      refine Go.iload_n 1 dX2_acceptsTargetEnd_22 rfl rfl (?_ : Go _ _ 23 _ _ _ _)
      refine Go.bipush dX2_acceptsTargetEnd_23 k_bi_59 (?_ : Go _ _ 25 _ _ _ _)
      refine Go.icmp_ne 32 dX2_acceptsTargetEnd_25 rfl ⟨fun c4 => ?_, fun c4 => (?_ : Go _ _ 28 _ _ _ _)⟩
      · have h := h.1 c4
        refine Go.iconst dX2_acceptsTargetEnd_32 k_ic_0 (?_ : Go _ _ 33 _ _ _ _)
        exact Go.zret rfl rfl dX2_acceptsTargetEnd_33 ⟨_, rfl, h⟩
      · have h := h.2 c4
        refine Go.iconst dX2_acceptsTargetEnd_28 k_ic_1 (?_ : Go _ _ 29 _ _ _ _)
        refine Go.goto 33 dX2_acceptsTargetEnd_29 rfl ?_
        exact Go.zret rfl rfl dX2_acceptsTargetEnd_33 ⟨_, rfl, h⟩
  · have h := h.2 c1
    refine Go.iconst dX2_acceptsTargetEnd_7 k_ic_0 (?_ : Go _ _ 8 _ _ _ _)
    refine Go.goto 13 dX2_acceptsTargetEnd_8 rfl ?_
    refine Go.putI fp_X2_35 shq_46 frq_46_7 dX2_acceptsTargetEnd_13 (?_ : Go _ _ 16 _ _ _ _)
    generalize es5 : setF σ 46 7 0 = s5
    have h := h s5 es5.symm
    refine Go.iload_n 1 dX2_acceptsTargetEnd_16 rfl rfl (?_ : Go _ _ 17 _ _ _ _)
    refine Go.bipush dX2_acceptsTargetEnd_17 k_bi_44 (?_ : Go _ _ 19 _ _ _ _)
    refine Go.icmp_eq 28 dX2_acceptsTargetEnd_19 rfl ⟨fun c6 => ?_, fun c6 => (?_ : Go _ _ 22 _ _ _ _)⟩
    · have h := h.1 c6
      refine Go.iconst dX2_acceptsTargetEnd_28 k_ic_1 (?_ : Go _ _ 29 _ _ _ _)
      refine Go.goto 33 dX2_acceptsTargetEnd_29 rfl ?_
      exact Go.zret rfl rfl dX2_acceptsTargetEnd_33 ⟨_, rfl, h⟩
    · have h := h.2 c6
      refine Go.iload_n 1 dX2_acceptsTargetEnd_22 rfl rfl (?_ : Go _ _ 23 _ _ _ _)
      refine Go.bipush dX2_acceptsTargetEnd_23 k_bi_59 (?_ : Go _ _ 25 _ _ _ _)
      refine Go.icmp_ne 32 dX2_acceptsTargetEnd_25 rfl ⟨fun c7 => ?_, fun c7 => (?_ : Go _ _ 28 _ _ _ _)⟩
      · have h := h.1 c7
        refine Go.iconst dX2_acceptsTargetEnd_32 k_ic_0 (?_ : Go _ _ 33 _ _ _ _)
        exact Go.zret rfl rfl dX2_acceptsTargetEnd_33 ⟨_, rfl, h⟩
      · have h := h.2 c7
        refine Go.iconst dX2_acceptsTargetEnd_28 k_ic_1 (?_ : Go _ _ 29 _ _ _ _)
        refine Go.goto 33 dX2_acceptsTargetEnd_29 rfl ?_
        exact Go.zret rfl rfl dX2_acceptsTargetEnd_33 ⟨_, rfl, h⟩
theorem cgX2_acceptsTargetEnd {d : Nat} {σ : St} {x1 : Int32} {K : Int32 → St → Prop} (h : (¬ x1 = 44 → ∀ s2, s2 = setF σ 46 7 7 → (x1 = 44 → K 1 s2) ∧ (¬ x1 = 44 → (¬ x1 = 59 → K 0 s2) ∧ (x1 = 59 → K 1 s2))) ∧ (x1 = 44 → ∀ s5, s5 = setF σ 46 7 0 → (x1 = 44 → K 1 s5) ∧ (¬ x1 = 44 → (¬ x1 = 59 → K 0 s5) ∧ (x1 = 59 → K 1 s5)))) : CallI (d + 1) mX2_acceptsTargetEnd [.ref 46, .int x1] σ K := Call_of_Go (by decide +kernel) (ls := [.ref 46, .int x1]) rfl (Nat.le_of_ble_eq_true rfl) (sgX2_acceptsTargetEnd_0 h)
set_option maxHeartbeats 4000000 in
set_option maxRecDepth 100000 in
theorem sgX2_acceptsSlash_0 {d : Nat} {σ : St} {x1 : Int32} {K : Int32 → St → Prop} (h : ∀ s1, s1 = setF σ 46 7 7 → (¬ x1 = 47 → K 0 s1) ∧ (x1 = 47 → (4 ≤ (sF s1 46 6) → K 0 s1) ∧ (¬ 4 ≤ (sF s1 46 6) → K 1 s1))) : Go mX2_acceptsSlash (d + 1) 0 [.ref 46, .int x1] [] σ (QI K) := by
  refine Go.aload_n 0 dX2_acceptsSlash_0 rfl rfl (?_ : Go _ _ 1 _ _ _ _)
  refine Go.bipush dX2_acceptsSlash_1 k_bi_7 (?_ : Go _ _ 3 _ _ _ _)
  refine Go.putI fp_X2_35 shq_46 frq_46_7 dX2_acceptsSlash_3 (?_ : Go _ _ 6 _ _ _ _)
  generalize es1 : setF σ 46 7 7 = s1
  have h := h s1 es1.symm
  refine Go.iload_n 1 dX2_acceptsSlash_6 rfl rfl (?_ : Go _ _ 7 _ _ _ _)
  refine Go.bipush dX2_acceptsSlash_7 k_bi_47 (?_ : Go _ _ 9 _ _ _ _)
  refine Go.icmp_ne 24 dX2_acceptsSlash_9 rfl ⟨fun c2 => ?_, fun c2 => (?_ : Go _ _ 12 _ _ _ _)⟩
  · have h := h.1 c2
    refine Go.iconst dX2_acceptsSlash_24 k_ic_0 (?_ : Go _ _ 25 _ _ _ _)
    exact Go.zret rfl rfl dX2_acceptsSlash_25 ⟨_, rfl, h⟩
  · have h := h.2 c2
    refine Go.aload_n 0 dX2_acceptsSlash_12 rfl rfl (?_ : Go _ _ 13 _ _ _ _)
    refine Go.getI fk_X2_32 shq_46 frq_46_6 dX2_acceptsSlash_13 (?_ : Go _ _ 16 _ _ _ _)
    refine Go.iconst dX2_acceptsSlash_16 k_ic_4 (?_ : Go _ _ 17 _ _ _ _)
    refine Go.icmp_ge 24 dX2_acceptsSlash_17 rfl ⟨fun c3 => ?_, fun c3 => (?_ : Go _ _ 20 _ _ _ _)⟩
    · have h := h.1 c3
      refine Go.iconst dX2_acceptsSlash_24 k_ic_0 (?_ : Go _ _ 25 _ _ _ _)
      exact Go.zret rfl rfl dX2_acceptsSlash_25 ⟨_, rfl, h⟩
    · have h := h.2 c3
      refine Go.iconst dX2_acceptsSlash_20 k_ic_1 (?_ : Go _ _ 21 _ _ _ _)
      refine Go.goto 25 dX2_acceptsSlash_21 rfl ?_
      exact Go.zret rfl rfl dX2_acceptsSlash_25 ⟨_, rfl, h⟩
theorem cgX2_acceptsSlash {d : Nat} {σ : St} {x1 : Int32} {K : Int32 → St → Prop} (h : ∀ s1, s1 = setF σ 46 7 7 → (¬ x1 = 47 → K 0 s1) ∧ (x1 = 47 → (4 ≤ (sF s1 46 6) → K 0 s1) ∧ (¬ 4 ≤ (sF s1 46 6) → K 1 s1))) : CallI (d + 1) mX2_acceptsSlash [.ref 46, .int x1] σ K := Call_of_Go (by decide +kernel) (ls := [.ref 46, .int x1]) rfl (Nat.le_of_ble_eq_true rfl) (sgX2_acceptsSlash_0 h)
set_option maxHeartbeats 4000000 in
set_option maxRecDepth 100000 in
theorem sgX2_keepTarget_0 {d : Nat} {σ : St} {x1 : Int32} {x2 : Int32} {K : St → Prop} (h : ((sF σ 46 5) < 0 → K σ) ∧ (¬ (sF σ 46 5) < 0 → (12 ≤ (sF σ 46 5) → K σ) ∧ (¬ 12 ≤ (sF σ 46 5) → vp_in (sF σ 46 5) 12 ∧ ∀ s3, s3 = setA σ 47 (ix (sF σ 46 5)) (sF σ 46 9) → vp_in (sF s3 46 5) 12 ∧ ∀ s4, s4 = setA s3 48 (ix (sF s3 46 5)) x1 → vp_in (sF s4 46 5) 12 ∧ ∀ s5, s5 = setA s4 49 (ix (sF s4 46 5)) x2 → vp_in (sF s5 46 5) 12 ∧ ∀ s6, s6 = setA s5 50 (ix (sF s5 46 5)) (nbo (sF s5 46 11)) → ∀ s7, s7 = setF s6 46 5 ((sF s6 46 5) + 1) → K s7))) : Go mX2_keepTarget (d + 1) 0 [.ref 46, .int x1, .int x2] [] σ (QU K) := by
  refine Go.aload_n 0 dX2_keepTarget_0 rfl rfl (?_ : Go _ _ 1 _ _ _ _)
  refine Go.getI fk_X2_28 shq_46 frq_46_5 dX2_keepTarget_1 (?_ : Go _ _ 4 _ _ _ _)
  refine Go.if_lt 72 dX2_keepTarget_4 rfl ⟨fun c1 => ?_, fun c1 => (?_ : Go _ _ 7 _ _ _ _)⟩
  · have h := h.1 c1
    exact Go.vret rfl dX2_keepTarget_72 ⟨rfl, h⟩
  · have h := h.2 c1
    refine Go.aload_n 0 dX2_keepTarget_7 rfl rfl (?_ : Go _ _ 8 _ _ _ _)
    refine Go.getI fk_X2_28 shq_46 frq_46_5 dX2_keepTarget_8 (?_ : Go _ _ 11 _ _ _ _)
    refine Go.bipush dX2_keepTarget_11 k_bi_12 (?_ : Go _ _ 13 _ _ _ _)
    refine Go.icmp_ge 72 dX2_keepTarget_13 rfl ⟨fun c2 => ?_, fun c2 => (?_ : Go _ _ 16 _ _ _ _)⟩
    · have h := h.1 c2
      exact Go.vret rfl dX2_keepTarget_72 ⟨rfl, h⟩
    · have h := h.2 c2
      refine Go.aload_n 0 dX2_keepTarget_16 rfl rfl (?_ : Go _ _ 17 _ _ _ _)
      refine Go.getR fk_X2_11 shq_46 frq_46_0 dX2_keepTarget_17 (?_ : Go _ _ 20 _ _ _ _)
      refine Go.aload_n 0 dX2_keepTarget_20 rfl rfl (?_ : Go _ _ 21 _ _ _ _)
      refine Go.getI fk_X2_28 shq_46 frq_46_5 dX2_keepTarget_21 (?_ : Go _ _ 24 _ _ _ _)
      refine Go.aload_n 0 dX2_keepTarget_24 rfl rfl (?_ : Go _ _ 25 _ _ _ _)
      refine Go.getI fk_X2_115 shq_46 frq_46_9 dX2_keepTarget_25 (?_ : Go _ _ 28 _ _ _ _)
      refine Go.iast shq_47 dX2_keepTarget_28 ⟨h.1, (?_ : Go _ _ 29 _ _ _ _)⟩
      generalize es3 : setA σ 47 (ix (sF σ 46 5)) (sF σ 46 9) = s3
      have h := h.2 s3 es3.symm
      refine Go.aload_n 0 dX2_keepTarget_29 rfl rfl (?_ : Go _ _ 30 _ _ _ _)
      refine Go.getR fk_X2_15 shq_46 frq_46_1 dX2_keepTarget_30 (?_ : Go _ _ 33 _ _ _ _)
      refine Go.aload_n 0 dX2_keepTarget_33 rfl rfl (?_ : Go _ _ 34 _ _ _ _)
      refine Go.getI fk_X2_28 shq_46 frq_46_5 dX2_keepTarget_34 (?_ : Go _ _ 37 _ _ _ _)
      refine Go.iload_n 1 dX2_keepTarget_37 rfl rfl (?_ : Go _ _ 38 _ _ _ _)
      refine Go.iast shq_48 dX2_keepTarget_38 ⟨h.1, (?_ : Go _ _ 39 _ _ _ _)⟩
      generalize es4 : setA s3 48 (ix (sF s3 46 5)) x1 = s4
      have h := h.2 s4 es4.symm
      refine Go.aload_n 0 dX2_keepTarget_39 rfl rfl (?_ : Go _ _ 40 _ _ _ _)
      refine Go.getR fk_X2_18 shq_46 frq_46_2 dX2_keepTarget_40 (?_ : Go _ _ 43 _ _ _ _)
      refine Go.aload_n 0 dX2_keepTarget_43 rfl rfl (?_ : Go _ _ 44 _ _ _ _)
      refine Go.getI fk_X2_28 shq_46 frq_46_5 dX2_keepTarget_44 (?_ : Go _ _ 47 _ _ _ _)
      refine Go.iload_n 2 dX2_keepTarget_47 rfl rfl (?_ : Go _ _ 48 _ _ _ _)
      refine Go.iast shq_49 dX2_keepTarget_48 ⟨h.1, (?_ : Go _ _ 49 _ _ _ _)⟩
      generalize es5 : setA s4 49 (ix (sF s4 46 5)) x2 = s5
      have h := h.2 s5 es5.symm
      refine Go.aload_n 0 dX2_keepTarget_49 rfl rfl (?_ : Go _ _ 50 _ _ _ _)
      refine Go.getR fk_X2_21 shq_46 frq_46_3 dX2_keepTarget_50 (?_ : Go _ _ 53 _ _ _ _)
      refine Go.aload_n 0 dX2_keepTarget_53 rfl rfl (?_ : Go _ _ 54 _ _ _ _)
      refine Go.getI fk_X2_28 shq_46 frq_46_5 dX2_keepTarget_54 (?_ : Go _ _ 57 _ _ _ _)
      refine Go.aload_n 0 dX2_keepTarget_57 rfl rfl (?_ : Go _ _ 58 _ _ _ _)
      refine Go.getI fk_X2_107 shq_46 frq_46_11 dX2_keepTarget_58 (?_ : Go _ _ 61 _ _ _ _)
      refine Go.zast shq_50 dX2_keepTarget_61 ⟨h.1, (?_ : Go _ _ 62 _ _ _ _)⟩
      generalize es6 : setA s5 50 (ix (sF s5 46 5)) (nbo (sF s5 46 11)) = s6
      have h := h.2 s6 es6.symm
      refine Go.aload_n 0 dX2_keepTarget_62 rfl rfl (?_ : Go _ _ 63 _ _ _ _)
      refine Go.dup dX2_keepTarget_63 rfl (?_ : Go _ _ 64 _ _ _ _)
      refine Go.getI fk_X2_28 shq_46 frq_46_5 dX2_keepTarget_64 (?_ : Go _ _ 67 _ _ _ _)
      refine Go.iconst dX2_keepTarget_67 k_ic_1 (?_ : Go _ _ 68 _ _ _ _)
      refine Go.iadd dX2_keepTarget_68 (?_ : Go _ _ 69 _ _ _ _)
      refine Go.putI fp_X2_28 shq_46 frq_46_5 dX2_keepTarget_69 (?_ : Go _ _ 72 _ _ _ _)
      generalize es7 : setF s6 46 5 ((sF s6 46 5) + 1) = s7
      have h := h s7 es7.symm
      exact Go.vret rfl dX2_keepTarget_72 ⟨rfl, h⟩
theorem cgX2_keepTarget {d : Nat} {σ : St} {x1 : Int32} {x2 : Int32} {K : St → Prop} (h : ((sF σ 46 5) < 0 → K σ) ∧ (¬ (sF σ 46 5) < 0 → (12 ≤ (sF σ 46 5) → K σ) ∧ (¬ 12 ≤ (sF σ 46 5) → vp_in (sF σ 46 5) 12 ∧ ∀ s3, s3 = setA σ 47 (ix (sF σ 46 5)) (sF σ 46 9) → vp_in (sF s3 46 5) 12 ∧ ∀ s4, s4 = setA s3 48 (ix (sF s3 46 5)) x1 → vp_in (sF s4 46 5) 12 ∧ ∀ s5, s5 = setA s4 49 (ix (sF s4 46 5)) x2 → vp_in (sF s5 46 5) 12 ∧ ∀ s6, s6 = setA s5 50 (ix (sF s5 46 5)) (nbo (sF s5 46 11)) → ∀ s7, s7 = setF s6 46 5 ((sF s6 46 5) + 1) → K s7))) : CallU (d + 1) mX2_keepTarget [.ref 46, .int x1, .int x2] σ K := Call_of_Go (by decide +kernel) (ls := [.ref 46, .int x1, .int x2]) rfl (Nat.le_of_ble_eq_true rfl) (sgX2_keepTarget_0 h)
set_option maxHeartbeats 4000000 in
set_option maxRecDepth 100000 in
theorem sgX2_keepSpacing_0 {d : Nat} {σ : St} {K : Int32 → St → Prop} (h : ((sF σ 46 6) < 0 → K 0 σ) ∧ (¬ (sF σ 46 6) < 0 → ((sF σ 46 6) < 4 → vp_in (sF σ 46 6) 4 ∧ ∀ s3, s3 = setA σ 51 (ix (sF σ 46 6)) (sF σ 46 8) → ∀ s4, s4 = setF s3 46 6 ((sF s3 46 6) + 1) → K 1 s4) ∧ (¬ (sF σ 46 6) < 4 → K 0 σ))) : Go mX2_keepSpacing (d + 1) 0 [.ref 46] [] σ (QI K) := by
  refine Go.aload_n 0 dX2_keepSpacing_0 rfl rfl (?_ : Go _ _ 1 _ _ _ _)
  refine Go.getI fk_X2_32 shq_46 frq_46_6 dX2_keepSpacing_1 (?_ : Go _ _ 4 _ _ _ _)
  refine Go.if_lt 15 dX2_keepSpacing_4 rfl ⟨fun c1 => ?_, fun c1 => (?_ : Go _ _ 7 _ _ _ _)⟩
  · have h := h.1 c1
    refine Go.iconst dX2_keepSpacing_15 k_ic_0 (?_ : Go _ _ 16 _ _ _ _)
    exact Go.zret rfl rfl dX2_keepSpacing_16 ⟨_, rfl, h⟩
  · have h := h.2 c1
    refine Go.aload_n 0 dX2_keepSpacing_7 rfl rfl (?_ : Go _ _ 8 _ _ _ _)
    refine Go.getI fk_X2_32 shq_46 frq_46_6 dX2_keepSpacing_8 (?_ : Go _ _ 11 _ _ _ _)
    refine Go.iconst dX2_keepSpacing_11 k_ic_4 (?_ : Go _ _ 12 _ _ _ _)
    refine Go.icmp_lt 17 dX2_keepSpacing_12 rfl ⟨fun c2 => ?_, fun c2 => (?_ : Go _ _ 15 _ _ _ _)⟩
    · have h := h.1 c2
      refine Go.aload_n 0 dX2_keepSpacing_17 rfl rfl (?_ : Go _ _ 18 _ _ _ _)
      refine Go.getR fk_X2_25 shq_46 frq_46_4 dX2_keepSpacing_18 (?_ : Go _ _ 21 _ _ _ _)
      refine Go.aload_n 0 dX2_keepSpacing_21 rfl rfl (?_ : Go _ _ 22 _ _ _ _)
      refine Go.getI fk_X2_32 shq_46 frq_46_6 dX2_keepSpacing_22 (?_ : Go _ _ 25 _ _ _ _)
      refine Go.aload_n 0 dX2_keepSpacing_25 rfl rfl (?_ : Go _ _ 26 _ _ _ _)
      refine Go.getI fk_X2_56 shq_46 frq_46_8 dX2_keepSpacing_26 (?_ : Go _ _ 29 _ _ _ _)
      refine Go.iast shq_51 dX2_keepSpacing_29 ⟨h.1, (?_ : Go _ _ 30 _ _ _ _)⟩
      generalize es3 : setA σ 51 (ix (sF σ 46 6)) (sF σ 46 8) = s3
      have h := h.2 s3 es3.symm
      refine Go.aload_n 0 dX2_keepSpacing_30 rfl rfl (?_ : Go _ _ 31 _ _ _ _)
      refine Go.dup dX2_keepSpacing_31 rfl (?_ : Go _ _ 32 _ _ _ _)
      refine Go.getI fk_X2_32 shq_46 frq_46_6 dX2_keepSpacing_32 (?_ : Go _ _ 35 _ _ _ _)
      refine Go.iconst dX2_keepSpacing_35 k_ic_1 (?_ : Go _ _ 36 _ _ _ _)
      refine Go.iadd dX2_keepSpacing_36 (?_ : Go _ _ 37 _ _ _ _)
      refine Go.putI fp_X2_32 shq_46 frq_46_6 dX2_keepSpacing_37 (?_ : Go _ _ 40 _ _ _ _)
      generalize es4 : setF s3 46 6 ((sF s3 46 6) + 1) = s4
      have h := h s4 es4.symm
      refine Go.iconst dX2_keepSpacing_40 k_ic_1 (?_ : Go _ _ 41 _ _ _ _)
      exact Go.zret rfl rfl dX2_keepSpacing_41 ⟨_, rfl, h⟩
    · have h := h.2 c2
      refine Go.iconst dX2_keepSpacing_15 k_ic_0 (?_ : Go _ _ 16 _ _ _ _)
      exact Go.zret rfl rfl dX2_keepSpacing_16 ⟨_, rfl, h⟩
theorem cgX2_keepSpacing {d : Nat} {σ : St} {K : Int32 → St → Prop} (h : ((sF σ 46 6) < 0 → K 0 σ) ∧ (¬ (sF σ 46 6) < 0 → ((sF σ 46 6) < 4 → vp_in (sF σ 46 6) 4 ∧ ∀ s3, s3 = setA σ 51 (ix (sF σ 46 6)) (sF σ 46 8) → ∀ s4, s4 = setF s3 46 6 ((sF s3 46 6) + 1) → K 1 s4) ∧ (¬ (sF σ 46 6) < 4 → K 0 σ))) : CallI (d + 1) mX2_keepSpacing [.ref 46] σ K := Call_of_Go (by decide +kernel) (ls := [.ref 46]) rfl (Nat.le_of_ble_eq_true rfl) (sgX2_keepSpacing_0 h)
