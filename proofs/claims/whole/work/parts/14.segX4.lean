set_option maxHeartbeats 4000000 in
set_option maxRecDepth 100000 in
theorem sgX4_length_0 {d : Nat} {σ : St} {K : Int32 → St → Prop} (h : K (sF σ 52 1) σ) : Go mX4_length (d + 1) 0 [.ref 52] [] σ (QI K) := by
  refine Go.aload_n 0 dX4_length_0 rfl rfl (?_ : Go _ _ 1 _ _ _ _)
  refine Go.getI fk_X4_15 shq_52 frq_52_1 dX4_length_1 (?_ : Go _ _ 4 _ _ _ _)
  exact Go.iret rfl dX4_length_4 ⟨_, rfl, h⟩
theorem cgX4_length {d : Nat} {σ : St} {K : Int32 → St → Prop} (h : K (sF σ 52 1) σ) : CallI (d + 1) mX4_length [.ref 52] σ K := Call_of_Go (by decide +kernel) (ls := [.ref 52]) rfl (Nat.le_of_ble_eq_true rfl) (sgX4_length_0 h)
set_option maxHeartbeats 4000000 in
set_option maxRecDepth 100000 in
theorem sgX4_codeAt_0 {d : Nat} {σ : St} {x1 : Int32} {K : Int32 → St → Prop} (h : (x1 < 0 → K 0 σ) ∧ (¬ x1 < 0 → (72 ≤ x1 → K 0 σ) ∧ (¬ 72 ≤ x1 → vp_in x1 72 ∧ K (sA σ 53 (ix x1)) σ))) : Go mX4_codeAt (d + 1) 0 [.ref 52, .int x1] [] σ (QI K) := by
  refine Go.iload_n 1 dX4_codeAt_0 rfl rfl (?_ : Go _ _ 1 _ _ _ _)
  refine Go.if_lt 22 dX4_codeAt_1 rfl ⟨fun c1 => ?_, fun c1 => (?_ : Go _ _ 4 _ _ _ _)⟩
  · have h := h.1 c1
    refine Go.iconst dX4_codeAt_22 k_ic_0 (?_ : Go _ _ 23 _ _ _ _)
    exact Go.iret rfl dX4_codeAt_23 ⟨_, rfl, h⟩
  · have h := h.2 c1
    refine Go.iload_n 1 dX4_codeAt_4 rfl rfl (?_ : Go _ _ 5 _ _ _ _)
    refine Go.aload_n 0 dX4_codeAt_5 rfl rfl (?_ : Go _ _ 6 _ _ _ _)
    refine Go.getR fk_X4_9 shq_52 frq_52_0 dX4_codeAt_6 (?_ : Go _ _ 9 _ _ _ _)
    refine Go.alen shq_53 (by decide) k_on_72 dX4_codeAt_9 (?_ : Go _ _ 10 _ _ _ _)
    refine Go.icmp_ge 22 dX4_codeAt_10 rfl ⟨fun c2 => ?_, fun c2 => (?_ : Go _ _ 13 _ _ _ _)⟩
    · have h := h.1 c2
      refine Go.iconst dX4_codeAt_22 k_ic_0 (?_ : Go _ _ 23 _ _ _ _)
      exact Go.iret rfl dX4_codeAt_23 ⟨_, rfl, h⟩
    · have h := h.2 c2
      refine Go.aload_n 0 dX4_codeAt_13 rfl rfl (?_ : Go _ _ 14 _ _ _ _)
      refine Go.getR fk_X4_9 shq_52 frq_52_0 dX4_codeAt_14 (?_ : Go _ _ 17 _ _ _ _)
      refine Go.iload_n 1 dX4_codeAt_17 rfl rfl (?_ : Go _ _ 18 _ _ _ _)
      refine Go.cald shq_53 dX4_codeAt_18 ⟨h.1, (?_ : Go _ _ 19 _ _ _ _)⟩
      have h := h.2
      refine Go.goto 23 dX4_codeAt_19 rfl ?_
      exact Go.iret rfl dX4_codeAt_23 ⟨_, rfl, h⟩
theorem cgX4_codeAt {d : Nat} {σ : St} {x1 : Int32} {K : Int32 → St → Prop} (h : (x1 < 0 → K 0 σ) ∧ (¬ x1 < 0 → (72 ≤ x1 → K 0 σ) ∧ (¬ 72 ≤ x1 → vp_in x1 72 ∧ K (sA σ 53 (ix x1)) σ))) : CallI (d + 1) mX4_codeAt [.ref 52, .int x1] σ K := Call_of_Go (by decide +kernel) (ls := [.ref 52, .int x1]) rfl (Nat.le_of_ble_eq_true rfl) (sgX4_codeAt_0 h)
set_option maxHeartbeats 4000000 in
set_option maxRecDepth 100000 in
theorem sgX4_write_0 {d : Nat} {σ : St} {K : St → Prop} {b : Nat} (h_b : isSc b) (h : ∀ s1, s1 = setF σ 52 1 0 → CallI d mX3_targetCount [.ref b] s1 (fun r3 s2 => (¬ r3 = 0 → Go mX4_write (d + 1) 15 [.ref 52, .ref b, .int 0] [] s2 (QU K)) ∧ (r3 = 0 → K s2))) : Go mX4_write (d + 1) 0 [.ref 52, .ref b, .null] [] σ (QU K) := by
  refine Go.aload_n 0 dX4_write_0 rfl rfl (?_ : Go _ _ 1 _ _ _ _)
  refine Go.iconst dX4_write_1 k_ic_0 (?_ : Go _ _ 2 _ _ _ _)
  refine Go.putI fp_X4_15 shq_52 frq_52_1 dX4_write_2 (?_ : Go _ _ 5 _ _ _ _)
  generalize es1 : setF σ 52 1 0 = s1
  have h := h s1 es1.symm
  refine Go.aload_n 1 dX4_write_5 rfl rfl (?_ : Go _ _ 6 _ _ _ _)
  refine Go.callV (as := []) (st := []) mk_X3_targetCount wl_X4_19 (sc_0 h_b) rfl rfl (Nat.le_of_ble_eq_true rfl) dX4_write_6 h ?_
  rintro _ s2 ⟨r3, rfl, h⟩
  show Go _ _ 9 _ [.int r3] _ _
  refine Go.if_ne 13 dX4_write_9 rfl ⟨fun c4 => ?_, fun c4 => (?_ : Go _ _ 12 _ _ _ _)⟩
  · have h := h.1 c4
    refine Go.iconst dX4_write_13 k_ic_0 (?_ : Go _ _ 14 _ _ _ _)
    refine Go.istore_n 2 dX4_write_14 rfl (by decide) rfl rfl (?_ : Go _ _ 15 [.ref 52, .ref b, .int 0] _ _ _)
    exact h
  · have h := h.2 c4
    exact Go.vret rfl dX4_write_12 ⟨rfl, h⟩
theorem cgX4_write {d : Nat} {σ : St} {K : St → Prop} {b : Nat} (h_b : isSc b) (h : ∀ s1, s1 = setF σ 52 1 0 → CallI d mX3_targetCount [.ref b] s1 (fun r3 s2 => (¬ r3 = 0 → Go mX4_write (d + 1) 15 [.ref 52, .ref b, .int 0] [] s2 (QU K)) ∧ (r3 = 0 → K s2))) : CallU (d + 1) mX4_write [.ref 52, .ref b] σ K := Call_of_Go (by decide +kernel) (ls := [.ref 52, .ref b, .null]) rfl (Nat.le_of_ble_eq_true rfl) (sgX4_write_0 h_b h)
set_option maxHeartbeats 4000000 in
set_option maxRecDepth 100000 in
theorem sgX4_write_15 {d : Nat} {σ : St} {v2 : Int32} {K : St → Prop} {b : Nat} (h_b : isSc b) (h : CallI d mX3_targetCount [.ref b] σ (fun r2 s1 => (r2 ≤ v2 → Go mX4_write (d + 1) 47 [.ref 52, .ref b, .int 0] [] s1 (QU K)) ∧ (¬ r2 ≤ v2 → (v2 ≤ 0 → CallU d mX4_writeTarget [.ref 52, .ref b, .int v2] s1 (fun s5 => Go mX4_write (d + 1) 15 [.ref 52, .ref b, .int (v2 + 1)] [] s5 (QU K))) ∧ (¬ v2 ≤ 0 → CallU d mX4_put [.ref 52, .int 44] s1 (fun s6 => CallU d mX4_writeTarget [.ref 52, .ref b, .int v2] s6 (fun s7 => Go mX4_write (d + 1) 15 [.ref 52, .ref b, .int (v2 + 1)] [] s7 (QU K))))))) : Go mX4_write (d + 1) 15 [.ref 52, .ref b, .int v2] [] σ (QU K) := by
  refine Go.iload_n 2 dX4_write_15 rfl rfl (?_ : Go _ _ 16 _ _ _ _)
  refine Go.aload_n 1 dX4_write_16 rfl rfl (?_ : Go _ _ 17 _ _ _ _)
  refine Go.callV (as := []) (st := [.int v2]) mk_X3_targetCount wl_X4_19 (sc_0 h_b) rfl rfl (Nat.le_of_ble_eq_true rfl) dX4_write_17 h ?_
  rintro _ s1 ⟨r2, rfl, h⟩
  show Go _ _ 20 _ [.int r2, .int v2] _ _
  refine Go.icmp_ge 45 dX4_write_20 rfl ⟨fun c3 => ?_, fun c3 => (?_ : Go _ _ 23 _ _ _ _)⟩
  · have h := h.1 c3
    refine Go.iconst dX4_write_45 k_ic_0 (?_ : Go _ _ 46 _ _ _ _)
    refine Go.istore_n 2 dX4_write_46 rfl (by decide) rfl rfl (?_ : Go _ _ 47 [.ref 52, .ref b, .int 0] _ _ _)
    exact h
  · have h := h.2 c3
    refine Go.iload_n 2 dX4_write_23 rfl rfl (?_ : Go _ _ 24 _ _ _ _)
    refine Go.if_le 33 dX4_write_24 rfl ⟨fun c4 => ?_, fun c4 => (?_ : Go _ _ 27 _ _ _ _)⟩
    · have h := h.1 c4
      refine Go.aload_n 0 dX4_write_33 rfl rfl (?_ : Go _ _ 34 _ _ _ _)
      refine Go.aload_n 1 dX4_write_34 rfl rfl (?_ : Go _ _ 35 _ _ _ _)
      refine Go.iload_n 2 dX4_write_35 rfl rfl (?_ : Go _ _ 36 _ _ _ _)
      refine Go.callV (as := [.ref b, .int v2]) (st := []) mk_X4_writeTarget wl_X4_29 shq_52 rfl rfl (Nat.le_of_ble_eq_true rfl) dX4_write_36 h ?_
      rintro _ s5 ⟨rfl, h⟩
      show Go _ _ 39 _ [] _ _
      refine Go.iinc dX4_write_39 rfl (congrArg (fun z => v2 + z) k_ic_1) (by decide) rfl rfl (?_ : Go _ _ 42 [.ref 52, .ref b, .int (v2 + 1)] _ _ _)
      refine Go.goto 15 dX4_write_42 rfl ?_
      exact h
    · have h := h.2 c4
      refine Go.aload_n 0 dX4_write_27 rfl rfl (?_ : Go _ _ 28 _ _ _ _)
      refine Go.bipush dX4_write_28 k_bi_44 (?_ : Go _ _ 30 _ _ _ _)
      refine Go.callV (as := [.int 44]) (st := []) mk_X4_put wl_X4_25 shq_52 rfl rfl (Nat.le_of_ble_eq_true rfl) dX4_write_30 h ?_
      rintro _ s6 ⟨rfl, h⟩
      show Go _ _ 33 _ [] _ _
      refine Go.aload_n 0 dX4_write_33 rfl rfl (?_ : Go _ _ 34 _ _ _ _)
      refine Go.aload_n 1 dX4_write_34 rfl rfl (?_ : Go _ _ 35 _ _ _ _)
      refine Go.iload_n 2 dX4_write_35 rfl rfl (?_ : Go _ _ 36 _ _ _ _)
      refine Go.callV (as := [.ref b, .int v2]) (st := []) mk_X4_writeTarget wl_X4_29 shq_52 rfl rfl (Nat.le_of_ble_eq_true rfl) dX4_write_36 h ?_
      rintro _ s7 ⟨rfl, h⟩
      show Go _ _ 39 _ [] _ _
      refine Go.iinc dX4_write_39 rfl (congrArg (fun z => v2 + z) k_ic_1) (by decide) rfl rfl (?_ : Go _ _ 42 [.ref 52, .ref b, .int (v2 + 1)] _ _ _)
      refine Go.goto 15 dX4_write_42 rfl ?_
      exact h
set_option maxHeartbeats 4000000 in
set_option maxRecDepth 100000 in
theorem sgX4_write_47 {d : Nat} {σ : St} {v2 : Int32} {K : St → Prop} {b : Nat} (h_b : isSc b) (h : CallI d mX3_turnCount [.ref b] σ (fun r2 s1 => (r2 ≤ v2 → K s1) ∧ (¬ r2 ≤ v2 → (¬ v2 = 0 → CallU d mX4_put [.ref 52, .int 47] s1 (fun s5 => CallI d mX3_spacingOf [.ref b, .int v2] s5 (fun r7 s6 => CallU d mX4_writeNumber [.ref 52, .int r7] s6 (fun s8 => Go mX4_write (d + 1) 47 [.ref 52, .ref b, .int (v2 + 1)] [] s8 (QU K))))) ∧ (v2 = 0 → CallU d mX4_put [.ref 52, .int 59] s1 (fun s9 => CallI d mX3_spacingOf [.ref b, .int v2] s9 (fun r11 s10 => CallU d mX4_writeNumber [.ref 52, .int r11] s10 (fun s12 => Go mX4_write (d + 1) 47 [.ref 52, .ref b, .int (v2 + 1)] [] s12 (QU K)))))))) : Go mX4_write (d + 1) 47 [.ref 52, .ref b, .int v2] [] σ (QU K) := by
  refine Go.iload_n 2 dX4_write_47 rfl rfl (?_ : Go _ _ 48 _ _ _ _)
  refine Go.aload_n 1 dX4_write_48 rfl rfl (?_ : Go _ _ 49 _ _ _ _)
  refine Go.callV (as := []) (st := [.int v2]) mk_X3_turnCount wl_X4_33 (sc_0 h_b) rfl rfl (Nat.le_of_ble_eq_true rfl) dX4_write_49 h ?_
  rintro _ s1 ⟨r2, rfl, h⟩
  show Go _ _ 52 _ [.int r2, .int v2] _ _
  refine Go.icmp_ge 85 dX4_write_52 rfl ⟨fun c3 => ?_, fun c3 => (?_ : Go _ _ 55 _ _ _ _)⟩
  · have h := h.1 c3
    exact Go.vret rfl dX4_write_85 ⟨rfl, h⟩
  · have h := h.2 c3
    refine Go.aload_n 0 dX4_write_55 rfl rfl (?_ : Go _ _ 56 _ _ _ _)
    refine Go.iload_n 2 dX4_write_56 rfl rfl (?_ : Go _ _ 57 _ _ _ _)
    refine Go.if_ne 65 dX4_write_57 rfl ⟨fun c4 => ?_, fun c4 => (?_ : Go _ _ 60 _ _ _ _)⟩
    · have h := h.1 c4
      refine Go.bipush dX4_write_65 k_bi_47 (?_ : Go _ _ 67 _ _ _ _)
      refine Go.callV (as := [.int 47]) (st := []) mk_X4_put wl_X4_25 shq_52 rfl rfl (Nat.le_of_ble_eq_true rfl) dX4_write_67 h ?_
      rintro _ s5 ⟨rfl, h⟩
      show Go _ _ 70 _ [] _ _
      refine Go.aload_n 0 dX4_write_70 rfl rfl (?_ : Go _ _ 71 _ _ _ _)
      refine Go.aload_n 1 dX4_write_71 rfl rfl (?_ : Go _ _ 72 _ _ _ _)
      refine Go.iload_n 2 dX4_write_72 rfl rfl (?_ : Go _ _ 73 _ _ _ _)
      refine Go.callV (as := [.int v2]) (st := [.ref 52]) mk_X3_spacingOf wl_X4_36 (sc_0 h_b) rfl rfl (Nat.le_of_ble_eq_true rfl) dX4_write_73 h ?_
      rintro _ s6 ⟨r7, rfl, h⟩
      show Go _ _ 76 _ [.int r7, .ref 52] _ _
      refine Go.callV (as := [.int r7]) (st := []) mk_X4_writeNumber wl_X4_40 shq_52 rfl rfl (Nat.le_of_ble_eq_true rfl) dX4_write_76 h ?_
      rintro _ s8 ⟨rfl, h⟩
      show Go _ _ 79 _ [] _ _
      refine Go.iinc dX4_write_79 rfl (congrArg (fun z => v2 + z) k_ic_1) (by decide) rfl rfl (?_ : Go _ _ 82 [.ref 52, .ref b, .int (v2 + 1)] _ _ _)
      refine Go.goto 47 dX4_write_82 rfl ?_
      exact h
    · have h := h.2 c4
      refine Go.bipush dX4_write_60 k_bi_59 (?_ : Go _ _ 62 _ _ _ _)
      refine Go.goto 67 dX4_write_62 rfl ?_
      refine Go.callV (as := [.int 59]) (st := []) mk_X4_put wl_X4_25 shq_52 rfl rfl (Nat.le_of_ble_eq_true rfl) dX4_write_67 h ?_
      rintro _ s9 ⟨rfl, h⟩
      show Go _ _ 70 _ [] _ _
      refine Go.aload_n 0 dX4_write_70 rfl rfl (?_ : Go _ _ 71 _ _ _ _)
      refine Go.aload_n 1 dX4_write_71 rfl rfl (?_ : Go _ _ 72 _ _ _ _)
      refine Go.iload_n 2 dX4_write_72 rfl rfl (?_ : Go _ _ 73 _ _ _ _)
      refine Go.callV (as := [.int v2]) (st := [.ref 52]) mk_X3_spacingOf wl_X4_36 (sc_0 h_b) rfl rfl (Nat.le_of_ble_eq_true rfl) dX4_write_73 h ?_
      rintro _ s10 ⟨r11, rfl, h⟩
      show Go _ _ 76 _ [.int r11, .ref 52] _ _
      refine Go.callV (as := [.int r11]) (st := []) mk_X4_writeNumber wl_X4_40 shq_52 rfl rfl (Nat.le_of_ble_eq_true rfl) dX4_write_76 h ?_
      rintro _ s12 ⟨rfl, h⟩
      show Go _ _ 79 _ [] _ _
      refine Go.iinc dX4_write_79 rfl (congrArg (fun z => v2 + z) k_ic_1) (by decide) rfl rfl (?_ : Go _ _ 82 [.ref 52, .ref b, .int (v2 + 1)] _ _ _)
      refine Go.goto 47 dX4_write_82 rfl ?_
      exact h
set_option maxHeartbeats 4000000 in
set_option maxRecDepth 100000 in
theorem sgX4_writeTarget_0 {d : Nat} {σ : St} {x2 : Int32} {K : St → Prop} {b : Nat} (h_b : isSc b) (h : CallI d mX3_movementOf [.ref b, .int x2] σ (fun r2 s1 => CallI d mX3_isWall [.ref b, .int x2] s1 (fun r4 s3 => (r4 = 0 → CallU d mX4_put [.ref 52, .int 116] s3 (fun s6 => CallI d mX3_distanceOf [.ref b, .int x2] s6 (fun r8 s7 => CallU d mX4_writeNumber [.ref 52, .int r8] s7 (fun s9 => CallU d mX4_put [.ref 52, .int 42] s9 (fun s10 => CallI d mX3_strengthOf [.ref b, .int x2] s10 (fun r12 s11 => CallU d mX4_writeNumber [.ref 52, .int r12] s11 (fun s13 => (r2 = 0 → K s13) ∧ (¬ r2 = 0 → (0 ≤ r2 → CallU d mX4_put [.ref 52, .int 43] s13 (fun s16 => (0 ≤ r2 → CallU d mX4_writeNumber [.ref 52, .int r2] s16 (fun s18 => K s18)) ∧ (¬ 0 ≤ r2 → CallU d mX4_writeNumber [.ref 52, .int (-r2)] s16 (fun s19 => K s19)))) ∧ (¬ 0 ≤ r2 → CallU d mX4_put [.ref 52, .int 45] s13 (fun s20 => (0 ≤ r2 → CallU d mX4_writeNumber [.ref 52, .int r2] s20 (fun s22 => K s22)) ∧ (¬ 0 ≤ r2 → CallU d mX4_writeNumber [.ref 52, .int (-r2)] s20 (fun s23 => K s23)))))))))))) ∧ (¬ r4 = 0 → CallU d mX4_put [.ref 52, .int 119] s3 (fun s24 => CallI d mX3_distanceOf [.ref b, .int x2] s24 (fun r26 s25 => CallU d mX4_writeNumber [.ref 52, .int r26] s25 (fun s27 => CallU d mX4_put [.ref 52, .int 42] s27 (fun s28 => CallI d mX3_strengthOf [.ref b, .int x2] s28 (fun r30 s29 => CallU d mX4_writeNumber [.ref 52, .int r30] s29 (fun s31 => (r2 = 0 → K s31) ∧ (¬ r2 = 0 → (0 ≤ r2 → CallU d mX4_put [.ref 52, .int 43] s31 (fun s34 => (0 ≤ r2 → CallU d mX4_writeNumber [.ref 52, .int r2] s34 (fun s36 => K s36)) ∧ (¬ 0 ≤ r2 → CallU d mX4_writeNumber [.ref 52, .int (-r2)] s34 (fun s37 => K s37)))) ∧ (¬ 0 ≤ r2 → CallU d mX4_put [.ref 52, .int 45] s31 (fun s38 => (0 ≤ r2 → CallU d mX4_writeNumber [.ref 52, .int r2] s38 (fun s40 => K s40)) ∧ (¬ 0 ≤ r2 → CallU d mX4_writeNumber [.ref 52, .int (-r2)] s38 (fun s41 => K s41))))))))))))))) : Go mX4_writeTarget (d + 1) 0 [.ref 52, .ref b, .int x2, .null] [] σ (QU K) := by
  refine Go.aload_n 1 dX4_writeTarget_0 rfl rfl (?_ : Go _ _ 1 _ _ _ _)
  refine Go.iload_n 2 dX4_writeTarget_1 rfl rfl (?_ : Go _ _ 2 _ _ _ _)
  refine Go.callV (as := [.int x2]) (st := []) mk_X3_movementOf wl_X4_44 (sc_0 h_b) rfl rfl (Nat.le_of_ble_eq_true rfl) dX4_writeTarget_2 h ?_
  rintro _ s1 ⟨r2, rfl, h⟩
  show Go _ _ 5 _ [.int r2] _ _
  refine Go.istore_n 3 dX4_writeTarget_5 rfl (by decide) rfl rfl (?_ : Go _ _ 6 [.ref 52, .ref b, .int x2, .int r2] _ _ _)
  refine Go.aload_n 0 dX4_writeTarget_6 rfl rfl (?_ : Go _ _ 7 _ _ _ _)
  refine Go.aload_n 1 dX4_writeTarget_7 rfl rfl (?_ : Go _ _ 8 _ _ _ _)
  refine Go.iload_n 2 dX4_writeTarget_8 rfl rfl (?_ : Go _ _ 9 _ _ _ _)
  refine Go.callV (as := [.int x2]) (st := [.ref 52]) mk_X3_isWall wl_X4_47 (sc_0 h_b) rfl rfl (Nat.le_of_ble_eq_true rfl) dX4_writeTarget_9 h ?_
  rintro _ s3 ⟨r4, rfl, h⟩
  show Go _ _ 12 _ [.int r4, .ref 52] _ _
  refine Go.if_eq 20 dX4_writeTarget_12 rfl ⟨fun c5 => ?_, fun c5 => (?_ : Go _ _ 15 _ _ _ _)⟩
  · have h := h.1 c5
    refine Go.bipush dX4_writeTarget_20 k_bi_116 (?_ : Go _ _ 22 _ _ _ _)
    refine Go.callV (as := [.int 116]) (st := []) mk_X4_put wl_X4_25 shq_52 rfl rfl (Nat.le_of_ble_eq_true rfl) dX4_writeTarget_22 h ?_
    rintro _ s6 ⟨rfl, h⟩
    show Go _ _ 25 _ [] _ _
    refine Go.aload_n 0 dX4_writeTarget_25 rfl rfl (?_ : Go _ _ 26 _ _ _ _)
    refine Go.aload_n 1 dX4_writeTarget_26 rfl rfl (?_ : Go _ _ 27 _ _ _ _)
    refine Go.iload_n 2 dX4_writeTarget_27 rfl rfl (?_ : Go _ _ 28 _ _ _ _)
    refine Go.callV (as := [.int x2]) (st := [.ref 52]) mk_X3_distanceOf wl_X4_51 (sc_0 h_b) rfl rfl (Nat.le_of_ble_eq_true rfl) dX4_writeTarget_28 h ?_
    rintro _ s7 ⟨r8, rfl, h⟩
    show Go _ _ 31 _ [.int r8, .ref 52] _ _
    refine Go.callV (as := [.int r8]) (st := []) mk_X4_writeNumber wl_X4_40 shq_52 rfl rfl (Nat.le_of_ble_eq_true rfl) dX4_writeTarget_31 h ?_
    rintro _ s9 ⟨rfl, h⟩
    show Go _ _ 34 _ [] _ _
    refine Go.aload_n 0 dX4_writeTarget_34 rfl rfl (?_ : Go _ _ 35 _ _ _ _)
    refine Go.bipush dX4_writeTarget_35 k_bi_42 (?_ : Go _ _ 37 _ _ _ _)
    refine Go.callV (as := [.int 42]) (st := []) mk_X4_put wl_X4_25 shq_52 rfl rfl (Nat.le_of_ble_eq_true rfl) dX4_writeTarget_37 h ?_
    rintro _ s10 ⟨rfl, h⟩
    show Go _ _ 40 _ [] _ _
    refine Go.aload_n 0 dX4_writeTarget_40 rfl rfl (?_ : Go _ _ 41 _ _ _ _)
    refine Go.aload_n 1 dX4_writeTarget_41 rfl rfl (?_ : Go _ _ 42 _ _ _ _)
    refine Go.iload_n 2 dX4_writeTarget_42 rfl rfl (?_ : Go _ _ 43 _ _ _ _)
    refine Go.callV (as := [.int x2]) (st := [.ref 52]) mk_X3_strengthOf wl_X4_54 (sc_0 h_b) rfl rfl (Nat.le_of_ble_eq_true rfl) dX4_writeTarget_43 h ?_
    rintro _ s11 ⟨r12, rfl, h⟩
    show Go _ _ 46 _ [.int r12, .ref 52] _ _
    refine Go.callV (as := [.int r12]) (st := []) mk_X4_writeNumber wl_X4_40 shq_52 rfl rfl (Nat.le_of_ble_eq_true rfl) dX4_writeTarget_46 h ?_
    rintro _ s13 ⟨rfl, h⟩
    show Go _ _ 49 _ [] _ _
    refine Go.iload_n 3 dX4_writeTarget_49 rfl rfl (?_ : Go _ _ 50 _ _ _ _)
    refine Go.if_eq 82 dX4_writeTarget_50 rfl ⟨fun c14 => ?_, fun c14 => (?_ : Go _ _ 53 _ _ _ _)⟩
    · have h := h.1 c14
      exact Go.vret rfl dX4_writeTarget_82 ⟨rfl, h⟩
    · have h := h.2 c14
      refine Go.aload_n 0 dX4_writeTarget_53 rfl rfl (?_ : Go _ _ 54 _ _ _ _)
      refine Go.iload_n 3 dX4_writeTarget_54 rfl rfl (?_ : Go _ _ 55 _ _ _ _)
      refine Go.if_ge 63 dX4_writeTarget_55 rfl ⟨fun c15 => ?_, fun c15 => (?_ : Go _ _ 58 _ _ _ _)⟩
      · have h := h.1 c15
        refine Go.bipush dX4_writeTarget_63 k_bi_43 (?_ : Go _ _ 65 _ _ _ _)
        refine Go.callV (as := [.int 43]) (st := []) mk_X4_put wl_X4_25 shq_52 rfl rfl (Nat.le_of_ble_eq_true rfl) dX4_writeTarget_65 h ?_
        rintro _ s16 ⟨rfl, h⟩
        show Go _ _ 68 _ [] _ _
        refine Go.aload_n 0 dX4_writeTarget_68 rfl rfl (?_ : Go _ _ 69 _ _ _ _)
        refine Go.iload_n 3 dX4_writeTarget_69 rfl rfl (?_ : Go _ _ 70 _ _ _ _)
        refine Go.if_ge 78 dX4_writeTarget_70 rfl ⟨fun c17 => ?_, fun c17 => (?_ : Go _ _ 73 _ _ _ _)⟩
        · have h := h.1 c17
          refine Go.iload_n 3 dX4_writeTarget_78 rfl rfl (?_ : Go _ _ 79 _ _ _ _)
          refine Go.callV (as := [.int r2]) (st := []) mk_X4_writeNumber wl_X4_40 shq_52 rfl rfl (Nat.le_of_ble_eq_true rfl) dX4_writeTarget_79 h ?_
          rintro _ s18 ⟨rfl, h⟩
          show Go _ _ 82 _ [] _ _
          exact Go.vret rfl dX4_writeTarget_82 ⟨rfl, h⟩
        · have h := h.2 c17
          refine Go.iload_n 3 dX4_writeTarget_73 rfl rfl (?_ : Go _ _ 74 _ _ _ _)
          refine Go.ineg dX4_writeTarget_74 (?_ : Go _ _ 75 _ _ _ _)
          refine Go.goto 79 dX4_writeTarget_75 rfl ?_
          refine Go.callV (as := [.int (-r2)]) (st := []) mk_X4_writeNumber wl_X4_40 shq_52 rfl rfl (Nat.le_of_ble_eq_true rfl) dX4_writeTarget_79 h ?_
          rintro _ s19 ⟨rfl, h⟩
          show Go _ _ 82 _ [] _ _
          exact Go.vret rfl dX4_writeTarget_82 ⟨rfl, h⟩
      · have h := h.2 c15
        refine Go.bipush dX4_writeTarget_58 k_bi_45 (?_ : Go _ _ 60 _ _ _ _)
        refine Go.goto 65 dX4_writeTarget_60 rfl ?_
        refine Go.callV (as := [.int 45]) (st := []) mk_X4_put wl_X4_25 shq_52 rfl rfl (Nat.le_of_ble_eq_true rfl) dX4_writeTarget_65 h ?_
        rintro _ s20 ⟨rfl, h⟩
        show Go _ _ 68 _ [] _ _
        refine Go.aload_n 0 dX4_writeTarget_68 rfl rfl (?_ : Go _ _ 69 _ _ _ _)
        refine Go.iload_n 3 dX4_writeTarget_69 rfl rfl (?_ : Go _ _ 70 _ _ _ _)
        refine Go.if_ge 78 dX4_writeTarget_70 rfl ⟨fun c21 => ?_, fun c21 => (?_ : Go _ _ 73 _ _ _ _)⟩
        · have h := h.1 c21
          refine Go.iload_n 3 dX4_writeTarget_78 rfl rfl (?_ : Go _ _ 79 _ _ _ _)
          refine Go.callV (as := [.int r2]) (st := []) mk_X4_writeNumber wl_X4_40 shq_52 rfl rfl (Nat.le_of_ble_eq_true rfl) dX4_writeTarget_79 h ?_
          rintro _ s22 ⟨rfl, h⟩
          show Go _ _ 82 _ [] _ _
          exact Go.vret rfl dX4_writeTarget_82 ⟨rfl, h⟩
        · have h := h.2 c21
          refine Go.iload_n 3 dX4_writeTarget_73 rfl rfl (?_ : Go _ _ 74 _ _ _ _)
          refine Go.ineg dX4_writeTarget_74 (?_ : Go _ _ 75 _ _ _ _)
          refine Go.goto 79 dX4_writeTarget_75 rfl ?_
          refine Go.callV (as := [.int (-r2)]) (st := []) mk_X4_writeNumber wl_X4_40 shq_52 rfl rfl (Nat.le_of_ble_eq_true rfl) dX4_writeTarget_79 h ?_
          rintro _ s23 ⟨rfl, h⟩
          show Go _ _ 82 _ [] _ _
          exact Go.vret rfl dX4_writeTarget_82 ⟨rfl, h⟩
  · have h := h.2 c5
    refine Go.bipush dX4_writeTarget_15 k_bi_119 (?_ : Go _ _ 17 _ _ _ _)
    refine Go.goto 22 dX4_writeTarget_17 rfl ?_
    refine Go.callV (as := [.int 119]) (st := []) mk_X4_put wl_X4_25 shq_52 rfl rfl (Nat.le_of_ble_eq_true rfl) dX4_writeTarget_22 h ?_
    rintro _ s24 ⟨rfl, h⟩
    show Go _ _ 25 _ [] _ _
    refine Go.aload_n 0 dX4_writeTarget_25 rfl rfl (?_ : Go _ _ 26 _ _ _ _)
    refine Go.aload_n 1 dX4_writeTarget_26 rfl rfl (?_ : Go _ _ 27 _ _ _ _)
    refine Go.iload_n 2 dX4_writeTarget_27 rfl rfl (?_ : Go _ _ 28 _ _ _ _)
    refine Go.callV (as := [.int x2]) (st := [.ref 52]) mk_X3_distanceOf wl_X4_51 (sc_0 h_b) rfl rfl (Nat.le_of_ble_eq_true rfl) dX4_writeTarget_28 h ?_
    rintro _ s25 ⟨r26, rfl, h⟩
    show Go _ _ 31 _ [.int r26, .ref 52] _ _
    refine Go.callV (as := [.int r26]) (st := []) mk_X4_writeNumber wl_X4_40 shq_52 rfl rfl (Nat.le_of_ble_eq_true rfl) dX4_writeTarget_31 h ?_
    rintro _ s27 ⟨rfl, h⟩
    show Go _ _ 34 _ [] _ _
    refine Go.aload_n 0 dX4_writeTarget_34 rfl rfl (?_ : Go _ _ 35 _ _ _ _)
    refine Go.bipush dX4_writeTarget_35 k_bi_42 (?_ : Go _ _ 37 _ _ _ _)
    refine Go.callV (as := [.int 42]) (st := []) mk_X4_put wl_X4_25 shq_52 rfl rfl (Nat.le_of_ble_eq_true rfl) dX4_writeTarget_37 h ?_
    rintro _ s28 ⟨rfl, h⟩
    show Go _ _ 40 _ [] _ _
    refine Go.aload_n 0 dX4_writeTarget_40 rfl rfl (?_ : Go _ _ 41 _ _ _ _)
    refine Go.aload_n 1 dX4_writeTarget_41 rfl rfl (?_ : Go _ _ 42 _ _ _ _)
    refine Go.iload_n 2 dX4_writeTarget_42 rfl rfl (?_ : Go _ _ 43 _ _ _ _)
    refine Go.callV (as := [.int x2]) (st := [.ref 52]) mk_X3_strengthOf wl_X4_54 (sc_0 h_b) rfl rfl (Nat.le_of_ble_eq_true rfl) dX4_writeTarget_43 h ?_
    rintro _ s29 ⟨r30, rfl, h⟩
    show Go _ _ 46 _ [.int r30, .ref 52] _ _
    refine Go.callV (as := [.int r30]) (st := []) mk_X4_writeNumber wl_X4_40 shq_52 rfl rfl (Nat.le_of_ble_eq_true rfl) dX4_writeTarget_46 h ?_
    rintro _ s31 ⟨rfl, h⟩
    show Go _ _ 49 _ [] _ _
    refine Go.iload_n 3 dX4_writeTarget_49 rfl rfl (?_ : Go _ _ 50 _ _ _ _)
    refine Go.if_eq 82 dX4_writeTarget_50 rfl ⟨fun c32 => ?_, fun c32 => (?_ : Go _ _ 53 _ _ _ _)⟩
    · have h := h.1 c32
      exact Go.vret rfl dX4_writeTarget_82 ⟨rfl, h⟩
    · have h := h.2 c32
      refine Go.aload_n 0 dX4_writeTarget_53 rfl rfl (?_ : Go _ _ 54 _ _ _ _)
      refine Go.iload_n 3 dX4_writeTarget_54 rfl rfl (?_ : Go _ _ 55 _ _ _ _)
      refine Go.if_ge 63 dX4_writeTarget_55 rfl ⟨fun c33 => ?_, fun c33 => (?_ : Go _ _ 58 _ _ _ _)⟩
      · have h := h.1 c33
        refine Go.bipush dX4_writeTarget_63 k_bi_43 (?_ : Go _ _ 65 _ _ _ _)
        refine Go.callV (as := [.int 43]) (st := []) mk_X4_put wl_X4_25 shq_52 rfl rfl (Nat.le_of_ble_eq_true rfl) dX4_writeTarget_65 h ?_
        rintro _ s34 ⟨rfl, h⟩
        show Go _ _ 68 _ [] _ _
        refine Go.aload_n 0 dX4_writeTarget_68 rfl rfl (?_ : Go _ _ 69 _ _ _ _)
        refine Go.iload_n 3 dX4_writeTarget_69 rfl rfl (?_ : Go _ _ 70 _ _ _ _)
        refine Go.if_ge 78 dX4_writeTarget_70 rfl ⟨fun c35 => ?_, fun c35 => (?_ : Go _ _ 73 _ _ _ _)⟩
        · have h := h.1 c35
          refine Go.iload_n 3 dX4_writeTarget_78 rfl rfl (?_ : Go _ _ 79 _ _ _ _)
          refine Go.callV (as := [.int r2]) (st := []) mk_X4_writeNumber wl_X4_40 shq_52 rfl rfl (Nat.le_of_ble_eq_true rfl) dX4_writeTarget_79 h ?_
          rintro _ s36 ⟨rfl, h⟩
          show Go _ _ 82 _ [] _ _
          exact Go.vret rfl dX4_writeTarget_82 ⟨rfl, h⟩
        · have h := h.2 c35
          refine Go.iload_n 3 dX4_writeTarget_73 rfl rfl (?_ : Go _ _ 74 _ _ _ _)
          refine Go.ineg dX4_writeTarget_74 (?_ : Go _ _ 75 _ _ _ _)
          refine Go.goto 79 dX4_writeTarget_75 rfl ?_
          refine Go.callV (as := [.int (-r2)]) (st := []) mk_X4_writeNumber wl_X4_40 shq_52 rfl rfl (Nat.le_of_ble_eq_true rfl) dX4_writeTarget_79 h ?_
          rintro _ s37 ⟨rfl, h⟩
          show Go _ _ 82 _ [] _ _
          exact Go.vret rfl dX4_writeTarget_82 ⟨rfl, h⟩
      · have h := h.2 c33
        refine Go.bipush dX4_writeTarget_58 k_bi_45 (?_ : Go _ _ 60 _ _ _ _)
        refine Go.goto 65 dX4_writeTarget_60 rfl ?_
        refine Go.callV (as := [.int 45]) (st := []) mk_X4_put wl_X4_25 shq_52 rfl rfl (Nat.le_of_ble_eq_true rfl) dX4_writeTarget_65 h ?_
        rintro _ s38 ⟨rfl, h⟩
        show Go _ _ 68 _ [] _ _
        refine Go.aload_n 0 dX4_writeTarget_68 rfl rfl (?_ : Go _ _ 69 _ _ _ _)
        refine Go.iload_n 3 dX4_writeTarget_69 rfl rfl (?_ : Go _ _ 70 _ _ _ _)
        refine Go.if_ge 78 dX4_writeTarget_70 rfl ⟨fun c39 => ?_, fun c39 => (?_ : Go _ _ 73 _ _ _ _)⟩
        · have h := h.1 c39
          refine Go.iload_n 3 dX4_writeTarget_78 rfl rfl (?_ : Go _ _ 79 _ _ _ _)
          refine Go.callV (as := [.int r2]) (st := []) mk_X4_writeNumber wl_X4_40 shq_52 rfl rfl (Nat.le_of_ble_eq_true rfl) dX4_writeTarget_79 h ?_
          rintro _ s40 ⟨rfl, h⟩
          show Go _ _ 82 _ [] _ _
          exact Go.vret rfl dX4_writeTarget_82 ⟨rfl, h⟩
        · have h := h.2 c39
          refine Go.iload_n 3 dX4_writeTarget_73 rfl rfl (?_ : Go _ _ 74 _ _ _ _)
          refine Go.ineg dX4_writeTarget_74 (?_ : Go _ _ 75 _ _ _ _)
          refine Go.goto 79 dX4_writeTarget_75 rfl ?_
          refine Go.callV (as := [.int (-r2)]) (st := []) mk_X4_writeNumber wl_X4_40 shq_52 rfl rfl (Nat.le_of_ble_eq_true rfl) dX4_writeTarget_79 h ?_
          rintro _ s41 ⟨rfl, h⟩
          show Go _ _ 82 _ [] _ _
          exact Go.vret rfl dX4_writeTarget_82 ⟨rfl, h⟩
theorem cgX4_writeTarget {d : Nat} {σ : St} {x2 : Int32} {K : St → Prop} {b : Nat} (h_b : isSc b) (h : CallI d mX3_movementOf [.ref b, .int x2] σ (fun r2 s1 => CallI d mX3_isWall [.ref b, .int x2] s1 (fun r4 s3 => (r4 = 0 → CallU d mX4_put [.ref 52, .int 116] s3 (fun s6 => CallI d mX3_distanceOf [.ref b, .int x2] s6 (fun r8 s7 => CallU d mX4_writeNumber [.ref 52, .int r8] s7 (fun s9 => CallU d mX4_put [.ref 52, .int 42] s9 (fun s10 => CallI d mX3_strengthOf [.ref b, .int x2] s10 (fun r12 s11 => CallU d mX4_writeNumber [.ref 52, .int r12] s11 (fun s13 => (r2 = 0 → K s13) ∧ (¬ r2 = 0 → (0 ≤ r2 → CallU d mX4_put [.ref 52, .int 43] s13 (fun s16 => (0 ≤ r2 → CallU d mX4_writeNumber [.ref 52, .int r2] s16 (fun s18 => K s18)) ∧ (¬ 0 ≤ r2 → CallU d mX4_writeNumber [.ref 52, .int (-r2)] s16 (fun s19 => K s19)))) ∧ (¬ 0 ≤ r2 → CallU d mX4_put [.ref 52, .int 45] s13 (fun s20 => (0 ≤ r2 → CallU d mX4_writeNumber [.ref 52, .int r2] s20 (fun s22 => K s22)) ∧ (¬ 0 ≤ r2 → CallU d mX4_writeNumber [.ref 52, .int (-r2)] s20 (fun s23 => K s23)))))))))))) ∧ (¬ r4 = 0 → CallU d mX4_put [.ref 52, .int 119] s3 (fun s24 => CallI d mX3_distanceOf [.ref b, .int x2] s24 (fun r26 s25 => CallU d mX4_writeNumber [.ref 52, .int r26] s25 (fun s27 => CallU d mX4_put [.ref 52, .int 42] s27 (fun s28 => CallI d mX3_strengthOf [.ref b, .int x2] s28 (fun r30 s29 => CallU d mX4_writeNumber [.ref 52, .int r30] s29 (fun s31 => (r2 = 0 → K s31) ∧ (¬ r2 = 0 → (0 ≤ r2 → CallU d mX4_put [.ref 52, .int 43] s31 (fun s34 => (0 ≤ r2 → CallU d mX4_writeNumber [.ref 52, .int r2] s34 (fun s36 => K s36)) ∧ (¬ 0 ≤ r2 → CallU d mX4_writeNumber [.ref 52, .int (-r2)] s34 (fun s37 => K s37)))) ∧ (¬ 0 ≤ r2 → CallU d mX4_put [.ref 52, .int 45] s31 (fun s38 => (0 ≤ r2 → CallU d mX4_writeNumber [.ref 52, .int r2] s38 (fun s40 => K s40)) ∧ (¬ 0 ≤ r2 → CallU d mX4_writeNumber [.ref 52, .int (-r2)] s38 (fun s41 => K s41))))))))))))))) : CallU (d + 1) mX4_writeTarget [.ref 52, .ref b, .int x2] σ K := Call_of_Go (by decide +kernel) (ls := [.ref 52, .ref b, .int x2, .null]) rfl (Nat.le_of_ble_eq_true rfl) (sgX4_writeTarget_0 h_b h)
set_option maxHeartbeats 4000000 in
set_option maxRecDepth 100000 in
theorem sgX4_writeNumber_0 {d : Nat} {σ : St} {x1 : Int32} {K : St → Prop} (h : (x1 < 100 → (x1 < 10 → CallI d mX4_digitSign [.int x1] σ (fun r4 s3 => CallU d mX4_put [.ref 52, .int r4] s3 (fun s5 => K s5))) ∧ (¬ x1 < 10 → CallI d mX4_digitSign [.int (x1 / 10)] σ (fun r7 s6 => CallU d mX4_put [.ref 52, .int r7] s6 (fun s8 => CallI d mX4_digitSign [.int x1] s8 (fun r10 s9 => CallU d mX4_put [.ref 52, .int r10] s9 (fun s11 => K s11)))))) ∧ (¬ x1 < 100 → CallI d mX4_digitSign [.int (x1 / 100)] σ (fun r13 s12 => CallU d mX4_put [.ref 52, .int r13] s12 (fun s14 => (x1 < 10 → CallI d mX4_digitSign [.int x1] s14 (fun r17 s16 => CallU d mX4_put [.ref 52, .int r17] s16 (fun s18 => K s18))) ∧ (¬ x1 < 10 → CallI d mX4_digitSign [.int (x1 / 10)] s14 (fun r20 s19 => CallU d mX4_put [.ref 52, .int r20] s19 (fun s21 => CallI d mX4_digitSign [.int x1] s21 (fun r23 s22 => CallU d mX4_put [.ref 52, .int r23] s22 (fun s24 => K s24))))))))) : Go mX4_writeNumber (d + 1) 0 [.ref 52, .int x1] [] σ (QU K) := by
  refine Go.iload_n 1 dX4_writeNumber_0 rfl rfl (?_ : Go _ _ 1 _ _ _ _)
  refine Go.bipush dX4_writeNumber_1 k_bi_100 (?_ : Go _ _ 3 _ _ _ _)
  refine Go.icmp_lt 17 dX4_writeNumber_3 rfl ⟨fun c1 => ?_, fun c1 => (?_ : Go _ _ 6 _ _ _ _)⟩
  · have h := h.1 c1
    refine Go.iload_n 1 dX4_writeNumber_17 rfl rfl (?_ : Go _ _ 18 _ _ _ _)
    refine Go.bipush dX4_writeNumber_18 k_bi_10 (?_ : Go _ _ 20 _ _ _ _)
    refine Go.icmp_lt 34 dX4_writeNumber_20 rfl ⟨fun c2 => ?_, fun c2 => (?_ : Go _ _ 23 _ _ _ _)⟩
    · have h := h.1 c2
      refine Go.aload_n 0 dX4_writeNumber_34 rfl rfl (?_ : Go _ _ 35 _ _ _ _)
      refine Go.iload_n 1 dX4_writeNumber_35 rfl rfl (?_ : Go _ _ 36 _ _ _ _)
      refine Go.callS (as := [.int x1]) (st := [.ref 52]) mk_X4_digitSign wl_X4_57 rfl rfl (Nat.le_of_ble_eq_true rfl) dX4_writeNumber_36 h ?_
      rintro _ s3 ⟨r4, rfl, h⟩
      show Go _ _ 39 _ [.int r4, .ref 52] _ _
      refine Go.callV (as := [.int r4]) (st := []) mk_X4_put wl_X4_25 shq_52 rfl rfl (Nat.le_of_ble_eq_true rfl) dX4_writeNumber_39 h ?_
      rintro _ s5 ⟨rfl, h⟩
      show Go _ _ 42 _ [] _ _
      exact Go.vret rfl dX4_writeNumber_42 ⟨rfl, h⟩
    · have h := h.2 c2
      refine Go.aload_n 0 dX4_writeNumber_23 rfl rfl (?_ : Go _ _ 24 _ _ _ _)
      refine Go.iload_n 1 dX4_writeNumber_24 rfl rfl (?_ : Go _ _ 25 _ _ _ _)
      refine Go.bipush dX4_writeNumber_25 k_bi_10 (?_ : Go _ _ 27 _ _ _ _)
      refine Go.idiv dX4_writeNumber_27 (by decide) (?_ : Go _ _ 28 _ _ _ _)
      refine Go.callS (as := [.int (x1 / 10)]) (st := [.ref 52]) mk_X4_digitSign wl_X4_57 rfl rfl (Nat.le_of_ble_eq_true rfl) dX4_writeNumber_28 h ?_
      rintro _ s6 ⟨r7, rfl, h⟩
      show Go _ _ 31 _ [.int r7, .ref 52] _ _
      refine Go.callV (as := [.int r7]) (st := []) mk_X4_put wl_X4_25 shq_52 rfl rfl (Nat.le_of_ble_eq_true rfl) dX4_writeNumber_31 h ?_
      rintro _ s8 ⟨rfl, h⟩
      show Go _ _ 34 _ [] _ _
      refine Go.aload_n 0 dX4_writeNumber_34 rfl rfl (?_ : Go _ _ 35 _ _ _ _)
      refine Go.iload_n 1 dX4_writeNumber_35 rfl rfl (?_ : Go _ _ 36 _ _ _ _)
      refine Go.callS (as := [.int x1]) (st := [.ref 52]) mk_X4_digitSign wl_X4_57 rfl rfl (Nat.le_of_ble_eq_true rfl) dX4_writeNumber_36 h ?_
      rintro _ s9 ⟨r10, rfl, h⟩
      show Go _ _ 39 _ [.int r10, .ref 52] _ _
      refine Go.callV (as := [.int r10]) (st := []) mk_X4_put wl_X4_25 shq_52 rfl rfl (Nat.le_of_ble_eq_true rfl) dX4_writeNumber_39 h ?_
      rintro _ s11 ⟨rfl, h⟩
      show Go _ _ 42 _ [] _ _
      exact Go.vret rfl dX4_writeNumber_42 ⟨rfl, h⟩
  · have h := h.2 c1
    refine Go.aload_n 0 dX4_writeNumber_6 rfl rfl (?_ : Go _ _ 7 _ _ _ _)
    refine Go.iload_n 1 dX4_writeNumber_7 rfl rfl (?_ : Go _ _ 8 _ _ _ _)
    refine Go.bipush dX4_writeNumber_8 k_bi_100 (?_ : Go _ _ 10 _ _ _ _)
    refine Go.idiv dX4_writeNumber_10 (by decide) (?_ : Go _ _ 11 _ _ _ _)
    refine Go.callS (as := [.int (x1 / 100)]) (st := [.ref 52]) mk_X4_digitSign wl_X4_57 rfl rfl (Nat.le_of_ble_eq_true rfl) dX4_writeNumber_11 h ?_
    rintro _ s12 ⟨r13, rfl, h⟩
    show Go _ _ 14 _ [.int r13, .ref 52] _ _
    refine Go.callV (as := [.int r13]) (st := []) mk_X4_put wl_X4_25 shq_52 rfl rfl (Nat.le_of_ble_eq_true rfl) dX4_writeNumber_14 h ?_
    rintro _ s14 ⟨rfl, h⟩
    show Go _ _ 17 _ [] _ _
    refine Go.iload_n 1 dX4_writeNumber_17 rfl rfl (?_ : Go _ _ 18 _ _ _ _)
    refine Go.bipush dX4_writeNumber_18 k_bi_10 (?_ : Go _ _ 20 _ _ _ _)
    refine Go.icmp_lt 34 dX4_writeNumber_20 rfl ⟨fun c15 => ?_, fun c15 => (?_ : Go _ _ 23 _ _ _ _)⟩
    · have h := h.1 c15
      refine Go.aload_n 0 dX4_writeNumber_34 rfl rfl (?_ : Go _ _ 35 _ _ _ _)
      refine Go.iload_n 1 dX4_writeNumber_35 rfl rfl (?_ : Go _ _ 36 _ _ _ _)
      refine Go.callS (as := [.int x1]) (st := [.ref 52]) mk_X4_digitSign wl_X4_57 rfl rfl (Nat.le_of_ble_eq_true rfl) dX4_writeNumber_36 h ?_
      rintro _ s16 ⟨r17, rfl, h⟩
      show Go _ _ 39 _ [.int r17, .ref 52] _ _
      refine Go.callV (as := [.int r17]) (st := []) mk_X4_put wl_X4_25 shq_52 rfl rfl (Nat.le_of_ble_eq_true rfl) dX4_writeNumber_39 h ?_
      rintro _ s18 ⟨rfl, h⟩
      show Go _ _ 42 _ [] _ _
      exact Go.vret rfl dX4_writeNumber_42 ⟨rfl, h⟩
    · have h := h.2 c15
      refine Go.aload_n 0 dX4_writeNumber_23 rfl rfl (?_ : Go _ _ 24 _ _ _ _)
      refine Go.iload_n 1 dX4_writeNumber_24 rfl rfl (?_ : Go _ _ 25 _ _ _ _)
      refine Go.bipush dX4_writeNumber_25 k_bi_10 (?_ : Go _ _ 27 _ _ _ _)
      refine Go.idiv dX4_writeNumber_27 (by decide) (?_ : Go _ _ 28 _ _ _ _)
      refine Go.callS (as := [.int (x1 / 10)]) (st := [.ref 52]) mk_X4_digitSign wl_X4_57 rfl rfl (Nat.le_of_ble_eq_true rfl) dX4_writeNumber_28 h ?_
      rintro _ s19 ⟨r20, rfl, h⟩
      show Go _ _ 31 _ [.int r20, .ref 52] _ _
      refine Go.callV (as := [.int r20]) (st := []) mk_X4_put wl_X4_25 shq_52 rfl rfl (Nat.le_of_ble_eq_true rfl) dX4_writeNumber_31 h ?_
      rintro _ s21 ⟨rfl, h⟩
      show Go _ _ 34 _ [] _ _
      refine Go.aload_n 0 dX4_writeNumber_34 rfl rfl (?_ : Go _ _ 35 _ _ _ _)
      refine Go.iload_n 1 dX4_writeNumber_35 rfl rfl (?_ : Go _ _ 36 _ _ _ _)
      refine Go.callS (as := [.int x1]) (st := [.ref 52]) mk_X4_digitSign wl_X4_57 rfl rfl (Nat.le_of_ble_eq_true rfl) dX4_writeNumber_36 h ?_
      rintro _ s22 ⟨r23, rfl, h⟩
      show Go _ _ 39 _ [.int r23, .ref 52] _ _
      refine Go.callV (as := [.int r23]) (st := []) mk_X4_put wl_X4_25 shq_52 rfl rfl (Nat.le_of_ble_eq_true rfl) dX4_writeNumber_39 h ?_
      rintro _ s24 ⟨rfl, h⟩
      show Go _ _ 42 _ [] _ _
      exact Go.vret rfl dX4_writeNumber_42 ⟨rfl, h⟩
theorem cgX4_writeNumber {d : Nat} {σ : St} {x1 : Int32} {K : St → Prop} (h : (x1 < 100 → (x1 < 10 → CallI d mX4_digitSign [.int x1] σ (fun r4 s3 => CallU d mX4_put [.ref 52, .int r4] s3 (fun s5 => K s5))) ∧ (¬ x1 < 10 → CallI d mX4_digitSign [.int (x1 / 10)] σ (fun r7 s6 => CallU d mX4_put [.ref 52, .int r7] s6 (fun s8 => CallI d mX4_digitSign [.int x1] s8 (fun r10 s9 => CallU d mX4_put [.ref 52, .int r10] s9 (fun s11 => K s11)))))) ∧ (¬ x1 < 100 → CallI d mX4_digitSign [.int (x1 / 100)] σ (fun r13 s12 => CallU d mX4_put [.ref 52, .int r13] s12 (fun s14 => (x1 < 10 → CallI d mX4_digitSign [.int x1] s14 (fun r17 s16 => CallU d mX4_put [.ref 52, .int r17] s16 (fun s18 => K s18))) ∧ (¬ x1 < 10 → CallI d mX4_digitSign [.int (x1 / 10)] s14 (fun r20 s19 => CallU d mX4_put [.ref 52, .int r20] s19 (fun s21 => CallI d mX4_digitSign [.int x1] s21 (fun r23 s22 => CallU d mX4_put [.ref 52, .int r23] s22 (fun s24 => K s24))))))))) : CallU (d + 1) mX4_writeNumber [.ref 52, .int x1] σ K := Call_of_Go (by decide +kernel) (ls := [.ref 52, .int x1]) rfl (Nat.le_of_ble_eq_true rfl) (sgX4_writeNumber_0 h)
set_option maxHeartbeats 4000000 in
set_option maxRecDepth 100000 in
theorem sgX4_digitSign_0 {d : Nat} {σ : St} {x0 : Int32} {K : Int32 → St → Prop} (h : (narrow .char (.int (((48 + (irem x0 10))).toUInt32 % 65536).toInt32) = .int (((48 + (irem x0 10))).toUInt32 % 65536).toInt32) ∧ K (((48 + (irem x0 10))).toUInt32 % 65536).toInt32 σ) : Go mX4_digitSign (d + 1) 0 [.int x0] [] σ (QI K) := by
  refine Go.bipush dX4_digitSign_0 k_bi_48 (?_ : Go _ _ 2 _ _ _ _)
  refine Go.iload_n 0 dX4_digitSign_2 rfl rfl (?_ : Go _ _ 3 _ _ _ _)
  refine Go.bipush dX4_digitSign_3 k_bi_10 (?_ : Go _ _ 5 _ _ _ _)
  refine Go.irem dX4_digitSign_5 (by decide) (?_ : Go _ _ 6 _ _ _ _)
  refine Go.iadd dX4_digitSign_6 (?_ : Go _ _ 7 _ _ _ _)
  refine Go.i2c dX4_digitSign_7 rfl (?_ : Go _ _ 8 _ _ _ _)
  exact Go.zret rfl h.1 dX4_digitSign_8 ⟨_, rfl, h.2⟩
theorem cgX4_digitSign {d : Nat} {σ : St} {x0 : Int32} {K : Int32 → St → Prop} (h : (narrow .char (.int (((48 + (irem x0 10))).toUInt32 % 65536).toInt32) = .int (((48 + (irem x0 10))).toUInt32 % 65536).toInt32) ∧ K (((48 + (irem x0 10))).toUInt32 % 65536).toInt32 σ) : CallI (d + 1) mX4_digitSign [.int x0] σ K := Call_of_Go (by decide +kernel) (ls := [.int x0]) rfl (Nat.le_of_ble_eq_true rfl) (sgX4_digitSign_0 h)
set_option maxHeartbeats 4000000 in
set_option maxRecDepth 100000 in
theorem sgX4_put_0 {d : Nat} {σ : St} {x1 : Int32} {K : St → Prop} (h : ((sF σ 52 1) < 0 → K σ) ∧ (¬ (sF σ 52 1) < 0 → (72 ≤ (sF σ 52 1) → K σ) ∧ (¬ 72 ≤ (sF σ 52 1) → vp_in (sF σ 52 1) 72 ∧ ∀ s3, s3 = setA σ 53 (ix (sF σ 52 1)) (nch x1) → ∀ s4, s4 = setF s3 52 1 ((sF s3 52 1) + 1) → K s4))) : Go mX4_put (d + 1) 0 [.ref 52, .int x1] [] σ (QU K) := by
  refine Go.aload_n 0 dX4_put_0 rfl rfl (?_ : Go _ _ 1 _ _ _ _)
  refine Go.getI fk_X4_15 shq_52 frq_52_1 dX4_put_1 (?_ : Go _ _ 4 _ _ _ _)
  refine Go.if_lt 39 dX4_put_4 rfl ⟨fun c1 => ?_, fun c1 => (?_ : Go _ _ 7 _ _ _ _)⟩
  · have h := h.1 c1
    exact Go.vret rfl dX4_put_39 ⟨rfl, h⟩
  · have h := h.2 c1
    refine Go.aload_n 0 dX4_put_7 rfl rfl (?_ : Go _ _ 8 _ _ _ _)
    refine Go.getI fk_X4_15 shq_52 frq_52_1 dX4_put_8 (?_ : Go _ _ 11 _ _ _ _)
    refine Go.aload_n 0 dX4_put_11 rfl rfl (?_ : Go _ _ 12 _ _ _ _)
    refine Go.getR fk_X4_9 shq_52 frq_52_0 dX4_put_12 (?_ : Go _ _ 15 _ _ _ _)
    refine Go.alen shq_53 (by decide) k_on_72 dX4_put_15 (?_ : Go _ _ 16 _ _ _ _)
    refine Go.icmp_ge 39 dX4_put_16 rfl ⟨fun c2 => ?_, fun c2 => (?_ : Go _ _ 19 _ _ _ _)⟩
    · have h := h.1 c2
      exact Go.vret rfl dX4_put_39 ⟨rfl, h⟩
    · have h := h.2 c2
      refine Go.aload_n 0 dX4_put_19 rfl rfl (?_ : Go _ _ 20 _ _ _ _)
      refine Go.getR fk_X4_9 shq_52 frq_52_0 dX4_put_20 (?_ : Go _ _ 23 _ _ _ _)
      refine Go.aload_n 0 dX4_put_23 rfl rfl (?_ : Go _ _ 24 _ _ _ _)
      refine Go.getI fk_X4_15 shq_52 frq_52_1 dX4_put_24 (?_ : Go _ _ 27 _ _ _ _)
      refine Go.iload_n 1 dX4_put_27 rfl rfl (?_ : Go _ _ 28 _ _ _ _)
      refine Go.cast shq_53 dX4_put_28 ⟨h.1, (?_ : Go _ _ 29 _ _ _ _)⟩
      generalize es3 : setA σ 53 (ix (sF σ 52 1)) (nch x1) = s3
      have h := h.2 s3 es3.symm
      refine Go.aload_n 0 dX4_put_29 rfl rfl (?_ : Go _ _ 30 _ _ _ _)
      refine Go.dup dX4_put_30 rfl (?_ : Go _ _ 31 _ _ _ _)
      refine Go.getI fk_X4_15 shq_52 frq_52_1 dX4_put_31 (?_ : Go _ _ 34 _ _ _ _)
      refine Go.iconst dX4_put_34 k_ic_1 (?_ : Go _ _ 35 _ _ _ _)
      refine Go.iadd dX4_put_35 (?_ : Go _ _ 36 _ _ _ _)
      refine Go.putI fp_X4_15 shq_52 frq_52_1 dX4_put_36 (?_ : Go _ _ 39 _ _ _ _)
      generalize es4 : setF s3 52 1 ((sF s3 52 1) + 1) = s4
      have h := h s4 es4.symm
      exact Go.vret rfl dX4_put_39 ⟨rfl, h⟩
theorem cgX4_put {d : Nat} {σ : St} {x1 : Int32} {K : St → Prop} (h : ((sF σ 52 1) < 0 → K σ) ∧ (¬ (sF σ 52 1) < 0 → (72 ≤ (sF σ 52 1) → K σ) ∧ (¬ 72 ≤ (sF σ 52 1) → vp_in (sF σ 52 1) 72 ∧ ∀ s3, s3 = setA σ 53 (ix (sF σ 52 1)) (nch x1) → ∀ s4, s4 = setF s3 52 1 ((sF s3 52 1) + 1) → K s4))) : CallU (d + 1) mX4_put [.ref 52, .int x1] σ K := Call_of_Go (by decide +kernel) (ls := [.ref 52, .int x1]) rfl (Nat.le_of_ble_eq_true rfl) (sgX4_put_0 h)
