set_option maxHeartbeats 4000000 in
set_option maxRecDepth 100000 in
theorem sgX0_listen_0 {d : Nat} {σ : St} {K : St → Prop} {b : Nat} (h_b : isSc b) (h : ∀ s1, s1 = setF σ 54 9 0 → ∀ s2, s2 = setF s1 54 11 0 → CallI d mX3_blindBelow [.ref b] s2 (fun r4 s3 => ∀ s5, s5 = setF s3 54 12 r4 → CallI d mX3_loudFrom [.ref b] s5 (fun r7 s6 => ∀ s8, s8 = setF s6 54 13 r7 → CallU d mX0_takeTargets [.ref 54, .ref b] s8 (fun s9 => ∀ s10, s10 = setF s9 54 10 (sF s9 54 9) → CallU d mX0_takeGhosts [.ref 54, .ref b] s10 (fun s11 => CallU d mX0_takePitches [.ref 54] s11 (fun s12 => Go mX0_listen (d + 1) 50 [.ref 54, .ref b, .int 0] [] s12 (QU K))))))) : Go mX0_listen (d + 1) 0 [.ref 54, .ref b, .null] [] σ (QU K) := by
  refine Go.aload_n 0 dX0_listen_0 rfl rfl (?_ : Go _ _ 1 _ _ _ _)
  refine Go.iconst dX0_listen_1 k_ic_0 (?_ : Go _ _ 2 _ _ _ _)
  refine Go.putI fp_X0_40 shq_54 frq_54_9 dX0_listen_2 (?_ : Go _ _ 5 _ _ _ _)
  generalize es1 : setF σ 54 9 0 = s1
  have h := h s1 es1.symm
  refine Go.aload_n 0 dX0_listen_5 rfl rfl (?_ : Go _ _ 6 _ _ _ _)
  refine Go.iconst dX0_listen_6 k_ic_0 (?_ : Go _ _ 7 _ _ _ _)
  refine Go.putI fp_X0_44 shq_54 frq_54_11 dX0_listen_7 (?_ : Go _ _ 10 _ _ _ _)
  generalize es2 : setF s1 54 11 0 = s2
  have h := h s2 es2.symm
  refine Go.aload_n 0 dX0_listen_10 rfl rfl (?_ : Go _ _ 11 _ _ _ _)
  refine Go.aload_n 1 dX0_listen_11 rfl rfl (?_ : Go _ _ 12 _ _ _ _)
  refine Go.callV (as := []) (st := [.ref 54]) mk_X3_blindBelow wl_X0_47 (sc_0 h_b) rfl rfl (Nat.le_of_ble_eq_true rfl) dX0_listen_12 h ?_
  rintro _ s3 ⟨r4, rfl, h⟩
  show Go _ _ 15 _ [.int r4, .ref 54] _ _
  refine Go.putI fp_X0_53 shq_54 frq_54_12 dX0_listen_15 (?_ : Go _ _ 18 _ _ _ _)
  generalize es5 : setF s3 54 12 r4 = s5
  have h := h s5 es5.symm
  refine Go.aload_n 0 dX0_listen_18 rfl rfl (?_ : Go _ _ 19 _ _ _ _)
  refine Go.aload_n 1 dX0_listen_19 rfl rfl (?_ : Go _ _ 20 _ _ _ _)
  refine Go.callV (as := []) (st := [.ref 54]) mk_X3_loudFrom wl_X0_56 (sc_0 h_b) rfl rfl (Nat.le_of_ble_eq_true rfl) dX0_listen_20 h ?_
  rintro _ s6 ⟨r7, rfl, h⟩
  show Go _ _ 23 _ [.int r7, .ref 54] _ _
  refine Go.putI fp_X0_59 shq_54 frq_54_13 dX0_listen_23 (?_ : Go _ _ 26 _ _ _ _)
  generalize es8 : setF s6 54 13 r7 = s8
  have h := h s8 es8.symm
  refine Go.aload_n 0 dX0_listen_26 rfl rfl (?_ : Go _ _ 27 _ _ _ _)
  refine Go.aload_n 1 dX0_listen_27 rfl rfl (?_ : Go _ _ 28 _ _ _ _)
  refine Go.callV (as := [.ref b]) (st := []) mk_X0_takeTargets wl_X0_62 shq_54 rfl rfl (Nat.le_of_ble_eq_true rfl) dX0_listen_28 h ?_
  rintro _ s9 ⟨rfl, h⟩
  show Go _ _ 31 _ [] _ _
  refine Go.aload_n 0 dX0_listen_31 rfl rfl (?_ : Go _ _ 32 _ _ _ _)
  refine Go.aload_n 0 dX0_listen_32 rfl rfl (?_ : Go _ _ 33 _ _ _ _)
  refine Go.getI fk_X0_40 shq_54 frq_54_9 dX0_listen_33 (?_ : Go _ _ 36 _ _ _ _)
  refine Go.putI fp_X0_66 shq_54 frq_54_10 dX0_listen_36 (?_ : Go _ _ 39 _ _ _ _)
  generalize es10 : setF s9 54 10 (sF s9 54 9) = s10
  have h := h s10 es10.symm
  refine Go.aload_n 0 dX0_listen_39 rfl rfl (?_ : Go _ _ 40 _ _ _ _)
  refine Go.aload_n 1 dX0_listen_40 rfl rfl (?_ : Go _ _ 41 _ _ _ _)
  refine Go.callV (as := [.ref b]) (st := []) mk_X0_takeGhosts wl_X0_69 shq_54 rfl rfl (Nat.le_of_ble_eq_true rfl) dX0_listen_41 h ?_
  rintro _ s11 ⟨rfl, h⟩
  show Go _ _ 44 _ [] _ _
  refine Go.aload_n 0 dX0_listen_44 rfl rfl (?_ : Go _ _ 45 _ _ _ _)
  refine Go.callV (as := []) (st := []) mk_X0_takePitches wl_X0_72 shq_54 rfl rfl (Nat.le_of_ble_eq_true rfl) dX0_listen_45 h ?_
  rintro _ s12 ⟨rfl, h⟩
  show Go _ _ 48 _ [] _ _
  refine Go.iconst dX0_listen_48 k_ic_0 (?_ : Go _ _ 49 _ _ _ _)
  refine Go.istore_n 2 dX0_listen_49 rfl (by decide) rfl rfl (?_ : Go _ _ 50 [.ref 54, .ref b, .int 0] _ _ _)
  exact h
theorem cgX0_listen {d : Nat} {σ : St} {K : St → Prop} {b : Nat} (h_b : isSc b) (h : ∀ s1, s1 = setF σ 54 9 0 → ∀ s2, s2 = setF s1 54 11 0 → CallI d mX3_blindBelow [.ref b] s2 (fun r4 s3 => ∀ s5, s5 = setF s3 54 12 r4 → CallI d mX3_loudFrom [.ref b] s5 (fun r7 s6 => ∀ s8, s8 = setF s6 54 13 r7 → CallU d mX0_takeTargets [.ref 54, .ref b] s8 (fun s9 => ∀ s10, s10 = setF s9 54 10 (sF s9 54 9) → CallU d mX0_takeGhosts [.ref 54, .ref b] s10 (fun s11 => CallU d mX0_takePitches [.ref 54] s11 (fun s12 => Go mX0_listen (d + 1) 50 [.ref 54, .ref b, .int 0] [] s12 (QU K))))))) : CallU (d + 1) mX0_listen [.ref 54, .ref b] σ K := Call_of_Go (by decide +kernel) (ls := [.ref 54, .ref b, .null]) rfl (Nat.le_of_ble_eq_true rfl) (sgX0_listen_0 h_b h)
set_option maxHeartbeats 4000000 in
set_option maxRecDepth 100000 in
theorem sgX0_listen_50 {d : Nat} {σ : St} {v2 : Int32} {K : St → Prop} {b : Nat} (h_b : isSc b) (h : CallI d mX3_turnCount [.ref b] σ (fun r2 s1 => (r2 ≤ v2 → CallI d mX3_turnCount [.ref b] s1 (fun r5 s4 => ∀ s6, s6 = setF s4 54 11 r5 → K s6)) ∧ (¬ r2 ≤ v2 → CallI d mX3_spacingOf [.ref b, .int v2] s1 (fun r8 s7 => CallU d mX0_hearTurn [.ref 54, .int v2, .int r8] s7 (fun s9 => Go mX0_listen (d + 1) 50 [.ref 54, .ref b, .int (v2 + 1)] [] s9 (QU K)))))) : Go mX0_listen (d + 1) 50 [.ref 54, .ref b, .int v2] [] σ (QU K) := by
  refine Go.iload_n 2 dX0_listen_50 rfl rfl (?_ : Go _ _ 51 _ _ _ _)
  refine Go.aload_n 1 dX0_listen_51 rfl rfl (?_ : Go _ _ 52 _ _ _ _)
  refine Go.callV (as := []) (st := [.int v2]) mk_X3_turnCount wl_X0_75 (sc_0 h_b) rfl rfl (Nat.le_of_ble_eq_true rfl) dX0_listen_52 h ?_
  rintro _ s1 ⟨r2, rfl, h⟩
  show Go _ _ 55 _ [.int r2, .int v2] _ _
  refine Go.icmp_ge 74 dX0_listen_55 rfl ⟨fun c3 => ?_, fun c3 => (?_ : Go _ _ 58 _ _ _ _)⟩
  · have h := h.1 c3
    refine Go.aload_n 0 dX0_listen_74 rfl rfl (?_ : Go _ _ 75 _ _ _ _)
    refine Go.aload_n 1 dX0_listen_75 rfl rfl (?_ : Go _ _ 76 _ _ _ _)
    refine Go.callV (as := []) (st := [.ref 54]) mk_X3_turnCount wl_X0_75 (sc_0 h_b) rfl rfl (Nat.le_of_ble_eq_true rfl) dX0_listen_76 h ?_
    rintro _ s4 ⟨r5, rfl, h⟩
    show Go _ _ 79 _ [.int r5, .ref 54] _ _
    refine Go.putI fp_X0_44 shq_54 frq_54_11 dX0_listen_79 (?_ : Go _ _ 82 _ _ _ _)
    generalize es6 : setF s4 54 11 r5 = s6
    have h := h s6 es6.symm
    exact Go.vret rfl dX0_listen_82 ⟨rfl, h⟩
  · have h := h.2 c3
    refine Go.aload_n 0 dX0_listen_58 rfl rfl (?_ : Go _ _ 59 _ _ _ _)
    refine Go.iload_n 2 dX0_listen_59 rfl rfl (?_ : Go _ _ 60 _ _ _ _)
    refine Go.aload_n 1 dX0_listen_60 rfl rfl (?_ : Go _ _ 61 _ _ _ _)
    refine Go.iload_n 2 dX0_listen_61 rfl rfl (?_ : Go _ _ 62 _ _ _ _)
    refine Go.callV (as := [.int v2]) (st := [.int v2, .ref 54]) mk_X3_spacingOf wl_X0_78 (sc_0 h_b) rfl rfl (Nat.le_of_ble_eq_true rfl) dX0_listen_62 h ?_
    rintro _ s7 ⟨r8, rfl, h⟩
    show Go _ _ 65 _ [.int r8, .int v2, .ref 54] _ _
    refine Go.callV (as := [.int v2, .int r8]) (st := []) mk_X0_hearTurn wl_X0_82 shq_54 rfl rfl (Nat.le_of_ble_eq_true rfl) dX0_listen_65 h ?_
    rintro _ s9 ⟨rfl, h⟩
    show Go _ _ 68 _ [] _ _
    refine Go.iinc dX0_listen_68 rfl (congrArg (fun z => v2 + z) k_ic_1) (by decide) rfl rfl (?_ : Go _ _ 71 [.ref 54, .ref b, .int (v2 + 1)] _ _ _)
    refine Go.goto 50 dX0_listen_71 rfl ?_
    exact h
set_option maxHeartbeats 4000000 in
set_option maxRecDepth 100000 in
theorem sgX0_takeTargets_0 {d : Nat} {σ : St} {K : St → Prop} {b : Nat} (h_b : isSc b) (h : Go mX0_takeTargets (d + 1) 2 [.ref 54, .ref b, .int 0] [] σ (QU K)) : Go mX0_takeTargets (d + 1) 0 [.ref 54, .ref b, .null] [] σ (QU K) := by
  refine Go.iconst dX0_takeTargets_0 k_ic_0 (?_ : Go _ _ 1 _ _ _ _)
  refine Go.istore_n 2 dX0_takeTargets_1 rfl (by decide) rfl rfl (?_ : Go _ _ 2 [.ref 54, .ref b, .int 0] _ _ _)
  exact h
theorem cgX0_takeTargets {d : Nat} {σ : St} {K : St → Prop} {b : Nat} (h_b : isSc b) (h : Go mX0_takeTargets (d + 1) 2 [.ref 54, .ref b, .int 0] [] σ (QU K)) : CallU (d + 1) mX0_takeTargets [.ref 54, .ref b] σ K := Call_of_Go (by decide +kernel) (ls := [.ref 54, .ref b, .null]) rfl (Nat.le_of_ble_eq_true rfl) (sgX0_takeTargets_0 h_b h)
set_option maxHeartbeats 4000000 in
set_option maxRecDepth 100000 in
theorem sgX0_takeTargets_2 {d : Nat} {σ : St} {v2 : Int32} {K : St → Prop} {b : Nat} (h_b : isSc b) (h : CallI d mX3_targetCount [.ref b] σ (fun r2 s1 => (r2 ≤ v2 → K s1) ∧ (¬ r2 ≤ v2 → CallI d mX3_distanceOf [.ref b, .int v2] s1 (fun r5 s4 => CallI d mX3_strengthOf [.ref b, .int v2] s4 (fun r7 s6 => CallI d mX3_movementOf [.ref b, .int v2] s6 (fun r9 s8 => CallU d mX0_take [.ref 54, .int r5, .int r7, .int r9, .int v2, .int v2] s8 (fun s10 => Go mX0_takeTargets (d + 1) 2 [.ref 54, .ref b, .int (v2 + 1)] [] s10 (QU K)))))))) : Go mX0_takeTargets (d + 1) 2 [.ref 54, .ref b, .int v2] [] σ (QU K) := by
  refine Go.iload_n 2 dX0_takeTargets_2 rfl rfl (?_ : Go _ _ 3 _ _ _ _)
  refine Go.aload_n 1 dX0_takeTargets_3 rfl rfl (?_ : Go _ _ 4 _ _ _ _)
  refine Go.callV (as := []) (st := [.int v2]) mk_X3_targetCount wl_X0_86 (sc_0 h_b) rfl rfl (Nat.le_of_ble_eq_true rfl) dX0_takeTargets_4 h ?_
  rintro _ s1 ⟨r2, rfl, h⟩
  show Go _ _ 7 _ [.int r2, .int v2] _ _
  refine Go.icmp_ge 37 dX0_takeTargets_7 rfl ⟨fun c3 => ?_, fun c3 => (?_ : Go _ _ 10 _ _ _ _)⟩
  · have h := h.1 c3
    exact Go.vret rfl dX0_takeTargets_37 ⟨rfl, h⟩
  · have h := h.2 c3
    refine Go.aload_n 0 dX0_takeTargets_10 rfl rfl (?_ : Go _ _ 11 _ _ _ _)
    refine Go.aload_n 1 dX0_takeTargets_11 rfl rfl (?_ : Go _ _ 12 _ _ _ _)
    refine Go.iload_n 2 dX0_takeTargets_12 rfl rfl (?_ : Go _ _ 13 _ _ _ _)
    refine Go.callV (as := [.int v2]) (st := [.ref 54]) mk_X3_distanceOf wl_X0_89 (sc_0 h_b) rfl rfl (Nat.le_of_ble_eq_true rfl) dX0_takeTargets_13 h ?_
    rintro _ s4 ⟨r5, rfl, h⟩
    show Go _ _ 16 _ [.int r5, .ref 54] _ _
    refine Go.aload_n 1 dX0_takeTargets_16 rfl rfl (?_ : Go _ _ 17 _ _ _ _)
    refine Go.iload_n 2 dX0_takeTargets_17 rfl rfl (?_ : Go _ _ 18 _ _ _ _)
    refine Go.callV (as := [.int v2]) (st := [.int r5, .ref 54]) mk_X3_strengthOf wl_X0_92 (sc_0 h_b) rfl rfl (Nat.le_of_ble_eq_true rfl) dX0_takeTargets_18 h ?_
    rintro _ s6 ⟨r7, rfl, h⟩
    show Go _ _ 21 _ [.int r7, .int r5, .ref 54] _ _
    refine Go.aload_n 1 dX0_takeTargets_21 rfl rfl (?_ : Go _ _ 22 _ _ _ _)
    refine Go.iload_n 2 dX0_takeTargets_22 rfl rfl (?_ : Go _ _ 23 _ _ _ _)
    refine Go.callV (as := [.int v2]) (st := [.int r7, .int r5, .ref 54]) mk_X3_movementOf wl_X0_95 (sc_0 h_b) rfl rfl (Nat.le_of_ble_eq_true rfl) dX0_takeTargets_23 h ?_
    rintro _ s8 ⟨r9, rfl, h⟩
    show Go _ _ 26 _ [.int r9, .int r7, .int r5, .ref 54] _ _
    refine Go.iload_n 2 dX0_takeTargets_26 rfl rfl (?_ : Go _ _ 27 _ _ _ _)
    refine Go.iload_n 2 dX0_takeTargets_27 rfl rfl (?_ : Go _ _ 28 _ _ _ _)
    refine Go.callV (as := [.int r5, .int r7, .int r9, .int v2, .int v2]) (st := []) mk_X0_take wl_X0_98 shq_54 rfl rfl (Nat.le_of_ble_eq_true rfl) dX0_takeTargets_28 h ?_
    rintro _ s10 ⟨rfl, h⟩
    show Go _ _ 31 _ [] _ _
    refine Go.iinc dX0_takeTargets_31 rfl (congrArg (fun z => v2 + z) k_ic_1) (by decide) rfl rfl (?_ : Go _ _ 34 [.ref 54, .ref b, .int (v2 + 1)] _ _ _)
    refine Go.goto 2 dX0_takeTargets_34 rfl ?_
    exact h
set_option maxHeartbeats 4000000 in
set_option maxRecDepth 100000 in
theorem sgX0_takeGhosts_0 {d : Nat} {σ : St} {K : St → Prop} {b : Nat} (h_b : isSc b) (h : Go mX0_takeGhosts (d + 1) 2 [.ref 54, .ref b, .int 0, .null] [] σ (QU K)) : Go mX0_takeGhosts (d + 1) 0 [.ref 54, .ref b, .null, .null] [] σ (QU K) := by
  refine Go.iconst dX0_takeGhosts_0 k_ic_0 (?_ : Go _ _ 1 _ _ _ _)
  refine Go.istore_n 2 dX0_takeGhosts_1 rfl (by decide) rfl rfl (?_ : Go _ _ 2 [.ref 54, .ref b, .int 0, .null] _ _ _)
  exact h
theorem cgX0_takeGhosts {d : Nat} {σ : St} {K : St → Prop} {b : Nat} (h_b : isSc b) (h : Go mX0_takeGhosts (d + 1) 2 [.ref 54, .ref b, .int 0, .null] [] σ (QU K)) : CallU (d + 1) mX0_takeGhosts [.ref 54, .ref b] σ K := Call_of_Go (by decide +kernel) (ls := [.ref 54, .ref b, .null, .null]) rfl (Nat.le_of_ble_eq_true rfl) (sgX0_takeGhosts_0 h_b h)
set_option maxHeartbeats 4000000 in
set_option maxRecDepth 100000 in
theorem sgX0_takeGhosts_2 {d : Nat} {σ : St} {v2 : Int32} {K : St → Prop} {b : Nat} (h_b : isSc b) (h : CallI d mX3_targetCount [.ref b] σ (fun r2 s1 => (r2 ≤ v2 → K s1) ∧ (¬ r2 ≤ v2 → Go mX0_takeGhosts (d + 1) 14 [.ref 54, .ref b, .int v2, .int (v2 + 1)] [] s1 (QU K)))) : Go mX0_takeGhosts (d + 1) 2 [.ref 54, .ref b, .int v2, .null] [] σ (QU K) := by
  refine Go.iload_n 2 dX0_takeGhosts_2 rfl rfl (?_ : Go _ _ 3 _ _ _ _)
  refine Go.aload_n 1 dX0_takeGhosts_3 rfl rfl (?_ : Go _ _ 4 _ _ _ _)
  refine Go.callV (as := []) (st := [.int v2]) mk_X3_targetCount wl_X0_86 (sc_0 h_b) rfl rfl (Nat.le_of_ble_eq_true rfl) dX0_takeGhosts_4 h ?_
  rintro _ s1 ⟨r2, rfl, h⟩
  show Go _ _ 7 _ [.int r2, .int v2] _ _
  refine Go.icmp_ge 57 dX0_takeGhosts_7 rfl ⟨fun c3 => ?_, fun c3 => (?_ : Go _ _ 10 _ _ _ _)⟩
  · have h := h.1 c3
    exact Go.vret rfl dX0_takeGhosts_57 ⟨rfl, h⟩
  · have h := h.2 c3
    refine Go.iload_n 2 dX0_takeGhosts_10 rfl rfl (?_ : Go _ _ 11 _ _ _ _)
    refine Go.iconst dX0_takeGhosts_11 k_ic_1 (?_ : Go _ _ 12 _ _ _ _)
    refine Go.iadd dX0_takeGhosts_12 (?_ : Go _ _ 13 _ _ _ _)
    refine Go.istore_n 3 dX0_takeGhosts_13 rfl (by decide) rfl rfl (?_ : Go _ _ 14 [.ref 54, .ref b, .int v2, .int (v2 + 1)] _ _ _)
    exact h
set_option maxHeartbeats 4000000 in
set_option maxRecDepth 100000 in
theorem sgX0_takeGhosts_14 {d : Nat} {σ : St} {v2 : Int32} {v3 : Int32} {K : St → Prop} {b : Nat} (h_b : isSc b) (h : CallI d mX3_targetCount [.ref b] σ (fun r2 s1 => (r2 ≤ v3 → Go mX0_takeGhosts (d + 1) 2 [.ref 54, .ref b, .int (v2 + 1), .null] [] s1 (QU K)) ∧ (¬ r2 ≤ v3 → CallI d mX3_isWall [.ref b, .int v2] s1 (fun r5 s4 => (r5 = 0 → Go mX0_takeGhosts (d + 1) 14 [.ref 54, .ref b, .int v2, .int (v3 + 1)] [] s4 (QU K)) ∧ (¬ r5 = 0 → CallI d mX3_isWall [.ref b, .int v3] s4 (fun r8 s7 => (r8 = 0 → Go mX0_takeGhosts (d + 1) 14 [.ref 54, .ref b, .int v2, .int (v3 + 1)] [] s7 (QU K)) ∧ (¬ r8 = 0 → CallU d mX0_takeGhost [.ref 54, .ref b, .int v2, .int v3] s7 (fun s10 => Go mX0_takeGhosts (d + 1) 14 [.ref 54, .ref b, .int v2, .int (v3 + 1)] [] s10 (QU K))))))))) : Go mX0_takeGhosts (d + 1) 14 [.ref 54, .ref b, .int v2, .int v3] [] σ (QU K) := by
  refine Go.iload_n 3 dX0_takeGhosts_14 rfl rfl (?_ : Go _ _ 15 _ _ _ _)
  refine Go.aload_n 1 dX0_takeGhosts_15 rfl rfl (?_ : Go _ _ 16 _ _ _ _)
  refine Go.callV (as := []) (st := [.int v3]) mk_X3_targetCount wl_X0_86 (sc_0 h_b) rfl rfl (Nat.le_of_ble_eq_true rfl) dX0_takeGhosts_16 h ?_
  rintro _ s1 ⟨r2, rfl, h⟩
  show Go _ _ 19 _ [.int r2, .int v3] _ _
  refine Go.icmp_ge 51 dX0_takeGhosts_19 rfl ⟨fun c3 => ?_, fun c3 => (?_ : Go _ _ 22 _ _ _ _)⟩
  · have h := h.1 c3
    refine Go.iinc dX0_takeGhosts_51 rfl (congrArg (fun z => v2 + z) k_ic_1) (by decide) rfl rfl (?_ : Go _ _ 54 [.ref 54, .ref b, .int (v2 + 1), .int v3] _ _ _)
    refine Go.goto 2 dX0_takeGhosts_54 rfl ?_
    refine Go.drop (ls' := [.ref 54, .ref b, .int (v2 + 1), .null]) 3 rfl ?_
    exact h
  · have h := h.2 c3
    refine Go.aload_n 1 dX0_takeGhosts_22 rfl rfl (?_ : Go _ _ 23 _ _ _ _)
    refine Go.iload_n 2 dX0_takeGhosts_23 rfl rfl (?_ : Go _ _ 24 _ _ _ _)
    refine Go.callV (as := [.int v2]) (st := []) mk_X3_isWall wl_X0_102 (sc_0 h_b) rfl rfl (Nat.le_of_ble_eq_true rfl) dX0_takeGhosts_24 h ?_
    rintro _ s4 ⟨r5, rfl, h⟩
    show Go _ _ 27 _ [.int r5] _ _
    refine Go.if_eq 45 dX0_takeGhosts_27 rfl ⟨fun c6 => ?_, fun c6 => (?_ : Go _ _ 30 _ _ _ _)⟩
    · have h := h.1 c6
      refine Go.iinc dX0_takeGhosts_45 rfl (congrArg (fun z => v3 + z) k_ic_1) (by decide) rfl rfl (?_ : Go _ _ 48 [.ref 54, .ref b, .int v2, .int (v3 + 1)] _ _ _)
      refine Go.goto 14 dX0_takeGhosts_48 rfl ?_
      exact h
    · have h := h.2 c6
      refine Go.aload_n 1 dX0_takeGhosts_30 rfl rfl (?_ : Go _ _ 31 _ _ _ _)
      refine Go.iload_n 3 dX0_takeGhosts_31 rfl rfl (?_ : Go _ _ 32 _ _ _ _)
      refine Go.callV (as := [.int v3]) (st := []) mk_X3_isWall wl_X0_102 (sc_0 h_b) rfl rfl (Nat.le_of_ble_eq_true rfl) dX0_takeGhosts_32 h ?_
      rintro _ s7 ⟨r8, rfl, h⟩
      show Go _ _ 35 _ [.int r8] _ _
      refine Go.if_eq 45 dX0_takeGhosts_35 rfl ⟨fun c9 => ?_, fun c9 => (?_ : Go _ _ 38 _ _ _ _)⟩
      · have h := h.1 c9
        refine Go.iinc dX0_takeGhosts_45 rfl (congrArg (fun z => v3 + z) k_ic_1) (by decide) rfl rfl (?_ : Go _ _ 48 [.ref 54, .ref b, .int v2, .int (v3 + 1)] _ _ _)
        refine Go.goto 14 dX0_takeGhosts_48 rfl ?_
        exact h
      · have h := h.2 c9
        refine Go.aload_n 0 dX0_takeGhosts_38 rfl rfl (?_ : Go _ _ 39 _ _ _ _)
        refine Go.aload_n 1 dX0_takeGhosts_39 rfl rfl (?_ : Go _ _ 40 _ _ _ _)
        refine Go.iload_n 2 dX0_takeGhosts_40 rfl rfl (?_ : Go _ _ 41 _ _ _ _)
        refine Go.iload_n 3 dX0_takeGhosts_41 rfl rfl (?_ : Go _ _ 42 _ _ _ _)
        refine Go.callV (as := [.ref b, .int v2, .int v3]) (st := []) mk_X0_takeGhost wl_X0_106 shq_54 rfl rfl (Nat.le_of_ble_eq_true rfl) dX0_takeGhosts_42 h ?_
        rintro _ s10 ⟨rfl, h⟩
        show Go _ _ 45 _ [] _ _
        refine Go.iinc dX0_takeGhosts_45 rfl (congrArg (fun z => v3 + z) k_ic_1) (by decide) rfl rfl (?_ : Go _ _ 48 [.ref 54, .ref b, .int v2, .int (v3 + 1)] _ _ _)
        refine Go.goto 14 dX0_takeGhosts_48 rfl ?_
        exact h
set_option maxHeartbeats 4000000 in
set_option maxRecDepth 100000 in
theorem sgX0_takeGhost_0 {d : Nat} {σ : St} {x2 : Int32} {x3 : Int32} {K : St → Prop} {b : Nat} (h_b : isSc b) (h : CallI d mX3_distanceOf [.ref b, .int x2] σ (fun r2 s1 => CallI d mX3_distanceOf [.ref b, .int x3] s1 (fun r4 s3 => CallI d mX3_distanceOf [.ref b, .int x2] s3 (fun r6 s5 => CallI d mX3_distanceOf [.ref b, .int x3] s5 (fun r8 s7 => CallI d mX3_strengthOf [.ref b, .int x2] s7 (fun r10 s9 => CallI d mX3_strengthOf [.ref b, .int x3] s9 (fun r12 s11 => (((r10 * r12) / 200) ≤ 0 → K s11) ∧ (¬ ((r10 * r12) / 200) ≤ 0 → CallU d mX0_take [.ref 54, .int ((2 * (if r6 < r8 then r8 else r6)) - (if r4 < r2 then r4 else r2)), .int ((r10 * r12) / 200), .int 0, .int x2, .int x3] s11 (fun s14 => K s14))))))))) : Go mX0_takeGhost (d + 1) 0 [.ref 54, .ref b, .int x2, .int x3, .null, .null, .null] [] σ (QU K) := by
  refine Go.aload_n 1 dX0_takeGhost_0 rfl rfl (?_ : Go _ _ 1 _ _ _ _)
  refine Go.iload_n 2 dX0_takeGhost_1 rfl rfl (?_ : Go _ _ 2 _ _ _ _)
  refine Go.callV (as := [.int x2]) (st := []) mk_X3_distanceOf wl_X0_89 (sc_0 h_b) rfl rfl (Nat.le_of_ble_eq_true rfl) dX0_takeGhost_2 h ?_
  rintro _ s1 ⟨r2, rfl, h⟩
  show Go _ _ 5 _ [.int r2] _ _
  refine Go.aload_n 1 dX0_takeGhost_5 rfl rfl (?_ : Go _ _ 6 _ _ _ _)
  refine Go.iload_n 3 dX0_takeGhost_6 rfl rfl (?_ : Go _ _ 7 _ _ _ _)
  refine Go.callV (as := [.int x3]) (st := [.int r2]) mk_X3_distanceOf wl_X0_89 (sc_0 h_b) rfl rfl (Nat.le_of_ble_eq_true rfl) dX0_takeGhost_7 h ?_
  rintro _ s3 ⟨r4, rfl, h⟩
  show Go _ _ 10 _ [.int r4, .int r2] _ _
  refine Go.mmin wl_X0_110 wt_min wi_Math wc_min (Nat.le_of_ble_eq_true rfl) dX0_takeGhost_10 (?_ : Go _ _ 13 _ _ _ _)
  refine Go.istore dX0_takeGhost_13 (by decide) rfl rfl (?_ : Go _ _ 15 [.ref 54, .ref b, .int x2, .int x3, .int (if r4 < r2 then r4 else r2), .null, .null] _ _ _)
  refine Go.aload_n 1 dX0_takeGhost_15 rfl rfl (?_ : Go _ _ 16 _ _ _ _)
  refine Go.iload_n 2 dX0_takeGhost_16 rfl rfl (?_ : Go _ _ 17 _ _ _ _)
  refine Go.callV (as := [.int x2]) (st := []) mk_X3_distanceOf wl_X0_89 (sc_0 h_b) rfl rfl (Nat.le_of_ble_eq_true rfl) dX0_takeGhost_17 h ?_
  rintro _ s5 ⟨r6, rfl, h⟩
  show Go _ _ 20 _ [.int r6] _ _
  refine Go.aload_n 1 dX0_takeGhost_20 rfl rfl (?_ : Go _ _ 21 _ _ _ _)
  refine Go.iload_n 3 dX0_takeGhost_21 rfl rfl (?_ : Go _ _ 22 _ _ _ _)
  refine Go.callV (as := [.int x3]) (st := [.int r6]) mk_X3_distanceOf wl_X0_89 (sc_0 h_b) rfl rfl (Nat.le_of_ble_eq_true rfl) dX0_takeGhost_22 h ?_
  rintro _ s7 ⟨r8, rfl, h⟩
  show Go _ _ 25 _ [.int r8, .int r6] _ _
  refine Go.mmax wl_X0_116 wt_max wi_Math wc_max (Nat.le_of_ble_eq_true rfl) dX0_takeGhost_25 (?_ : Go _ _ 28 _ _ _ _)
  refine Go.istore dX0_takeGhost_28 (by decide) rfl rfl (?_ : Go _ _ 30 [.ref 54, .ref b, .int x2, .int x3, .int (if r4 < r2 then r4 else r2), .int (if r6 < r8 then r8 else r6), .null] _ _ _)
  refine Go.aload_n 1 dX0_takeGhost_30 rfl rfl (?_ : Go _ _ 31 _ _ _ _)
  refine Go.iload_n 2 dX0_takeGhost_31 rfl rfl (?_ : Go _ _ 32 _ _ _ _)
  refine Go.callV (as := [.int x2]) (st := []) mk_X3_strengthOf wl_X0_92 (sc_0 h_b) rfl rfl (Nat.le_of_ble_eq_true rfl) dX0_takeGhost_32 h ?_
  rintro _ s9 ⟨r10, rfl, h⟩
  show Go _ _ 35 _ [.int r10] _ _
  refine Go.aload_n 1 dX0_takeGhost_35 rfl rfl (?_ : Go _ _ 36 _ _ _ _)
  refine Go.iload_n 3 dX0_takeGhost_36 rfl rfl (?_ : Go _ _ 37 _ _ _ _)
  refine Go.callV (as := [.int x3]) (st := [.int r10]) mk_X3_strengthOf wl_X0_92 (sc_0 h_b) rfl rfl (Nat.le_of_ble_eq_true rfl) dX0_takeGhost_37 h ?_
  rintro _ s11 ⟨r12, rfl, h⟩
  show Go _ _ 40 _ [.int r12, .int r10] _ _
  refine Go.imul dX0_takeGhost_40 (?_ : Go _ _ 41 _ _ _ _)
  refine Go.sipush dX0_takeGhost_41 k_si_200 (?_ : Go _ _ 44 _ _ _ _)
  refine Go.idiv dX0_takeGhost_44 (by decide) (?_ : Go _ _ 45 _ _ _ _)
  refine Go.istore dX0_takeGhost_45 (by decide) rfl rfl (?_ : Go _ _ 47 [.ref 54, .ref b, .int x2, .int x3, .int (if r4 < r2 then r4 else r2), .int (if r6 < r8 then r8 else r6), .int ((r10 * r12) / 200)] _ _ _)
  refine Go.iload dX0_takeGhost_47 rfl (?_ : Go _ _ 49 _ _ _ _)
  refine Go.if_le 68 dX0_takeGhost_49 rfl ⟨fun c13 => ?_, fun c13 => (?_ : Go _ _ 52 _ _ _ _)⟩
  · have h := h.1 c13
    exact Go.vret rfl dX0_takeGhost_68 ⟨rfl, h⟩
  · have h := h.2 c13
    refine Go.aload_n 0 dX0_takeGhost_52 rfl rfl (?_ : Go _ _ 53 _ _ _ _)
    refine Go.iconst dX0_takeGhost_53 k_ic_2 (?_ : Go _ _ 54 _ _ _ _)
    refine Go.iload dX0_takeGhost_54 rfl (?_ : Go _ _ 56 _ _ _ _)
    refine Go.imul dX0_takeGhost_56 (?_ : Go _ _ 57 _ _ _ _)
    refine Go.iload dX0_takeGhost_57 rfl (?_ : Go _ _ 59 _ _ _ _)
    refine Go.isub dX0_takeGhost_59 (?_ : Go _ _ 60 _ _ _ _)
    refine Go.iload dX0_takeGhost_60 rfl (?_ : Go _ _ 62 _ _ _ _)
    refine Go.iconst dX0_takeGhost_62 k_ic_0 (?_ : Go _ _ 63 _ _ _ _)
    refine Go.iload_n 2 dX0_takeGhost_63 rfl rfl (?_ : Go _ _ 64 _ _ _ _)
    refine Go.iload_n 3 dX0_takeGhost_64 rfl rfl (?_ : Go _ _ 65 _ _ _ _)
    refine Go.callV (as := [.int ((2 * (if r6 < r8 then r8 else r6)) - (if r4 < r2 then r4 else r2)), .int ((r10 * r12) / 200), .int 0, .int x2, .int x3]) (st := []) mk_X0_take wl_X0_98 shq_54 rfl rfl (Nat.le_of_ble_eq_true rfl) dX0_takeGhost_65 h ?_
    rintro _ s14 ⟨rfl, h⟩
    show Go _ _ 68 _ [] _ _
    exact Go.vret rfl dX0_takeGhost_68 ⟨rfl, h⟩
theorem cgX0_takeGhost {d : Nat} {σ : St} {x2 : Int32} {x3 : Int32} {K : St → Prop} {b : Nat} (h_b : isSc b) (h : CallI d mX3_distanceOf [.ref b, .int x2] σ (fun r2 s1 => CallI d mX3_distanceOf [.ref b, .int x3] s1 (fun r4 s3 => CallI d mX3_distanceOf [.ref b, .int x2] s3 (fun r6 s5 => CallI d mX3_distanceOf [.ref b, .int x3] s5 (fun r8 s7 => CallI d mX3_strengthOf [.ref b, .int x2] s7 (fun r10 s9 => CallI d mX3_strengthOf [.ref b, .int x3] s9 (fun r12 s11 => (((r10 * r12) / 200) ≤ 0 → K s11) ∧ (¬ ((r10 * r12) / 200) ≤ 0 → CallU d mX0_take [.ref 54, .int ((2 * (if r6 < r8 then r8 else r6)) - (if r4 < r2 then r4 else r2)), .int ((r10 * r12) / 200), .int 0, .int x2, .int x3] s11 (fun s14 => K s14))))))))) : CallU (d + 1) mX0_takeGhost [.ref 54, .ref b, .int x2, .int x3] σ K := Call_of_Go (by decide +kernel) (ls := [.ref 54, .ref b, .int x2, .int x3, .null, .null, .null]) rfl (Nat.le_of_ble_eq_true rfl) (sgX0_takeGhost_0 h_b h)
set_option maxHeartbeats 4000000 in
set_option maxRecDepth 100000 in
theorem sgX0_take_0 {d : Nat} {σ : St} {x1 : Int32} {x2 : Int32} {x3 : Int32} {x4 : Int32} {x5 : Int32} {K : St → Prop} (h : ((sF σ 54 9) < 0 → K σ) ∧ (¬ (sF σ 54 9) < 0 → (21 ≤ (sF σ 54 9) → K σ) ∧ (¬ 21 ≤ (sF σ 54 9) → vp_in (sF σ 54 9) 21 ∧ ∀ s3, s3 = setA σ 55 (ix (sF σ 54 9)) x1 → vp_in (sF s3 54 9) 21 ∧ ∀ s4, s4 = setA s3 56 (ix (sF s3 54 9)) x2 → vp_in (sF s4 54 9) 21 ∧ ∀ s5, s5 = setA s4 57 (ix (sF s4 54 9)) x3 → vp_in (sF s5 54 9) 21 ∧ ∀ s6, s6 = setA s5 58 (ix (sF s5 54 9)) x4 → vp_in (sF s6 54 9) 21 ∧ ∀ s7, s7 = setA s6 59 (ix (sF s6 54 9)) x5 → ∀ s8, s8 = setF s7 54 9 ((sF s7 54 9) + 1) → K s8))) : Go mX0_take (d + 1) 0 [.ref 54, .int x1, .int x2, .int x3, .int x4, .int x5] [] σ (QU K) := by
  refine Go.aload_n 0 dX0_take_0 rfl rfl (?_ : Go _ _ 1 _ _ _ _)
  refine Go.getI fk_X0_40 shq_54 frq_54_9 dX0_take_1 (?_ : Go _ _ 4 _ _ _ _)
  refine Go.if_lt 78 dX0_take_4 rfl ⟨fun c1 => ?_, fun c1 => (?_ : Go _ _ 7 _ _ _ _)⟩
  · have h := h.1 c1
    exact Go.vret rfl dX0_take_78 ⟨rfl, h⟩
  · have h := h.2 c1
    refine Go.aload_n 0 dX0_take_7 rfl rfl (?_ : Go _ _ 8 _ _ _ _)
    refine Go.getI fk_X0_40 shq_54 frq_54_9 dX0_take_8 (?_ : Go _ _ 11 _ _ _ _)
    refine Go.bipush dX0_take_11 k_bi_21 (?_ : Go _ _ 13 _ _ _ _)
    refine Go.icmp_ge 78 dX0_take_13 rfl ⟨fun c2 => ?_, fun c2 => (?_ : Go _ _ 16 _ _ _ _)⟩
    · have h := h.1 c2
      exact Go.vret rfl dX0_take_78 ⟨rfl, h⟩
    · have h := h.2 c2
      refine Go.aload_n 0 dX0_take_16 rfl rfl (?_ : Go _ _ 17 _ _ _ _)
      refine Go.getR fk_X0_11 shq_54 frq_54_0 dX0_take_17 (?_ : Go _ _ 20 _ _ _ _)
      refine Go.aload_n 0 dX0_take_20 rfl rfl (?_ : Go _ _ 21 _ _ _ _)
      refine Go.getI fk_X0_40 shq_54 frq_54_9 dX0_take_21 (?_ : Go _ _ 24 _ _ _ _)
      refine Go.iload_n 1 dX0_take_24 rfl rfl (?_ : Go _ _ 25 _ _ _ _)
      refine Go.iast shq_55 dX0_take_25 ⟨h.1, (?_ : Go _ _ 26 _ _ _ _)⟩
      generalize es3 : setA σ 55 (ix (sF σ 54 9)) x1 = s3
      have h := h.2 s3 es3.symm
      refine Go.aload_n 0 dX0_take_26 rfl rfl (?_ : Go _ _ 27 _ _ _ _)
      refine Go.getR fk_X0_15 shq_54 frq_54_1 dX0_take_27 (?_ : Go _ _ 30 _ _ _ _)
      refine Go.aload_n 0 dX0_take_30 rfl rfl (?_ : Go _ _ 31 _ _ _ _)
      refine Go.getI fk_X0_40 shq_54 frq_54_9 dX0_take_31 (?_ : Go _ _ 34 _ _ _ _)
      refine Go.iload_n 2 dX0_take_34 rfl rfl (?_ : Go _ _ 35 _ _ _ _)
      refine Go.iast shq_56 dX0_take_35 ⟨h.1, (?_ : Go _ _ 36 _ _ _ _)⟩
      generalize es4 : setA s3 56 (ix (sF s3 54 9)) x2 = s4
      have h := h.2 s4 es4.symm
      refine Go.aload_n 0 dX0_take_36 rfl rfl (?_ : Go _ _ 37 _ _ _ _)
      refine Go.getR fk_X0_18 shq_54 frq_54_2 dX0_take_37 (?_ : Go _ _ 40 _ _ _ _)
      refine Go.aload_n 0 dX0_take_40 rfl rfl (?_ : Go _ _ 41 _ _ _ _)
      refine Go.getI fk_X0_40 shq_54 frq_54_9 dX0_take_41 (?_ : Go _ _ 44 _ _ _ _)
      refine Go.iload_n 3 dX0_take_44 rfl rfl (?_ : Go _ _ 45 _ _ _ _)
      refine Go.iast shq_57 dX0_take_45 ⟨h.1, (?_ : Go _ _ 46 _ _ _ _)⟩
      generalize es5 : setA s4 57 (ix (sF s4 54 9)) x3 = s5
      have h := h.2 s5 es5.symm
      refine Go.aload_n 0 dX0_take_46 rfl rfl (?_ : Go _ _ 47 _ _ _ _)
      refine Go.getR fk_X0_21 shq_54 frq_54_3 dX0_take_47 (?_ : Go _ _ 50 _ _ _ _)
      refine Go.aload_n 0 dX0_take_50 rfl rfl (?_ : Go _ _ 51 _ _ _ _)
      refine Go.getI fk_X0_40 shq_54 frq_54_9 dX0_take_51 (?_ : Go _ _ 54 _ _ _ _)
      refine Go.iload dX0_take_54 rfl (?_ : Go _ _ 56 _ _ _ _)
      refine Go.iast shq_58 dX0_take_56 ⟨h.1, (?_ : Go _ _ 57 _ _ _ _)⟩
      generalize es6 : setA s5 58 (ix (sF s5 54 9)) x4 = s6
      have h := h.2 s6 es6.symm
      refine Go.aload_n 0 dX0_take_57 rfl rfl (?_ : Go _ _ 58 _ _ _ _)
      refine Go.getR fk_X0_24 shq_54 frq_54_4 dX0_take_58 (?_ : Go _ _ 61 _ _ _ _)
      refine Go.aload_n 0 dX0_take_61 rfl rfl (?_ : Go _ _ 62 _ _ _ _)
      refine Go.getI fk_X0_40 shq_54 frq_54_9 dX0_take_62 (?_ : Go _ _ 65 _ _ _ _)
      refine Go.iload dX0_take_65 rfl (?_ : Go _ _ 67 _ _ _ _)
      refine Go.iast shq_59 dX0_take_67 ⟨h.1, (?_ : Go _ _ 68 _ _ _ _)⟩
      generalize es7 : setA s6 59 (ix (sF s6 54 9)) x5 = s7
      have h := h.2 s7 es7.symm
      refine Go.aload_n 0 dX0_take_68 rfl rfl (?_ : Go _ _ 69 _ _ _ _)
      refine Go.dup dX0_take_69 rfl (?_ : Go _ _ 70 _ _ _ _)
      refine Go.getI fk_X0_40 shq_54 frq_54_9 dX0_take_70 (?_ : Go _ _ 73 _ _ _ _)
      refine Go.iconst dX0_take_73 k_ic_1 (?_ : Go _ _ 74 _ _ _ _)
      refine Go.iadd dX0_take_74 (?_ : Go _ _ 75 _ _ _ _)
      refine Go.putI fp_X0_40 shq_54 frq_54_9 dX0_take_75 (?_ : Go _ _ 78 _ _ _ _)
      generalize es8 : setF s7 54 9 ((sF s7 54 9) + 1) = s8
      have h := h s8 es8.symm
      exact Go.vret rfl dX0_take_78 ⟨rfl, h⟩
theorem cgX0_take {d : Nat} {σ : St} {x1 : Int32} {x2 : Int32} {x3 : Int32} {x4 : Int32} {x5 : Int32} {K : St → Prop} (h : ((sF σ 54 9) < 0 → K σ) ∧ (¬ (sF σ 54 9) < 0 → (21 ≤ (sF σ 54 9) → K σ) ∧ (¬ 21 ≤ (sF σ 54 9) → vp_in (sF σ 54 9) 21 ∧ ∀ s3, s3 = setA σ 55 (ix (sF σ 54 9)) x1 → vp_in (sF s3 54 9) 21 ∧ ∀ s4, s4 = setA s3 56 (ix (sF s3 54 9)) x2 → vp_in (sF s4 54 9) 21 ∧ ∀ s5, s5 = setA s4 57 (ix (sF s4 54 9)) x3 → vp_in (sF s5 54 9) 21 ∧ ∀ s6, s6 = setA s5 58 (ix (sF s5 54 9)) x4 → vp_in (sF s6 54 9) 21 ∧ ∀ s7, s7 = setA s6 59 (ix (sF s6 54 9)) x5 → ∀ s8, s8 = setF s7 54 9 ((sF s7 54 9) + 1) → K s8))) : CallU (d + 1) mX0_take [.ref 54, .int x1, .int x2, .int x3, .int x4, .int x5] σ K := Call_of_Go (by decide +kernel) (ls := [.ref 54, .int x1, .int x2, .int x3, .int x4, .int x5]) rfl (Nat.le_of_ble_eq_true rfl) (sgX0_take_0 h)
set_option maxHeartbeats 4000000 in
set_option maxRecDepth 100000 in
theorem sgX0_takePitches_0 {d : Nat} {σ : St} {K : St → Prop} (h : ∀ s1, s1 = setF σ 54 14 0 → Go mX0_takePitches (d + 1) 8 [.ref 54, .int (-5)] [] s1 (QU K)) : Go mX0_takePitches (d + 1) 0 [.ref 54, .null] [] σ (QU K) := by
  refine Go.aload_n 0 dX0_takePitches_0 rfl rfl (?_ : Go _ _ 1 _ _ _ _)
  refine Go.iconst dX0_takePitches_1 k_ic_0 (?_ : Go _ _ 2 _ _ _ _)
  refine Go.putI fp_X0_119 shq_54 frq_54_14 dX0_takePitches_2 (?_ : Go _ _ 5 _ _ _ _)
  generalize es1 : setF σ 54 14 0 = s1
  have h := h s1 es1.symm
  refine Go.bipush dX0_takePitches_5 k_bi_m5 (?_ : Go _ _ 7 _ _ _ _)
  refine Go.istore_n 1 dX0_takePitches_7 rfl (by decide) rfl rfl (?_ : Go _ _ 8 [.ref 54, .int (-5)] _ _ _)
  exact h
theorem cgX0_takePitches {d : Nat} {σ : St} {K : St → Prop} (h : ∀ s1, s1 = setF σ 54 14 0 → Go mX0_takePitches (d + 1) 8 [.ref 54, .int (-5)] [] s1 (QU K)) : CallU (d + 1) mX0_takePitches [.ref 54] σ K := Call_of_Go (by decide +kernel) (ls := [.ref 54, .null]) rfl (Nat.le_of_ble_eq_true rfl) (sgX0_takePitches_0 h)
set_option maxHeartbeats 4000000 in
set_option maxRecDepth 100000 in
theorem sgX0_takePitches_8 {d : Nat} {σ : St} {v1 : Int32} {K : St → Prop} (h : (5 < v1 → K σ) ∧ (¬ 5 < v1 → CallI d mX0_sounds [.ref 54, .int v1] σ (fun r3 s2 => (r3 = 0 → Go mX0_takePitches (d + 1) 8 [.ref 54, .int (v1 + 1)] [] s2 (QU K)) ∧ (¬ r3 = 0 → ((sF s2 54 14) < 0 → Go mX0_takePitches (d + 1) 8 [.ref 54, .int (v1 + 1)] [] s2 (QU K)) ∧ (¬ (sF s2 54 14) < 0 → (11 ≤ (sF s2 54 14) → Go mX0_takePitches (d + 1) 8 [.ref 54, .int (v1 + 1)] [] s2 (QU K)) ∧ (¬ 11 ≤ (sF s2 54 14) → vp_in (sF s2 54 14) 11 ∧ ∀ s7, s7 = setA s2 62 (ix (sF s2 54 14)) v1 → ∀ s8, s8 = setF s7 54 14 ((sF s7 54 14) + 1) → Go mX0_takePitches (d + 1) 8 [.ref 54, .int (v1 + 1)] [] s8 (QU K))))))) : Go mX0_takePitches (d + 1) 8 [.ref 54, .int v1] [] σ (QU K) := by
  refine Go.iload_n 1 dX0_takePitches_8 rfl rfl (?_ : Go _ _ 9 _ _ _ _)
  refine Go.iconst dX0_takePitches_9 k_ic_5 (?_ : Go _ _ 10 _ _ _ _)
  refine Go.icmp_gt 66 dX0_takePitches_10 rfl ⟨fun c1 => ?_, fun c1 => (?_ : Go _ _ 13 _ _ _ _)⟩
  · have h := h.1 c1
    exact Go.vret rfl dX0_takePitches_66 ⟨rfl, h⟩
  · have h := h.2 c1
    refine Go.aload_n 0 dX0_takePitches_13 rfl rfl (?_ : Go _ _ 14 _ _ _ _)
    refine Go.iload_n 1 dX0_takePitches_14 rfl rfl (?_ : Go _ _ 15 _ _ _ _)
    refine Go.callV (as := [.int v1]) (st := []) mk_X0_sounds wl_X0_122 shq_54 rfl rfl (Nat.le_of_ble_eq_true rfl) dX0_takePitches_15 h ?_
    rintro _ s2 ⟨r3, rfl, h⟩
    show Go _ _ 18 _ [.int r3] _ _
    refine Go.if_eq 60 dX0_takePitches_18 rfl ⟨fun c4 => ?_, fun c4 => (?_ : Go _ _ 21 _ _ _ _)⟩
    · have h := h.1 c4
      refine Go.iinc dX0_takePitches_60 rfl (congrArg (fun z => v1 + z) k_ic_1) (by decide) rfl rfl (?_ : Go _ _ 63 [.ref 54, .int (v1 + 1)] _ _ _)
      refine Go.goto 8 dX0_takePitches_63 rfl ?_
      exact h
    · have h := h.2 c4
      refine Go.aload_n 0 dX0_takePitches_21 rfl rfl (?_ : Go _ _ 22 _ _ _ _)
      refine Go.getI fk_X0_119 shq_54 frq_54_14 dX0_takePitches_22 (?_ : Go _ _ 25 _ _ _ _)
      refine Go.if_lt 60 dX0_takePitches_25 rfl ⟨fun c5 => ?_, fun c5 => (?_ : Go _ _ 28 _ _ _ _)⟩
      · have h := h.1 c5
        refine Go.iinc dX0_takePitches_60 rfl (congrArg (fun z => v1 + z) k_ic_1) (by decide) rfl rfl (?_ : Go _ _ 63 [.ref 54, .int (v1 + 1)] _ _ _)
        refine Go.goto 8 dX0_takePitches_63 rfl ?_
        exact h
      · have h := h.2 c5
        refine Go.aload_n 0 dX0_takePitches_28 rfl rfl (?_ : Go _ _ 29 _ _ _ _)
        refine Go.getI fk_X0_119 shq_54 frq_54_14 dX0_takePitches_29 (?_ : Go _ _ 32 _ _ _ _)
        refine Go.aload_n 0 dX0_takePitches_32 rfl rfl (?_ : Go _ _ 33 _ _ _ _)
        refine Go.getR fk_X0_34 shq_54 frq_54_7 dX0_takePitches_33 (?_ : Go _ _ 36 _ _ _ _)
        refine Go.alen shq_62 (by decide) k_on_11 dX0_takePitches_36 (?_ : Go _ _ 37 _ _ _ _)
        refine Go.icmp_ge 60 dX0_takePitches_37 rfl ⟨fun c6 => ?_, fun c6 => (?_ : Go _ _ 40 _ _ _ _)⟩
        · have h := h.1 c6
          refine Go.iinc dX0_takePitches_60 rfl (congrArg (fun z => v1 + z) k_ic_1) (by decide) rfl rfl (?_ : Go _ _ 63 [.ref 54, .int (v1 + 1)] _ _ _)
          refine Go.goto 8 dX0_takePitches_63 rfl ?_
          exact h
        · have h := h.2 c6
          refine Go.aload_n 0 dX0_takePitches_40 rfl rfl (?_ : Go _ _ 41 _ _ _ _)
          refine Go.getR fk_X0_34 shq_54 frq_54_7 dX0_takePitches_41 (?_ : Go _ _ 44 _ _ _ _)
          refine Go.aload_n 0 dX0_takePitches_44 rfl rfl (?_ : Go _ _ 45 _ _ _ _)
          refine Go.getI fk_X0_119 shq_54 frq_54_14 dX0_takePitches_45 (?_ : Go _ _ 48 _ _ _ _)
          refine Go.iload_n 1 dX0_takePitches_48 rfl rfl (?_ : Go _ _ 49 _ _ _ _)
          refine Go.iast shq_62 dX0_takePitches_49 ⟨h.1, (?_ : Go _ _ 50 _ _ _ _)⟩
          generalize es7 : setA s2 62 (ix (sF s2 54 14)) v1 = s7
          have h := h.2 s7 es7.symm
          refine Go.aload_n 0 dX0_takePitches_50 rfl rfl (?_ : Go _ _ 51 _ _ _ _)
          refine Go.dup dX0_takePitches_51 rfl (?_ : Go _ _ 52 _ _ _ _)
          refine Go.getI fk_X0_119 shq_54 frq_54_14 dX0_takePitches_52 (?_ : Go _ _ 55 _ _ _ _)
          refine Go.iconst dX0_takePitches_55 k_ic_1 (?_ : Go _ _ 56 _ _ _ _)
          refine Go.iadd dX0_takePitches_56 (?_ : Go _ _ 57 _ _ _ _)
          refine Go.putI fp_X0_119 shq_54 frq_54_14 dX0_takePitches_57 (?_ : Go _ _ 60 _ _ _ _)
          generalize es8 : setF s7 54 14 ((sF s7 54 14) + 1) = s8
          have h := h s8 es8.symm
          refine Go.iinc dX0_takePitches_60 rfl (congrArg (fun z => v1 + z) k_ic_1) (by decide) rfl rfl (?_ : Go _ _ 63 [.ref 54, .int (v1 + 1)] _ _ _)
          refine Go.goto 8 dX0_takePitches_63 rfl ?_
          exact h
set_option maxHeartbeats 4000000 in
set_option maxRecDepth 100000 in
theorem sgX0_sounds_0 {d : Nat} {σ : St} {x1 : Int32} {K : Int32 → St → Prop} (h : Go mX0_sounds (d + 1) 2 [.ref 54, .int x1, .int 0] [] σ (QI K)) : Go mX0_sounds (d + 1) 0 [.ref 54, .int x1, .null] [] σ (QI K) := by
  refine Go.iconst dX0_sounds_0 k_ic_0 (?_ : Go _ _ 1 _ _ _ _)
  refine Go.istore_n 2 dX0_sounds_1 rfl (by decide) rfl rfl (?_ : Go _ _ 2 [.ref 54, .int x1, .int 0] _ _ _)
  exact h
theorem cgX0_sounds {d : Nat} {σ : St} {x1 : Int32} {K : Int32 → St → Prop} (h : Go mX0_sounds (d + 1) 2 [.ref 54, .int x1, .int 0] [] σ (QI K)) : CallI (d + 1) mX0_sounds [.ref 54, .int x1] σ K := Call_of_Go (by decide +kernel) (ls := [.ref 54, .int x1, .null]) rfl (Nat.le_of_ble_eq_true rfl) (sgX0_sounds_0 h)
set_option maxHeartbeats 4000000 in
set_option maxRecDepth 100000 in
theorem sgX0_sounds_2 {d : Nat} {σ : St} {v1 : Int32} {v2 : Int32} {K : Int32 → St → Prop} (h : ((sF σ 54 9) ≤ v2 → K 0 σ) ∧ (¬ (sF σ 54 9) ≤ v2 → CallI d mX0_movementOf [.ref 54, .int v2] σ (fun r3 s2 => (¬ r3 = v1 → Go mX0_sounds (d + 1) 2 [.ref 54, .int v1, .int (v2 + 1)] [] s2 (QI K)) ∧ (r3 = v1 → CallI d mX0_isFaint [.ref 54, .int v2] s2 (fun r6 s5 => (¬ r6 = 0 → Go mX0_sounds (d + 1) 2 [.ref 54, .int v1, .int (v2 + 1)] [] s5 (QI K)) ∧ (r6 = 0 → K 1 s5)))))) : Go mX0_sounds (d + 1) 2 [.ref 54, .int v1, .int v2] [] σ (QI K) := by
  refine Go.iload_n 2 dX0_sounds_2 rfl rfl (?_ : Go _ _ 3 _ _ _ _)
  refine Go.aload_n 0 dX0_sounds_3 rfl rfl (?_ : Go _ _ 4 _ _ _ _)
  refine Go.getI fk_X0_40 shq_54 frq_54_9 dX0_sounds_4 (?_ : Go _ _ 7 _ _ _ _)
  refine Go.icmp_ge 35 dX0_sounds_7 rfl ⟨fun c1 => ?_, fun c1 => (?_ : Go _ _ 10 _ _ _ _)⟩
  · have h := h.1 c1
    refine Go.iconst dX0_sounds_35 k_ic_0 (?_ : Go _ _ 36 _ _ _ _)
    exact Go.zret rfl rfl dX0_sounds_36 ⟨_, rfl, h⟩
  · have h := h.2 c1
    refine Go.aload_n 0 dX0_sounds_10 rfl rfl (?_ : Go _ _ 11 _ _ _ _)
    refine Go.iload_n 2 dX0_sounds_11 rfl rfl (?_ : Go _ _ 12 _ _ _ _)
    refine Go.callV (as := [.int v2]) (st := []) mk_X0_movementOf wl_X0_125 shq_54 rfl rfl (Nat.le_of_ble_eq_true rfl) dX0_sounds_12 h ?_
    rintro _ s2 ⟨r3, rfl, h⟩
    show Go _ _ 15 _ [.int r3] _ _
    refine Go.iload_n 1 dX0_sounds_15 rfl rfl (?_ : Go _ _ 16 _ _ _ _)
    refine Go.icmp_ne 29 dX0_sounds_16 rfl ⟨fun c4 => ?_, fun c4 => (?_ : Go _ _ 19 _ _ _ _)⟩
    · have h := h.1 c4
      refine Go.iinc dX0_sounds_29 rfl (congrArg (fun z => v2 + z) k_ic_1) (by decide) rfl rfl (?_ : Go _ _ 32 [.ref 54, .int v1, .int (v2 + 1)] _ _ _)
      refine Go.goto 2 dX0_sounds_32 rfl ?_
      exact h
    · have h := h.2 c4
      refine Go.aload_n 0 dX0_sounds_19 rfl rfl (?_ : Go _ _ 20 _ _ _ _)
      refine Go.iload_n 2 dX0_sounds_20 rfl rfl (?_ : Go _ _ 21 _ _ _ _)
      refine Go.callV (as := [.int v2]) (st := []) mk_X0_isFaint wl_X0_126 shq_54 rfl rfl (Nat.le_of_ble_eq_true rfl) dX0_sounds_21 h ?_
      rintro _ s5 ⟨r6, rfl, h⟩
      show Go _ _ 24 _ [.int r6] _ _
      refine Go.if_ne 29 dX0_sounds_24 rfl ⟨fun c7 => ?_, fun c7 => (?_ : Go _ _ 27 _ _ _ _)⟩
      · have h := h.1 c7
        refine Go.iinc dX0_sounds_29 rfl (congrArg (fun z => v2 + z) k_ic_1) (by decide) rfl rfl (?_ : Go _ _ 32 [.ref 54, .int v1, .int (v2 + 1)] _ _ _)
        refine Go.goto 2 dX0_sounds_32 rfl ?_
        exact h
      · have h := h.2 c7
        refine Go.iconst dX0_sounds_27 k_ic_1 (?_ : Go _ _ 28 _ _ _ _)
        exact Go.zret rfl rfl dX0_sounds_28 ⟨_, rfl, h⟩
set_option maxHeartbeats 4000000 in
set_option maxRecDepth 100000 in
theorem sgX0_hearTurn_0 {d : Nat} {σ : St} {x1 : Int32} {x2 : Int32} {K : St → Prop} (h : (x1 < 0 → K σ) ∧ (¬ x1 < 0 → (x1 < 4 → vp_in x1 4 ∧ ∀ s3, s3 = setA σ 60 (ix x1) x2 → Go mX0_hearTurn (d + 1) 19 [.ref 54, .int x1, .int x2, .int 0, .null, .null] [] s3 (QU K)) ∧ (¬ x1 < 4 → K σ))) : Go mX0_hearTurn (d + 1) 0 [.ref 54, .int x1, .int x2, .null, .null, .null] [] σ (QU K) := by
  refine Go.iload_n 1 dX0_hearTurn_0 rfl rfl (?_ : Go _ _ 1 _ _ _ _)
  refine Go.if_lt 9 dX0_hearTurn_1 rfl ⟨fun c1 => ?_, fun c1 => (?_ : Go _ _ 4 _ _ _ _)⟩
  · have h := h.1 c1
    exact Go.vret rfl dX0_hearTurn_9 ⟨rfl, h⟩
  · have h := h.2 c1
    refine Go.iload_n 1 dX0_hearTurn_4 rfl rfl (?_ : Go _ _ 5 _ _ _ _)
    refine Go.iconst dX0_hearTurn_5 k_ic_4 (?_ : Go _ _ 6 _ _ _ _)
    refine Go.icmp_lt 10 dX0_hearTurn_6 rfl ⟨fun c2 => ?_, fun c2 => (?_ : Go _ _ 9 _ _ _ _)⟩
    · have h := h.1 c2
      refine Go.aload_n 0 dX0_hearTurn_10 rfl rfl (?_ : Go _ _ 11 _ _ _ _)
      refine Go.getR fk_X0_27 shq_54 frq_54_5 dX0_hearTurn_11 (?_ : Go _ _ 14 _ _ _ _)
      refine Go.iload_n 1 dX0_hearTurn_14 rfl rfl (?_ : Go _ _ 15 _ _ _ _)
      refine Go.iload_n 2 dX0_hearTurn_15 rfl rfl (?_ : Go _ _ 16 _ _ _ _)
      refine Go.iast shq_60 dX0_hearTurn_16 ⟨h.1, (?_ : Go _ _ 17 _ _ _ _)⟩
      generalize es3 : setA σ 60 (ix x1) x2 = s3
      have h := h.2 s3 es3.symm
      refine Go.iconst dX0_hearTurn_17 k_ic_0 (?_ : Go _ _ 18 _ _ _ _)
      refine Go.istore_n 3 dX0_hearTurn_18 rfl (by decide) rfl rfl (?_ : Go _ _ 19 [.ref 54, .int x1, .int x2, .int 0, .null, .null] _ _ _)
      exact h
    · have h := h.2 c2
      exact Go.vret rfl dX0_hearTurn_9 ⟨rfl, h⟩
theorem cgX0_hearTurn {d : Nat} {σ : St} {x1 : Int32} {x2 : Int32} {K : St → Prop} (h : (x1 < 0 → K σ) ∧ (¬ x1 < 0 → (x1 < 4 → vp_in x1 4 ∧ ∀ s3, s3 = setA σ 60 (ix x1) x2 → Go mX0_hearTurn (d + 1) 19 [.ref 54, .int x1, .int x2, .int 0, .null, .null] [] s3 (QU K)) ∧ (¬ x1 < 4 → K σ))) : CallU (d + 1) mX0_hearTurn [.ref 54, .int x1, .int x2] σ K := Call_of_Go (by decide +kernel) (ls := [.ref 54, .int x1, .int x2, .null, .null, .null]) rfl (Nat.le_of_ble_eq_true rfl) (sgX0_hearTurn_0 h)
set_option maxHeartbeats 4000000 in
set_option maxRecDepth 100000 in
theorem sgX0_hearTurn_19 {d : Nat} {σ : St} {v1 : Int32} {v2 : Int32} {v3 : Int32} {K : St → Prop} (h : (11 ≤ v3 → Go mX0_hearTurn (d + 1) 45 [.ref 54, .int v1, .int v2, .int 0, .null, .null] [] σ (QU K)) ∧ (¬ 11 ≤ v3 → vp_in ((v1 * 11) + v3) 44 ∧ ∀ s2, s2 = setL σ (ix ((v1 * 11) + v3)) 0 → Go mX0_hearTurn (d + 1) 19 [.ref 54, .int v1, .int v2, .int (v3 + 1), .null, .null] [] s2 (QU K))) : Go mX0_hearTurn (d + 1) 19 [.ref 54, .int v1, .int v2, .int v3, .null, .null] [] σ (QU K) := by
  refine Go.iload_n 3 dX0_hearTurn_19 rfl rfl (?_ : Go _ _ 20 _ _ _ _)
  refine Go.bipush dX0_hearTurn_20 k_bi_11 (?_ : Go _ _ 22 _ _ _ _)
  refine Go.icmp_ge 43 dX0_hearTurn_22 rfl ⟨fun c1 => ?_, fun c1 => (?_ : Go _ _ 25 _ _ _ _)⟩
  · have h := h.1 c1
    refine Go.iconst dX0_hearTurn_43 k_ic_0 (?_ : Go _ _ 44 _ _ _ _)
    refine Go.istore_n 3 dX0_hearTurn_44 rfl (by decide) rfl rfl (?_ : Go _ _ 45 [.ref 54, .int v1, .int v2, .int 0, .null, .null] _ _ _)
    exact h
  · have h := h.2 c1
    refine Go.aload_n 0 dX0_hearTurn_25 rfl rfl (?_ : Go _ _ 26 _ _ _ _)
    refine Go.getR fk_X0_30 shq_54 frq_54_6 dX0_hearTurn_26 (?_ : Go _ _ 29 _ _ _ _)
    refine Go.iload_n 1 dX0_hearTurn_29 rfl rfl (?_ : Go _ _ 30 _ _ _ _)
    refine Go.bipush dX0_hearTurn_30 k_bi_11 (?_ : Go _ _ 32 _ _ _ _)
    refine Go.imul dX0_hearTurn_32 (?_ : Go _ _ 33 _ _ _ _)
    refine Go.iload_n 3 dX0_hearTurn_33 rfl rfl (?_ : Go _ _ 34 _ _ _ _)
    refine Go.iadd dX0_hearTurn_34 (?_ : Go _ _ 35 _ _ _ _)
    refine Go.lconst dX0_hearTurn_35 k_lc_0 (?_ : Go _ _ 36 _ _ _ _)
    refine Go.last dX0_hearTurn_36 ⟨h.1, (?_ : Go _ _ 37 _ _ _ _)⟩
    generalize es2 : setL σ (ix ((v1 * 11) + v3)) 0 = s2
    have h := h.2 s2 es2.symm
    refine Go.iinc dX0_hearTurn_37 rfl (congrArg (fun z => v3 + z) k_ic_1) (by decide) rfl rfl (?_ : Go _ _ 40 [.ref 54, .int v1, .int v2, .int (v3 + 1), .null, .null] _ _ _)
    refine Go.goto 19 dX0_hearTurn_40 rfl ?_
    exact h
set_option maxHeartbeats 4000000 in
set_option maxRecDepth 100000 in
theorem sgX0_hearTurn_45 {d : Nat} {σ : St} {v1 : Int32} {v2 : Int32} {v3 : Int32} {K : St → Prop} (h : ((sF σ 54 9) ≤ v3 → K σ) ∧ (¬ (sF σ 54 9) ≤ v3 → CallI d mX0_distanceOf [.ref 54, .int v3] σ (fun r3 s2 => CallI d mX0_movementOf [.ref 54, .int v3] s2 (fun r5 s4 => CallI d mX0_placeOf [.ref 54, .int r3, .int r5, .int v1] s4 (fun r7 s6 => CallI d mX0_movementOf [.ref 54, .int v3] s6 (fun r9 s8 => CallI d mX0_codeOf [.int v1, .int r9] s8 (fun r11 s10 => CallI d mX0_isFaint [.ref 54, .int v3] s10 (fun r13 s12 => (¬ r13 = 0 → Go mX0_hearTurn (d + 1) 45 [.ref 54, .int v1, .int v2, .int (v3 + 1), .null, .null] [] s12 (QU K)) ∧ (r13 = 0 → (r7 < (sF s12 54 12) → Go mX0_hearTurn (d + 1) 45 [.ref 54, .int v1, .int v2, .int (v3 + 1), .null, .null] [] s12 (QU K)) ∧ (¬ r7 < (sF s12 54 12) → (r11 < 0 → Go mX0_hearTurn (d + 1) 45 [.ref 54, .int v1, .int v2, .int (v3 + 1), .null, .null] [] s12 (QU K)) ∧ (¬ r11 < 0 → (44 ≤ r11 → Go mX0_hearTurn (d + 1) 45 [.ref 54, .int v1, .int v2, .int (v3 + 1), .null, .null] [] s12 (QU K)) ∧ (¬ 44 ≤ r11 → vp_in r11 44 ∧ vp_in r11 44 ∧ ∀ s18, s18 = setL s12 (ix r11) ((sL s12 (ix r11)) ||| (1 <<< ((r7).toInt64 &&& 63))) → Go mX0_hearTurn (d + 1) 45 [.ref 54, .int v1, .int v2, .int (v3 + 1), .null, .null] [] s18 (QU K))))))))))))) : Go mX0_hearTurn (d + 1) 45 [.ref 54, .int v1, .int v2, .int v3, .null, .null] [] σ (QU K) := by
  refine Go.iload_n 3 dX0_hearTurn_45 rfl rfl (?_ : Go _ _ 46 _ _ _ _)
  refine Go.aload_n 0 dX0_hearTurn_46 rfl rfl (?_ : Go _ _ 47 _ _ _ _)
  refine Go.getI fk_X0_40 shq_54 frq_54_9 dX0_hearTurn_47 (?_ : Go _ _ 50 _ _ _ _)
  refine Go.icmp_ge 133 dX0_hearTurn_50 rfl ⟨fun c1 => ?_, fun c1 => (?_ : Go _ _ 53 _ _ _ _)⟩
  · have h := h.1 c1
    exact Go.vret rfl dX0_hearTurn_133 ⟨rfl, h⟩
  · have h := h.2 c1
    refine Go.aload_n 0 dX0_hearTurn_53 rfl rfl (?_ : Go _ _ 54 _ _ _ _)
    refine Go.aload_n 0 dX0_hearTurn_54 rfl rfl (?_ : Go _ _ 55 _ _ _ _)
    refine Go.iload_n 3 dX0_hearTurn_55 rfl rfl (?_ : Go _ _ 56 _ _ _ _)
    refine Go.callV (as := [.int v3]) (st := [.ref 54]) mk_X0_distanceOf wl_X0_129 shq_54 rfl rfl (Nat.le_of_ble_eq_true rfl) dX0_hearTurn_56 h ?_
    rintro _ s2 ⟨r3, rfl, h⟩
    show Go _ _ 59 _ [.int r3, .ref 54] _ _
    refine Go.aload_n 0 dX0_hearTurn_59 rfl rfl (?_ : Go _ _ 60 _ _ _ _)
    refine Go.iload_n 3 dX0_hearTurn_60 rfl rfl (?_ : Go _ _ 61 _ _ _ _)
    refine Go.callV (as := [.int v3]) (st := [.int r3, .ref 54]) mk_X0_movementOf wl_X0_125 shq_54 rfl rfl (Nat.le_of_ble_eq_true rfl) dX0_hearTurn_61 h ?_
    rintro _ s4 ⟨r5, rfl, h⟩
    show Go _ _ 64 _ [.int r5, .int r3, .ref 54] _ _
    refine Go.iload_n 1 dX0_hearTurn_64 rfl rfl (?_ : Go _ _ 65 _ _ _ _)
    refine Go.callV (as := [.int r3, .int r5, .int v1]) (st := []) mk_X0_placeOf wl_X0_130 shq_54 rfl rfl (Nat.le_of_ble_eq_true rfl) dX0_hearTurn_65 h ?_
    rintro _ s6 ⟨r7, rfl, h⟩
    show Go _ _ 68 _ [.int r7] _ _
    refine Go.istore dX0_hearTurn_68 (by decide) rfl rfl (?_ : Go _ _ 70 [.ref 54, .int v1, .int v2, .int v3, .int r7, .null] _ _ _)
    refine Go.iload_n 1 dX0_hearTurn_70 rfl rfl (?_ : Go _ _ 71 _ _ _ _)
    refine Go.aload_n 0 dX0_hearTurn_71 rfl rfl (?_ : Go _ _ 72 _ _ _ _)
    refine Go.iload_n 3 dX0_hearTurn_72 rfl rfl (?_ : Go _ _ 73 _ _ _ _)
    refine Go.callV (as := [.int v3]) (st := [.int v1]) mk_X0_movementOf wl_X0_125 shq_54 rfl rfl (Nat.le_of_ble_eq_true rfl) dX0_hearTurn_73 h ?_
    rintro _ s8 ⟨r9, rfl, h⟩
    show Go _ _ 76 _ [.int r9, .int v1] _ _
    refine Go.callS (as := [.int v1, .int r9]) (st := []) mk_X0_codeOf wl_X0_134 rfl rfl (Nat.le_of_ble_eq_true rfl) dX0_hearTurn_76 h ?_
    rintro _ s10 ⟨r11, rfl, h⟩
    show Go _ _ 79 _ [.int r11] _ _
    refine Go.istore dX0_hearTurn_79 (by decide) rfl rfl (?_ : Go _ _ 81 [.ref 54, .int v1, .int v2, .int v3, .int r7, .int r11] _ _ _)
    refine Go.aload_n 0 dX0_hearTurn_81 rfl rfl (?_ : Go _ _ 82 _ _ _ _)
    refine Go.iload_n 3 dX0_hearTurn_82 rfl rfl (?_ : Go _ _ 83 _ _ _ _)
    refine Go.callV (as := [.int v3]) (st := []) mk_X0_isFaint wl_X0_126 shq_54 rfl rfl (Nat.le_of_ble_eq_true rfl) dX0_hearTurn_83 h ?_
    rintro _ s12 ⟨r13, rfl, h⟩
    show Go _ _ 86 _ [.int r13] _ _
    refine Go.if_ne 127 dX0_hearTurn_86 rfl ⟨fun c14 => ?_, fun c14 => (?_ : Go _ _ 89 _ _ _ _)⟩
    · have h := h.1 c14
      refine Go.iinc dX0_hearTurn_127 rfl (congrArg (fun z => v3 + z) k_ic_1) (by decide) rfl rfl (?_ : Go _ _ 130 [.ref 54, .int v1, .int v2, .int (v3 + 1), .int r7, .int r11] _ _ _)
      refine Go.goto 45 dX0_hearTurn_130 rfl ?_
      refine Go.drop (ls' := [.ref 54, .int v1, .int v2, .int (v3 + 1), .null, .int r11]) 4 rfl ?_
      refine Go.drop (ls' := [.ref 54, .int v1, .int v2, .int (v3 + 1), .null, .null]) 5 rfl ?_
      exact h
    · have h := h.2 c14
      refine Go.iload dX0_hearTurn_89 rfl (?_ : Go _ _ 91 _ _ _ _)
      refine Go.aload_n 0 dX0_hearTurn_91 rfl rfl (?_ : Go _ _ 92 _ _ _ _)
      refine Go.getI fk_X0_53 shq_54 frq_54_12 dX0_hearTurn_92 (?_ : Go _ _ 95 _ _ _ _)
      refine Go.icmp_lt 127 dX0_hearTurn_95 rfl ⟨fun c15 => ?_, fun c15 => (?_ : Go _ _ 98 _ _ _ _)⟩
      · have h := h.1 c15
        refine Go.iinc dX0_hearTurn_127 rfl (congrArg (fun z => v3 + z) k_ic_1) (by decide) rfl rfl (?_ : Go _ _ 130 [.ref 54, .int v1, .int v2, .int (v3 + 1), .int r7, .int r11] _ _ _)
        refine Go.goto 45 dX0_hearTurn_130 rfl ?_
        refine Go.drop (ls' := [.ref 54, .int v1, .int v2, .int (v3 + 1), .null, .int r11]) 4 rfl ?_
        refine Go.drop (ls' := [.ref 54, .int v1, .int v2, .int (v3 + 1), .null, .null]) 5 rfl ?_
        exact h
      · have h := h.2 c15
        refine Go.iload dX0_hearTurn_98 rfl (?_ : Go _ _ 100 _ _ _ _)
        refine Go.if_lt 127 dX0_hearTurn_100 rfl ⟨fun c16 => ?_, fun c16 => (?_ : Go _ _ 103 _ _ _ _)⟩
        · have h := h.1 c16
          refine Go.iinc dX0_hearTurn_127 rfl (congrArg (fun z => v3 + z) k_ic_1) (by decide) rfl rfl (?_ : Go _ _ 130 [.ref 54, .int v1, .int v2, .int (v3 + 1), .int r7, .int r11] _ _ _)
          refine Go.goto 45 dX0_hearTurn_130 rfl ?_
          refine Go.drop (ls' := [.ref 54, .int v1, .int v2, .int (v3 + 1), .null, .int r11]) 4 rfl ?_
          refine Go.drop (ls' := [.ref 54, .int v1, .int v2, .int (v3 + 1), .null, .null]) 5 rfl ?_
          exact h
        · have h := h.2 c16
          refine Go.iload dX0_hearTurn_103 rfl (?_ : Go _ _ 105 _ _ _ _)
          refine Go.aload_n 0 dX0_hearTurn_105 rfl rfl (?_ : Go _ _ 106 _ _ _ _)
          refine Go.getR fk_X0_30 shq_54 frq_54_6 dX0_hearTurn_106 (?_ : Go _ _ 109 _ _ _ _)
          refine Go.alenL k_on_44 dX0_hearTurn_109 (?_ : Go _ _ 110 _ _ _ _)
          refine Go.icmp_ge 127 dX0_hearTurn_110 rfl ⟨fun c17 => ?_, fun c17 => (?_ : Go _ _ 113 _ _ _ _)⟩
          · have h := h.1 c17
            refine Go.iinc dX0_hearTurn_127 rfl (congrArg (fun z => v3 + z) k_ic_1) (by decide) rfl rfl (?_ : Go _ _ 130 [.ref 54, .int v1, .int v2, .int (v3 + 1), .int r7, .int r11] _ _ _)
            refine Go.goto 45 dX0_hearTurn_130 rfl ?_
            refine Go.drop (ls' := [.ref 54, .int v1, .int v2, .int (v3 + 1), .null, .int r11]) 4 rfl ?_
            refine Go.drop (ls' := [.ref 54, .int v1, .int v2, .int (v3 + 1), .null, .null]) 5 rfl ?_
            exact h
          · have h := h.2 c17
            refine Go.aload_n 0 dX0_hearTurn_113 rfl rfl (?_ : Go _ _ 114 _ _ _ _)
            refine Go.getR fk_X0_30 shq_54 frq_54_6 dX0_hearTurn_114 (?_ : Go _ _ 117 _ _ _ _)
            refine Go.iload dX0_hearTurn_117 rfl (?_ : Go _ _ 119 _ _ _ _)
            refine Go.dup2 dX0_hearTurn_119 rfl rfl (?_ : Go _ _ 120 _ _ _ _)
            refine Go.lald dX0_hearTurn_120 ⟨h.1, (?_ : Go _ _ 121 _ _ _ _)⟩
            have h := h.2
            refine Go.lconst dX0_hearTurn_121 k_lc_1 (?_ : Go _ _ 122 _ _ _ _)
            refine Go.iload dX0_hearTurn_122 rfl (?_ : Go _ _ 124 _ _ _ _)
            refine Go.lshl dX0_hearTurn_124 rfl (?_ : Go _ _ 125 _ _ _ _)
            refine Go.lor dX0_hearTurn_125 (?_ : Go _ _ 126 _ _ _ _)
            refine Go.last dX0_hearTurn_126 ⟨h.1, (?_ : Go _ _ 127 _ _ _ _)⟩
            generalize es18 : setL s12 (ix r11) ((sL s12 (ix r11)) ||| (1 <<< ((r7).toInt64 &&& 63))) = s18
            have h := h.2 s18 es18.symm
            refine Go.iinc dX0_hearTurn_127 rfl (congrArg (fun z => v3 + z) k_ic_1) (by decide) rfl rfl (?_ : Go _ _ 130 [.ref 54, .int v1, .int v2, .int (v3 + 1), .int r7, .int r11] _ _ _)
            refine Go.goto 45 dX0_hearTurn_130 rfl ?_
            refine Go.drop (ls' := [.ref 54, .int v1, .int v2, .int (v3 + 1), .null, .int r11]) 4 rfl ?_
            refine Go.drop (ls' := [.ref 54, .int v1, .int v2, .int (v3 + 1), .null, .null]) 5 rfl ?_
            exact h
set_option maxHeartbeats 4000000 in
set_option maxRecDepth 100000 in
theorem sgX0_has_0 {d : Nat} {σ : St} {x1 : Int32} {K : Int32 → St → Prop} (h : (x1 < 0 → K 0 σ) ∧ (¬ x1 < 0 → ((sF σ 54 9) ≤ x1 → K 0 σ) ∧ (¬ (sF σ 54 9) ≤ x1 → (21 ≤ x1 → K 0 σ) ∧ (¬ 21 ≤ x1 → K 1 σ)))) : Go mX0_has (d + 1) 0 [.ref 54, .int x1] [] σ (QI K) := by
  refine Go.iload_n 1 dX0_has_0 rfl rfl (?_ : Go _ _ 1 _ _ _ _)
  refine Go.if_lt 22 dX0_has_1 rfl ⟨fun c1 => ?_, fun c1 => (?_ : Go _ _ 4 _ _ _ _)⟩
  · have h := h.1 c1
    refine Go.iconst dX0_has_22 k_ic_0 (?_ : Go _ _ 23 _ _ _ _)
    exact Go.zret rfl rfl dX0_has_23 ⟨_, rfl, h⟩
  · have h := h.2 c1
    refine Go.iload_n 1 dX0_has_4 rfl rfl (?_ : Go _ _ 5 _ _ _ _)
    refine Go.aload_n 0 dX0_has_5 rfl rfl (?_ : Go _ _ 6 _ _ _ _)
    refine Go.getI fk_X0_40 shq_54 frq_54_9 dX0_has_6 (?_ : Go _ _ 9 _ _ _ _)
    refine Go.icmp_ge 22 dX0_has_9 rfl ⟨fun c2 => ?_, fun c2 => (?_ : Go _ _ 12 _ _ _ _)⟩
    · have h := h.1 c2
      refine Go.iconst dX0_has_22 k_ic_0 (?_ : Go _ _ 23 _ _ _ _)
      exact Go.zret rfl rfl dX0_has_23 ⟨_, rfl, h⟩
    · have h := h.2 c2
      refine Go.iload_n 1 dX0_has_12 rfl rfl (?_ : Go _ _ 13 _ _ _ _)
      refine Go.bipush dX0_has_13 k_bi_21 (?_ : Go _ _ 15 _ _ _ _)
      refine Go.icmp_ge 22 dX0_has_15 rfl ⟨fun c3 => ?_, fun c3 => (?_ : Go _ _ 18 _ _ _ _)⟩
      · have h := h.1 c3
        refine Go.iconst dX0_has_22 k_ic_0 (?_ : Go _ _ 23 _ _ _ _)
        exact Go.zret rfl rfl dX0_has_23 ⟨_, rfl, h⟩
      · have h := h.2 c3
        refine Go.iconst dX0_has_18 k_ic_1 (?_ : Go _ _ 19 _ _ _ _)
        refine Go.goto 23 dX0_has_19 rfl ?_
        exact Go.zret rfl rfl dX0_has_23 ⟨_, rfl, h⟩
theorem cgX0_has {d : Nat} {σ : St} {x1 : Int32} {K : Int32 → St → Prop} (h : (x1 < 0 → K 0 σ) ∧ (¬ x1 < 0 → ((sF σ 54 9) ≤ x1 → K 0 σ) ∧ (¬ (sF σ 54 9) ≤ x1 → (21 ≤ x1 → K 0 σ) ∧ (¬ 21 ≤ x1 → K 1 σ)))) : CallI (d + 1) mX0_has [.ref 54, .int x1] σ K := Call_of_Go (by decide +kernel) (ls := [.ref 54, .int x1]) rfl (Nat.le_of_ble_eq_true rfl) (sgX0_has_0 h)
set_option maxHeartbeats 4000000 in
set_option maxRecDepth 100000 in
theorem sgX0_distanceOf_0 {d : Nat} {σ : St} {x1 : Int32} {K : Int32 → St → Prop} (h : CallI d mX0_has [.ref 54, .int x1] σ (fun r2 s1 => (r2 = 0 → K 0 s1) ∧ (¬ r2 = 0 → vp_in x1 21 ∧ K (sA s1 55 (ix x1)) s1))) : Go mX0_distanceOf (d + 1) 0 [.ref 54, .int x1] [] σ (QI K) := by
  refine Go.aload_n 0 dX0_distanceOf_0 rfl rfl (?_ : Go _ _ 1 _ _ _ _)
  refine Go.iload_n 1 dX0_distanceOf_1 rfl rfl (?_ : Go _ _ 2 _ _ _ _)
  refine Go.callV (as := [.int x1]) (st := []) mk_X0_has wl_X0_137 shq_54 rfl rfl (Nat.le_of_ble_eq_true rfl) dX0_distanceOf_2 h ?_
  rintro _ s1 ⟨r2, rfl, h⟩
  show Go _ _ 5 _ [.int r2] _ _
  refine Go.if_eq 17 dX0_distanceOf_5 rfl ⟨fun c3 => ?_, fun c3 => (?_ : Go _ _ 8 _ _ _ _)⟩
  · have h := h.1 c3
    refine Go.iconst dX0_distanceOf_17 k_ic_0 (?_ : Go _ _ 18 _ _ _ _)
    exact Go.iret rfl dX0_distanceOf_18 ⟨_, rfl, h⟩
  · have h := h.2 c3
    refine Go.aload_n 0 dX0_distanceOf_8 rfl rfl (?_ : Go _ _ 9 _ _ _ _)
    refine Go.getR fk_X0_11 shq_54 frq_54_0 dX0_distanceOf_9 (?_ : Go _ _ 12 _ _ _ _)
    refine Go.iload_n 1 dX0_distanceOf_12 rfl rfl (?_ : Go _ _ 13 _ _ _ _)
    refine Go.iald shq_55 dX0_distanceOf_13 ⟨h.1, (?_ : Go _ _ 14 _ _ _ _)⟩
    have h := h.2
    refine Go.goto 18 dX0_distanceOf_14 rfl ?_
    exact Go.iret rfl dX0_distanceOf_18 ⟨_, rfl, h⟩
theorem cgX0_distanceOf {d : Nat} {σ : St} {x1 : Int32} {K : Int32 → St → Prop} (h : CallI d mX0_has [.ref 54, .int x1] σ (fun r2 s1 => (r2 = 0 → K 0 s1) ∧ (¬ r2 = 0 → vp_in x1 21 ∧ K (sA s1 55 (ix x1)) s1))) : CallI (d + 1) mX0_distanceOf [.ref 54, .int x1] σ K := Call_of_Go (by decide +kernel) (ls := [.ref 54, .int x1]) rfl (Nat.le_of_ble_eq_true rfl) (sgX0_distanceOf_0 h)
set_option maxHeartbeats 4000000 in
set_option maxRecDepth 100000 in
theorem sgX0_strengthOf_0 {d : Nat} {σ : St} {x1 : Int32} {K : Int32 → St → Prop} (h : CallI d mX0_has [.ref 54, .int x1] σ (fun r2 s1 => (r2 = 0 → K 0 s1) ∧ (¬ r2 = 0 → vp_in x1 21 ∧ K (sA s1 56 (ix x1)) s1))) : Go mX0_strengthOf (d + 1) 0 [.ref 54, .int x1] [] σ (QI K) := by
  refine Go.aload_n 0 dX0_strengthOf_0 rfl rfl (?_ : Go _ _ 1 _ _ _ _)
  refine Go.iload_n 1 dX0_strengthOf_1 rfl rfl (?_ : Go _ _ 2 _ _ _ _)
  refine Go.callV (as := [.int x1]) (st := []) mk_X0_has wl_X0_137 shq_54 rfl rfl (Nat.le_of_ble_eq_true rfl) dX0_strengthOf_2 h ?_
  rintro _ s1 ⟨r2, rfl, h⟩
  show Go _ _ 5 _ [.int r2] _ _
  refine Go.if_eq 17 dX0_strengthOf_5 rfl ⟨fun c3 => ?_, fun c3 => (?_ : Go _ _ 8 _ _ _ _)⟩
  · have h := h.1 c3
    refine Go.iconst dX0_strengthOf_17 k_ic_0 (?_ : Go _ _ 18 _ _ _ _)
    exact Go.iret rfl dX0_strengthOf_18 ⟨_, rfl, h⟩
  · have h := h.2 c3
    refine Go.aload_n 0 dX0_strengthOf_8 rfl rfl (?_ : Go _ _ 9 _ _ _ _)
    refine Go.getR fk_X0_15 shq_54 frq_54_1 dX0_strengthOf_9 (?_ : Go _ _ 12 _ _ _ _)
    refine Go.iload_n 1 dX0_strengthOf_12 rfl rfl (?_ : Go _ _ 13 _ _ _ _)
    refine Go.iald shq_56 dX0_strengthOf_13 ⟨h.1, (?_ : Go _ _ 14 _ _ _ _)⟩
    have h := h.2
    refine Go.goto 18 dX0_strengthOf_14 rfl ?_
    exact Go.iret rfl dX0_strengthOf_18 ⟨_, rfl, h⟩
theorem cgX0_strengthOf {d : Nat} {σ : St} {x1 : Int32} {K : Int32 → St → Prop} (h : CallI d mX0_has [.ref 54, .int x1] σ (fun r2 s1 => (r2 = 0 → K 0 s1) ∧ (¬ r2 = 0 → vp_in x1 21 ∧ K (sA s1 56 (ix x1)) s1))) : CallI (d + 1) mX0_strengthOf [.ref 54, .int x1] σ K := Call_of_Go (by decide +kernel) (ls := [.ref 54, .int x1]) rfl (Nat.le_of_ble_eq_true rfl) (sgX0_strengthOf_0 h)
set_option maxHeartbeats 4000000 in
set_option maxRecDepth 100000 in
theorem sgX0_movementOf_0 {d : Nat} {σ : St} {x1 : Int32} {K : Int32 → St → Prop} (h : CallI d mX0_has [.ref 54, .int x1] σ (fun r2 s1 => (r2 = 0 → K 0 s1) ∧ (¬ r2 = 0 → vp_in x1 21 ∧ K (sA s1 57 (ix x1)) s1))) : Go mX0_movementOf (d + 1) 0 [.ref 54, .int x1] [] σ (QI K) := by
  refine Go.aload_n 0 dX0_movementOf_0 rfl rfl (?_ : Go _ _ 1 _ _ _ _)
  refine Go.iload_n 1 dX0_movementOf_1 rfl rfl (?_ : Go _ _ 2 _ _ _ _)
  refine Go.callV (as := [.int x1]) (st := []) mk_X0_has wl_X0_137 shq_54 rfl rfl (Nat.le_of_ble_eq_true rfl) dX0_movementOf_2 h ?_
  rintro _ s1 ⟨r2, rfl, h⟩
  show Go _ _ 5 _ [.int r2] _ _
  refine Go.if_eq 17 dX0_movementOf_5 rfl ⟨fun c3 => ?_, fun c3 => (?_ : Go _ _ 8 _ _ _ _)⟩
  · have h := h.1 c3
    refine Go.iconst dX0_movementOf_17 k_ic_0 (?_ : Go _ _ 18 _ _ _ _)
    exact Go.iret rfl dX0_movementOf_18 ⟨_, rfl, h⟩
  · have h := h.2 c3
    refine Go.aload_n 0 dX0_movementOf_8 rfl rfl (?_ : Go _ _ 9 _ _ _ _)
    refine Go.getR fk_X0_18 shq_54 frq_54_2 dX0_movementOf_9 (?_ : Go _ _ 12 _ _ _ _)
    refine Go.iload_n 1 dX0_movementOf_12 rfl rfl (?_ : Go _ _ 13 _ _ _ _)
    refine Go.iald shq_57 dX0_movementOf_13 ⟨h.1, (?_ : Go _ _ 14 _ _ _ _)⟩
    have h := h.2
    refine Go.goto 18 dX0_movementOf_14 rfl ?_
    exact Go.iret rfl dX0_movementOf_18 ⟨_, rfl, h⟩
theorem cgX0_movementOf {d : Nat} {σ : St} {x1 : Int32} {K : Int32 → St → Prop} (h : CallI d mX0_has [.ref 54, .int x1] σ (fun r2 s1 => (r2 = 0 → K 0 s1) ∧ (¬ r2 = 0 → vp_in x1 21 ∧ K (sA s1 57 (ix x1)) s1))) : CallI (d + 1) mX0_movementOf [.ref 54, .int x1] σ K := Call_of_Go (by decide +kernel) (ls := [.ref 54, .int x1]) rfl (Nat.le_of_ble_eq_true rfl) (sgX0_movementOf_0 h)
set_option maxHeartbeats 4000000 in
set_option maxRecDepth 100000 in
theorem sgX0_lesserWall_0 {d : Nat} {σ : St} {x1 : Int32} {K : Int32 → St → Prop} (h : CallI d mX0_has [.ref 54, .int x1] σ (fun r2 s1 => (r2 = 0 → K 0 s1) ∧ (¬ r2 = 0 → vp_in x1 21 ∧ K (sA s1 58 (ix x1)) s1))) : Go mX0_lesserWall (d + 1) 0 [.ref 54, .int x1] [] σ (QI K) := by
  refine Go.aload_n 0 dX0_lesserWall_0 rfl rfl (?_ : Go _ _ 1 _ _ _ _)
  refine Go.iload_n 1 dX0_lesserWall_1 rfl rfl (?_ : Go _ _ 2 _ _ _ _)
  refine Go.callV (as := [.int x1]) (st := []) mk_X0_has wl_X0_137 shq_54 rfl rfl (Nat.le_of_ble_eq_true rfl) dX0_lesserWall_2 h ?_
  rintro _ s1 ⟨r2, rfl, h⟩
  show Go _ _ 5 _ [.int r2] _ _
  refine Go.if_eq 17 dX0_lesserWall_5 rfl ⟨fun c3 => ?_, fun c3 => (?_ : Go _ _ 8 _ _ _ _)⟩
  · have h := h.1 c3
    refine Go.iconst dX0_lesserWall_17 k_ic_0 (?_ : Go _ _ 18 _ _ _ _)
    exact Go.iret rfl dX0_lesserWall_18 ⟨_, rfl, h⟩
  · have h := h.2 c3
    refine Go.aload_n 0 dX0_lesserWall_8 rfl rfl (?_ : Go _ _ 9 _ _ _ _)
    refine Go.getR fk_X0_21 shq_54 frq_54_3 dX0_lesserWall_9 (?_ : Go _ _ 12 _ _ _ _)
    refine Go.iload_n 1 dX0_lesserWall_12 rfl rfl (?_ : Go _ _ 13 _ _ _ _)
    refine Go.iald shq_58 dX0_lesserWall_13 ⟨h.1, (?_ : Go _ _ 14 _ _ _ _)⟩
    have h := h.2
    refine Go.goto 18 dX0_lesserWall_14 rfl ?_
    exact Go.iret rfl dX0_lesserWall_18 ⟨_, rfl, h⟩
theorem cgX0_lesserWall {d : Nat} {σ : St} {x1 : Int32} {K : Int32 → St → Prop} (h : CallI d mX0_has [.ref 54, .int x1] σ (fun r2 s1 => (r2 = 0 → K 0 s1) ∧ (¬ r2 = 0 → vp_in x1 21 ∧ K (sA s1 58 (ix x1)) s1))) : CallI (d + 1) mX0_lesserWall [.ref 54, .int x1] σ K := Call_of_Go (by decide +kernel) (ls := [.ref 54, .int x1]) rfl (Nat.le_of_ble_eq_true rfl) (sgX0_lesserWall_0 h)
set_option maxHeartbeats 4000000 in
set_option maxRecDepth 100000 in
theorem sgX0_greaterWall_0 {d : Nat} {σ : St} {x1 : Int32} {K : Int32 → St → Prop} (h : CallI d mX0_has [.ref 54, .int x1] σ (fun r2 s1 => (r2 = 0 → K 0 s1) ∧ (¬ r2 = 0 → vp_in x1 21 ∧ K (sA s1 59 (ix x1)) s1))) : Go mX0_greaterWall (d + 1) 0 [.ref 54, .int x1] [] σ (QI K) := by
  refine Go.aload_n 0 dX0_greaterWall_0 rfl rfl (?_ : Go _ _ 1 _ _ _ _)
  refine Go.iload_n 1 dX0_greaterWall_1 rfl rfl (?_ : Go _ _ 2 _ _ _ _)
  refine Go.callV (as := [.int x1]) (st := []) mk_X0_has wl_X0_137 shq_54 rfl rfl (Nat.le_of_ble_eq_true rfl) dX0_greaterWall_2 h ?_
  rintro _ s1 ⟨r2, rfl, h⟩
  show Go _ _ 5 _ [.int r2] _ _
  refine Go.if_eq 17 dX0_greaterWall_5 rfl ⟨fun c3 => ?_, fun c3 => (?_ : Go _ _ 8 _ _ _ _)⟩
  · have h := h.1 c3
    refine Go.iconst dX0_greaterWall_17 k_ic_0 (?_ : Go _ _ 18 _ _ _ _)
    exact Go.iret rfl dX0_greaterWall_18 ⟨_, rfl, h⟩
  · have h := h.2 c3
    refine Go.aload_n 0 dX0_greaterWall_8 rfl rfl (?_ : Go _ _ 9 _ _ _ _)
    refine Go.getR fk_X0_24 shq_54 frq_54_4 dX0_greaterWall_9 (?_ : Go _ _ 12 _ _ _ _)
    refine Go.iload_n 1 dX0_greaterWall_12 rfl rfl (?_ : Go _ _ 13 _ _ _ _)
    refine Go.iald shq_59 dX0_greaterWall_13 ⟨h.1, (?_ : Go _ _ 14 _ _ _ _)⟩
    have h := h.2
    refine Go.goto 18 dX0_greaterWall_14 rfl ?_
    exact Go.iret rfl dX0_greaterWall_18 ⟨_, rfl, h⟩
theorem cgX0_greaterWall {d : Nat} {σ : St} {x1 : Int32} {K : Int32 → St → Prop} (h : CallI d mX0_has [.ref 54, .int x1] σ (fun r2 s1 => (r2 = 0 → K 0 s1) ∧ (¬ r2 = 0 → vp_in x1 21 ∧ K (sA s1 59 (ix x1)) s1))) : CallI (d + 1) mX0_greaterWall [.ref 54, .int x1] σ K := Call_of_Go (by decide +kernel) (ls := [.ref 54, .int x1]) rfl (Nat.le_of_ble_eq_true rfl) (sgX0_greaterWall_0 h)
set_option maxHeartbeats 4000000 in
set_option maxRecDepth 100000 in
theorem sgX0_isFaint_0 {d : Nat} {σ : St} {x1 : Int32} {K : Int32 → St → Prop} (h : CallI d mX0_strengthOf [.ref 54, .int x1] σ (fun r2 s1 => ((sF s1 54 13) ≤ r2 → K 0 s1) ∧ (¬ (sF s1 54 13) ≤ r2 → K 1 s1))) : Go mX0_isFaint (d + 1) 0 [.ref 54, .int x1] [] σ (QI K) := by
  refine Go.aload_n 0 dX0_isFaint_0 rfl rfl (?_ : Go _ _ 1 _ _ _ _)
  refine Go.iload_n 1 dX0_isFaint_1 rfl rfl (?_ : Go _ _ 2 _ _ _ _)
  refine Go.callV (as := [.int x1]) (st := []) mk_X0_strengthOf wl_X0_140 shq_54 rfl rfl (Nat.le_of_ble_eq_true rfl) dX0_isFaint_2 h ?_
  rintro _ s1 ⟨r2, rfl, h⟩
  show Go _ _ 5 _ [.int r2] _ _
  refine Go.aload_n 0 dX0_isFaint_5 rfl rfl (?_ : Go _ _ 6 _ _ _ _)
  refine Go.getI fk_X0_59 shq_54 frq_54_13 dX0_isFaint_6 (?_ : Go _ _ 9 _ _ _ _)
  refine Go.icmp_ge 16 dX0_isFaint_9 rfl ⟨fun c3 => ?_, fun c3 => (?_ : Go _ _ 12 _ _ _ _)⟩
  · have h := h.1 c3
    refine Go.iconst dX0_isFaint_16 k_ic_0 (?_ : Go _ _ 17 _ _ _ _)
    exact Go.zret rfl rfl dX0_isFaint_17 ⟨_, rfl, h⟩
  · have h := h.2 c3
    refine Go.iconst dX0_isFaint_12 k_ic_1 (?_ : Go _ _ 13 _ _ _ _)
    refine Go.goto 17 dX0_isFaint_13 rfl ?_
    exact Go.zret rfl rfl dX0_isFaint_17 ⟨_, rfl, h⟩
theorem cgX0_isFaint {d : Nat} {σ : St} {x1 : Int32} {K : Int32 → St → Prop} (h : CallI d mX0_strengthOf [.ref 54, .int x1] σ (fun r2 s1 => ((sF s1 54 13) ≤ r2 → K 0 s1) ∧ (¬ (sF s1 54 13) ≤ r2 → K 1 s1))) : CallI (d + 1) mX0_isFaint [.ref 54, .int x1] σ K := Call_of_Go (by decide +kernel) (ls := [.ref 54, .int x1]) rfl (Nat.le_of_ble_eq_true rfl) (sgX0_isFaint_0 h)
set_option maxHeartbeats 4000000 in
set_option maxRecDepth 100000 in
theorem sgX0_placeOf_0 {d : Nat} {σ : St} {x1 : Int32} {x2 : Int32} {x3 : Int32} {K : Int32 → St → Prop} (h : (x3 < 0 → ((x1 + (x2 * x3)) ≤ 0 → K 0 σ) ∧ (¬ (x1 + (x2 * x3)) ≤ 0 → K 0 σ)) ∧ (¬ x3 < 0 → (4 ≤ x3 → ((x1 + (x2 * x3)) ≤ 0 → K 0 σ) ∧ (¬ (x1 + (x2 * x3)) ≤ 0 → K 0 σ)) ∧ (¬ 4 ≤ x3 → vp_in x3 4 ∧ ((x1 + (x2 * x3)) ≤ 0 → K 0 σ) ∧ (¬ (x1 + (x2 * x3)) ≤ 0 → ((sA σ 60 (ix x3)) ≤ 0 → K 0 σ) ∧ (¬ (sA σ 60 (ix x3)) ≤ 0 → (¬ (sA σ 60 (ix x3)) = 0) ∧ K (irem (x1 + (x2 * x3)) (sA σ 60 (ix x3))) σ))))) : Go mX0_placeOf (d + 1) 0 [.ref 54, .int x1, .int x2, .int x3, .null, .null] [] σ (QI K) := by
  refine Go.iload_n 3 dX0_placeOf_0 rfl rfl (?_ : Go _ _ 1 _ _ _ _)
  refine Go.if_lt 18 dX0_placeOf_1 rfl ⟨fun c1 => ?_, fun c1 => (?_ : Go _ _ 4 _ _ _ _)⟩
  · have h := h.1 c1
    refine Go.iconst dX0_placeOf_18 k_ic_0 (?_ : Go _ _ 19 _ _ _ _)
    refine Go.istore dX0_placeOf_19 (by decide) rfl rfl (?_ : Go _ _ 21 [.ref 54, .int x1, .int x2, .int x3, .int 0, .null] _ _ _)
    refine Go.iload_n 1 dX0_placeOf_21 rfl rfl (?_ : Go _ _ 22 _ _ _ _)
    refine Go.iload_n 2 dX0_placeOf_22 rfl rfl (?_ : Go _ _ 23 _ _ _ _)
    refine Go.iload_n 3 dX0_placeOf_23 rfl rfl (?_ : Go _ _ 24 _ _ _ _)
    refine Go.imul dX0_placeOf_24 (?_ : Go _ _ 25 _ _ _ _)
    refine Go.iadd dX0_placeOf_25 (?_ : Go _ _ 26 _ _ _ _)
    refine Go.istore dX0_placeOf_26 (by decide) rfl rfl (?_ : Go _ _ 28 [.ref 54, .int x1, .int x2, .int x3, .int 0, .int (x1 + (x2 * x3))] _ _ _)
    refine Go.iload dX0_placeOf_28 rfl (?_ : Go _ _ 30 _ _ _ _)
    refine Go.if_le 46 dX0_placeOf_30 rfl ⟨fun c2 => ?_, fun c2 => (?_ : Go _ _ 33 _ _ _ _)⟩
    · have h := h.1 c2
      refine Go.iconst dX0_placeOf_46 k_ic_0 (?_ : Go _ _ 47 _ _ _ _)
      exact Go.iret rfl dX0_placeOf_47 ⟨_, rfl, h⟩
    · have h := h.2 c2
      refine Go.iload dX0_placeOf_33 rfl (?_ : Go _ _ 35 _ _ _ _)
      refine Go.if_le 46 dX0_placeOf_35 rfl ⟨fun _ => ?_, fun c => absurd (by decide) c⟩
      refine Go.iconst dX0_placeOf_46 k_ic_0 (?_ : Go _ _ 47 _ _ _ _)
      exact Go.iret rfl dX0_placeOf_47 ⟨_, rfl, h⟩
  · have h := h.2 c1
    refine Go.iload_n 3 dX0_placeOf_4 rfl rfl (?_ : Go _ _ 5 _ _ _ _)
    refine Go.iconst dX0_placeOf_5 k_ic_4 (?_ : Go _ _ 6 _ _ _ _)
    refine Go.icmp_ge 18 dX0_placeOf_6 rfl ⟨fun c3 => ?_, fun c3 => (?_ : Go _ _ 9 _ _ _ _)⟩
    · have h := h.1 c3
      refine Go.iconst dX0_placeOf_18 k_ic_0 (?_ : Go _ _ 19 _ _ _ _)
      refine Go.istore dX0_placeOf_19 (by decide) rfl rfl (?_ : Go _ _ 21 [.ref 54, .int x1, .int x2, .int x3, .int 0, .null] _ _ _)
      refine Go.iload_n 1 dX0_placeOf_21 rfl rfl (?_ : Go _ _ 22 _ _ _ _)
      refine Go.iload_n 2 dX0_placeOf_22 rfl rfl (?_ : Go _ _ 23 _ _ _ _)
      refine Go.iload_n 3 dX0_placeOf_23 rfl rfl (?_ : Go _ _ 24 _ _ _ _)
      refine Go.imul dX0_placeOf_24 (?_ : Go _ _ 25 _ _ _ _)
      refine Go.iadd dX0_placeOf_25 (?_ : Go _ _ 26 _ _ _ _)
      refine Go.istore dX0_placeOf_26 (by decide) rfl rfl (?_ : Go _ _ 28 [.ref 54, .int x1, .int x2, .int x3, .int 0, .int (x1 + (x2 * x3))] _ _ _)
      refine Go.iload dX0_placeOf_28 rfl (?_ : Go _ _ 30 _ _ _ _)
      refine Go.if_le 46 dX0_placeOf_30 rfl ⟨fun c4 => ?_, fun c4 => (?_ : Go _ _ 33 _ _ _ _)⟩
      · have h := h.1 c4
        refine Go.iconst dX0_placeOf_46 k_ic_0 (?_ : Go _ _ 47 _ _ _ _)
        exact Go.iret rfl dX0_placeOf_47 ⟨_, rfl, h⟩
      · have h := h.2 c4
        refine Go.iload dX0_placeOf_33 rfl (?_ : Go _ _ 35 _ _ _ _)
        refine Go.if_le 46 dX0_placeOf_35 rfl ⟨fun _ => ?_, fun c => absurd (by decide) c⟩
        refine Go.iconst dX0_placeOf_46 k_ic_0 (?_ : Go _ _ 47 _ _ _ _)
        exact Go.iret rfl dX0_placeOf_47 ⟨_, rfl, h⟩
    · have h := h.2 c3
      refine Go.aload_n 0 dX0_placeOf_9 rfl rfl (?_ : Go _ _ 10 _ _ _ _)
      refine Go.getR fk_X0_27 shq_54 frq_54_5 dX0_placeOf_10 (?_ : Go _ _ 13 _ _ _ _)
      refine Go.iload_n 3 dX0_placeOf_13 rfl rfl (?_ : Go _ _ 14 _ _ _ _)
      refine Go.iald shq_60 dX0_placeOf_14 ⟨h.1, (?_ : Go _ _ 15 _ _ _ _)⟩
      have h := h.2
      refine Go.goto 19 dX0_placeOf_15 rfl ?_
      refine Go.istore dX0_placeOf_19 (by decide) rfl rfl (?_ : Go _ _ 21 [.ref 54, .int x1, .int x2, .int x3, .int (sA σ 60 (ix x3)), .null] _ _ _)
      refine Go.iload_n 1 dX0_placeOf_21 rfl rfl (?_ : Go _ _ 22 _ _ _ _)
      refine Go.iload_n 2 dX0_placeOf_22 rfl rfl (?_ : Go _ _ 23 _ _ _ _)
      refine Go.iload_n 3 dX0_placeOf_23 rfl rfl (?_ : Go _ _ 24 _ _ _ _)
      refine Go.imul dX0_placeOf_24 (?_ : Go _ _ 25 _ _ _ _)
      refine Go.iadd dX0_placeOf_25 (?_ : Go _ _ 26 _ _ _ _)
      refine Go.istore dX0_placeOf_26 (by decide) rfl rfl (?_ : Go _ _ 28 [.ref 54, .int x1, .int x2, .int x3, .int (sA σ 60 (ix x3)), .int (x1 + (x2 * x3))] _ _ _)
      refine Go.iload dX0_placeOf_28 rfl (?_ : Go _ _ 30 _ _ _ _)
      refine Go.if_le 46 dX0_placeOf_30 rfl ⟨fun c5 => ?_, fun c5 => (?_ : Go _ _ 33 _ _ _ _)⟩
      · have h := h.1 c5
        refine Go.iconst dX0_placeOf_46 k_ic_0 (?_ : Go _ _ 47 _ _ _ _)
        exact Go.iret rfl dX0_placeOf_47 ⟨_, rfl, h⟩
      · have h := h.2 c5
        refine Go.iload dX0_placeOf_33 rfl (?_ : Go _ _ 35 _ _ _ _)
        refine Go.if_le 46 dX0_placeOf_35 rfl ⟨fun c6 => ?_, fun c6 => (?_ : Go _ _ 38 _ _ _ _)⟩
        · have h := h.1 c6
          refine Go.iconst dX0_placeOf_46 k_ic_0 (?_ : Go _ _ 47 _ _ _ _)
          exact Go.iret rfl dX0_placeOf_47 ⟨_, rfl, h⟩
        · have h := h.2 c6
          refine Go.iload dX0_placeOf_38 rfl (?_ : Go _ _ 40 _ _ _ _)
          refine Go.iload dX0_placeOf_40 rfl (?_ : Go _ _ 42 _ _ _ _)
          refine Go.irem dX0_placeOf_42 h.1 (?_ : Go _ _ 43 _ _ _ _)
          have h := h.2
          refine Go.goto 47 dX0_placeOf_43 rfl ?_
          exact Go.iret rfl dX0_placeOf_47 ⟨_, rfl, h⟩
theorem cgX0_placeOf {d : Nat} {σ : St} {x1 : Int32} {x2 : Int32} {x3 : Int32} {K : Int32 → St → Prop} (h : (x3 < 0 → ((x1 + (x2 * x3)) ≤ 0 → K 0 σ) ∧ (¬ (x1 + (x2 * x3)) ≤ 0 → K 0 σ)) ∧ (¬ x3 < 0 → (4 ≤ x3 → ((x1 + (x2 * x3)) ≤ 0 → K 0 σ) ∧ (¬ (x1 + (x2 * x3)) ≤ 0 → K 0 σ)) ∧ (¬ 4 ≤ x3 → vp_in x3 4 ∧ ((x1 + (x2 * x3)) ≤ 0 → K 0 σ) ∧ (¬ (x1 + (x2 * x3)) ≤ 0 → ((sA σ 60 (ix x3)) ≤ 0 → K 0 σ) ∧ (¬ (sA σ 60 (ix x3)) ≤ 0 → (¬ (sA σ 60 (ix x3)) = 0) ∧ K (irem (x1 + (x2 * x3)) (sA σ 60 (ix x3))) σ))))) : CallI (d + 1) mX0_placeOf [.ref 54, .int x1, .int x2, .int x3] σ K := Call_of_Go (by decide +kernel) (ls := [.ref 54, .int x1, .int x2, .int x3, .null, .null]) rfl (Nat.le_of_ble_eq_true rfl) (sgX0_placeOf_0 h)
set_option maxHeartbeats 4000000 in
set_option maxRecDepth 100000 in
theorem sgX0_codeOf_0 {d : Nat} {σ : St} {x0 : Int32} {x1 : Int32} {K : Int32 → St → Prop} (h : K (((x0 * 11) + x1) + 5) σ) : Go mX0_codeOf (d + 1) 0 [.int x0, .int x1] [] σ (QI K) := by
  refine Go.iload_n 0 dX0_codeOf_0 rfl rfl (?_ : Go _ _ 1 _ _ _ _)
  refine Go.bipush dX0_codeOf_1 k_bi_11 (?_ : Go _ _ 3 _ _ _ _)
  refine Go.imul dX0_codeOf_3 (?_ : Go _ _ 4 _ _ _ _)
  refine Go.iload_n 1 dX0_codeOf_4 rfl rfl (?_ : Go _ _ 5 _ _ _ _)
  refine Go.iadd dX0_codeOf_5 (?_ : Go _ _ 6 _ _ _ _)
  refine Go.iconst dX0_codeOf_6 k_ic_5 (?_ : Go _ _ 7 _ _ _ _)
  refine Go.iadd dX0_codeOf_7 (?_ : Go _ _ 8 _ _ _ _)
  exact Go.iret rfl dX0_codeOf_8 ⟨_, rfl, h⟩
theorem cgX0_codeOf {d : Nat} {σ : St} {x0 : Int32} {x1 : Int32} {K : Int32 → St → Prop} (h : K (((x0 * 11) + x1) + 5) σ) : CallI (d + 1) mX0_codeOf [.int x0, .int x1] σ K := Call_of_Go (by decide +kernel) (ls := [.int x0, .int x1]) rfl (Nat.le_of_ble_eq_true rfl) (sgX0_codeOf_0 h)
set_option maxHeartbeats 4000000 in
set_option maxRecDepth 100000 in
theorem sgX0_isHeard_0 {d : Nat} {σ : St} {x1 : Int32} {x2 : Int32} {x3 : Int32} {K : Int32 → St → Prop} (h : ((((x1 * 11) + x2) + 5) < 0 → K 0 σ) ∧ (¬ (((x1 * 11) + x2) + 5) < 0 → (44 ≤ (((x1 * 11) + x2) + 5) → K 0 σ) ∧ (¬ 44 ≤ (((x1 * 11) + x2) + 5) → vp_in (((x1 * 11) + x2) + 5) 44 ∧ ((lg_cmp (((sL σ (ix (((x1 * 11) + x2) + 5))) >>> ((x3).toInt64 &&& 63)) &&& 1) 0) = 0 → K 0 σ) ∧ (¬ (lg_cmp (((sL σ (ix (((x1 * 11) + x2) + 5))) >>> ((x3).toInt64 &&& 63)) &&& 1) 0) = 0 → K 1 σ)))) : Go mX0_isHeard (d + 1) 0 [.ref 54, .int x1, .int x2, .int x3, .null] [] σ (QI K) := by
  refine Go.iload_n 1 dX0_isHeard_0 rfl rfl (?_ : Go _ _ 1 _ _ _ _)
  refine Go.bipush dX0_isHeard_1 k_bi_11 (?_ : Go _ _ 3 _ _ _ _)
  refine Go.imul dX0_isHeard_3 (?_ : Go _ _ 4 _ _ _ _)
  refine Go.iload_n 2 dX0_isHeard_4 rfl rfl (?_ : Go _ _ 5 _ _ _ _)
  refine Go.iadd dX0_isHeard_5 (?_ : Go _ _ 6 _ _ _ _)
  refine Go.iconst dX0_isHeard_6 k_ic_5 (?_ : Go _ _ 7 _ _ _ _)
  refine Go.iadd dX0_isHeard_7 (?_ : Go _ _ 8 _ _ _ _)
  refine Go.istore dX0_isHeard_8 (by decide) rfl rfl (?_ : Go _ _ 10 [.ref 54, .int x1, .int x2, .int x3, .int (((x1 * 11) + x2) + 5)] _ _ _)
  refine Go.iload dX0_isHeard_10 rfl (?_ : Go _ _ 12 _ _ _ _)
  refine Go.if_lt 45 dX0_isHeard_12 rfl ⟨fun c1 => ?_, fun c1 => (?_ : Go _ _ 15 _ _ _ _)⟩
  · have h := h.1 c1
    refine Go.iconst dX0_isHeard_45 k_ic_0 (?_ : Go _ _ 46 _ _ _ _)
    exact Go.zret rfl rfl dX0_isHeard_46 ⟨_, rfl, h⟩
  · have h := h.2 c1
    refine Go.iload dX0_isHeard_15 rfl (?_ : Go _ _ 17 _ _ _ _)
    refine Go.aload_n 0 dX0_isHeard_17 rfl rfl (?_ : Go _ _ 18 _ _ _ _)
    refine Go.getR fk_X0_30 shq_54 frq_54_6 dX0_isHeard_18 (?_ : Go _ _ 21 _ _ _ _)
    refine Go.alenL k_on_44 dX0_isHeard_21 (?_ : Go _ _ 22 _ _ _ _)
    refine Go.icmp_ge 45 dX0_isHeard_22 rfl ⟨fun c2 => ?_, fun c2 => (?_ : Go _ _ 25 _ _ _ _)⟩
    · have h := h.1 c2
      refine Go.iconst dX0_isHeard_45 k_ic_0 (?_ : Go _ _ 46 _ _ _ _)
      exact Go.zret rfl rfl dX0_isHeard_46 ⟨_, rfl, h⟩
    · have h := h.2 c2
      refine Go.aload_n 0 dX0_isHeard_25 rfl rfl (?_ : Go _ _ 26 _ _ _ _)
      refine Go.getR fk_X0_30 shq_54 frq_54_6 dX0_isHeard_26 (?_ : Go _ _ 29 _ _ _ _)
      refine Go.iload dX0_isHeard_29 rfl (?_ : Go _ _ 31 _ _ _ _)
      refine Go.lald dX0_isHeard_31 ⟨h.1, (?_ : Go _ _ 32 _ _ _ _)⟩
      have h := h.2
      refine Go.iload_n 3 dX0_isHeard_32 rfl rfl (?_ : Go _ _ 33 _ _ _ _)
      refine Go.lshr dX0_isHeard_33 rfl (?_ : Go _ _ 34 _ _ _ _)
      refine Go.lconst dX0_isHeard_34 k_lc_1 (?_ : Go _ _ 35 _ _ _ _)
      refine Go.land dX0_isHeard_35 (?_ : Go _ _ 36 _ _ _ _)
      refine Go.lconst dX0_isHeard_36 k_lc_0 (?_ : Go _ _ 37 _ _ _ _)
      refine Go.lcmp dX0_isHeard_37 (?_ : Go _ _ 38 _ _ _ _)
      refine Go.if_eq 45 dX0_isHeard_38 rfl ⟨fun c3 => ?_, fun c3 => (?_ : Go _ _ 41 _ _ _ _)⟩
      · have h := h.1 c3
        refine Go.iconst dX0_isHeard_45 k_ic_0 (?_ : Go _ _ 46 _ _ _ _)
        exact Go.zret rfl rfl dX0_isHeard_46 ⟨_, rfl, h⟩
      · have h := h.2 c3
        refine Go.iconst dX0_isHeard_41 k_ic_1 (?_ : Go _ _ 42 _ _ _ _)
        refine Go.goto 46 dX0_isHeard_42 rfl ?_
        exact Go.zret rfl rfl dX0_isHeard_46 ⟨_, rfl, h⟩
theorem cgX0_isHeard {d : Nat} {σ : St} {x1 : Int32} {x2 : Int32} {x3 : Int32} {K : Int32 → St → Prop} (h : ((((x1 * 11) + x2) + 5) < 0 → K 0 σ) ∧ (¬ (((x1 * 11) + x2) + 5) < 0 → (44 ≤ (((x1 * 11) + x2) + 5) → K 0 σ) ∧ (¬ 44 ≤ (((x1 * 11) + x2) + 5) → vp_in (((x1 * 11) + x2) + 5) 44 ∧ ((lg_cmp (((sL σ (ix (((x1 * 11) + x2) + 5))) >>> ((x3).toInt64 &&& 63)) &&& 1) 0) = 0 → K 0 σ) ∧ (¬ (lg_cmp (((sL σ (ix (((x1 * 11) + x2) + 5))) >>> ((x3).toInt64 &&& 63)) &&& 1) 0) = 0 → K 1 σ)))) : CallI (d + 1) mX0_isHeard [.ref 54, .int x1, .int x2, .int x3] σ K := Call_of_Go (by decide +kernel) (ls := [.ref 54, .int x1, .int x2, .int x3, .null]) rfl (Nat.le_of_ble_eq_true rfl) (sgX0_isHeard_0 h)
set_option maxHeartbeats 4000000 in
set_option maxRecDepth 100000 in
theorem sgX0_ghostCount_0 {d : Nat} {σ : St} {K : Int32 → St → Prop} (h : K ((sF σ 54 9) - (sF σ 54 10)) σ) : Go mX0_ghostCount (d + 1) 0 [.ref 54] [] σ (QI K) := by
  refine Go.aload_n 0 dX0_ghostCount_0 rfl rfl (?_ : Go _ _ 1 _ _ _ _)
  refine Go.getI fk_X0_40 shq_54 frq_54_9 dX0_ghostCount_1 (?_ : Go _ _ 4 _ _ _ _)
  refine Go.aload_n 0 dX0_ghostCount_4 rfl rfl (?_ : Go _ _ 5 _ _ _ _)
  refine Go.getI fk_X0_66 shq_54 frq_54_10 dX0_ghostCount_5 (?_ : Go _ _ 8 _ _ _ _)
  refine Go.isub dX0_ghostCount_8 (?_ : Go _ _ 9 _ _ _ _)
  exact Go.iret rfl dX0_ghostCount_9 ⟨_, rfl, h⟩
theorem cgX0_ghostCount {d : Nat} {σ : St} {K : Int32 → St → Prop} (h : K ((sF σ 54 9) - (sF σ 54 10)) σ) : CallI (d + 1) mX0_ghostCount [.ref 54] σ K := Call_of_Go (by decide +kernel) (ls := [.ref 54]) rfl (Nat.le_of_ble_eq_true rfl) (sgX0_ghostCount_0 h)
set_option maxHeartbeats 4000000 in
set_option maxRecDepth 100000 in
theorem sgX0_ghostsOf_0 {d : Nat} {σ : St} {x1 : Int32} {K : Int32 → St → Prop} (h : Go mX0_ghostsOf (d + 1) 7 [.ref 54, .int x1, .int 0, .int (sF σ 54 10)] [] σ (QI K)) : Go mX0_ghostsOf (d + 1) 0 [.ref 54, .int x1, .null, .null] [] σ (QI K) := by
  refine Go.iconst dX0_ghostsOf_0 k_ic_0 (?_ : Go _ _ 1 _ _ _ _)
  refine Go.istore_n 2 dX0_ghostsOf_1 rfl (by decide) rfl rfl (?_ : Go _ _ 2 [.ref 54, .int x1, .int 0, .null] _ _ _)
  refine Go.aload_n 0 dX0_ghostsOf_2 rfl rfl (?_ : Go _ _ 3 _ _ _ _)
  refine Go.getI fk_X0_66 shq_54 frq_54_10 dX0_ghostsOf_3 (?_ : Go _ _ 6 _ _ _ _)
  refine Go.istore_n 3 dX0_ghostsOf_6 rfl (by decide) rfl rfl (?_ : Go _ _ 7 [.ref 54, .int x1, .int 0, .int (sF σ 54 10)] _ _ _)
  exact h
theorem cgX0_ghostsOf {d : Nat} {σ : St} {x1 : Int32} {K : Int32 → St → Prop} (h : Go mX0_ghostsOf (d + 1) 7 [.ref 54, .int x1, .int 0, .int (sF σ 54 10)] [] σ (QI K)) : CallI (d + 1) mX0_ghostsOf [.ref 54, .int x1] σ K := Call_of_Go (by decide +kernel) (ls := [.ref 54, .int x1, .null, .null]) rfl (Nat.le_of_ble_eq_true rfl) (sgX0_ghostsOf_0 h)
set_option maxHeartbeats 4000000 in
set_option maxRecDepth 100000 in
theorem sgX0_ghostsOf_7 {d : Nat} {σ : St} {v1 : Int32} {v2 : Int32} {v3 : Int32} {K : Int32 → St → Prop} (h : ((sF σ 54 9) ≤ v3 → K v2 σ) ∧ (¬ (sF σ 54 9) ≤ v3 → CallI d mX0_lesserWall [.ref 54, .int v3] σ (fun r3 s2 => (r3 = v1 → Go mX0_ghostsOf (d + 1) 7 [.ref 54, .int v1, .int (v2 + 1), .int (v3 + 1)] [] s2 (QI K)) ∧ (¬ r3 = v1 → CallI d mX0_greaterWall [.ref 54, .int v3] s2 (fun r6 s5 => (¬ r6 = v1 → Go mX0_ghostsOf (d + 1) 7 [.ref 54, .int v1, .int v2, .int (v3 + 1)] [] s5 (QI K)) ∧ (r6 = v1 → Go mX0_ghostsOf (d + 1) 7 [.ref 54, .int v1, .int (v2 + 1), .int (v3 + 1)] [] s5 (QI K))))))) : Go mX0_ghostsOf (d + 1) 7 [.ref 54, .int v1, .int v2, .int v3] [] σ (QI K) := by
  refine Go.iload_n 3 dX0_ghostsOf_7 rfl rfl (?_ : Go _ _ 8 _ _ _ _)
  refine Go.aload_n 0 dX0_ghostsOf_8 rfl rfl (?_ : Go _ _ 9 _ _ _ _)
  refine Go.getI fk_X0_40 shq_54 frq_54_9 dX0_ghostsOf_9 (?_ : Go _ _ 12 _ _ _ _)
  refine Go.icmp_ge 42 dX0_ghostsOf_12 rfl ⟨fun c1 => ?_, fun c1 => (?_ : Go _ _ 15 _ _ _ _)⟩
  · have h := h.1 c1
    refine Go.iload_n 2 dX0_ghostsOf_42 rfl rfl (?_ : Go _ _ 43 _ _ _ _)
    exact Go.iret rfl dX0_ghostsOf_43 ⟨_, rfl, h⟩
  · have h := h.2 c1
    refine Go.aload_n 0 dX0_ghostsOf_15 rfl rfl (?_ : Go _ _ 16 _ _ _ _)
    refine Go.iload_n 3 dX0_ghostsOf_16 rfl rfl (?_ : Go _ _ 17 _ _ _ _)
    refine Go.callV (as := [.int v3]) (st := []) mk_X0_lesserWall wl_X0_141 shq_54 rfl rfl (Nat.le_of_ble_eq_true rfl) dX0_ghostsOf_17 h ?_
    rintro _ s2 ⟨r3, rfl, h⟩
    show Go _ _ 20 _ [.int r3] _ _
    refine Go.iload_n 1 dX0_ghostsOf_20 rfl rfl (?_ : Go _ _ 21 _ _ _ _)
    refine Go.icmp_eq 33 dX0_ghostsOf_21 rfl ⟨fun c4 => ?_, fun c4 => (?_ : Go _ _ 24 _ _ _ _)⟩
    · have h := h.1 c4
      refine Go.iinc dX0_ghostsOf_33 rfl (congrArg (fun z => v2 + z) k_ic_1) (by decide) rfl rfl (?_ : Go _ _ 36 [.ref 54, .int v1, .int (v2 + 1), .int v3] _ _ _)
      refine Go.iinc dX0_ghostsOf_36 rfl (congrArg (fun z => v3 + z) k_ic_1) (by decide) rfl rfl (?_ : Go _ _ 39 [.ref 54, .int v1, .int (v2 + 1), .int (v3 + 1)] _ _ _)
      refine Go.goto 7 dX0_ghostsOf_39 rfl ?_
      exact h
    · have h := h.2 c4
      refine Go.aload_n 0 dX0_ghostsOf_24 rfl rfl (?_ : Go _ _ 25 _ _ _ _)
      refine Go.iload_n 3 dX0_ghostsOf_25 rfl rfl (?_ : Go _ _ 26 _ _ _ _)
      refine Go.callV (as := [.int v3]) (st := []) mk_X0_greaterWall wl_X0_144 shq_54 rfl rfl (Nat.le_of_ble_eq_true rfl) dX0_ghostsOf_26 h ?_
      rintro _ s5 ⟨r6, rfl, h⟩
      show Go _ _ 29 _ [.int r6] _ _
      refine Go.iload_n 1 dX0_ghostsOf_29 rfl rfl (?_ : Go _ _ 30 _ _ _ _)
      refine Go.icmp_ne 36 dX0_ghostsOf_30 rfl ⟨fun c7 => ?_, fun c7 => (?_ : Go _ _ 33 _ _ _ _)⟩
      · have h := h.1 c7
        refine Go.iinc dX0_ghostsOf_36 rfl (congrArg (fun z => v3 + z) k_ic_1) (by decide) rfl rfl (?_ : Go _ _ 39 [.ref 54, .int v1, .int v2, .int (v3 + 1)] _ _ _)
        refine Go.goto 7 dX0_ghostsOf_39 rfl ?_
        exact h
      · have h := h.2 c7
        refine Go.iinc dX0_ghostsOf_33 rfl (congrArg (fun z => v2 + z) k_ic_1) (by decide) rfl rfl (?_ : Go _ _ 36 [.ref 54, .int v1, .int (v2 + 1), .int v3] _ _ _)
        refine Go.iinc dX0_ghostsOf_36 rfl (congrArg (fun z => v3 + z) k_ic_1) (by decide) rfl rfl (?_ : Go _ _ 39 [.ref 54, .int v1, .int (v2 + 1), .int (v3 + 1)] _ _ _)
        refine Go.goto 7 dX0_ghostsOf_39 rfl ?_
        exact h
set_option maxHeartbeats 4000000 in
set_option maxRecDepth 100000 in
theorem sgX0_echoCount_0 {d : Nat} {σ : St} {K : Int32 → St → Prop} (h : Go mX0_echoCount (d + 1) 4 [.ref 54, .int 0, .int 0] [] σ (QI K)) : Go mX0_echoCount (d + 1) 0 [.ref 54, .null, .null] [] σ (QI K) := by
  refine Go.iconst dX0_echoCount_0 k_ic_0 (?_ : Go _ _ 1 _ _ _ _)
  refine Go.istore_n 1 dX0_echoCount_1 rfl (by decide) rfl rfl (?_ : Go _ _ 2 [.ref 54, .int 0, .null] _ _ _)
  refine Go.iconst dX0_echoCount_2 k_ic_0 (?_ : Go _ _ 3 _ _ _ _)
  refine Go.istore_n 2 dX0_echoCount_3 rfl (by decide) rfl rfl (?_ : Go _ _ 4 [.ref 54, .int 0, .int 0] _ _ _)
  exact h
theorem cgX0_echoCount {d : Nat} {σ : St} {K : Int32 → St → Prop} (h : Go mX0_echoCount (d + 1) 4 [.ref 54, .int 0, .int 0] [] σ (QI K)) : CallI (d + 1) mX0_echoCount [.ref 54] σ K := Call_of_Go (by decide +kernel) (ls := [.ref 54, .null, .null]) rfl (Nat.le_of_ble_eq_true rfl) (sgX0_echoCount_0 h)
set_option maxHeartbeats 4000000 in
set_option maxRecDepth 100000 in
theorem sgX0_echoCount_4 {d : Nat} {σ : St} {v1 : Int32} {v2 : Int32} {K : Int32 → St → Prop} (h : (((sF σ 54 11) * 11) ≤ v2 → K v1 σ) ∧ (¬ ((sF σ 54 11) * 11) ≤ v2 → (44 ≤ v2 → K v1 σ) ∧ (¬ 44 ≤ v2 → vp_in v2 44 ∧ CallI d mJ13_bitCount_95d88 [.long (sL σ (ix v2))] σ (fun r4 s3 => Go mX0_echoCount (d + 1) 4 [.ref 54, .int (v1 + r4), .int (v2 + 1)] [] s3 (QI K))))) : Go mX0_echoCount (d + 1) 4 [.ref 54, .int v1, .int v2] [] σ (QI K) := by
  refine Go.iload_n 2 dX0_echoCount_4 rfl rfl (?_ : Go _ _ 5 _ _ _ _)
  refine Go.aload_n 0 dX0_echoCount_5 rfl rfl (?_ : Go _ _ 6 _ _ _ _)
  refine Go.getI fk_X0_44 shq_54 frq_54_11 dX0_echoCount_6 (?_ : Go _ _ 9 _ _ _ _)
  refine Go.bipush dX0_echoCount_9 k_bi_11 (?_ : Go _ _ 11 _ _ _ _)
  refine Go.imul dX0_echoCount_11 (?_ : Go _ _ 12 _ _ _ _)
  refine Go.icmp_ge 42 dX0_echoCount_12 rfl ⟨fun c1 => ?_, fun c1 => (?_ : Go _ _ 15 _ _ _ _)⟩
  · have h := h.1 c1
    refine Go.iload_n 1 dX0_echoCount_42 rfl rfl (?_ : Go _ _ 43 _ _ _ _)
    exact Go.iret rfl dX0_echoCount_43 ⟨_, rfl, h⟩
  · have h := h.2 c1
    refine Go.iload_n 2 dX0_echoCount_15 rfl rfl (?_ : Go _ _ 16 _ _ _ _)
    refine Go.aload_n 0 dX0_echoCount_16 rfl rfl (?_ : Go _ _ 17 _ _ _ _)
    refine Go.getR fk_X0_30 shq_54 frq_54_6 dX0_echoCount_17 (?_ : Go _ _ 20 _ _ _ _)
    refine Go.alenL k_on_44 dX0_echoCount_20 (?_ : Go _ _ 21 _ _ _ _)
    refine Go.icmp_ge 42 dX0_echoCount_21 rfl ⟨fun c2 => ?_, fun c2 => (?_ : Go _ _ 24 _ _ _ _)⟩
    · have h := h.1 c2
      refine Go.iload_n 1 dX0_echoCount_42 rfl rfl (?_ : Go _ _ 43 _ _ _ _)
      exact Go.iret rfl dX0_echoCount_43 ⟨_, rfl, h⟩
    · have h := h.2 c2
      refine Go.iload_n 1 dX0_echoCount_24 rfl rfl (?_ : Go _ _ 25 _ _ _ _)
      refine Go.aload_n 0 dX0_echoCount_25 rfl rfl (?_ : Go _ _ 26 _ _ _ _)
      refine Go.getR fk_X0_30 shq_54 frq_54_6 dX0_echoCount_26 (?_ : Go _ _ 29 _ _ _ _)
      refine Go.iload_n 2 dX0_echoCount_29 rfl rfl (?_ : Go _ _ 30 _ _ _ _)
      refine Go.lald dX0_echoCount_30 ⟨h.1, (?_ : Go _ _ 31 _ _ _ _)⟩
      have h := h.2
      refine Go.callS (as := [.long (sL σ (ix v2))]) (st := [.int v1]) mk_J13_bitCount_95d88 wl_X0_147 rfl rfl (Nat.le_of_ble_eq_true rfl) dX0_echoCount_31 h ?_
      rintro _ s3 ⟨r4, rfl, h⟩
      show Go _ _ 34 _ [.int r4, .int v1] _ _
      refine Go.iadd dX0_echoCount_34 (?_ : Go _ _ 35 _ _ _ _)
      refine Go.istore_n 1 dX0_echoCount_35 rfl (by decide) rfl rfl (?_ : Go _ _ 36 [.ref 54, .int (v1 + r4), .int v2] _ _ _)
      refine Go.iinc dX0_echoCount_36 rfl (congrArg (fun z => v2 + z) k_ic_1) (by decide) rfl rfl (?_ : Go _ _ 39 [.ref 54, .int (v1 + r4), .int (v2 + 1)] _ _ _)
      refine Go.goto 4 dX0_echoCount_39 rfl ?_
      exact h
set_option maxHeartbeats 4000000 in
set_option maxRecDepth 100000 in
theorem sgX0_lostCount_0 {d : Nat} {σ : St} {K : Int32 → St → Prop} (h : Go mX0_lostCount (d + 1) 4 [.ref 54, .int 0, .int 0] [] σ (QI K)) : Go mX0_lostCount (d + 1) 0 [.ref 54, .null, .null] [] σ (QI K) := by
  refine Go.iconst dX0_lostCount_0 k_ic_0 (?_ : Go _ _ 1 _ _ _ _)
  refine Go.istore_n 1 dX0_lostCount_1 rfl (by decide) rfl rfl (?_ : Go _ _ 2 [.ref 54, .int 0, .null] _ _ _)
  refine Go.iconst dX0_lostCount_2 k_ic_0 (?_ : Go _ _ 3 _ _ _ _)
  refine Go.istore_n 2 dX0_lostCount_3 rfl (by decide) rfl rfl (?_ : Go _ _ 4 [.ref 54, .int 0, .int 0] _ _ _)
  exact h
theorem cgX0_lostCount {d : Nat} {σ : St} {K : Int32 → St → Prop} (h : Go mX0_lostCount (d + 1) 4 [.ref 54, .int 0, .int 0] [] σ (QI K)) : CallI (d + 1) mX0_lostCount [.ref 54] σ K := Call_of_Go (by decide +kernel) (ls := [.ref 54, .null, .null]) rfl (Nat.le_of_ble_eq_true rfl) (sgX0_lostCount_0 h)
set_option maxHeartbeats 4000000 in
set_option maxRecDepth 100000 in
theorem sgX0_lostCount_4 {d : Nat} {σ : St} {v1 : Int32} {v2 : Int32} {K : Int32 → St → Prop} (h : ((sF σ 54 9) ≤ v2 → K v1 σ) ∧ (¬ (sF σ 54 9) ≤ v2 → CallI d mX0_lostTurns [.ref 54, .int v2] σ (fun r3 s2 => Go mX0_lostCount (d + 1) 4 [.ref 54, .int (v1 + r3), .int (v2 + 1)] [] s2 (QI K)))) : Go mX0_lostCount (d + 1) 4 [.ref 54, .int v1, .int v2] [] σ (QI K) := by
  refine Go.iload_n 2 dX0_lostCount_4 rfl rfl (?_ : Go _ _ 5 _ _ _ _)
  refine Go.aload_n 0 dX0_lostCount_5 rfl rfl (?_ : Go _ _ 6 _ _ _ _)
  refine Go.getI fk_X0_40 shq_54 frq_54_9 dX0_lostCount_6 (?_ : Go _ _ 9 _ _ _ _)
  refine Go.icmp_ge 26 dX0_lostCount_9 rfl ⟨fun c1 => ?_, fun c1 => (?_ : Go _ _ 12 _ _ _ _)⟩
  · have h := h.1 c1
    refine Go.iload_n 1 dX0_lostCount_26 rfl rfl (?_ : Go _ _ 27 _ _ _ _)
    exact Go.iret rfl dX0_lostCount_27 ⟨_, rfl, h⟩
  · have h := h.2 c1
    refine Go.iload_n 1 dX0_lostCount_12 rfl rfl (?_ : Go _ _ 13 _ _ _ _)
    refine Go.aload_n 0 dX0_lostCount_13 rfl rfl (?_ : Go _ _ 14 _ _ _ _)
    refine Go.iload_n 2 dX0_lostCount_14 rfl rfl (?_ : Go _ _ 15 _ _ _ _)
    refine Go.callV (as := [.int v2]) (st := [.int v1]) mk_X0_lostTurns wl_X0_153 shq_54 rfl rfl (Nat.le_of_ble_eq_true rfl) dX0_lostCount_15 h ?_
    rintro _ s2 ⟨r3, rfl, h⟩
    show Go _ _ 18 _ [.int r3, .int v1] _ _
    refine Go.iadd dX0_lostCount_18 (?_ : Go _ _ 19 _ _ _ _)
    refine Go.istore_n 1 dX0_lostCount_19 rfl (by decide) rfl rfl (?_ : Go _ _ 20 [.ref 54, .int (v1 + r3), .int v2] _ _ _)
    refine Go.iinc dX0_lostCount_20 rfl (congrArg (fun z => v2 + z) k_ic_1) (by decide) rfl rfl (?_ : Go _ _ 23 [.ref 54, .int (v1 + r3), .int (v2 + 1)] _ _ _)
    refine Go.goto 4 dX0_lostCount_23 rfl ?_
    exact h
set_option maxHeartbeats 4000000 in
set_option maxRecDepth 100000 in
theorem sgX0_lostTurns_0 {d : Nat} {σ : St} {x1 : Int32} {K : Int32 → St → Prop} (h : Go mX0_lostTurns (d + 1) 4 [.ref 54, .int x1, .int 0, .int 0] [] σ (QI K)) : Go mX0_lostTurns (d + 1) 0 [.ref 54, .int x1, .null, .null] [] σ (QI K) := by
  refine Go.iconst dX0_lostTurns_0 k_ic_0 (?_ : Go _ _ 1 _ _ _ _)
  refine Go.istore_n 2 dX0_lostTurns_1 rfl (by decide) rfl rfl (?_ : Go _ _ 2 [.ref 54, .int x1, .int 0, .null] _ _ _)
  refine Go.iconst dX0_lostTurns_2 k_ic_0 (?_ : Go _ _ 3 _ _ _ _)
  refine Go.istore_n 3 dX0_lostTurns_3 rfl (by decide) rfl rfl (?_ : Go _ _ 4 [.ref 54, .int x1, .int 0, .int 0] _ _ _)
  exact h
theorem cgX0_lostTurns {d : Nat} {σ : St} {x1 : Int32} {K : Int32 → St → Prop} (h : Go mX0_lostTurns (d + 1) 4 [.ref 54, .int x1, .int 0, .int 0] [] σ (QI K)) : CallI (d + 1) mX0_lostTurns [.ref 54, .int x1] σ K := Call_of_Go (by decide +kernel) (ls := [.ref 54, .int x1, .null, .null]) rfl (Nat.le_of_ble_eq_true rfl) (sgX0_lostTurns_0 h)
set_option maxHeartbeats 4000000 in
set_option maxRecDepth 100000 in
theorem sgX0_lostTurns_4 {d : Nat} {σ : St} {v1 : Int32} {v2 : Int32} {v3 : Int32} {K : Int32 → St → Prop} (h : ((sF σ 54 11) ≤ v3 → K v2 σ) ∧ (¬ (sF σ 54 11) ≤ v3 → CallI d mX0_isFaint [.ref 54, .int v1] σ (fun r3 s2 => (¬ r3 = 0 → K v2 s2) ∧ (r3 = 0 → CallI d mX0_distanceOf [.ref 54, .int v1] s2 (fun r6 s5 => CallI d mX0_movementOf [.ref 54, .int v1] s5 (fun r8 s7 => CallI d mX0_placeOf [.ref 54, .int r6, .int r8, .int v3] s7 (fun r10 s9 => ((sF s9 54 12) ≤ r10 → Go mX0_lostTurns (d + 1) 4 [.ref 54, .int v1, .int v2, .int (v3 + 1)] [] s9 (QI K)) ∧ (¬ (sF s9 54 12) ≤ r10 → Go mX0_lostTurns (d + 1) 4 [.ref 54, .int v1, .int (v2 + 1), .int (v3 + 1)] [] s9 (QI K))))))))) : Go mX0_lostTurns (d + 1) 4 [.ref 54, .int v1, .int v2, .int v3] [] σ (QI K) := by
  refine Go.iload_n 3 dX0_lostTurns_4 rfl rfl (?_ : Go _ _ 5 _ _ _ _)
  refine Go.aload_n 0 dX0_lostTurns_5 rfl rfl (?_ : Go _ _ 6 _ _ _ _)
  refine Go.getI fk_X0_44 shq_54 frq_54_11 dX0_lostTurns_6 (?_ : Go _ _ 9 _ _ _ _)
  refine Go.icmp_ge 51 dX0_lostTurns_9 rfl ⟨fun c1 => ?_, fun c1 => (?_ : Go _ _ 12 _ _ _ _)⟩
  · have h := h.1 c1
    refine Go.iload_n 2 dX0_lostTurns_51 rfl rfl (?_ : Go _ _ 52 _ _ _ _)
    exact Go.iret rfl dX0_lostTurns_52 ⟨_, rfl, h⟩
  · have h := h.2 c1
    refine Go.aload_n 0 dX0_lostTurns_12 rfl rfl (?_ : Go _ _ 13 _ _ _ _)
    refine Go.iload_n 1 dX0_lostTurns_13 rfl rfl (?_ : Go _ _ 14 _ _ _ _)
    refine Go.callV (as := [.int v1]) (st := []) mk_X0_isFaint wl_X0_126 shq_54 rfl rfl (Nat.le_of_ble_eq_true rfl) dX0_lostTurns_14 h ?_
    rintro _ s2 ⟨r3, rfl, h⟩
    show Go _ _ 17 _ [.int r3] _ _
    refine Go.if_ne 51 dX0_lostTurns_17 rfl ⟨fun c4 => ?_, fun c4 => (?_ : Go _ _ 20 _ _ _ _)⟩
    · have h := h.1 c4
      refine Go.iload_n 2 dX0_lostTurns_51 rfl rfl (?_ : Go _ _ 52 _ _ _ _)
      exact Go.iret rfl dX0_lostTurns_52 ⟨_, rfl, h⟩
    · have h := h.2 c4
      refine Go.aload_n 0 dX0_lostTurns_20 rfl rfl (?_ : Go _ _ 21 _ _ _ _)
      refine Go.aload_n 0 dX0_lostTurns_21 rfl rfl (?_ : Go _ _ 22 _ _ _ _)
      refine Go.iload_n 1 dX0_lostTurns_22 rfl rfl (?_ : Go _ _ 23 _ _ _ _)
      refine Go.callV (as := [.int v1]) (st := [.ref 54]) mk_X0_distanceOf wl_X0_129 shq_54 rfl rfl (Nat.le_of_ble_eq_true rfl) dX0_lostTurns_23 h ?_
      rintro _ s5 ⟨r6, rfl, h⟩
      show Go _ _ 26 _ [.int r6, .ref 54] _ _
      refine Go.aload_n 0 dX0_lostTurns_26 rfl rfl (?_ : Go _ _ 27 _ _ _ _)
      refine Go.iload_n 1 dX0_lostTurns_27 rfl rfl (?_ : Go _ _ 28 _ _ _ _)
      refine Go.callV (as := [.int v1]) (st := [.int r6, .ref 54]) mk_X0_movementOf wl_X0_125 shq_54 rfl rfl (Nat.le_of_ble_eq_true rfl) dX0_lostTurns_28 h ?_
      rintro _ s7 ⟨r8, rfl, h⟩
      show Go _ _ 31 _ [.int r8, .int r6, .ref 54] _ _
      refine Go.iload_n 3 dX0_lostTurns_31 rfl rfl (?_ : Go _ _ 32 _ _ _ _)
      refine Go.callV (as := [.int r6, .int r8, .int v3]) (st := []) mk_X0_placeOf wl_X0_130 shq_54 rfl rfl (Nat.le_of_ble_eq_true rfl) dX0_lostTurns_32 h ?_
      rintro _ s9 ⟨r10, rfl, h⟩
      show Go _ _ 35 _ [.int r10] _ _
      refine Go.aload_n 0 dX0_lostTurns_35 rfl rfl (?_ : Go _ _ 36 _ _ _ _)
      refine Go.getI fk_X0_53 shq_54 frq_54_12 dX0_lostTurns_36 (?_ : Go _ _ 39 _ _ _ _)
      refine Go.icmp_ge 45 dX0_lostTurns_39 rfl ⟨fun c11 => ?_, fun c11 => (?_ : Go _ _ 42 _ _ _ _)⟩
      · have h := h.1 c11
        refine Go.iinc dX0_lostTurns_45 rfl (congrArg (fun z => v3 + z) k_ic_1) (by decide) rfl rfl (?_ : Go _ _ 48 [.ref 54, .int v1, .int v2, .int (v3 + 1)] _ _ _)
        refine Go.goto 4 dX0_lostTurns_48 rfl ?_
        exact h
      · have h := h.2 c11
        refine Go.iinc dX0_lostTurns_42 rfl (congrArg (fun z => v2 + z) k_ic_1) (by decide) rfl rfl (?_ : Go _ _ 45 [.ref 54, .int v1, .int (v2 + 1), .int v3] _ _ _)
        refine Go.iinc dX0_lostTurns_45 rfl (congrArg (fun z => v3 + z) k_ic_1) (by decide) rfl rfl (?_ : Go _ _ 48 [.ref 54, .int v1, .int (v2 + 1), .int (v3 + 1)] _ _ _)
        refine Go.goto 4 dX0_lostTurns_48 rfl ?_
        exact h
set_option maxHeartbeats 4000000 in
set_option maxRecDepth 100000 in
theorem sgX0_faintCount_0 {d : Nat} {σ : St} {K : Int32 → St → Prop} (h : Go mX0_faintCount (d + 1) 4 [.ref 54, .int 0, .int 0] [] σ (QI K)) : Go mX0_faintCount (d + 1) 0 [.ref 54, .null, .null] [] σ (QI K) := by
  refine Go.iconst dX0_faintCount_0 k_ic_0 (?_ : Go _ _ 1 _ _ _ _)
  refine Go.istore_n 1 dX0_faintCount_1 rfl (by decide) rfl rfl (?_ : Go _ _ 2 [.ref 54, .int 0, .null] _ _ _)
  refine Go.iconst dX0_faintCount_2 k_ic_0 (?_ : Go _ _ 3 _ _ _ _)
  refine Go.istore_n 2 dX0_faintCount_3 rfl (by decide) rfl rfl (?_ : Go _ _ 4 [.ref 54, .int 0, .int 0] _ _ _)
  exact h
theorem cgX0_faintCount {d : Nat} {σ : St} {K : Int32 → St → Prop} (h : Go mX0_faintCount (d + 1) 4 [.ref 54, .int 0, .int 0] [] σ (QI K)) : CallI (d + 1) mX0_faintCount [.ref 54] σ K := Call_of_Go (by decide +kernel) (ls := [.ref 54, .null, .null]) rfl (Nat.le_of_ble_eq_true rfl) (sgX0_faintCount_0 h)
set_option maxHeartbeats 4000000 in
set_option maxRecDepth 100000 in
theorem sgX0_faintCount_4 {d : Nat} {σ : St} {v1 : Int32} {v2 : Int32} {K : Int32 → St → Prop} (h : ((sF σ 54 9) ≤ v2 → K v1 σ) ∧ (¬ (sF σ 54 9) ≤ v2 → CallI d mX0_isFaint [.ref 54, .int v2] σ (fun r3 s2 => (r3 = 0 → Go mX0_faintCount (d + 1) 4 [.ref 54, .int (v1 + 0), .int (v2 + 1)] [] s2 (QI K)) ∧ (¬ r3 = 0 → Go mX0_faintCount (d + 1) 4 [.ref 54, .int (v1 + 1), .int (v2 + 1)] [] s2 (QI K))))) : Go mX0_faintCount (d + 1) 4 [.ref 54, .int v1, .int v2] [] σ (QI K) := by
  refine Go.iload_n 2 dX0_faintCount_4 rfl rfl (?_ : Go _ _ 5 _ _ _ _)
  refine Go.aload_n 0 dX0_faintCount_5 rfl rfl (?_ : Go _ _ 6 _ _ _ _)
  refine Go.getI fk_X0_40 shq_54 frq_54_9 dX0_faintCount_6 (?_ : Go _ _ 9 _ _ _ _)
  refine Go.icmp_ge 34 dX0_faintCount_9 rfl ⟨fun c1 => ?_, fun c1 => (?_ : Go _ _ 12 _ _ _ _)⟩
  · have h := h.1 c1
    refine Go.iload_n 1 dX0_faintCount_34 rfl rfl (?_ : Go _ _ 35 _ _ _ _)
    exact Go.iret rfl dX0_faintCount_35 ⟨_, rfl, h⟩
  · have h := h.2 c1
    refine Go.iload_n 1 dX0_faintCount_12 rfl rfl (?_ : Go _ _ 13 _ _ _ _)
    refine Go.aload_n 0 dX0_faintCount_13 rfl rfl (?_ : Go _ _ 14 _ _ _ _)
    refine Go.iload_n 2 dX0_faintCount_14 rfl rfl (?_ : Go _ _ 15 _ _ _ _)
    refine Go.callV (as := [.int v2]) (st := [.int v1]) mk_X0_isFaint wl_X0_126 shq_54 rfl rfl (Nat.le_of_ble_eq_true rfl) dX0_faintCount_15 h ?_
    rintro _ s2 ⟨r3, rfl, h⟩
    show Go _ _ 18 _ [.int r3, .int v1] _ _
    refine Go.if_eq 25 dX0_faintCount_18 rfl ⟨fun c4 => ?_, fun c4 => (?_ : Go _ _ 21 _ _ _ _)⟩
    · have h := h.1 c4
      refine Go.iconst dX0_faintCount_25 k_ic_0 (?_ : Go _ _ 26 _ _ _ _)
      refine Go.iadd dX0_faintCount_26 (?_ : Go _ _ 27 _ _ _ _)
      refine Go.istore_n 1 dX0_faintCount_27 rfl (by decide) rfl rfl (?_ : Go _ _ 28 [.ref 54, .int (v1 + 0), .int v2] _ _ _)
      refine Go.iinc dX0_faintCount_28 rfl (congrArg (fun z => v2 + z) k_ic_1) (by decide) rfl rfl (?_ : Go _ _ 31 [.ref 54, .int (v1 + 0), .int (v2 + 1)] _ _ _)
      refine Go.goto 4 dX0_faintCount_31 rfl ?_
      exact h
    · have h := h.2 c4
      refine Go.iconst dX0_faintCount_21 k_ic_1 (?_ : Go _ _ 22 _ _ _ _)
      refine Go.goto 26 dX0_faintCount_22 rfl ?_
      refine Go.iadd dX0_faintCount_26 (?_ : Go _ _ 27 _ _ _ _)
      refine Go.istore_n 1 dX0_faintCount_27 rfl (by decide) rfl rfl (?_ : Go _ _ 28 [.ref 54, .int (v1 + 1), .int v2] _ _ _)
      refine Go.iinc dX0_faintCount_28 rfl (congrArg (fun z => v2 + z) k_ic_1) (by decide) rfl rfl (?_ : Go _ _ 31 [.ref 54, .int (v1 + 1), .int (v2 + 1)] _ _ _)
      refine Go.goto 4 dX0_faintCount_31 rfl ?_
      exact h
set_option maxHeartbeats 4000000 in
set_option maxRecDepth 100000 in
theorem sgX0_findEcho_0 {d : Nat} {σ : St} {x1 : Int32} {x2 : Int32} {K : Int32 → St → Prop} (h : Go mX0_findEcho (d + 1) 5 [.ref 54, .int x1, .int x2, .int x2, .int 0, .null] [] σ (QI K)) : Go mX0_findEcho (d + 1) 0 [.ref 54, .int x1, .int x2, .null, .null, .null] [] σ (QI K) := by
  refine Go.iload_n 2 dX0_findEcho_0 rfl rfl (?_ : Go _ _ 1 _ _ _ _)
  refine Go.istore_n 3 dX0_findEcho_1 rfl (by decide) rfl rfl (?_ : Go _ _ 2 [.ref 54, .int x1, .int x2, .int x2, .null, .null] _ _ _)
  refine Go.iconst dX0_findEcho_2 k_ic_0 (?_ : Go _ _ 3 _ _ _ _)
  refine Go.istore dX0_findEcho_3 (by decide) rfl rfl (?_ : Go _ _ 5 [.ref 54, .int x1, .int x2, .int x2, .int 0, .null] _ _ _)
  exact h
theorem cgX0_findEcho {d : Nat} {σ : St} {x1 : Int32} {x2 : Int32} {K : Int32 → St → Prop} (h : Go mX0_findEcho (d + 1) 5 [.ref 54, .int x1, .int x2, .int x2, .int 0, .null] [] σ (QI K)) : CallI (d + 1) mX0_findEcho [.ref 54, .int x1, .int x2] σ K := Call_of_Go (by decide +kernel) (ls := [.ref 54, .int x1, .int x2, .null, .null, .null]) rfl (Nat.le_of_ble_eq_true rfl) (sgX0_findEcho_0 h)
set_option maxHeartbeats 4000000 in
set_option maxRecDepth 100000 in
theorem sgX0_findEcho_5 {d : Nat} {σ : St} {v1 : Int32} {v2 : Int32} {v3 : Int32} {v4 : Int32} {K : Int32 → St → Prop} (h : (50 ≤ v4 → K (-4) σ) ∧ (¬ 50 ≤ v4 → Go mX0_findEcho (d + 1) 16 [.ref 54, .int v1, .int v2, .int v3, .int v4, .int (-5)] [] σ (QI K))) : Go mX0_findEcho (d + 1) 5 [.ref 54, .int v1, .int v2, .int v3, .int v4, .null] [] σ (QI K) := by
  refine Go.iload dX0_findEcho_5 rfl (?_ : Go _ _ 7 _ _ _ _)
  refine Go.bipush dX0_findEcho_7 k_bi_50 (?_ : Go _ _ 9 _ _ _ _)
  refine Go.icmp_ge 61 dX0_findEcho_9 rfl ⟨fun c1 => ?_, fun c1 => (?_ : Go _ _ 12 _ _ _ _)⟩
  · have h := h.1 c1
    refine Go.bipush dX0_findEcho_61 k_bi_m4 (?_ : Go _ _ 63 _ _ _ _)
    exact Go.iret rfl dX0_findEcho_63 ⟨_, rfl, h⟩
  · have h := h.2 c1
    refine Go.bipush dX0_findEcho_12 k_bi_m5 (?_ : Go _ _ 14 _ _ _ _)
    refine Go.istore dX0_findEcho_14 (by decide) rfl rfl (?_ : Go _ _ 16 [.ref 54, .int v1, .int v2, .int v3, .int v4, .int (-5)] _ _ _)
    exact h
set_option maxHeartbeats 4000000 in
set_option maxRecDepth 100000 in
theorem sgX0_findEcho_16 {d : Nat} {σ : St} {v1 : Int32} {v2 : Int32} {v3 : Int32} {v4 : Int32} {v5 : Int32} {K : Int32 → St → Prop} (h : (5 < v5 → Go mX0_findEcho (d + 1) 5 [.ref 54, .int v1, .int v2, .int v3, .int (v4 + 1), .null] [] σ (QI K)) ∧ (¬ 5 < v5 → CallI d mX0_isHeard [.ref 54, .int v1, .int v5, .int v4] σ (fun r3 s2 => (r3 = 0 → Go mX0_findEcho (d + 1) 16 [.ref 54, .int v1, .int v2, .int v3, .int v4, .int (v5 + 1)] [] s2 (QI K)) ∧ (¬ r3 = 0 → (¬ v3 = 0 → Go mX0_findEcho (d + 1) 16 [.ref 54, .int v1, .int v2, .int (v3 + (-1)), .int v4, .int (v5 + 1)] [] s2 (QI K)) ∧ (v3 = 0 → CallI d mX0_codeOf [.int v4, .int v5] s2 (fun r7 s6 => K r7 s6)))))) : Go mX0_findEcho (d + 1) 16 [.ref 54, .int v1, .int v2, .int v3, .int v4, .int v5] [] σ (QI K) := by
  refine Go.iload dX0_findEcho_16 rfl (?_ : Go _ _ 18 _ _ _ _)
  refine Go.iconst dX0_findEcho_18 k_ic_5 (?_ : Go _ _ 19 _ _ _ _)
  refine Go.icmp_gt 55 dX0_findEcho_19 rfl ⟨fun c1 => ?_, fun c1 => (?_ : Go _ _ 22 _ _ _ _)⟩
  · have h := h.1 c1
    refine Go.iinc dX0_findEcho_55 rfl (congrArg (fun z => v4 + z) k_ic_1) (by decide) rfl rfl (?_ : Go _ _ 58 [.ref 54, .int v1, .int v2, .int v3, .int (v4 + 1), .int v5] _ _ _)
    refine Go.goto 5 dX0_findEcho_58 rfl ?_
    refine Go.drop (ls' := [.ref 54, .int v1, .int v2, .int v3, .int (v4 + 1), .null]) 5 rfl ?_
    exact h
  · have h := h.2 c1
    refine Go.aload_n 0 dX0_findEcho_22 rfl rfl (?_ : Go _ _ 23 _ _ _ _)
    refine Go.iload_n 1 dX0_findEcho_23 rfl rfl (?_ : Go _ _ 24 _ _ _ _)
    refine Go.iload dX0_findEcho_24 rfl (?_ : Go _ _ 26 _ _ _ _)
    refine Go.iload dX0_findEcho_26 rfl (?_ : Go _ _ 28 _ _ _ _)
    refine Go.callV (as := [.int v1, .int v5, .int v4]) (st := []) mk_X0_isHeard wl_X0_156 shq_54 rfl rfl (Nat.le_of_ble_eq_true rfl) dX0_findEcho_28 h ?_
    rintro _ s2 ⟨r3, rfl, h⟩
    show Go _ _ 31 _ [.int r3] _ _
    refine Go.if_eq 49 dX0_findEcho_31 rfl ⟨fun c4 => ?_, fun c4 => (?_ : Go _ _ 34 _ _ _ _)⟩
    · have h := h.1 c4
      refine Go.iinc dX0_findEcho_49 rfl (congrArg (fun z => v5 + z) k_ic_1) (by decide) rfl rfl (?_ : Go _ _ 52 [.ref 54, .int v1, .int v2, .int v3, .int v4, .int (v5 + 1)] _ _ _)
      refine Go.goto 16 dX0_findEcho_52 rfl ?_
      exact h
    · have h := h.2 c4
      refine Go.iload_n 3 dX0_findEcho_34 rfl rfl (?_ : Go _ _ 35 _ _ _ _)
      refine Go.if_ne 46 dX0_findEcho_35 rfl ⟨fun c5 => ?_, fun c5 => (?_ : Go _ _ 38 _ _ _ _)⟩
      · have h := h.1 c5
        refine Go.iinc dX0_findEcho_46 rfl (congrArg (fun z => v3 + z) k_ic_m1) (by decide) rfl rfl (?_ : Go _ _ 49 [.ref 54, .int v1, .int v2, .int (v3 + (-1)), .int v4, .int v5] _ _ _)
        refine Go.iinc dX0_findEcho_49 rfl (congrArg (fun z => v5 + z) k_ic_1) (by decide) rfl rfl (?_ : Go _ _ 52 [.ref 54, .int v1, .int v2, .int (v3 + (-1)), .int v4, .int (v5 + 1)] _ _ _)
        refine Go.goto 16 dX0_findEcho_52 rfl ?_
        exact h
      · have h := h.2 c5
        refine Go.iload dX0_findEcho_38 rfl (?_ : Go _ _ 40 _ _ _ _)
        refine Go.iload dX0_findEcho_40 rfl (?_ : Go _ _ 42 _ _ _ _)
        refine Go.callS (as := [.int v4, .int v5]) (st := []) mk_X0_codeOf wl_X0_134 rfl rfl (Nat.le_of_ble_eq_true rfl) dX0_findEcho_42 h ?_
        rintro _ s6 ⟨r7, rfl, h⟩
        show Go _ _ 45 _ [.int r7] _ _
        exact Go.iret rfl dX0_findEcho_45 ⟨_, rfl, h⟩
set_option maxHeartbeats 4000000 in
set_option maxRecDepth 100000 in
theorem sgX0_strengthTogether_0 {d : Nat} {σ : St} {x1 : Int32} {x2 : Int32} {x3 : Int32} {K : Int32 → St → Prop} (h : Go mX0_strengthTogether (d + 1) 6 [.ref 54, .int x1, .int x2, .int x3, .int 0, .int 0] [] σ (QI K)) : Go mX0_strengthTogether (d + 1) 0 [.ref 54, .int x1, .int x2, .int x3, .null, .null] [] σ (QI K) := by
  refine Go.iconst dX0_strengthTogether_0 k_ic_0 (?_ : Go _ _ 1 _ _ _ _)
  refine Go.istore dX0_strengthTogether_1 (by decide) rfl rfl (?_ : Go _ _ 3 [.ref 54, .int x1, .int x2, .int x3, .int 0, .null] _ _ _)
  refine Go.iconst dX0_strengthTogether_3 k_ic_0 (?_ : Go _ _ 4 _ _ _ _)
  refine Go.istore dX0_strengthTogether_4 (by decide) rfl rfl (?_ : Go _ _ 6 [.ref 54, .int x1, .int x2, .int x3, .int 0, .int 0] _ _ _)
  exact h
theorem cgX0_strengthTogether {d : Nat} {σ : St} {x1 : Int32} {x2 : Int32} {x3 : Int32} {K : Int32 → St → Prop} (h : Go mX0_strengthTogether (d + 1) 6 [.ref 54, .int x1, .int x2, .int x3, .int 0, .int 0] [] σ (QI K)) : CallI (d + 1) mX0_strengthTogether [.ref 54, .int x1, .int x2, .int x3] σ K := Call_of_Go (by decide +kernel) (ls := [.ref 54, .int x1, .int x2, .int x3, .null, .null]) rfl (Nat.le_of_ble_eq_true rfl) (sgX0_strengthTogether_0 h)
set_option maxHeartbeats 4000000 in
set_option maxRecDepth 100000 in
theorem sgX0_strengthTogether_6 {d : Nat} {σ : St} {v1 : Int32} {v2 : Int32} {v3 : Int32} {v4 : Int32} {v5 : Int32} {K : Int32 → St → Prop} (h : ((sF σ 54 9) ≤ v5 → K v4 σ) ∧ (¬ (sF σ 54 9) ≤ v5 → CallI d mX0_isPartOf [.ref 54, .int v5, .int v1, .int v2, .int v3] σ (fun r3 s2 => (r3 = 0 → Go mX0_strengthTogether (d + 1) 6 [.ref 54, .int v1, .int v2, .int v3, .int v4, .int (v5 + 1)] [] s2 (QI K)) ∧ (¬ r3 = 0 → CallI d mX0_strengthOf [.ref 54, .int v5] s2 (fun r6 s5 => Go mX0_strengthTogether (d + 1) 6 [.ref 54, .int v1, .int v2, .int v3, .int (v4 + r6), .int (v5 + 1)] [] s5 (QI K)))))) : Go mX0_strengthTogether (d + 1) 6 [.ref 54, .int v1, .int v2, .int v3, .int v4, .int v5] [] σ (QI K) := by
  refine Go.iload dX0_strengthTogether_6 rfl (?_ : Go _ _ 8 _ _ _ _)
  refine Go.aload_n 0 dX0_strengthTogether_8 rfl rfl (?_ : Go _ _ 9 _ _ _ _)
  refine Go.getI fk_X0_40 shq_54 frq_54_9 dX0_strengthTogether_9 (?_ : Go _ _ 12 _ _ _ _)
  refine Go.icmp_ge 44 dX0_strengthTogether_12 rfl ⟨fun c1 => ?_, fun c1 => (?_ : Go _ _ 15 _ _ _ _)⟩
  · have h := h.1 c1
    refine Go.iload dX0_strengthTogether_44 rfl (?_ : Go _ _ 46 _ _ _ _)
    exact Go.iret rfl dX0_strengthTogether_46 ⟨_, rfl, h⟩
  · have h := h.2 c1
    refine Go.aload_n 0 dX0_strengthTogether_15 rfl rfl (?_ : Go _ _ 16 _ _ _ _)
    refine Go.iload dX0_strengthTogether_16 rfl (?_ : Go _ _ 18 _ _ _ _)
    refine Go.iload_n 1 dX0_strengthTogether_18 rfl rfl (?_ : Go _ _ 19 _ _ _ _)
    refine Go.iload_n 2 dX0_strengthTogether_19 rfl rfl (?_ : Go _ _ 20 _ _ _ _)
    refine Go.iload_n 3 dX0_strengthTogether_20 rfl rfl (?_ : Go _ _ 21 _ _ _ _)
    refine Go.callV (as := [.int v5, .int v1, .int v2, .int v3]) (st := []) mk_X0_isPartOf wl_X0_160 shq_54 rfl rfl (Nat.le_of_ble_eq_true rfl) dX0_strengthTogether_21 h ?_
    rintro _ s2 ⟨r3, rfl, h⟩
    show Go _ _ 24 _ [.int r3] _ _
    refine Go.if_eq 38 dX0_strengthTogether_24 rfl ⟨fun c4 => ?_, fun c4 => (?_ : Go _ _ 27 _ _ _ _)⟩
    · have h := h.1 c4
      refine Go.iinc dX0_strengthTogether_38 rfl (congrArg (fun z => v5 + z) k_ic_1) (by decide) rfl rfl (?_ : Go _ _ 41 [.ref 54, .int v1, .int v2, .int v3, .int v4, .int (v5 + 1)] _ _ _)
      refine Go.goto 6 dX0_strengthTogether_41 rfl ?_
      exact h
    · have h := h.2 c4
      refine Go.iload dX0_strengthTogether_27 rfl (?_ : Go _ _ 29 _ _ _ _)
      refine Go.aload_n 0 dX0_strengthTogether_29 rfl rfl (?_ : Go _ _ 30 _ _ _ _)
      refine Go.iload dX0_strengthTogether_30 rfl (?_ : Go _ _ 32 _ _ _ _)
      refine Go.callV (as := [.int v5]) (st := [.int v4]) mk_X0_strengthOf wl_X0_140 shq_54 rfl rfl (Nat.le_of_ble_eq_true rfl) dX0_strengthTogether_32 h ?_
      rintro _ s5 ⟨r6, rfl, h⟩
      show Go _ _ 35 _ [.int r6, .int v4] _ _
      refine Go.iadd dX0_strengthTogether_35 (?_ : Go _ _ 36 _ _ _ _)
      refine Go.istore dX0_strengthTogether_36 (by decide) rfl rfl (?_ : Go _ _ 38 [.ref 54, .int v1, .int v2, .int v3, .int (v4 + r6), .int v5] _ _ _)
      refine Go.iinc dX0_strengthTogether_38 rfl (congrArg (fun z => v5 + z) k_ic_1) (by decide) rfl rfl (?_ : Go _ _ 41 [.ref 54, .int v1, .int v2, .int v3, .int (v4 + r6), .int (v5 + 1)] _ _ _)
      refine Go.goto 6 dX0_strengthTogether_41 rfl ?_
      exact h
set_option maxHeartbeats 4000000 in
set_option maxRecDepth 100000 in
theorem sgX0_sourcesTogether_0 {d : Nat} {σ : St} {x1 : Int32} {x2 : Int32} {x3 : Int32} {K : Int32 → St → Prop} (h : Go mX0_sourcesTogether (d + 1) 6 [.ref 54, .int x1, .int x2, .int x3, .int 0, .int 0] [] σ (QI K)) : Go mX0_sourcesTogether (d + 1) 0 [.ref 54, .int x1, .int x2, .int x3, .null, .null] [] σ (QI K) := by
  refine Go.iconst dX0_sourcesTogether_0 k_ic_0 (?_ : Go _ _ 1 _ _ _ _)
  refine Go.istore dX0_sourcesTogether_1 (by decide) rfl rfl (?_ : Go _ _ 3 [.ref 54, .int x1, .int x2, .int x3, .int 0, .null] _ _ _)
  refine Go.iconst dX0_sourcesTogether_3 k_ic_0 (?_ : Go _ _ 4 _ _ _ _)
  refine Go.istore dX0_sourcesTogether_4 (by decide) rfl rfl (?_ : Go _ _ 6 [.ref 54, .int x1, .int x2, .int x3, .int 0, .int 0] _ _ _)
  exact h
theorem cgX0_sourcesTogether {d : Nat} {σ : St} {x1 : Int32} {x2 : Int32} {x3 : Int32} {K : Int32 → St → Prop} (h : Go mX0_sourcesTogether (d + 1) 6 [.ref 54, .int x1, .int x2, .int x3, .int 0, .int 0] [] σ (QI K)) : CallI (d + 1) mX0_sourcesTogether [.ref 54, .int x1, .int x2, .int x3] σ K := Call_of_Go (by decide +kernel) (ls := [.ref 54, .int x1, .int x2, .int x3, .null, .null]) rfl (Nat.le_of_ble_eq_true rfl) (sgX0_sourcesTogether_0 h)
set_option maxHeartbeats 4000000 in
set_option maxRecDepth 100000 in
theorem sgX0_sourcesTogether_6 {d : Nat} {σ : St} {v1 : Int32} {v2 : Int32} {v3 : Int32} {v4 : Int32} {v5 : Int32} {K : Int32 → St → Prop} (h : ((sF σ 54 9) ≤ v5 → K v4 σ) ∧ (¬ (sF σ 54 9) ≤ v5 → CallI d mX0_isPartOf [.ref 54, .int v5, .int v1, .int v2, .int v3] σ (fun r3 s2 => (r3 = 0 → Go mX0_sourcesTogether (d + 1) 6 [.ref 54, .int v1, .int v2, .int v3, .int v4, .int (v5 + 1)] [] s2 (QI K)) ∧ (¬ r3 = 0 → Go mX0_sourcesTogether (d + 1) 6 [.ref 54, .int v1, .int v2, .int v3, .int (v4 + 1), .int (v5 + 1)] [] s2 (QI K))))) : Go mX0_sourcesTogether (d + 1) 6 [.ref 54, .int v1, .int v2, .int v3, .int v4, .int v5] [] σ (QI K) := by
  refine Go.iload dX0_sourcesTogether_6 rfl (?_ : Go _ _ 8 _ _ _ _)
  refine Go.aload_n 0 dX0_sourcesTogether_8 rfl rfl (?_ : Go _ _ 9 _ _ _ _)
  refine Go.getI fk_X0_40 shq_54 frq_54_9 dX0_sourcesTogether_9 (?_ : Go _ _ 12 _ _ _ _)
  refine Go.icmp_ge 36 dX0_sourcesTogether_12 rfl ⟨fun c1 => ?_, fun c1 => (?_ : Go _ _ 15 _ _ _ _)⟩
  · have h := h.1 c1
    refine Go.iload dX0_sourcesTogether_36 rfl (?_ : Go _ _ 38 _ _ _ _)
    exact Go.iret rfl dX0_sourcesTogether_38 ⟨_, rfl, h⟩
  · have h := h.2 c1
    refine Go.aload_n 0 dX0_sourcesTogether_15 rfl rfl (?_ : Go _ _ 16 _ _ _ _)
    refine Go.iload dX0_sourcesTogether_16 rfl (?_ : Go _ _ 18 _ _ _ _)
    refine Go.iload_n 1 dX0_sourcesTogether_18 rfl rfl (?_ : Go _ _ 19 _ _ _ _)
    refine Go.iload_n 2 dX0_sourcesTogether_19 rfl rfl (?_ : Go _ _ 20 _ _ _ _)
    refine Go.iload_n 3 dX0_sourcesTogether_20 rfl rfl (?_ : Go _ _ 21 _ _ _ _)
    refine Go.callV (as := [.int v5, .int v1, .int v2, .int v3]) (st := []) mk_X0_isPartOf wl_X0_160 shq_54 rfl rfl (Nat.le_of_ble_eq_true rfl) dX0_sourcesTogether_21 h ?_
    rintro _ s2 ⟨r3, rfl, h⟩
    show Go _ _ 24 _ [.int r3] _ _
    refine Go.if_eq 30 dX0_sourcesTogether_24 rfl ⟨fun c4 => ?_, fun c4 => (?_ : Go _ _ 27 _ _ _ _)⟩
    · have h := h.1 c4
      refine Go.iinc dX0_sourcesTogether_30 rfl (congrArg (fun z => v5 + z) k_ic_1) (by decide) rfl rfl (?_ : Go _ _ 33 [.ref 54, .int v1, .int v2, .int v3, .int v4, .int (v5 + 1)] _ _ _)
      refine Go.goto 6 dX0_sourcesTogether_33 rfl ?_
      exact h
    · have h := h.2 c4
      refine Go.iinc dX0_sourcesTogether_27 rfl (congrArg (fun z => v4 + z) k_ic_1) (by decide) rfl rfl (?_ : Go _ _ 30 [.ref 54, .int v1, .int v2, .int v3, .int (v4 + 1), .int v5] _ _ _)
      refine Go.iinc dX0_sourcesTogether_30 rfl (congrArg (fun z => v5 + z) k_ic_1) (by decide) rfl rfl (?_ : Go _ _ 33 [.ref 54, .int v1, .int v2, .int v3, .int (v4 + 1), .int (v5 + 1)] _ _ _)
      refine Go.goto 6 dX0_sourcesTogether_33 rfl ?_
      exact h
set_option maxHeartbeats 4000000 in
set_option maxRecDepth 100000 in
theorem sgX0_isPartOf_0 {d : Nat} {σ : St} {x1 : Int32} {x2 : Int32} {x3 : Int32} {x4 : Int32} {K : Int32 → St → Prop} (h : CallI d mX0_isFaint [.ref 54, .int x1] σ (fun r2 s1 => (¬ r2 = 0 → K 0 s1) ∧ (r2 = 0 → CallI d mX0_movementOf [.ref 54, .int x1] s1 (fun r5 s4 => (¬ r5 = x4 → K 0 s4) ∧ (r5 = x4 → CallI d mX0_distanceOf [.ref 54, .int x1] s4 (fun r8 s7 => CallI d mX0_placeOf [.ref 54, .int r8, .int x4, .int x2] s7 (fun r10 s9 => (¬ r10 = x3 → K 0 s9) ∧ (r10 = x3 → K 1 s9)))))))) : Go mX0_isPartOf (d + 1) 0 [.ref 54, .int x1, .int x2, .int x3, .int x4] [] σ (QI K) := by
  refine Go.aload_n 0 dX0_isPartOf_0 rfl rfl (?_ : Go _ _ 1 _ _ _ _)
  refine Go.iload_n 1 dX0_isPartOf_1 rfl rfl (?_ : Go _ _ 2 _ _ _ _)
  refine Go.callV (as := [.int x1]) (st := []) mk_X0_isFaint wl_X0_126 shq_54 rfl rfl (Nat.le_of_ble_eq_true rfl) dX0_isPartOf_2 h ?_
  rintro _ s1 ⟨r2, rfl, h⟩
  show Go _ _ 5 _ [.int r2] _ _
  refine Go.if_ne 38 dX0_isPartOf_5 rfl ⟨fun c3 => ?_, fun c3 => (?_ : Go _ _ 8 _ _ _ _)⟩
  · have h := h.1 c3
    refine Go.iconst dX0_isPartOf_38 k_ic_0 (?_ : Go _ _ 39 _ _ _ _)
    exact Go.zret rfl rfl dX0_isPartOf_39 ⟨_, rfl, h⟩
  · have h := h.2 c3
    refine Go.aload_n 0 dX0_isPartOf_8 rfl rfl (?_ : Go _ _ 9 _ _ _ _)
    refine Go.iload_n 1 dX0_isPartOf_9 rfl rfl (?_ : Go _ _ 10 _ _ _ _)
    refine Go.callV (as := [.int x1]) (st := []) mk_X0_movementOf wl_X0_125 shq_54 rfl rfl (Nat.le_of_ble_eq_true rfl) dX0_isPartOf_10 h ?_
    rintro _ s4 ⟨r5, rfl, h⟩
    show Go _ _ 13 _ [.int r5] _ _
    refine Go.iload dX0_isPartOf_13 rfl (?_ : Go _ _ 15 _ _ _ _)
    refine Go.icmp_ne 38 dX0_isPartOf_15 rfl ⟨fun c6 => ?_, fun c6 => (?_ : Go _ _ 18 _ _ _ _)⟩
    · have h := h.1 c6
      refine Go.iconst dX0_isPartOf_38 k_ic_0 (?_ : Go _ _ 39 _ _ _ _)
      exact Go.zret rfl rfl dX0_isPartOf_39 ⟨_, rfl, h⟩
    · have h := h.2 c6
      refine Go.aload_n 0 dX0_isPartOf_18 rfl rfl (?_ : Go _ _ 19 _ _ _ _)
      refine Go.aload_n 0 dX0_isPartOf_19 rfl rfl (?_ : Go _ _ 20 _ _ _ _)
      refine Go.iload_n 1 dX0_isPartOf_20 rfl rfl (?_ : Go _ _ 21 _ _ _ _)
      refine Go.callV (as := [.int x1]) (st := [.ref 54]) mk_X0_distanceOf wl_X0_129 shq_54 rfl rfl (Nat.le_of_ble_eq_true rfl) dX0_isPartOf_21 h ?_
      rintro _ s7 ⟨r8, rfl, h⟩
      show Go _ _ 24 _ [.int r8, .ref 54] _ _
      refine Go.iload dX0_isPartOf_24 rfl (?_ : Go _ _ 26 _ _ _ _)
      refine Go.iload_n 2 dX0_isPartOf_26 rfl rfl (?_ : Go _ _ 27 _ _ _ _)
      refine Go.callV (as := [.int r8, .int x4, .int x2]) (st := []) mk_X0_placeOf wl_X0_130 shq_54 rfl rfl (Nat.le_of_ble_eq_true rfl) dX0_isPartOf_27 h ?_
      rintro _ s9 ⟨r10, rfl, h⟩
      show Go _ _ 30 _ [.int r10] _ _
      refine Go.iload_n 3 dX0_isPartOf_30 rfl rfl (?_ : Go _ _ 31 _ _ _ _)
      refine Go.icmp_ne 38 dX0_isPartOf_31 rfl ⟨fun c11 => ?_, fun c11 => (?_ : Go _ _ 34 _ _ _ _)⟩
      · have h := h.1 c11
        refine Go.iconst dX0_isPartOf_38 k_ic_0 (?_ : Go _ _ 39 _ _ _ _)
        exact Go.zret rfl rfl dX0_isPartOf_39 ⟨_, rfl, h⟩
      · have h := h.2 c11
        refine Go.iconst dX0_isPartOf_34 k_ic_1 (?_ : Go _ _ 35 _ _ _ _)
        refine Go.goto 39 dX0_isPartOf_35 rfl ?_
        exact Go.zret rfl rfl dX0_isPartOf_39 ⟨_, rfl, h⟩
theorem cgX0_isPartOf {d : Nat} {σ : St} {x1 : Int32} {x2 : Int32} {x3 : Int32} {x4 : Int32} {K : Int32 → St → Prop} (h : CallI d mX0_isFaint [.ref 54, .int x1] σ (fun r2 s1 => (¬ r2 = 0 → K 0 s1) ∧ (r2 = 0 → CallI d mX0_movementOf [.ref 54, .int x1] s1 (fun r5 s4 => (¬ r5 = x4 → K 0 s4) ∧ (r5 = x4 → CallI d mX0_distanceOf [.ref 54, .int x1] s4 (fun r8 s7 => CallI d mX0_placeOf [.ref 54, .int r8, .int x4, .int x2] s7 (fun r10 s9 => (¬ r10 = x3 → K 0 s9) ∧ (r10 = x3 → K 1 s9)))))))) : CallI (d + 1) mX0_isPartOf [.ref 54, .int x1, .int x2, .int x3, .int x4] σ K := Call_of_Go (by decide +kernel) (ls := [.ref 54, .int x1, .int x2, .int x3, .int x4]) rfl (Nat.le_of_ble_eq_true rfl) (sgX0_isPartOf_0 h)
set_option maxHeartbeats 4000000 in
set_option maxRecDepth 100000 in
theorem sgX0_fitOf_0 {d : Nat} {σ : St} {x1 : Int32} {x2 : Int32} {x3 : Int32} {K : Int32 → St → Prop} (h : CallI d mX0_placeOf [.ref 54, .int x1, .int x2, .int x3] σ (fun r2 s1 => ((sF s1 54 12) ≤ r2 → CallI d mX0_isHeard [.ref 54, .int x3, .int x2, .int r2] s1 (fun r5 s4 => (r5 = 0 → K 0 s4) ∧ (¬ r5 = 0 → K 1 s4))) ∧ (¬ (sF s1 54 12) ≤ r2 → K 2 s1))) : Go mX0_fitOf (d + 1) 0 [.ref 54, .int x1, .int x2, .int x3, .null] [] σ (QI K) := by
  refine Go.aload_n 0 dX0_fitOf_0 rfl rfl (?_ : Go _ _ 1 _ _ _ _)
  refine Go.iload_n 1 dX0_fitOf_1 rfl rfl (?_ : Go _ _ 2 _ _ _ _)
  refine Go.iload_n 2 dX0_fitOf_2 rfl rfl (?_ : Go _ _ 3 _ _ _ _)
  refine Go.iload_n 3 dX0_fitOf_3 rfl rfl (?_ : Go _ _ 4 _ _ _ _)
  refine Go.callV (as := [.int x1, .int x2, .int x3]) (st := []) mk_X0_placeOf wl_X0_130 shq_54 rfl rfl (Nat.le_of_ble_eq_true rfl) dX0_fitOf_4 h ?_
  rintro _ s1 ⟨r2, rfl, h⟩
  show Go _ _ 7 _ [.int r2] _ _
  refine Go.istore dX0_fitOf_7 (by decide) rfl rfl (?_ : Go _ _ 9 [.ref 54, .int x1, .int x2, .int x3, .int r2] _ _ _)
  refine Go.iload dX0_fitOf_9 rfl (?_ : Go _ _ 11 _ _ _ _)
  refine Go.aload_n 0 dX0_fitOf_11 rfl rfl (?_ : Go _ _ 12 _ _ _ _)
  refine Go.getI fk_X0_53 shq_54 frq_54_12 dX0_fitOf_12 (?_ : Go _ _ 15 _ _ _ _)
  refine Go.icmp_ge 20 dX0_fitOf_15 rfl ⟨fun c3 => ?_, fun c3 => (?_ : Go _ _ 18 _ _ _ _)⟩
  · have h := h.1 c3
    refine Go.aload_n 0 dX0_fitOf_20 rfl rfl (?_ : Go _ _ 21 _ _ _ _)
    refine Go.iload_n 3 dX0_fitOf_21 rfl rfl (?_ : Go _ _ 22 _ _ _ _)
    refine Go.iload_n 2 dX0_fitOf_22 rfl rfl (?_ : Go _ _ 23 _ _ _ _)
    refine Go.iload dX0_fitOf_23 rfl (?_ : Go _ _ 25 _ _ _ _)
    refine Go.callV (as := [.int x3, .int x2, .int r2]) (st := []) mk_X0_isHeard wl_X0_156 shq_54 rfl rfl (Nat.le_of_ble_eq_true rfl) dX0_fitOf_25 h ?_
    rintro _ s4 ⟨r5, rfl, h⟩
    show Go _ _ 28 _ [.int r5] _ _
    refine Go.if_eq 35 dX0_fitOf_28 rfl ⟨fun c6 => ?_, fun c6 => (?_ : Go _ _ 31 _ _ _ _)⟩
    · have h := h.1 c6
      refine Go.iconst dX0_fitOf_35 k_ic_0 (?_ : Go _ _ 36 _ _ _ _)
      exact Go.iret rfl dX0_fitOf_36 ⟨_, rfl, h⟩
    · have h := h.2 c6
      refine Go.iconst dX0_fitOf_31 k_ic_1 (?_ : Go _ _ 32 _ _ _ _)
      refine Go.goto 36 dX0_fitOf_32 rfl ?_
      exact Go.iret rfl dX0_fitOf_36 ⟨_, rfl, h⟩
  · have h := h.2 c3
    refine Go.iconst dX0_fitOf_18 k_ic_2 (?_ : Go _ _ 19 _ _ _ _)
    exact Go.iret rfl dX0_fitOf_19 ⟨_, rfl, h⟩
theorem cgX0_fitOf {d : Nat} {σ : St} {x1 : Int32} {x2 : Int32} {x3 : Int32} {K : Int32 → St → Prop} (h : CallI d mX0_placeOf [.ref 54, .int x1, .int x2, .int x3] σ (fun r2 s1 => ((sF s1 54 12) ≤ r2 → CallI d mX0_isHeard [.ref 54, .int x3, .int x2, .int r2] s1 (fun r5 s4 => (r5 = 0 → K 0 s4) ∧ (¬ r5 = 0 → K 1 s4))) ∧ (¬ (sF s1 54 12) ≤ r2 → K 2 s1))) : CallI (d + 1) mX0_fitOf [.ref 54, .int x1, .int x2, .int x3] σ K := Call_of_Go (by decide +kernel) (ls := [.ref 54, .int x1, .int x2, .int x3, .null]) rfl (Nat.le_of_ble_eq_true rfl) (sgX0_fitOf_0 h)
set_option maxHeartbeats 4000000 in
set_option maxRecDepth 100000 in
theorem sgX0_turnsThatFit_0 {d : Nat} {σ : St} {x1 : Int32} {x2 : Int32} {K : Int32 → St → Prop} (h : Go mX0_turnsThatFit (d + 1) 5 [.ref 54, .int x1, .int x2, .int 0, .int 0, .null] [] σ (QI K)) : Go mX0_turnsThatFit (d + 1) 0 [.ref 54, .int x1, .int x2, .null, .null, .null] [] σ (QI K) := by
  refine Go.iconst dX0_turnsThatFit_0 k_ic_0 (?_ : Go _ _ 1 _ _ _ _)
  refine Go.istore_n 3 dX0_turnsThatFit_1 rfl (by decide) rfl rfl (?_ : Go _ _ 2 [.ref 54, .int x1, .int x2, .int 0, .null, .null] _ _ _)
  refine Go.iconst dX0_turnsThatFit_2 k_ic_0 (?_ : Go _ _ 3 _ _ _ _)
  refine Go.istore dX0_turnsThatFit_3 (by decide) rfl rfl (?_ : Go _ _ 5 [.ref 54, .int x1, .int x2, .int 0, .int 0, .null] _ _ _)
  exact h
theorem cgX0_turnsThatFit {d : Nat} {σ : St} {x1 : Int32} {x2 : Int32} {K : Int32 → St → Prop} (h : Go mX0_turnsThatFit (d + 1) 5 [.ref 54, .int x1, .int x2, .int 0, .int 0, .null] [] σ (QI K)) : CallI (d + 1) mX0_turnsThatFit [.ref 54, .int x1, .int x2] σ K := Call_of_Go (by decide +kernel) (ls := [.ref 54, .int x1, .int x2, .null, .null, .null]) rfl (Nat.le_of_ble_eq_true rfl) (sgX0_turnsThatFit_0 h)
set_option maxHeartbeats 4000000 in
set_option maxRecDepth 100000 in
theorem sgX0_turnsThatFit_5 {d : Nat} {σ : St} {v1 : Int32} {v2 : Int32} {v3 : Int32} {v4 : Int32} {K : Int32 → St → Prop} (h : ((sF σ 54 11) ≤ v4 → K v3 σ) ∧ (¬ (sF σ 54 11) ≤ v4 → CallI d mX0_fitOf [.ref 54, .int v1, .int v2, .int v4] σ (fun r3 s2 => (¬ r3 = 0 → (¬ r3 = 1 → Go mX0_turnsThatFit (d + 1) 5 [.ref 54, .int v1, .int v2, .int (v3 + 0), .int (v4 + 1), .null] [] s2 (QI K)) ∧ (r3 = 1 → Go mX0_turnsThatFit (d + 1) 5 [.ref 54, .int v1, .int v2, .int (v3 + 1), .int (v4 + 1), .null] [] s2 (QI K))) ∧ (r3 = 0 → K (-1) s2)))) : Go mX0_turnsThatFit (d + 1) 5 [.ref 54, .int v1, .int v2, .int v3, .int v4, .null] [] σ (QI K) := by
  refine Go.iload dX0_turnsThatFit_5 rfl (?_ : Go _ _ 7 _ _ _ _)
  refine Go.aload_n 0 dX0_turnsThatFit_7 rfl rfl (?_ : Go _ _ 8 _ _ _ _)
  refine Go.getI fk_X0_44 shq_54 frq_54_11 dX0_turnsThatFit_8 (?_ : Go _ _ 11 _ _ _ _)
  refine Go.icmp_ge 51 dX0_turnsThatFit_11 rfl ⟨fun c1 => ?_, fun c1 => (?_ : Go _ _ 14 _ _ _ _)⟩
  · have h := h.1 c1
    refine Go.iload_n 3 dX0_turnsThatFit_51 rfl rfl (?_ : Go _ _ 52 _ _ _ _)
    exact Go.iret rfl dX0_turnsThatFit_52 ⟨_, rfl, h⟩
  · have h := h.2 c1
    refine Go.aload_n 0 dX0_turnsThatFit_14 rfl rfl (?_ : Go _ _ 15 _ _ _ _)
    refine Go.iload_n 1 dX0_turnsThatFit_15 rfl rfl (?_ : Go _ _ 16 _ _ _ _)
    refine Go.iload_n 2 dX0_turnsThatFit_16 rfl rfl (?_ : Go _ _ 17 _ _ _ _)
    refine Go.iload dX0_turnsThatFit_17 rfl (?_ : Go _ _ 19 _ _ _ _)
    refine Go.callV (as := [.int v1, .int v2, .int v4]) (st := []) mk_X0_fitOf wl_X0_164 shq_54 rfl rfl (Nat.le_of_ble_eq_true rfl) dX0_turnsThatFit_19 h ?_
    rintro _ s2 ⟨r3, rfl, h⟩
    show Go _ _ 22 _ [.int r3] _ _
    refine Go.istore dX0_turnsThatFit_22 (by decide) rfl rfl (?_ : Go _ _ 24 [.ref 54, .int v1, .int v2, .int v3, .int v4, .int r3] _ _ _)
    refine Go.iload dX0_turnsThatFit_24 rfl (?_ : Go _ _ 26 _ _ _ _)
    refine Go.if_ne 31 dX0_turnsThatFit_26 rfl ⟨fun c4 => ?_, fun c4 => (?_ : Go _ _ 29 _ _ _ _)⟩
    · have h := h.1 c4
      refine Go.iload_n 3 dX0_turnsThatFit_31 rfl rfl (?_ : Go _ _ 32 _ _ _ _)
      refine Go.iload dX0_turnsThatFit_32 rfl (?_ : Go _ _ 34 _ _ _ _)
      refine Go.iconst dX0_turnsThatFit_34 k_ic_1 (?_ : Go _ _ 35 _ _ _ _)
      refine Go.icmp_ne 42 dX0_turnsThatFit_35 rfl ⟨fun c5 => ?_, fun c5 => (?_ : Go _ _ 38 _ _ _ _)⟩
      · have h := h.1 c5
        refine Go.iconst dX0_turnsThatFit_42 k_ic_0 (?_ : Go _ _ 43 _ _ _ _)
        refine Go.iadd dX0_turnsThatFit_43 (?_ : Go _ _ 44 _ _ _ _)
        refine Go.istore_n 3 dX0_turnsThatFit_44 rfl (by decide) rfl rfl (?_ : Go _ _ 45 [.ref 54, .int v1, .int v2, .int (v3 + 0), .int v4, .int r3] _ _ _)
        refine Go.iinc dX0_turnsThatFit_45 rfl (congrArg (fun z => v4 + z) k_ic_1) (by decide) rfl rfl (?_ : Go _ _ 48 [.ref 54, .int v1, .int v2, .int (v3 + 0), .int (v4 + 1), .int r3] _ _ _)
        refine Go.goto 5 dX0_turnsThatFit_48 rfl ?_
        refine Go.drop (ls' := [.ref 54, .int v1, .int v2, .int (v3 + 0), .int (v4 + 1), .null]) 5 rfl ?_
        exact h
      · have h := h.2 c5
        refine Go.iconst dX0_turnsThatFit_38 k_ic_1 (?_ : Go _ _ 39 _ _ _ _)
        refine Go.goto 43 dX0_turnsThatFit_39 rfl ?_
        refine Go.iadd dX0_turnsThatFit_43 (?_ : Go _ _ 44 _ _ _ _)
        refine Go.istore_n 3 dX0_turnsThatFit_44 rfl (by decide) rfl rfl (?_ : Go _ _ 45 [.ref 54, .int v1, .int v2, .int (v3 + 1), .int v4, .int r3] _ _ _)
        refine Go.iinc dX0_turnsThatFit_45 rfl (congrArg (fun z => v4 + z) k_ic_1) (by decide) rfl rfl (?_ : Go _ _ 48 [.ref 54, .int v1, .int v2, .int (v3 + 1), .int (v4 + 1), .int r3] _ _ _)
        refine Go.goto 5 dX0_turnsThatFit_48 rfl ?_
        refine Go.drop (ls' := [.ref 54, .int v1, .int v2, .int (v3 + 1), .int (v4 + 1), .null]) 5 rfl ?_
        exact h
    · have h := h.2 c4
      refine Go.iconst dX0_turnsThatFit_29 k_ic_m1 (?_ : Go _ _ 30 _ _ _ _)
      exact Go.iret rfl dX0_turnsThatFit_30 ⟨_, rfl, h⟩
set_option maxHeartbeats 4000000 in
set_option maxRecDepth 100000 in
theorem sgX0_isToldSource_0 {d : Nat} {σ : St} {x1 : Int32} {K : Int32 → St → Prop} (h : CallI d mX0_distanceOf [.ref 54, .int x1] σ (fun r2 s1 => CallI d mX0_movementOf [.ref 54, .int x1] s1 (fun r4 s3 => CallI d mX0_turnsThatFit [.ref 54, .int r2, .int r4] s3 (fun r6 s5 => (r6 ≤ 0 → K 0 s5) ∧ (¬ r6 ≤ 0 → K 1 s5))))) : Go mX0_isToldSource (d + 1) 0 [.ref 54, .int x1] [] σ (QI K) := by
  refine Go.aload_n 0 dX0_isToldSource_0 rfl rfl (?_ : Go _ _ 1 _ _ _ _)
  refine Go.aload_n 0 dX0_isToldSource_1 rfl rfl (?_ : Go _ _ 2 _ _ _ _)
  refine Go.iload_n 1 dX0_isToldSource_2 rfl rfl (?_ : Go _ _ 3 _ _ _ _)
  refine Go.callV (as := [.int x1]) (st := [.ref 54]) mk_X0_distanceOf wl_X0_129 shq_54 rfl rfl (Nat.le_of_ble_eq_true rfl) dX0_isToldSource_3 h ?_
  rintro _ s1 ⟨r2, rfl, h⟩
  show Go _ _ 6 _ [.int r2, .ref 54] _ _
  refine Go.aload_n 0 dX0_isToldSource_6 rfl rfl (?_ : Go _ _ 7 _ _ _ _)
  refine Go.iload_n 1 dX0_isToldSource_7 rfl rfl (?_ : Go _ _ 8 _ _ _ _)
  refine Go.callV (as := [.int x1]) (st := [.int r2, .ref 54]) mk_X0_movementOf wl_X0_125 shq_54 rfl rfl (Nat.le_of_ble_eq_true rfl) dX0_isToldSource_8 h ?_
  rintro _ s3 ⟨r4, rfl, h⟩
  show Go _ _ 11 _ [.int r4, .int r2, .ref 54] _ _
  refine Go.callV (as := [.int r2, .int r4]) (st := []) mk_X0_turnsThatFit wl_X0_167 shq_54 rfl rfl (Nat.le_of_ble_eq_true rfl) dX0_isToldSource_11 h ?_
  rintro _ s5 ⟨r6, rfl, h⟩
  show Go _ _ 14 _ [.int r6] _ _
  refine Go.if_le 21 dX0_isToldSource_14 rfl ⟨fun c7 => ?_, fun c7 => (?_ : Go _ _ 17 _ _ _ _)⟩
  · have h := h.1 c7
    refine Go.iconst dX0_isToldSource_21 k_ic_0 (?_ : Go _ _ 22 _ _ _ _)
    exact Go.zret rfl rfl dX0_isToldSource_22 ⟨_, rfl, h⟩
  · have h := h.2 c7
    refine Go.iconst dX0_isToldSource_17 k_ic_1 (?_ : Go _ _ 18 _ _ _ _)
    refine Go.goto 22 dX0_isToldSource_18 rfl ?_
    exact Go.zret rfl rfl dX0_isToldSource_22 ⟨_, rfl, h⟩
theorem cgX0_isToldSource {d : Nat} {σ : St} {x1 : Int32} {K : Int32 → St → Prop} (h : CallI d mX0_distanceOf [.ref 54, .int x1] σ (fun r2 s1 => CallI d mX0_movementOf [.ref 54, .int x1] s1 (fun r4 s3 => CallI d mX0_turnsThatFit [.ref 54, .int r2, .int r4] s3 (fun r6 s5 => (r6 ≤ 0 → K 0 s5) ∧ (¬ r6 ≤ 0 → K 1 s5))))) : CallI (d + 1) mX0_isToldSource [.ref 54, .int x1] σ K := Call_of_Go (by decide +kernel) (ls := [.ref 54, .int x1]) rfl (Nat.le_of_ble_eq_true rfl) (sgX0_isToldSource_0 h)
set_option maxHeartbeats 4000000 in
set_option maxRecDepth 100000 in
theorem sgX0_isTrue_0 {d : Nat} {σ : St} {x1 : Int32} {x2 : Int32} {K : Int32 → St → Prop} (h : CallI d mX0_sourcesAt [.ref 54, .int x1, .int x2, .int (sF σ 54 9)] σ (fun r2 s1 => (r2 ≤ 0 → K 0 s1) ∧ (¬ r2 ≤ 0 → K 1 s1))) : Go mX0_isTrue (d + 1) 0 [.ref 54, .int x1, .int x2] [] σ (QI K) := by
  refine Go.aload_n 0 dX0_isTrue_0 rfl rfl (?_ : Go _ _ 1 _ _ _ _)
  refine Go.iload_n 1 dX0_isTrue_1 rfl rfl (?_ : Go _ _ 2 _ _ _ _)
  refine Go.iload_n 2 dX0_isTrue_2 rfl rfl (?_ : Go _ _ 3 _ _ _ _)
  refine Go.aload_n 0 dX0_isTrue_3 rfl rfl (?_ : Go _ _ 4 _ _ _ _)
  refine Go.getI fk_X0_40 shq_54 frq_54_9 dX0_isTrue_4 (?_ : Go _ _ 7 _ _ _ _)
  refine Go.callV (as := [.int x1, .int x2, .int (sF σ 54 9)]) (st := []) mk_X0_sourcesAt wl_X0_170 shq_54 rfl rfl (Nat.le_of_ble_eq_true rfl) dX0_isTrue_7 h ?_
  rintro _ s1 ⟨r2, rfl, h⟩
  show Go _ _ 10 _ [.int r2] _ _
  refine Go.if_le 17 dX0_isTrue_10 rfl ⟨fun c3 => ?_, fun c3 => (?_ : Go _ _ 13 _ _ _ _)⟩
  · have h := h.1 c3
    refine Go.iconst dX0_isTrue_17 k_ic_0 (?_ : Go _ _ 18 _ _ _ _)
    exact Go.zret rfl rfl dX0_isTrue_18 ⟨_, rfl, h⟩
  · have h := h.2 c3
    refine Go.iconst dX0_isTrue_13 k_ic_1 (?_ : Go _ _ 14 _ _ _ _)
    refine Go.goto 18 dX0_isTrue_14 rfl ?_
    exact Go.zret rfl rfl dX0_isTrue_18 ⟨_, rfl, h⟩
theorem cgX0_isTrue {d : Nat} {σ : St} {x1 : Int32} {x2 : Int32} {K : Int32 → St → Prop} (h : CallI d mX0_sourcesAt [.ref 54, .int x1, .int x2, .int (sF σ 54 9)] σ (fun r2 s1 => (r2 ≤ 0 → K 0 s1) ∧ (¬ r2 ≤ 0 → K 1 s1))) : CallI (d + 1) mX0_isTrue [.ref 54, .int x1, .int x2] σ K := Call_of_Go (by decide +kernel) (ls := [.ref 54, .int x1, .int x2]) rfl (Nat.le_of_ble_eq_true rfl) (sgX0_isTrue_0 h)
set_option maxHeartbeats 4000000 in
set_option maxRecDepth 100000 in
theorem sgX0_sourcesAt_0 {d : Nat} {σ : St} {x1 : Int32} {x2 : Int32} {x3 : Int32} {K : Int32 → St → Prop} (h : Go mX0_sourcesAt (d + 1) 6 [.ref 54, .int x1, .int x2, .int x3, .int 0, .int 0] [] σ (QI K)) : Go mX0_sourcesAt (d + 1) 0 [.ref 54, .int x1, .int x2, .int x3, .null, .null] [] σ (QI K) := by
  refine Go.iconst dX0_sourcesAt_0 k_ic_0 (?_ : Go _ _ 1 _ _ _ _)
  refine Go.istore dX0_sourcesAt_1 (by decide) rfl rfl (?_ : Go _ _ 3 [.ref 54, .int x1, .int x2, .int x3, .int 0, .null] _ _ _)
  refine Go.iconst dX0_sourcesAt_3 k_ic_0 (?_ : Go _ _ 4 _ _ _ _)
  refine Go.istore dX0_sourcesAt_4 (by decide) rfl rfl (?_ : Go _ _ 6 [.ref 54, .int x1, .int x2, .int x3, .int 0, .int 0] _ _ _)
  exact h
theorem cgX0_sourcesAt {d : Nat} {σ : St} {x1 : Int32} {x2 : Int32} {x3 : Int32} {K : Int32 → St → Prop} (h : Go mX0_sourcesAt (d + 1) 6 [.ref 54, .int x1, .int x2, .int x3, .int 0, .int 0] [] σ (QI K)) : CallI (d + 1) mX0_sourcesAt [.ref 54, .int x1, .int x2, .int x3] σ K := Call_of_Go (by decide +kernel) (ls := [.ref 54, .int x1, .int x2, .int x3, .null, .null]) rfl (Nat.le_of_ble_eq_true rfl) (sgX0_sourcesAt_0 h)
set_option maxHeartbeats 4000000 in
set_option maxRecDepth 100000 in
theorem sgX0_sourcesAt_6 {d : Nat} {σ : St} {v1 : Int32} {v2 : Int32} {v3 : Int32} {v4 : Int32} {v5 : Int32} {K : Int32 → St → Prop} (h : (v3 ≤ v5 → K v4 σ) ∧ (¬ v3 ≤ v5 → CallI d mX0_distanceOf [.ref 54, .int v5] σ (fun r3 s2 => (¬ r3 = v1 → Go mX0_sourcesAt (d + 1) 6 [.ref 54, .int v1, .int v2, .int v3, .int v4, .int (v5 + 1)] [] s2 (QI K)) ∧ (r3 = v1 → CallI d mX0_movementOf [.ref 54, .int v5] s2 (fun r6 s5 => (¬ r6 = v2 → Go mX0_sourcesAt (d + 1) 6 [.ref 54, .int v1, .int v2, .int v3, .int v4, .int (v5 + 1)] [] s5 (QI K)) ∧ (r6 = v2 → Go mX0_sourcesAt (d + 1) 6 [.ref 54, .int v1, .int v2, .int v3, .int (v4 + 1), .int (v5 + 1)] [] s5 (QI K))))))) : Go mX0_sourcesAt (d + 1) 6 [.ref 54, .int v1, .int v2, .int v3, .int v4, .int v5] [] σ (QI K) := by
  refine Go.iload dX0_sourcesAt_6 rfl (?_ : Go _ _ 8 _ _ _ _)
  refine Go.iload_n 3 dX0_sourcesAt_8 rfl rfl (?_ : Go _ _ 9 _ _ _ _)
  refine Go.icmp_ge 41 dX0_sourcesAt_9 rfl ⟨fun c1 => ?_, fun c1 => (?_ : Go _ _ 12 _ _ _ _)⟩
  · have h := h.1 c1
    refine Go.iload dX0_sourcesAt_41 rfl (?_ : Go _ _ 43 _ _ _ _)
    exact Go.iret rfl dX0_sourcesAt_43 ⟨_, rfl, h⟩
  · have h := h.2 c1
    refine Go.aload_n 0 dX0_sourcesAt_12 rfl rfl (?_ : Go _ _ 13 _ _ _ _)
    refine Go.iload dX0_sourcesAt_13 rfl (?_ : Go _ _ 15 _ _ _ _)
    refine Go.callV (as := [.int v5]) (st := []) mk_X0_distanceOf wl_X0_129 shq_54 rfl rfl (Nat.le_of_ble_eq_true rfl) dX0_sourcesAt_15 h ?_
    rintro _ s2 ⟨r3, rfl, h⟩
    show Go _ _ 18 _ [.int r3] _ _
    refine Go.iload_n 1 dX0_sourcesAt_18 rfl rfl (?_ : Go _ _ 19 _ _ _ _)
    refine Go.icmp_ne 35 dX0_sourcesAt_19 rfl ⟨fun c4 => ?_, fun c4 => (?_ : Go _ _ 22 _ _ _ _)⟩
    · have h := h.1 c4
      refine Go.iinc dX0_sourcesAt_35 rfl (congrArg (fun z => v5 + z) k_ic_1) (by decide) rfl rfl (?_ : Go _ _ 38 [.ref 54, .int v1, .int v2, .int v3, .int v4, .int (v5 + 1)] _ _ _)
      refine Go.goto 6 dX0_sourcesAt_38 rfl ?_
      exact h
    · have h := h.2 c4
      refine Go.aload_n 0 dX0_sourcesAt_22 rfl rfl (?_ : Go _ _ 23 _ _ _ _)
      refine Go.iload dX0_sourcesAt_23 rfl (?_ : Go _ _ 25 _ _ _ _)
      refine Go.callV (as := [.int v5]) (st := []) mk_X0_movementOf wl_X0_125 shq_54 rfl rfl (Nat.le_of_ble_eq_true rfl) dX0_sourcesAt_25 h ?_
      rintro _ s5 ⟨r6, rfl, h⟩
      show Go _ _ 28 _ [.int r6] _ _
      refine Go.iload_n 2 dX0_sourcesAt_28 rfl rfl (?_ : Go _ _ 29 _ _ _ _)
      refine Go.icmp_ne 35 dX0_sourcesAt_29 rfl ⟨fun c7 => ?_, fun c7 => (?_ : Go _ _ 32 _ _ _ _)⟩
      · have h := h.1 c7
        refine Go.iinc dX0_sourcesAt_35 rfl (congrArg (fun z => v5 + z) k_ic_1) (by decide) rfl rfl (?_ : Go _ _ 38 [.ref 54, .int v1, .int v2, .int v3, .int v4, .int (v5 + 1)] _ _ _)
        refine Go.goto 6 dX0_sourcesAt_38 rfl ?_
        exact h
      · have h := h.2 c7
        refine Go.iinc dX0_sourcesAt_32 rfl (congrArg (fun z => v4 + z) k_ic_1) (by decide) rfl rfl (?_ : Go _ _ 35 [.ref 54, .int v1, .int v2, .int v3, .int (v4 + 1), .int v5] _ _ _)
        refine Go.iinc dX0_sourcesAt_35 rfl (congrArg (fun z => v5 + z) k_ic_1) (by decide) rfl rfl (?_ : Go _ _ 38 [.ref 54, .int v1, .int v2, .int v3, .int (v4 + 1), .int (v5 + 1)] _ _ _)
        refine Go.goto 6 dX0_sourcesAt_38 rfl ?_
        exact h
set_option maxHeartbeats 4000000 in
set_option maxRecDepth 100000 in
theorem sgX0_toldCount_0 {d : Nat} {σ : St} {K : Int32 → St → Prop} (h : Go mX0_toldCount (d + 1) 4 [.ref 54, .int 0, .int 1, .null] [] σ (QI K)) : Go mX0_toldCount (d + 1) 0 [.ref 54, .null, .null, .null] [] σ (QI K) := by
  refine Go.iconst dX0_toldCount_0 k_ic_0 (?_ : Go _ _ 1 _ _ _ _)
  refine Go.istore_n 1 dX0_toldCount_1 rfl (by decide) rfl rfl (?_ : Go _ _ 2 [.ref 54, .int 0, .null, .null] _ _ _)
  refine Go.iconst dX0_toldCount_2 k_ic_1 (?_ : Go _ _ 3 _ _ _ _)
  refine Go.istore_n 2 dX0_toldCount_3 rfl (by decide) rfl rfl (?_ : Go _ _ 4 [.ref 54, .int 0, .int 1, .null] _ _ _)
  exact h
theorem cgX0_toldCount {d : Nat} {σ : St} {K : Int32 → St → Prop} (h : Go mX0_toldCount (d + 1) 4 [.ref 54, .int 0, .int 1, .null] [] σ (QI K)) : CallI (d + 1) mX0_toldCount [.ref 54] σ K := Call_of_Go (by decide +kernel) (ls := [.ref 54, .null, .null, .null]) rfl (Nat.le_of_ble_eq_true rfl) (sgX0_toldCount_0 h)
set_option maxHeartbeats 4000000 in
set_option maxRecDepth 100000 in
theorem sgX0_toldCount_4 {d : Nat} {σ : St} {v1 : Int32} {v2 : Int32} {K : Int32 → St → Prop} (h : (600 < v2 → K v1 σ) ∧ (¬ 600 < v2 → Go mX0_toldCount (d + 1) 13 [.ref 54, .int v1, .int v2, .int 0] [] σ (QI K))) : Go mX0_toldCount (d + 1) 4 [.ref 54, .int v1, .int v2, .null] [] σ (QI K) := by
  refine Go.iload_n 2 dX0_toldCount_4 rfl rfl (?_ : Go _ _ 5 _ _ _ _)
  refine Go.sipush dX0_toldCount_5 k_si_600 (?_ : Go _ _ 8 _ _ _ _)
  refine Go.icmp_gt 59 dX0_toldCount_8 rfl ⟨fun c1 => ?_, fun c1 => (?_ : Go _ _ 11 _ _ _ _)⟩
  · have h := h.1 c1
    refine Go.iload_n 1 dX0_toldCount_59 rfl rfl (?_ : Go _ _ 60 _ _ _ _)
    exact Go.iret rfl dX0_toldCount_60 ⟨_, rfl, h⟩
  · have h := h.2 c1
    refine Go.iconst dX0_toldCount_11 k_ic_0 (?_ : Go _ _ 12 _ _ _ _)
    refine Go.istore_n 3 dX0_toldCount_12 rfl (by decide) rfl rfl (?_ : Go _ _ 13 [.ref 54, .int v1, .int v2, .int 0] _ _ _)
    exact h
set_option maxHeartbeats 4000000 in
set_option maxRecDepth 100000 in
theorem sgX0_toldCount_13 {d : Nat} {σ : St} {v1 : Int32} {v2 : Int32} {v3 : Int32} {K : Int32 → St → Prop} (h : ((sF σ 54 14) ≤ v3 → Go mX0_toldCount (d + 1) 4 [.ref 54, .int v1, .int (v2 + 1), .null] [] σ (QI K)) ∧ (¬ (sF σ 54 14) ≤ v3 → (11 ≤ v3 → Go mX0_toldCount (d + 1) 4 [.ref 54, .int v1, .int (v2 + 1), .null] [] σ (QI K)) ∧ (¬ 11 ≤ v3 → vp_in v3 11 ∧ CallI d mX0_turnsThatFit [.ref 54, .int v2, .int (sA σ 62 (ix v3))] σ (fun r4 s3 => (r4 ≤ 0 → Go mX0_toldCount (d + 1) 13 [.ref 54, .int v1, .int v2, .int (v3 + 1)] [] s3 (QI K)) ∧ (¬ r4 ≤ 0 → Go mX0_toldCount (d + 1) 13 [.ref 54, .int (v1 + 1), .int v2, .int (v3 + 1)] [] s3 (QI K)))))) : Go mX0_toldCount (d + 1) 13 [.ref 54, .int v1, .int v2, .int v3] [] σ (QI K) := by
  refine Go.iload_n 3 dX0_toldCount_13 rfl rfl (?_ : Go _ _ 14 _ _ _ _)
  refine Go.aload_n 0 dX0_toldCount_14 rfl rfl (?_ : Go _ _ 15 _ _ _ _)
  refine Go.getI fk_X0_119 shq_54 frq_54_14 dX0_toldCount_15 (?_ : Go _ _ 18 _ _ _ _)
  refine Go.icmp_ge 53 dX0_toldCount_18 rfl ⟨fun c1 => ?_, fun c1 => (?_ : Go _ _ 21 _ _ _ _)⟩
  · have h := h.1 c1
    refine Go.iinc dX0_toldCount_53 rfl (congrArg (fun z => v2 + z) k_ic_1) (by decide) rfl rfl (?_ : Go _ _ 56 [.ref 54, .int v1, .int (v2 + 1), .int v3] _ _ _)
    refine Go.goto 4 dX0_toldCount_56 rfl ?_
    refine Go.drop (ls' := [.ref 54, .int v1, .int (v2 + 1), .null]) 3 rfl ?_
    exact h
  · have h := h.2 c1
    refine Go.iload_n 3 dX0_toldCount_21 rfl rfl (?_ : Go _ _ 22 _ _ _ _)
    refine Go.aload_n 0 dX0_toldCount_22 rfl rfl (?_ : Go _ _ 23 _ _ _ _)
    refine Go.getR fk_X0_34 shq_54 frq_54_7 dX0_toldCount_23 (?_ : Go _ _ 26 _ _ _ _)
    refine Go.alen shq_62 (by decide) k_on_11 dX0_toldCount_26 (?_ : Go _ _ 27 _ _ _ _)
    refine Go.icmp_ge 53 dX0_toldCount_27 rfl ⟨fun c2 => ?_, fun c2 => (?_ : Go _ _ 30 _ _ _ _)⟩
    · have h := h.1 c2
      refine Go.iinc dX0_toldCount_53 rfl (congrArg (fun z => v2 + z) k_ic_1) (by decide) rfl rfl (?_ : Go _ _ 56 [.ref 54, .int v1, .int (v2 + 1), .int v3] _ _ _)
      refine Go.goto 4 dX0_toldCount_56 rfl ?_
      refine Go.drop (ls' := [.ref 54, .int v1, .int (v2 + 1), .null]) 3 rfl ?_
      exact h
    · have h := h.2 c2
      refine Go.aload_n 0 dX0_toldCount_30 rfl rfl (?_ : Go _ _ 31 _ _ _ _)
      refine Go.iload_n 2 dX0_toldCount_31 rfl rfl (?_ : Go _ _ 32 _ _ _ _)
      refine Go.aload_n 0 dX0_toldCount_32 rfl rfl (?_ : Go _ _ 33 _ _ _ _)
      refine Go.getR fk_X0_34 shq_54 frq_54_7 dX0_toldCount_33 (?_ : Go _ _ 36 _ _ _ _)
      refine Go.iload_n 3 dX0_toldCount_36 rfl rfl (?_ : Go _ _ 37 _ _ _ _)
      refine Go.iald shq_62 dX0_toldCount_37 ⟨h.1, (?_ : Go _ _ 38 _ _ _ _)⟩
      have h := h.2
      refine Go.callV (as := [.int v2, .int (sA σ 62 (ix v3))]) (st := []) mk_X0_turnsThatFit wl_X0_167 shq_54 rfl rfl (Nat.le_of_ble_eq_true rfl) dX0_toldCount_38 h ?_
      rintro _ s3 ⟨r4, rfl, h⟩
      show Go _ _ 41 _ [.int r4] _ _
      refine Go.if_le 47 dX0_toldCount_41 rfl ⟨fun c5 => ?_, fun c5 => (?_ : Go _ _ 44 _ _ _ _)⟩
      · have h := h.1 c5
        refine Go.iinc dX0_toldCount_47 rfl (congrArg (fun z => v3 + z) k_ic_1) (by decide) rfl rfl (?_ : Go _ _ 50 [.ref 54, .int v1, .int v2, .int (v3 + 1)] _ _ _)
        refine Go.goto 13 dX0_toldCount_50 rfl ?_
        exact h
      · have h := h.2 c5
        refine Go.iinc dX0_toldCount_44 rfl (congrArg (fun z => v1 + z) k_ic_1) (by decide) rfl rfl (?_ : Go _ _ 47 [.ref 54, .int (v1 + 1), .int v2, .int v3] _ _ _)
        refine Go.iinc dX0_toldCount_47 rfl (congrArg (fun z => v3 + z) k_ic_1) (by decide) rfl rfl (?_ : Go _ _ 50 [.ref 54, .int (v1 + 1), .int v2, .int (v3 + 1)] _ _ _)
        refine Go.goto 13 dX0_toldCount_50 rfl ?_
        exact h
set_option maxHeartbeats 4000000 in
set_option maxRecDepth 100000 in
theorem sgX0_findTold_0 {d : Nat} {σ : St} {x1 : Int32} {K : Int32 → St → Prop} (h : Go mX0_findTold (d + 1) 4 [.ref 54, .int x1, .int x1, .int 1, .null] [] σ (QI K)) : Go mX0_findTold (d + 1) 0 [.ref 54, .int x1, .null, .null, .null] [] σ (QI K) := by
  refine Go.iload_n 1 dX0_findTold_0 rfl rfl (?_ : Go _ _ 1 _ _ _ _)
  refine Go.istore_n 2 dX0_findTold_1 rfl (by decide) rfl rfl (?_ : Go _ _ 2 [.ref 54, .int x1, .int x1, .null, .null] _ _ _)
  refine Go.iconst dX0_findTold_2 k_ic_1 (?_ : Go _ _ 3 _ _ _ _)
  refine Go.istore_n 3 dX0_findTold_3 rfl (by decide) rfl rfl (?_ : Go _ _ 4 [.ref 54, .int x1, .int x1, .int 1, .null] _ _ _)
  exact h
theorem cgX0_findTold {d : Nat} {σ : St} {x1 : Int32} {K : Int32 → St → Prop} (h : Go mX0_findTold (d + 1) 4 [.ref 54, .int x1, .int x1, .int 1, .null] [] σ (QI K)) : CallI (d + 1) mX0_findTold [.ref 54, .int x1] σ K := Call_of_Go (by decide +kernel) (ls := [.ref 54, .int x1, .null, .null, .null]) rfl (Nat.le_of_ble_eq_true rfl) (sgX0_findTold_0 h)
set_option maxHeartbeats 4000000 in
set_option maxRecDepth 100000 in
theorem sgX0_findTold_4 {d : Nat} {σ : St} {v1 : Int32} {v2 : Int32} {v3 : Int32} {K : Int32 → St → Prop} (h : (600 < v3 → K (-4) σ) ∧ (¬ 600 < v3 → Go mX0_findTold (d + 1) 14 [.ref 54, .int v1, .int v2, .int v3, .int 0] [] σ (QI K))) : Go mX0_findTold (d + 1) 4 [.ref 54, .int v1, .int v2, .int v3, .null] [] σ (QI K) := by
  refine Go.iload_n 3 dX0_findTold_4 rfl rfl (?_ : Go _ _ 5 _ _ _ _)
  refine Go.sipush dX0_findTold_5 k_si_600 (?_ : Go _ _ 8 _ _ _ _)
  refine Go.icmp_gt 79 dX0_findTold_8 rfl ⟨fun c1 => ?_, fun c1 => (?_ : Go _ _ 11 _ _ _ _)⟩
  · have h := h.1 c1
    refine Go.bipush dX0_findTold_79 k_bi_m4 (?_ : Go _ _ 81 _ _ _ _)
    exact Go.iret rfl dX0_findTold_81 ⟨_, rfl, h⟩
  · have h := h.2 c1
    refine Go.iconst dX0_findTold_11 k_ic_0 (?_ : Go _ _ 12 _ _ _ _)
    refine Go.istore dX0_findTold_12 (by decide) rfl rfl (?_ : Go _ _ 14 [.ref 54, .int v1, .int v2, .int v3, .int 0] _ _ _)
    exact h
set_option maxHeartbeats 4000000 in
set_option maxRecDepth 100000 in
theorem sgX0_findTold_14 {d : Nat} {σ : St} {v1 : Int32} {v2 : Int32} {v3 : Int32} {v4 : Int32} {K : Int32 → St → Prop} (h : ((sF σ 54 14) ≤ v4 → Go mX0_findTold (d + 1) 4 [.ref 54, .int v1, .int v2, .int (v3 + 1), .null] [] σ (QI K)) ∧ (¬ (sF σ 54 14) ≤ v4 → (11 ≤ v4 → Go mX0_findTold (d + 1) 4 [.ref 54, .int v1, .int v2, .int (v3 + 1), .null] [] σ (QI K)) ∧ (¬ 11 ≤ v4 → vp_in v4 11 ∧ CallI d mX0_turnsThatFit [.ref 54, .int v3, .int (sA σ 62 (ix v4))] σ (fun r4 s3 => (r4 ≤ 0 → Go mX0_findTold (d + 1) 14 [.ref 54, .int v1, .int v2, .int v3, .int (v4 + 1)] [] s3 (QI K)) ∧ (¬ r4 ≤ 0 → (¬ v2 = 0 → Go mX0_findTold (d + 1) 14 [.ref 54, .int v1, .int (v2 + (-1)), .int v3, .int (v4 + 1)] [] s3 (QI K)) ∧ (v2 = 0 → vp_in v4 11 ∧ CallI d mX0_codeOf [.int v3, .int (sA s3 62 (ix v4))] s3 (fun r8 s7 => K r8 s7))))))) : Go mX0_findTold (d + 1) 14 [.ref 54, .int v1, .int v2, .int v3, .int v4] [] σ (QI K) := by
  refine Go.iload dX0_findTold_14 rfl (?_ : Go _ _ 16 _ _ _ _)
  refine Go.aload_n 0 dX0_findTold_16 rfl rfl (?_ : Go _ _ 17 _ _ _ _)
  refine Go.getI fk_X0_119 shq_54 frq_54_14 dX0_findTold_17 (?_ : Go _ _ 20 _ _ _ _)
  refine Go.icmp_ge 73 dX0_findTold_20 rfl ⟨fun c1 => ?_, fun c1 => (?_ : Go _ _ 23 _ _ _ _)⟩
  · have h := h.1 c1
    refine Go.iinc dX0_findTold_73 rfl (congrArg (fun z => v3 + z) k_ic_1) (by decide) rfl rfl (?_ : Go _ _ 76 [.ref 54, .int v1, .int v2, .int (v3 + 1), .int v4] _ _ _)
    refine Go.goto 4 dX0_findTold_76 rfl ?_
    refine Go.drop (ls' := [.ref 54, .int v1, .int v2, .int (v3 + 1), .null]) 4 rfl ?_
    exact h
  · have h := h.2 c1
    refine Go.iload dX0_findTold_23 rfl (?_ : Go _ _ 25 _ _ _ _)
    refine Go.aload_n 0 dX0_findTold_25 rfl rfl (?_ : Go _ _ 26 _ _ _ _)
    refine Go.getR fk_X0_34 shq_54 frq_54_7 dX0_findTold_26 (?_ : Go _ _ 29 _ _ _ _)
    refine Go.alen shq_62 (by decide) k_on_11 dX0_findTold_29 (?_ : Go _ _ 30 _ _ _ _)
    refine Go.icmp_ge 73 dX0_findTold_30 rfl ⟨fun c2 => ?_, fun c2 => (?_ : Go _ _ 33 _ _ _ _)⟩
    · have h := h.1 c2
      refine Go.iinc dX0_findTold_73 rfl (congrArg (fun z => v3 + z) k_ic_1) (by decide) rfl rfl (?_ : Go _ _ 76 [.ref 54, .int v1, .int v2, .int (v3 + 1), .int v4] _ _ _)
      refine Go.goto 4 dX0_findTold_76 rfl ?_
      refine Go.drop (ls' := [.ref 54, .int v1, .int v2, .int (v3 + 1), .null]) 4 rfl ?_
      exact h
    · have h := h.2 c2
      refine Go.aload_n 0 dX0_findTold_33 rfl rfl (?_ : Go _ _ 34 _ _ _ _)
      refine Go.iload_n 3 dX0_findTold_34 rfl rfl (?_ : Go _ _ 35 _ _ _ _)
      refine Go.aload_n 0 dX0_findTold_35 rfl rfl (?_ : Go _ _ 36 _ _ _ _)
      refine Go.getR fk_X0_34 shq_54 frq_54_7 dX0_findTold_36 (?_ : Go _ _ 39 _ _ _ _)
      refine Go.iload dX0_findTold_39 rfl (?_ : Go _ _ 41 _ _ _ _)
      refine Go.iald shq_62 dX0_findTold_41 ⟨h.1, (?_ : Go _ _ 42 _ _ _ _)⟩
      have h := h.2
      refine Go.callV (as := [.int v3, .int (sA σ 62 (ix v4))]) (st := []) mk_X0_turnsThatFit wl_X0_167 shq_54 rfl rfl (Nat.le_of_ble_eq_true rfl) dX0_findTold_42 h ?_
      rintro _ s3 ⟨r4, rfl, h⟩
      show Go _ _ 45 _ [.int r4] _ _
      refine Go.if_le 67 dX0_findTold_45 rfl ⟨fun c5 => ?_, fun c5 => (?_ : Go _ _ 48 _ _ _ _)⟩
      · have h := h.1 c5
        refine Go.iinc dX0_findTold_67 rfl (congrArg (fun z => v4 + z) k_ic_1) (by decide) rfl rfl (?_ : Go _ _ 70 [.ref 54, .int v1, .int v2, .int v3, .int (v4 + 1)] _ _ _)
        refine Go.goto 14 dX0_findTold_70 rfl ?_
        exact h
      · have h := h.2 c5
        refine Go.iload_n 2 dX0_findTold_48 rfl rfl (?_ : Go _ _ 49 _ _ _ _)
        refine Go.if_ne 64 dX0_findTold_49 rfl ⟨fun c6 => ?_, fun c6 => (?_ : Go _ _ 52 _ _ _ _)⟩
        · have h := h.1 c6
          refine Go.iinc dX0_findTold_64 rfl (congrArg (fun z => v2 + z) k_ic_m1) (by decide) rfl rfl (?_ : Go _ _ 67 [.ref 54, .int v1, .int (v2 + (-1)), .int v3, .int v4] _ _ _)
          refine Go.iinc dX0_findTold_67 rfl (congrArg (fun z => v4 + z) k_ic_1) (by decide) rfl rfl (?_ : Go _ _ 70 [.ref 54, .int v1, .int (v2 + (-1)), .int v3, .int (v4 + 1)] _ _ _)
          refine Go.goto 14 dX0_findTold_70 rfl ?_
          exact h
        · have h := h.2 c6
          refine Go.iload_n 3 dX0_findTold_52 rfl rfl (?_ : Go _ _ 53 _ _ _ _)
          refine Go.aload_n 0 dX0_findTold_53 rfl rfl (?_ : Go _ _ 54 _ _ _ _)
          refine Go.getR fk_X0_34 shq_54 frq_54_7 dX0_findTold_54 (?_ : Go _ _ 57 _ _ _ _)
          refine Go.iload dX0_findTold_57 rfl (?_ : Go _ _ 59 _ _ _ _)
          refine Go.iald shq_62 dX0_findTold_59 ⟨h.1, (?_ : Go _ _ 60 _ _ _ _)⟩
          have h := h.2
          refine Go.callS (as := [.int v3, .int (sA s3 62 (ix v4))]) (st := []) mk_X0_codeOf wl_X0_134 rfl rfl (Nat.le_of_ble_eq_true rfl) dX0_findTold_60 h ?_
          rintro _ s7 ⟨r8, rfl, h⟩
          show Go _ _ 63 _ [.int r8] _ _
          exact Go.iret rfl dX0_findTold_63 ⟨_, rfl, h⟩
set_option maxHeartbeats 4000000 in
set_option maxRecDepth 100000 in
theorem sgX0_trueCount_0 {d : Nat} {σ : St} {K : Int32 → St → Prop} (h : Go mX0_trueCount (d + 1) 4 [.ref 54, .int 0, .int 0] [] σ (QI K)) : Go mX0_trueCount (d + 1) 0 [.ref 54, .null, .null] [] σ (QI K) := by
  refine Go.iconst dX0_trueCount_0 k_ic_0 (?_ : Go _ _ 1 _ _ _ _)
  refine Go.istore_n 1 dX0_trueCount_1 rfl (by decide) rfl rfl (?_ : Go _ _ 2 [.ref 54, .int 0, .null] _ _ _)
  refine Go.iconst dX0_trueCount_2 k_ic_0 (?_ : Go _ _ 3 _ _ _ _)
  refine Go.istore_n 2 dX0_trueCount_3 rfl (by decide) rfl rfl (?_ : Go _ _ 4 [.ref 54, .int 0, .int 0] _ _ _)
  exact h
theorem cgX0_trueCount {d : Nat} {σ : St} {K : Int32 → St → Prop} (h : Go mX0_trueCount (d + 1) 4 [.ref 54, .int 0, .int 0] [] σ (QI K)) : CallI (d + 1) mX0_trueCount [.ref 54] σ K := Call_of_Go (by decide +kernel) (ls := [.ref 54, .null, .null]) rfl (Nat.le_of_ble_eq_true rfl) (sgX0_trueCount_0 h)
set_option maxHeartbeats 4000000 in
set_option maxRecDepth 100000 in
theorem sgX0_trueCount_4 {d : Nat} {σ : St} {v1 : Int32} {v2 : Int32} {K : Int32 → St → Prop} (h : ((sF σ 54 9) ≤ v2 → K v1 σ) ∧ (¬ (sF σ 54 9) ≤ v2 → CallI d mX0_isToldSource [.ref 54, .int v2] σ (fun r3 s2 => (r3 = 0 → Go mX0_trueCount (d + 1) 4 [.ref 54, .int v1, .int (v2 + 1)] [] s2 (QI K)) ∧ (¬ r3 = 0 → CallI d mX0_distanceOf [.ref 54, .int v2] s2 (fun r6 s5 => CallI d mX0_movementOf [.ref 54, .int v2] s5 (fun r8 s7 => CallI d mX0_sourcesAt [.ref 54, .int r6, .int r8, .int v2] s7 (fun r10 s9 => (¬ r10 = 0 → Go mX0_trueCount (d + 1) 4 [.ref 54, .int v1, .int (v2 + 1)] [] s9 (QI K)) ∧ (r10 = 0 → Go mX0_trueCount (d + 1) 4 [.ref 54, .int (v1 + 1), .int (v2 + 1)] [] s9 (QI K))))))))) : Go mX0_trueCount (d + 1) 4 [.ref 54, .int v1, .int v2] [] σ (QI K) := by
  refine Go.iload_n 2 dX0_trueCount_4 rfl rfl (?_ : Go _ _ 5 _ _ _ _)
  refine Go.aload_n 0 dX0_trueCount_5 rfl rfl (?_ : Go _ _ 6 _ _ _ _)
  refine Go.getI fk_X0_40 shq_54 frq_54_9 dX0_trueCount_6 (?_ : Go _ _ 9 _ _ _ _)
  refine Go.icmp_ge 47 dX0_trueCount_9 rfl ⟨fun c1 => ?_, fun c1 => (?_ : Go _ _ 12 _ _ _ _)⟩
  · have h := h.1 c1
    refine Go.iload_n 1 dX0_trueCount_47 rfl rfl (?_ : Go _ _ 48 _ _ _ _)
    exact Go.iret rfl dX0_trueCount_48 ⟨_, rfl, h⟩
  · have h := h.2 c1
    refine Go.aload_n 0 dX0_trueCount_12 rfl rfl (?_ : Go _ _ 13 _ _ _ _)
    refine Go.iload_n 2 dX0_trueCount_13 rfl rfl (?_ : Go _ _ 14 _ _ _ _)
    refine Go.callV (as := [.int v2]) (st := []) mk_X0_isToldSource wl_X0_173 shq_54 rfl rfl (Nat.le_of_ble_eq_true rfl) dX0_trueCount_14 h ?_
    rintro _ s2 ⟨r3, rfl, h⟩
    show Go _ _ 17 _ [.int r3] _ _
    refine Go.if_eq 41 dX0_trueCount_17 rfl ⟨fun c4 => ?_, fun c4 => (?_ : Go _ _ 20 _ _ _ _)⟩
    · have h := h.1 c4
      refine Go.iinc dX0_trueCount_41 rfl (congrArg (fun z => v2 + z) k_ic_1) (by decide) rfl rfl (?_ : Go _ _ 44 [.ref 54, .int v1, .int (v2 + 1)] _ _ _)
      refine Go.goto 4 dX0_trueCount_44 rfl ?_
      exact h
    · have h := h.2 c4
      refine Go.aload_n 0 dX0_trueCount_20 rfl rfl (?_ : Go _ _ 21 _ _ _ _)
      refine Go.aload_n 0 dX0_trueCount_21 rfl rfl (?_ : Go _ _ 22 _ _ _ _)
      refine Go.iload_n 2 dX0_trueCount_22 rfl rfl (?_ : Go _ _ 23 _ _ _ _)
      refine Go.callV (as := [.int v2]) (st := [.ref 54]) mk_X0_distanceOf wl_X0_129 shq_54 rfl rfl (Nat.le_of_ble_eq_true rfl) dX0_trueCount_23 h ?_
      rintro _ s5 ⟨r6, rfl, h⟩
      show Go _ _ 26 _ [.int r6, .ref 54] _ _
      refine Go.aload_n 0 dX0_trueCount_26 rfl rfl (?_ : Go _ _ 27 _ _ _ _)
      refine Go.iload_n 2 dX0_trueCount_27 rfl rfl (?_ : Go _ _ 28 _ _ _ _)
      refine Go.callV (as := [.int v2]) (st := [.int r6, .ref 54]) mk_X0_movementOf wl_X0_125 shq_54 rfl rfl (Nat.le_of_ble_eq_true rfl) dX0_trueCount_28 h ?_
      rintro _ s7 ⟨r8, rfl, h⟩
      show Go _ _ 31 _ [.int r8, .int r6, .ref 54] _ _
      refine Go.iload_n 2 dX0_trueCount_31 rfl rfl (?_ : Go _ _ 32 _ _ _ _)
      refine Go.callV (as := [.int r6, .int r8, .int v2]) (st := []) mk_X0_sourcesAt wl_X0_170 shq_54 rfl rfl (Nat.le_of_ble_eq_true rfl) dX0_trueCount_32 h ?_
      rintro _ s9 ⟨r10, rfl, h⟩
      show Go _ _ 35 _ [.int r10] _ _
      refine Go.if_ne 41 dX0_trueCount_35 rfl ⟨fun c11 => ?_, fun c11 => (?_ : Go _ _ 38 _ _ _ _)⟩
      · have h := h.1 c11
        refine Go.iinc dX0_trueCount_41 rfl (congrArg (fun z => v2 + z) k_ic_1) (by decide) rfl rfl (?_ : Go _ _ 44 [.ref 54, .int v1, .int (v2 + 1)] _ _ _)
        refine Go.goto 4 dX0_trueCount_44 rfl ?_
        exact h
      · have h := h.2 c11
        refine Go.iinc dX0_trueCount_38 rfl (congrArg (fun z => v1 + z) k_ic_1) (by decide) rfl rfl (?_ : Go _ _ 41 [.ref 54, .int (v1 + 1), .int v2] _ _ _)
        refine Go.iinc dX0_trueCount_41 rfl (congrArg (fun z => v2 + z) k_ic_1) (by decide) rfl rfl (?_ : Go _ _ 44 [.ref 54, .int (v1 + 1), .int (v2 + 1)] _ _ _)
        refine Go.goto 4 dX0_trueCount_44 rfl ?_
        exact h
set_option maxHeartbeats 4000000 in
set_option maxRecDepth 100000 in
theorem sgX0_missedCount_0 {d : Nat} {σ : St} {K : Int32 → St → Prop} (h : Go mX0_missedCount (d + 1) 4 [.ref 54, .int 0, .int 0] [] σ (QI K)) : Go mX0_missedCount (d + 1) 0 [.ref 54, .null, .null] [] σ (QI K) := by
  refine Go.iconst dX0_missedCount_0 k_ic_0 (?_ : Go _ _ 1 _ _ _ _)
  refine Go.istore_n 1 dX0_missedCount_1 rfl (by decide) rfl rfl (?_ : Go _ _ 2 [.ref 54, .int 0, .null] _ _ _)
  refine Go.iconst dX0_missedCount_2 k_ic_0 (?_ : Go _ _ 3 _ _ _ _)
  refine Go.istore_n 2 dX0_missedCount_3 rfl (by decide) rfl rfl (?_ : Go _ _ 4 [.ref 54, .int 0, .int 0] _ _ _)
  exact h
theorem cgX0_missedCount {d : Nat} {σ : St} {K : Int32 → St → Prop} (h : Go mX0_missedCount (d + 1) 4 [.ref 54, .int 0, .int 0] [] σ (QI K)) : CallI (d + 1) mX0_missedCount [.ref 54] σ K := Call_of_Go (by decide +kernel) (ls := [.ref 54, .null, .null]) rfl (Nat.le_of_ble_eq_true rfl) (sgX0_missedCount_0 h)
set_option maxHeartbeats 4000000 in
set_option maxRecDepth 100000 in
theorem sgX0_missedCount_4 {d : Nat} {σ : St} {v1 : Int32} {v2 : Int32} {K : Int32 → St → Prop} (h : ((sF σ 54 9) ≤ v2 → K v1 σ) ∧ (¬ (sF σ 54 9) ≤ v2 → CallI d mX0_isToldSource [.ref 54, .int v2] σ (fun r3 s2 => (r3 = 0 → Go mX0_missedCount (d + 1) 4 [.ref 54, .int (v1 + 1), .int (v2 + 1)] [] s2 (QI K)) ∧ (¬ r3 = 0 → Go mX0_missedCount (d + 1) 4 [.ref 54, .int (v1 + 0), .int (v2 + 1)] [] s2 (QI K))))) : Go mX0_missedCount (d + 1) 4 [.ref 54, .int v1, .int v2] [] σ (QI K) := by
  refine Go.iload_n 2 dX0_missedCount_4 rfl rfl (?_ : Go _ _ 5 _ _ _ _)
  refine Go.aload_n 0 dX0_missedCount_5 rfl rfl (?_ : Go _ _ 6 _ _ _ _)
  refine Go.getI fk_X0_40 shq_54 frq_54_9 dX0_missedCount_6 (?_ : Go _ _ 9 _ _ _ _)
  refine Go.icmp_ge 34 dX0_missedCount_9 rfl ⟨fun c1 => ?_, fun c1 => (?_ : Go _ _ 12 _ _ _ _)⟩
  · have h := h.1 c1
    refine Go.iload_n 1 dX0_missedCount_34 rfl rfl (?_ : Go _ _ 35 _ _ _ _)
    exact Go.iret rfl dX0_missedCount_35 ⟨_, rfl, h⟩
  · have h := h.2 c1
    refine Go.iload_n 1 dX0_missedCount_12 rfl rfl (?_ : Go _ _ 13 _ _ _ _)
    refine Go.aload_n 0 dX0_missedCount_13 rfl rfl (?_ : Go _ _ 14 _ _ _ _)
    refine Go.iload_n 2 dX0_missedCount_14 rfl rfl (?_ : Go _ _ 15 _ _ _ _)
    refine Go.callV (as := [.int v2]) (st := [.int v1]) mk_X0_isToldSource wl_X0_173 shq_54 rfl rfl (Nat.le_of_ble_eq_true rfl) dX0_missedCount_15 h ?_
    rintro _ s2 ⟨r3, rfl, h⟩
    show Go _ _ 18 _ [.int r3, .int v1] _ _
    refine Go.if_eq 25 dX0_missedCount_18 rfl ⟨fun c4 => ?_, fun c4 => (?_ : Go _ _ 21 _ _ _ _)⟩
    · have h := h.1 c4
      refine Go.iconst dX0_missedCount_25 k_ic_1 (?_ : Go _ _ 26 _ _ _ _)
      refine Go.iadd dX0_missedCount_26 (?_ : Go _ _ 27 _ _ _ _)
      refine Go.istore_n 1 dX0_missedCount_27 rfl (by decide) rfl rfl (?_ : Go _ _ 28 [.ref 54, .int (v1 + 1), .int v2] _ _ _)
      refine Go.iinc dX0_missedCount_28 rfl (congrArg (fun z => v2 + z) k_ic_1) (by decide) rfl rfl (?_ : Go _ _ 31 [.ref 54, .int (v1 + 1), .int (v2 + 1)] _ _ _)
      refine Go.goto 4 dX0_missedCount_31 rfl ?_
      exact h
    · have h := h.2 c4
      refine Go.iconst dX0_missedCount_21 k_ic_0 (?_ : Go _ _ 22 _ _ _ _)
      refine Go.goto 26 dX0_missedCount_22 rfl ?_
      refine Go.iadd dX0_missedCount_26 (?_ : Go _ _ 27 _ _ _ _)
      refine Go.istore_n 1 dX0_missedCount_27 rfl (by decide) rfl rfl (?_ : Go _ _ 28 [.ref 54, .int (v1 + 0), .int v2] _ _ _)
      refine Go.iinc dX0_missedCount_28 rfl (congrArg (fun z => v2 + z) k_ic_1) (by decide) rfl rfl (?_ : Go _ _ 31 [.ref 54, .int (v1 + 0), .int (v2 + 1)] _ _ _)
      refine Go.goto 4 dX0_missedCount_31 rfl ?_
      exact h
