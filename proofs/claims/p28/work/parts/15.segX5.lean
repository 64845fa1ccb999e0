set_option maxHeartbeats 4000000 in
set_option maxRecDepth 100000 in
theorem sgX5_target_0 {d : Nat} {σ : St} {x1 : Int32} {x2 : Int32} {x3 : Int32} {x4 : Int32} {K : Int32 → St → Prop} (h : CallI d mX5_comingError [.ref 0, .int x1, .int x2, .int x3, .int x4] σ (fun r2 s1 => (r2 = 0 → CallU d mX5_remember [.ref 0] s1 (fun s4 => CallI d mX3_join [.ref 1, .int x1, .int x2, .int x3, .int x4] s4 (fun r6 s5 => K r6 s5))) ∧ (¬ r2 = 0 → K r2 s1))) : Go mX5_target (d + 1) 0 [.ref 0, .int x1, .int x2, .int x3, .int x4, .null] [] σ (QI K) := by
  refine Go.aload_n 0 dX5_target_0 rfl rfl (?_ : Go _ _ 1 _ _ _ _)
  refine Go.iload_n 1 dX5_target_1 rfl rfl (?_ : Go _ _ 2 _ _ _ _)
  refine Go.iload_n 2 dX5_target_2 rfl rfl (?_ : Go _ _ 3 _ _ _ _)
  refine Go.iload_n 3 dX5_target_3 rfl rfl (?_ : Go _ _ 4 _ _ _ _)
  refine Go.iload dX5_target_4 rfl (?_ : Go _ _ 6 _ _ _ _)
  refine Go.callV (as := [.int x1, .int x2, .int x3, .int x4]) (st := []) mk_X5_comingError wl_X5_62 shq_0 rfl rfl (Nat.le_of_ble_eq_true rfl) dX5_target_6 h ?_
  rintro _ s1 ⟨r2, rfl, h⟩
  show Go _ _ 9 _ [.int r2] _ _
  refine Go.istore dX5_target_9 (by decide) rfl rfl (?_ : Go _ _ 11 [.ref 0, .int x1, .int x2, .int x3, .int x4, .int r2] _ _ _)
  refine Go.iload dX5_target_11 rfl (?_ : Go _ _ 13 _ _ _ _)
  refine Go.if_eq 19 dX5_target_13 rfl ⟨fun c3 => ?_, fun c3 => (?_ : Go _ _ 16 _ _ _ _)⟩
  · have h := h.1 c3
    refine Go.aload_n 0 dX5_target_19 rfl rfl (?_ : Go _ _ 20 _ _ _ _)
    refine Go.callV (as := []) (st := []) mk_X5_remember wl_X5_66 shq_0 rfl rfl (Nat.le_of_ble_eq_true rfl) dX5_target_20 h ?_
    rintro _ s4 ⟨rfl, h⟩
    show Go _ _ 23 _ [] _ _
    refine Go.aload_n 0 dX5_target_23 rfl rfl (?_ : Go _ _ 24 _ _ _ _)
    refine Go.getR fk_X5_12 shq_0 frq_0_0 dX5_target_24 (?_ : Go _ _ 27 _ _ _ _)
    refine Go.iload_n 1 dX5_target_27 rfl rfl (?_ : Go _ _ 28 _ _ _ _)
    refine Go.iload_n 2 dX5_target_28 rfl rfl (?_ : Go _ _ 29 _ _ _ _)
    refine Go.iload_n 3 dX5_target_29 rfl rfl (?_ : Go _ _ 30 _ _ _ _)
    refine Go.iload dX5_target_30 rfl (?_ : Go _ _ 32 _ _ _ _)
    refine Go.callV (as := [.int x1, .int x2, .int x3, .int x4]) (st := []) mk_X3_join wl_X5_69 shq_1 rfl rfl (Nat.le_of_ble_eq_true rfl) dX5_target_32 h ?_
    rintro _ s5 ⟨r6, rfl, h⟩
    show Go _ _ 35 _ [.int r6] _ _
    exact Go.iret rfl dX5_target_35 ⟨_, rfl, h⟩
  · have h := h.2 c3
    refine Go.iload dX5_target_16 rfl (?_ : Go _ _ 18 _ _ _ _)
    exact Go.iret rfl dX5_target_18 ⟨_, rfl, h⟩
theorem cgX5_target {d : Nat} {σ : St} {x1 : Int32} {x2 : Int32} {x3 : Int32} {x4 : Int32} {K : Int32 → St → Prop} (h : CallI d mX5_comingError [.ref 0, .int x1, .int x2, .int x3, .int x4] σ (fun r2 s1 => (r2 = 0 → CallU d mX5_remember [.ref 0] s1 (fun s4 => CallI d mX3_join [.ref 1, .int x1, .int x2, .int x3, .int x4] s4 (fun r6 s5 => K r6 s5))) ∧ (¬ r2 = 0 → K r2 s1))) : CallI (d + 1) mX5_target [.ref 0, .int x1, .int x2, .int x3, .int x4] σ K := Call_of_Go (by decide +kernel) (ls := [.ref 0, .int x1, .int x2, .int x3, .int x4, .null]) rfl (Nat.le_of_ble_eq_true rfl) (sgX5_target_0 h)
set_option maxHeartbeats 4000000 in
set_option maxRecDepth 100000 in
theorem sgX5_drop_0 {d : Nat} {σ : St} {x1 : Int32} {K : Int32 → St → Prop} (h : CallI d mX3_has [.ref 1, .int x1] σ (fun r2 s1 => (¬ r2 = 0 → CallU d mX5_remember [.ref 0] s1 (fun s4 => CallU d mX3_leave [.ref 1, .int x1] s4 (fun s5 => CallI d mX3_targetCount [.ref 1] s5 (fun r7 s6 => K r7 s6)))) ∧ (r2 = 0 → K (-1) s1))) : Go mX5_drop (d + 1) 0 [.ref 0, .int x1] [] σ (QI K) := by
  refine Go.aload_n 0 dX5_drop_0 rfl rfl (?_ : Go _ _ 1 _ _ _ _)
  refine Go.getR fk_X5_12 shq_0 frq_0_0 dX5_drop_1 (?_ : Go _ _ 4 _ _ _ _)
  refine Go.iload_n 1 dX5_drop_4 rfl rfl (?_ : Go _ _ 5 _ _ _ _)
  refine Go.callV (as := [.int x1]) (st := []) mk_X3_has wl_X5_72 shq_1 rfl rfl (Nat.le_of_ble_eq_true rfl) dX5_drop_5 h ?_
  rintro _ s1 ⟨r2, rfl, h⟩
  show Go _ _ 8 _ [.int r2] _ _
  refine Go.if_ne 13 dX5_drop_8 rfl ⟨fun c3 => ?_, fun c3 => (?_ : Go _ _ 11 _ _ _ _)⟩
  · have h := h.1 c3
    refine Go.aload_n 0 dX5_drop_13 rfl rfl (?_ : Go _ _ 14 _ _ _ _)
    refine Go.callV (as := []) (st := []) mk_X5_remember wl_X5_66 shq_0 rfl rfl (Nat.le_of_ble_eq_true rfl) dX5_drop_14 h ?_
    rintro _ s4 ⟨rfl, h⟩
    show Go _ _ 17 _ [] _ _
    refine Go.aload_n 0 dX5_drop_17 rfl rfl (?_ : Go _ _ 18 _ _ _ _)
    refine Go.getR fk_X5_12 shq_0 frq_0_0 dX5_drop_18 (?_ : Go _ _ 21 _ _ _ _)
    refine Go.iload_n 1 dX5_drop_21 rfl rfl (?_ : Go _ _ 22 _ _ _ _)
    refine Go.callV (as := [.int x1]) (st := []) mk_X3_leave wl_X5_76 shq_1 rfl rfl (Nat.le_of_ble_eq_true rfl) dX5_drop_22 h ?_
    rintro _ s5 ⟨rfl, h⟩
    show Go _ _ 25 _ [] _ _
    refine Go.aload_n 0 dX5_drop_25 rfl rfl (?_ : Go _ _ 26 _ _ _ _)
    refine Go.getR fk_X5_12 shq_0 frq_0_0 dX5_drop_26 (?_ : Go _ _ 29 _ _ _ _)
    refine Go.callV (as := []) (st := []) mk_X3_targetCount wl_X5_80 shq_1 rfl rfl (Nat.le_of_ble_eq_true rfl) dX5_drop_29 h ?_
    rintro _ s6 ⟨r7, rfl, h⟩
    show Go _ _ 32 _ [.int r7] _ _
    exact Go.iret rfl dX5_drop_32 ⟨_, rfl, h⟩
  · have h := h.2 c3
    refine Go.iconst dX5_drop_11 k_ic_m1 (?_ : Go _ _ 12 _ _ _ _)
    exact Go.iret rfl dX5_drop_12 ⟨_, rfl, h⟩
theorem cgX5_drop {d : Nat} {σ : St} {x1 : Int32} {K : Int32 → St → Prop} (h : CallI d mX3_has [.ref 1, .int x1] σ (fun r2 s1 => (¬ r2 = 0 → CallU d mX5_remember [.ref 0] s1 (fun s4 => CallU d mX3_leave [.ref 1, .int x1] s4 (fun s5 => CallI d mX3_targetCount [.ref 1] s5 (fun r7 s6 => K r7 s6)))) ∧ (r2 = 0 → K (-1) s1))) : CallI (d + 1) mX5_drop [.ref 0, .int x1] σ K := Call_of_Go (by decide +kernel) (ls := [.ref 0, .int x1]) rfl (Nat.le_of_ble_eq_true rfl) (sgX5_drop_0 h)
set_option maxHeartbeats 4000000 in
set_option maxRecDepth 100000 in
theorem sgX5_go_0 {d : Nat} {σ : St} {K : Int32 → St → Prop} (h : CallU d mX5_remember [.ref 0] σ (fun s1 => CallU d mX3_moveAll [.ref 1] s1 (fun s2 => CallI d mX3_targetCount [.ref 1] s2 (fun r4 s3 => K r4 s3)))) : Go mX5_go (d + 1) 0 [.ref 0] [] σ (QI K) := by
  refine Go.aload_n 0 dX5_go_0 rfl rfl (?_ : Go _ _ 1 _ _ _ _)
  refine Go.callV (as := []) (st := []) mk_X5_remember wl_X5_66 shq_0 rfl rfl (Nat.le_of_ble_eq_true rfl) dX5_go_1 h ?_
  rintro _ s1 ⟨rfl, h⟩
  show Go _ _ 4 _ [] _ _
  refine Go.aload_n 0 dX5_go_4 rfl rfl (?_ : Go _ _ 5 _ _ _ _)
  refine Go.getR fk_X5_12 shq_0 frq_0_0 dX5_go_5 (?_ : Go _ _ 8 _ _ _ _)
  refine Go.callV (as := []) (st := []) mk_X3_moveAll wl_X5_84 shq_1 rfl rfl (Nat.le_of_ble_eq_true rfl) dX5_go_8 h ?_
  rintro _ s2 ⟨rfl, h⟩
  show Go _ _ 11 _ [] _ _
  refine Go.aload_n 0 dX5_go_11 rfl rfl (?_ : Go _ _ 12 _ _ _ _)
  refine Go.getR fk_X5_12 shq_0 frq_0_0 dX5_go_12 (?_ : Go _ _ 15 _ _ _ _)
  refine Go.callV (as := []) (st := []) mk_X3_targetCount wl_X5_80 shq_1 rfl rfl (Nat.le_of_ble_eq_true rfl) dX5_go_15 h ?_
  rintro _ s3 ⟨r4, rfl, h⟩
  show Go _ _ 18 _ [.int r4] _ _
  exact Go.iret rfl dX5_go_18 ⟨_, rfl, h⟩
theorem cgX5_go {d : Nat} {σ : St} {K : Int32 → St → Prop} (h : CallU d mX5_remember [.ref 0] σ (fun s1 => CallU d mX3_moveAll [.ref 1] s1 (fun s2 => CallI d mX3_targetCount [.ref 1] s2 (fun r4 s3 => K r4 s3)))) : CallI (d + 1) mX5_go [.ref 0] σ K := Call_of_Go (by decide +kernel) (ls := [.ref 0]) rfl (Nat.le_of_ble_eq_true rfl) (sgX5_go_0 h)
set_option maxHeartbeats 4000000 in
set_option maxRecDepth 100000 in
theorem sgX5_spacings_0 {d : Nat} {σ : St} {x1 : Int32} {x2 : Int32} {x3 : Int32} {x4 : Int32} {K : Int32 → St → Prop} (h : CallI d mX5_isSpacing [.int x1] σ (fun r2 s1 => (r2 = 0 → K (-1) s1) ∧ (¬ r2 = 0 → CallI d mX5_isSpacingOrNone [.int x2] s1 (fun r5 s4 => (r5 = 0 → K (-1) s4) ∧ (¬ r5 = 0 → CallI d mX5_isSpacingOrNone [.int x3] s4 (fun r8 s7 => (r8 = 0 → K (-1) s7) ∧ (¬ r8 = 0 → CallI d mX5_isSpacingOrNone [.int x4] s7 (fun r11 s10 => (¬ r11 = 0 → (¬ x2 = 0 → (¬ x3 = 0 → CallU d mX5_remember [.ref 0] s10 (fun s15 => CallU d mX3_forgetTurns [.ref 1] s15 (fun s16 => CallU d mX3_addTurn [.ref 1, .int x1] s16 (fun s17 => CallU d mX3_addTurn [.ref 1, .int x2] s17 (fun s18 => CallU d mX3_addTurn [.ref 1, .int x3] s18 (fun s19 => CallU d mX3_addTurn [.ref 1, .int x4] s19 (fun s20 => CallI d mX3_turnCount [.ref 1] s20 (fun r22 s21 => K r22 s21)))))))) ∧ (x3 = 0 → (x4 = 0 → CallU d mX5_remember [.ref 0] s10 (fun s24 => CallU d mX3_forgetTurns [.ref 1] s24 (fun s25 => CallU d mX3_addTurn [.ref 1, .int x1] s25 (fun s26 => CallU d mX3_addTurn [.ref 1, .int x2] s26 (fun s27 => CallU d mX3_addTurn [.ref 1, .int x3] s27 (fun s28 => CallU d mX3_addTurn [.ref 1, .int x4] s28 (fun s29 => CallI d mX3_turnCount [.ref 1] s29 (fun r31 s30 => K r31 s30)))))))) ∧ (¬ x4 = 0 → K (-1) s10))) ∧ (x2 = 0 → (¬ x3 = 0 → K (-1) s10) ∧ (x3 = 0 → (¬ x3 = 0 → CallU d mX5_remember [.ref 0] s10 (fun s34 => CallU d mX3_forgetTurns [.ref 1] s34 (fun s35 => CallU d mX3_addTurn [.ref 1, .int x1] s35 (fun s36 => CallU d mX3_addTurn [.ref 1, .int x2] s36 (fun s37 => CallU d mX3_addTurn [.ref 1, .int x3] s37 (fun s38 => CallU d mX3_addTurn [.ref 1, .int x4] s38 (fun s39 => CallI d mX3_turnCount [.ref 1] s39 (fun r41 s40 => K r41 s40)))))))) ∧ (x3 = 0 → (x4 = 0 → CallU d mX5_remember [.ref 0] s10 (fun s43 => CallU d mX3_forgetTurns [.ref 1] s43 (fun s44 => CallU d mX3_addTurn [.ref 1, .int x1] s44 (fun s45 => CallU d mX3_addTurn [.ref 1, .int x2] s45 (fun s46 => CallU d mX3_addTurn [.ref 1, .int x3] s46 (fun s47 => CallU d mX3_addTurn [.ref 1, .int x4] s47 (fun s48 => CallI d mX3_turnCount [.ref 1] s48 (fun r50 s49 => K r50 s49)))))))) ∧ (¬ x4 = 0 → K (-1) s10))))) ∧ (r11 = 0 → K (-1) s10))))))))) : Go mX5_spacings (d + 1) 0 [.ref 0, .int x1, .int x2, .int x3, .int x4] [] σ (QI K) := by
  refine Go.iload_n 1 dX5_spacings_0 rfl rfl (?_ : Go _ _ 1 _ _ _ _)
  refine Go.callS (as := [.int x1]) (st := []) mk_X5_isSpacing wl_X5_87 rfl rfl (Nat.le_of_ble_eq_true rfl) dX5_spacings_1 h ?_
  rintro _ s1 ⟨r2, rfl, h⟩
  show Go _ _ 4 _ [.int r2] _ _
  refine Go.if_eq 29 dX5_spacings_4 rfl ⟨fun c3 => ?_, fun c3 => (?_ : Go _ _ 7 _ _ _ _)⟩
  · have h := h.1 c3
    refine Go.iconst dX5_spacings_29 k_ic_m1 (?_ : Go _ _ 30 _ _ _ _)
    exact Go.iret rfl dX5_spacings_30 ⟨_, rfl, h⟩
  · have h := h.2 c3
    refine Go.iload_n 2 dX5_spacings_7 rfl rfl (?_ : Go _ _ 8 _ _ _ _)
    refine Go.callS (as := [.int x2]) (st := []) mk_X5_isSpacingOrNone wl_X5_90 rfl rfl (Nat.le_of_ble_eq_true rfl) dX5_spacings_8 h ?_
    rintro _ s4 ⟨r5, rfl, h⟩
    show Go _ _ 11 _ [.int r5] _ _
    refine Go.if_eq 29 dX5_spacings_11 rfl ⟨fun c6 => ?_, fun c6 => (?_ : Go _ _ 14 _ _ _ _)⟩
    · have h := h.1 c6
      refine Go.iconst dX5_spacings_29 k_ic_m1 (?_ : Go _ _ 30 _ _ _ _)
      exact Go.iret rfl dX5_spacings_30 ⟨_, rfl, h⟩
    · have h := h.2 c6
      refine Go.iload_n 3 dX5_spacings_14 rfl rfl (?_ : Go _ _ 15 _ _ _ _)
      refine Go.callS (as := [.int x3]) (st := []) mk_X5_isSpacingOrNone wl_X5_90 rfl rfl (Nat.le_of_ble_eq_true rfl) dX5_spacings_15 h ?_
      rintro _ s7 ⟨r8, rfl, h⟩
      show Go _ _ 18 _ [.int r8] _ _
      refine Go.if_eq 29 dX5_spacings_18 rfl ⟨fun c9 => ?_, fun c9 => (?_ : Go _ _ 21 _ _ _ _)⟩
      · have h := h.1 c9
        refine Go.iconst dX5_spacings_29 k_ic_m1 (?_ : Go _ _ 30 _ _ _ _)
        exact Go.iret rfl dX5_spacings_30 ⟨_, rfl, h⟩
      · have h := h.2 c9
        refine Go.iload dX5_spacings_21 rfl (?_ : Go _ _ 23 _ _ _ _)
        refine Go.callS (as := [.int x4]) (st := []) mk_X5_isSpacingOrNone wl_X5_90 rfl rfl (Nat.le_of_ble_eq_true rfl) dX5_spacings_23 h ?_
        rintro _ s10 ⟨r11, rfl, h⟩
        show Go _ _ 26 _ [.int r11] _ _
        refine Go.if_ne 31 dX5_spacings_26 rfl ⟨fun c12 => ?_, fun c12 => (?_ : Go _ _ 29 _ _ _ _)⟩
        · have h := h.1 c12
          refine Go.iload_n 2 dX5_spacings_31 rfl rfl (?_ : Go _ _ 32 _ _ _ _)
          refine Go.if_ne 39 dX5_spacings_32 rfl ⟨fun c13 => ?_, fun c13 => (?_ : Go _ _ 35 _ _ _ _)⟩
          · have h := h.1 c13
            refine Go.iload_n 3 dX5_spacings_39 rfl rfl (?_ : Go _ _ 40 _ _ _ _)
            refine Go.if_ne 50 dX5_spacings_40 rfl ⟨fun c14 => ?_, fun c14 => (?_ : Go _ _ 43 _ _ _ _)⟩
            · have h := h.1 c14
              refine Go.aload_n 0 dX5_spacings_50 rfl rfl (?_ : Go _ _ 51 _ _ _ _)
              refine Go.callV (as := []) (st := []) mk_X5_remember wl_X5_66 shq_0 rfl rfl (Nat.le_of_ble_eq_true rfl) dX5_spacings_51 h ?_
              rintro _ s15 ⟨rfl, h⟩
              show Go _ _ 54 _ [] _ _
              refine Go.aload_n 0 dX5_spacings_54 rfl rfl (?_ : Go _ _ 55 _ _ _ _)
              refine Go.getR fk_X5_12 shq_0 frq_0_0 dX5_spacings_55 (?_ : Go _ _ 58 _ _ _ _)
              refine Go.callV (as := []) (st := []) mk_X3_forgetTurns wl_X5_93 shq_1 rfl rfl (Nat.le_of_ble_eq_true rfl) dX5_spacings_58 h ?_
              rintro _ s16 ⟨rfl, h⟩
              show Go _ _ 61 _ [] _ _
              refine Go.aload_n 0 dX5_spacings_61 rfl rfl (?_ : Go _ _ 62 _ _ _ _)
              refine Go.getR fk_X5_12 shq_0 frq_0_0 dX5_spacings_62 (?_ : Go _ _ 65 _ _ _ _)
              refine Go.iload_n 1 dX5_spacings_65 rfl rfl (?_ : Go _ _ 66 _ _ _ _)
              refine Go.callV (as := [.int x1]) (st := []) mk_X3_addTurn wl_X5_96 shq_1 rfl rfl (Nat.le_of_ble_eq_true rfl) dX5_spacings_66 h ?_
              rintro _ s17 ⟨rfl, h⟩
              show Go _ _ 69 _ [] _ _
              refine Go.aload_n 0 dX5_spacings_69 rfl rfl (?_ : Go _ _ 70 _ _ _ _)
              refine Go.getR fk_X5_12 shq_0 frq_0_0 dX5_spacings_70 (?_ : Go _ _ 73 _ _ _ _)
              refine Go.iload_n 2 dX5_spacings_73 rfl rfl (?_ : Go _ _ 74 _ _ _ _)
              refine Go.callV (as := [.int x2]) (st := []) mk_X3_addTurn wl_X5_96 shq_1 rfl rfl (Nat.le_of_ble_eq_true rfl) dX5_spacings_74 h ?_
              rintro _ s18 ⟨rfl, h⟩
              show Go _ _ 77 _ [] _ _
              refine Go.aload_n 0 dX5_spacings_77 rfl rfl (?_ : Go _ _ 78 _ _ _ _)
              refine Go.getR fk_X5_12 shq_0 frq_0_0 dX5_spacings_78 (?_ : Go _ _ 81 _ _ _ _)
              refine Go.iload_n 3 dX5_spacings_81 rfl rfl (?_ : Go _ _ 82 _ _ _ _)
              refine Go.callV (as := [.int x3]) (st := []) mk_X3_addTurn wl_X5_96 shq_1 rfl rfl (Nat.le_of_ble_eq_true rfl) dX5_spacings_82 h ?_
              rintro _ s19 ⟨rfl, h⟩
              show Go _ _ 85 _ [] _ _
              refine Go.aload_n 0 dX5_spacings_85 rfl rfl (?_ : Go _ _ 86 _ _ _ _)
              refine Go.getR fk_X5_12 shq_0 frq_0_0 dX5_spacings_86 (?_ : Go _ _ 89 _ _ _ _)
              refine Go.iload dX5_spacings_89 rfl (?_ : Go _ _ 91 _ _ _ _)
              refine Go.callV (as := [.int x4]) (st := []) mk_X3_addTurn wl_X5_96 shq_1 rfl rfl (Nat.le_of_ble_eq_true rfl) dX5_spacings_91 h ?_
              rintro _ s20 ⟨rfl, h⟩
              show Go _ _ 94 _ [] _ _
              refine Go.aload_n 0 dX5_spacings_94 rfl rfl (?_ : Go _ _ 95 _ _ _ _)
              refine Go.getR fk_X5_12 shq_0 frq_0_0 dX5_spacings_95 (?_ : Go _ _ 98 _ _ _ _)
              refine Go.callV (as := []) (st := []) mk_X3_turnCount wl_X5_99 shq_1 rfl rfl (Nat.le_of_ble_eq_true rfl) dX5_spacings_98 h ?_
              rintro _ s21 ⟨r22, rfl, h⟩
              show Go _ _ 101 _ [.int r22] _ _
              exact Go.iret rfl dX5_spacings_101 ⟨_, rfl, h⟩
            · have h := h.2 c14
              refine Go.iload dX5_spacings_43 rfl (?_ : Go _ _ 45 _ _ _ _)
              refine Go.if_eq 50 dX5_spacings_45 rfl ⟨fun c23 => ?_, fun c23 => (?_ : Go _ _ 48 _ _ _ _)⟩
              · have h := h.1 c23
                refine Go.aload_n 0 dX5_spacings_50 rfl rfl (?_ : Go _ _ 51 _ _ _ _)
                refine Go.callV (as := []) (st := []) mk_X5_remember wl_X5_66 shq_0 rfl rfl (Nat.le_of_ble_eq_true rfl) dX5_spacings_51 h ?_
                rintro _ s24 ⟨rfl, h⟩
                show Go _ _ 54 _ [] _ _
                refine Go.aload_n 0 dX5_spacings_54 rfl rfl (?_ : Go _ _ 55 _ _ _ _)
                refine Go.getR fk_X5_12 shq_0 frq_0_0 dX5_spacings_55 (?_ : Go _ _ 58 _ _ _ _)
                refine Go.callV (as := []) (st := []) mk_X3_forgetTurns wl_X5_93 shq_1 rfl rfl (Nat.le_of_ble_eq_true rfl) dX5_spacings_58 h ?_
                rintro _ s25 ⟨rfl, h⟩
                show Go _ _ 61 _ [] _ _
                refine Go.aload_n 0 dX5_spacings_61 rfl rfl (?_ : Go _ _ 62 _ _ _ _)
                refine Go.getR fk_X5_12 shq_0 frq_0_0 dX5_spacings_62 (?_ : Go _ _ 65 _ _ _ _)
                refine Go.iload_n 1 dX5_spacings_65 rfl rfl (?_ : Go _ _ 66 _ _ _ _)
                refine Go.callV (as := [.int x1]) (st := []) mk_X3_addTurn wl_X5_96 shq_1 rfl rfl (Nat.le_of_ble_eq_true rfl) dX5_spacings_66 h ?_
                rintro _ s26 ⟨rfl, h⟩
                show Go _ _ 69 _ [] _ _
                refine Go.aload_n 0 dX5_spacings_69 rfl rfl (?_ : Go _ _ 70 _ _ _ _)
                refine Go.getR fk_X5_12 shq_0 frq_0_0 dX5_spacings_70 (?_ : Go _ _ 73 _ _ _ _)
                refine Go.iload_n 2 dX5_spacings_73 rfl rfl (?_ : Go _ _ 74 _ _ _ _)
                refine Go.callV (as := [.int x2]) (st := []) mk_X3_addTurn wl_X5_96 shq_1 rfl rfl (Nat.le_of_ble_eq_true rfl) dX5_spacings_74 h ?_
                rintro _ s27 ⟨rfl, h⟩
                show Go _ _ 77 _ [] _ _
                refine Go.aload_n 0 dX5_spacings_77 rfl rfl (?_ : Go _ _ 78 _ _ _ _)
                refine Go.getR fk_X5_12 shq_0 frq_0_0 dX5_spacings_78 (?_ : Go _ _ 81 _ _ _ _)
                refine Go.iload_n 3 dX5_spacings_81 rfl rfl (?_ : Go _ _ 82 _ _ _ _)
                refine Go.callV (as := [.int x3]) (st := []) mk_X3_addTurn wl_X5_96 shq_1 rfl rfl (Nat.le_of_ble_eq_true rfl) dX5_spacings_82 h ?_
                rintro _ s28 ⟨rfl, h⟩
                show Go _ _ 85 _ [] _ _
                refine Go.aload_n 0 dX5_spacings_85 rfl rfl (?_ : Go _ _ 86 _ _ _ _)
                refine Go.getR fk_X5_12 shq_0 frq_0_0 dX5_spacings_86 (?_ : Go _ _ 89 _ _ _ _)
                refine Go.iload dX5_spacings_89 rfl (?_ : Go _ _ 91 _ _ _ _)
                refine Go.callV (as := [.int x4]) (st := []) mk_X3_addTurn wl_X5_96 shq_1 rfl rfl (Nat.le_of_ble_eq_true rfl) dX5_spacings_91 h ?_
                rintro _ s29 ⟨rfl, h⟩
                show Go _ _ 94 _ [] _ _
                refine Go.aload_n 0 dX5_spacings_94 rfl rfl (?_ : Go _ _ 95 _ _ _ _)
                refine Go.getR fk_X5_12 shq_0 frq_0_0 dX5_spacings_95 (?_ : Go _ _ 98 _ _ _ _)
                refine Go.callV (as := []) (st := []) mk_X3_turnCount wl_X5_99 shq_1 rfl rfl (Nat.le_of_ble_eq_true rfl) dX5_spacings_98 h ?_
                rintro _ s30 ⟨r31, rfl, h⟩
                show Go _ _ 101 _ [.int r31] _ _
                exact Go.iret rfl dX5_spacings_101 ⟨_, rfl, h⟩
              · have h := h.2 c23
                refine Go.iconst dX5_spacings_48 k_ic_m1 (?_ : Go _ _ 49 _ _ _ _)
                exact Go.iret rfl dX5_spacings_49 ⟨_, rfl, h⟩
          · have h := h.2 c13
            refine Go.iload_n 3 dX5_spacings_35 rfl rfl (?_ : Go _ _ 36 _ _ _ _)
            refine Go.if_ne 48 dX5_spacings_36 rfl ⟨fun c32 => ?_, fun c32 => (?_ : Go _ _ 39 _ _ _ _)⟩
            · have h := h.1 c32
              refine Go.iconst dX5_spacings_48 k_ic_m1 (?_ : Go _ _ 49 _ _ _ _)
              exact Go.iret rfl dX5_spacings_49 ⟨_, rfl, h⟩
            · have h := h.2 c32
              refine Go.iload_n 3 dX5_spacings_39 rfl rfl (?_ : Go _ _ 40 _ _ _ _)
              refine Go.if_ne 50 dX5_spacings_40 rfl ⟨fun c33 => ?_, fun c33 => (?_ : Go _ _ 43 _ _ _ _)⟩
              · have h := h.1 c33
                refine Go.aload_n 0 dX5_spacings_50 rfl rfl (?_ : Go _ _ 51 _ _ _ _)
                refine Go.callV (as := []) (st := []) mk_X5_remember wl_X5_66 shq_0 rfl rfl (Nat.le_of_ble_eq_true rfl) dX5_spacings_51 h ?_
                rintro _ s34 ⟨rfl, h⟩
                show Go _ _ 54 _ [] _ _
                refine Go.aload_n 0 dX5_spacings_54 rfl rfl (?_ : Go _ _ 55 _ _ _ _)
                refine Go.getR fk_X5_12 shq_0 frq_0_0 dX5_spacings_55 (?_ : Go _ _ 58 _ _ _ _)
                refine Go.callV (as := []) (st := []) mk_X3_forgetTurns wl_X5_93 shq_1 rfl rfl (Nat.le_of_ble_eq_true rfl) dX5_spacings_58 h ?_
                rintro _ s35 ⟨rfl, h⟩
                show Go _ _ 61 _ [] _ _
                refine Go.aload_n 0 dX5_spacings_61 rfl rfl (?_ : Go _ _ 62 _ _ _ _)
                refine Go.getR fk_X5_12 shq_0 frq_0_0 dX5_spacings_62 (?_ : Go _ _ 65 _ _ _ _)
                refine Go.iload_n 1 dX5_spacings_65 rfl rfl (?_ : Go _ _ 66 _ _ _ _)
                refine Go.callV (as := [.int x1]) (st := []) mk_X3_addTurn wl_X5_96 shq_1 rfl rfl (Nat.le_of_ble_eq_true rfl) dX5_spacings_66 h ?_
                rintro _ s36 ⟨rfl, h⟩
                show Go _ _ 69 _ [] _ _
                refine Go.aload_n 0 dX5_spacings_69 rfl rfl (?_ : Go _ _ 70 _ _ _ _)
                refine Go.getR fk_X5_12 shq_0 frq_0_0 dX5_spacings_70 (?_ : Go _ _ 73 _ _ _ _)
                refine Go.iload_n 2 dX5_spacings_73 rfl rfl (?_ : Go _ _ 74 _ _ _ _)
                refine Go.callV (as := [.int x2]) (st := []) mk_X3_addTurn wl_X5_96 shq_1 rfl rfl (Nat.le_of_ble_eq_true rfl) dX5_spacings_74 h ?_
                rintro _ s37 ⟨rfl, h⟩
                show Go _ _ 77 _ [] _ _
                refine Go.aload_n 0 dX5_spacings_77 rfl rfl (?_ : Go _ _ 78 _ _ _ _)
                refine Go.getR fk_X5_12 shq_0 frq_0_0 dX5_spacings_78 (?_ : Go _ _ 81 _ _ _ _)
                refine Go.iload_n 3 dX5_spacings_81 rfl rfl (?_ : Go _ _ 82 _ _ _ _)
                refine Go.callV (as := [.int x3]) (st := []) mk_X3_addTurn wl_X5_96 shq_1 rfl rfl (Nat.le_of_ble_eq_true rfl) dX5_spacings_82 h ?_
                rintro _ s38 ⟨rfl, h⟩
                show Go _ _ 85 _ [] _ _
                refine Go.aload_n 0 dX5_spacings_85 rfl rfl (?_ : Go _ _ 86 _ _ _ _)
                refine Go.getR fk_X5_12 shq_0 frq_0_0 dX5_spacings_86 (?_ : Go _ _ 89 _ _ _ _)
                refine Go.iload dX5_spacings_89 rfl (?_ : Go _ _ 91 _ _ _ _)
                refine Go.callV (as := [.int x4]) (st := []) mk_X3_addTurn wl_X5_96 shq_1 rfl rfl (Nat.le_of_ble_eq_true rfl) dX5_spacings_91 h ?_
                rintro _ s39 ⟨rfl, h⟩
                show Go _ _ 94 _ [] _ _
                refine Go.aload_n 0 dX5_spacings_94 rfl rfl (?_ : Go _ _ 95 _ _ _ _)
                refine Go.getR fk_X5_12 shq_0 frq_0_0 dX5_spacings_95 (?_ : Go _ _ 98 _ _ _ _)
                refine Go.callV (as := []) (st := []) mk_X3_turnCount wl_X5_99 shq_1 rfl rfl (Nat.le_of_ble_eq_true rfl) dX5_spacings_98 h ?_
                rintro _ s40 ⟨r41, rfl, h⟩
                show Go _ _ 101 _ [.int r41] _ _
                exact Go.iret rfl dX5_spacings_101 ⟨_, rfl, h⟩
              · have h := h.2 c33
                refine Go.iload dX5_spacings_43 rfl (?_ : Go _ _ 45 _ _ _ _)
                refine Go.if_eq 50 dX5_spacings_45 rfl ⟨fun c42 => ?_, fun c42 => (?_ : Go _ _ 48 _ _ _ _)⟩
                · have h := h.1 c42
                  refine Go.aload_n 0 dX5_spacings_50 rfl rfl (?_ : Go _ _ 51 _ _ _ _)
                  refine Go.callV (as := []) (st := []) mk_X5_remember wl_X5_66 shq_0 rfl rfl (Nat.le_of_ble_eq_true rfl) dX5_spacings_51 h ?_
                  rintro _ s43 ⟨rfl, h⟩
                  show Go _ _ 54 _ [] _ _
                  refine Go.aload_n 0 dX5_spacings_54 rfl rfl (?_ : Go _ _ 55 _ _ _ _)
                  refine Go.getR fk_X5_12 shq_0 frq_0_0 dX5_spacings_55 (?_ : Go _ _ 58 _ _ _ _)
                  refine Go.callV (as := []) (st := []) mk_X3_forgetTurns wl_X5_93 shq_1 rfl rfl (Nat.le_of_ble_eq_true rfl) dX5_spacings_58 h ?_
                  rintro _ s44 ⟨rfl, h⟩
                  show Go _ _ 61 _ [] _ _
                  refine Go.aload_n 0 dX5_spacings_61 rfl rfl (?_ : Go _ _ 62 _ _ _ _)
                  refine Go.getR fk_X5_12 shq_0 frq_0_0 dX5_spacings_62 (?_ : Go _ _ 65 _ _ _ _)
                  refine Go.iload_n 1 dX5_spacings_65 rfl rfl (?_ : Go _ _ 66 _ _ _ _)
                  refine Go.callV (as := [.int x1]) (st := []) mk_X3_addTurn wl_X5_96 shq_1 rfl rfl (Nat.le_of_ble_eq_true rfl) dX5_spacings_66 h ?_
                  rintro _ s45 ⟨rfl, h⟩
                  show Go _ _ 69 _ [] _ _
                  refine Go.aload_n 0 dX5_spacings_69 rfl rfl (?_ : Go _ _ 70 _ _ _ _)
                  refine Go.getR fk_X5_12 shq_0 frq_0_0 dX5_spacings_70 (?_ : Go _ _ 73 _ _ _ _)
                  refine Go.iload_n 2 dX5_spacings_73 rfl rfl (?_ : Go _ _ 74 _ _ _ _)
                  refine Go.callV (as := [.int x2]) (st := []) mk_X3_addTurn wl_X5_96 shq_1 rfl rfl (Nat.le_of_ble_eq_true rfl) dX5_spacings_74 h ?_
                  rintro _ s46 ⟨rfl, h⟩
                  show Go _ _ 77 _ [] _ _
                  refine Go.aload_n 0 dX5_spacings_77 rfl rfl (?_ : Go _ _ 78 _ _ _ _)
                  refine Go.getR fk_X5_12 shq_0 frq_0_0 dX5_spacings_78 (?_ : Go _ _ 81 _ _ _ _)
                  refine Go.iload_n 3 dX5_spacings_81 rfl rfl (?_ : Go _ _ 82 _ _ _ _)
                  refine Go.callV (as := [.int x3]) (st := []) mk_X3_addTurn wl_X5_96 shq_1 rfl rfl (Nat.le_of_ble_eq_true rfl) dX5_spacings_82 h ?_
                  rintro _ s47 ⟨rfl, h⟩
                  show Go _ _ 85 _ [] _ _
                  refine Go.aload_n 0 dX5_spacings_85 rfl rfl (?_ : Go _ _ 86 _ _ _ _)
                  refine Go.getR fk_X5_12 shq_0 frq_0_0 dX5_spacings_86 (?_ : Go _ _ 89 _ _ _ _)
                  refine Go.iload dX5_spacings_89 rfl (?_ : Go _ _ 91 _ _ _ _)
                  refine Go.callV (as := [.int x4]) (st := []) mk_X3_addTurn wl_X5_96 shq_1 rfl rfl (Nat.le_of_ble_eq_true rfl) dX5_spacings_91 h ?_
                  rintro _ s48 ⟨rfl, h⟩
                  show Go _ _ 94 _ [] _ _
                  refine Go.aload_n 0 dX5_spacings_94 rfl rfl (?_ : Go _ _ 95 _ _ _ _)
                  refine Go.getR fk_X5_12 shq_0 frq_0_0 dX5_spacings_95 (?_ : Go _ _ 98 _ _ _ _)
                  refine Go.callV (as := []) (st := []) mk_X3_turnCount wl_X5_99 shq_1 rfl rfl (Nat.le_of_ble_eq_true rfl) dX5_spacings_98 h ?_
                  rintro _ s49 ⟨r50, rfl, h⟩
                  show Go _ _ 101 _ [.int r50] _ _
                  exact Go.iret rfl dX5_spacings_101 ⟨_, rfl, h⟩
                · have h := h.2 c42
                  refine Go.iconst dX5_spacings_48 k_ic_m1 (?_ : Go _ _ 49 _ _ _ _)
                  exact Go.iret rfl dX5_spacings_49 ⟨_, rfl, h⟩
        · have h := h.2 c12
          refine Go.iconst dX5_spacings_29 k_ic_m1 (?_ : Go _ _ 30 _ _ _ _)
          exact Go.iret rfl dX5_spacings_30 ⟨_, rfl, h⟩
theorem cgX5_spacings {d : Nat} {σ : St} {x1 : Int32} {x2 : Int32} {x3 : Int32} {x4 : Int32} {K : Int32 → St → Prop} (h : CallI d mX5_isSpacing [.int x1] σ (fun r2 s1 => (r2 = 0 → K (-1) s1) ∧ (¬ r2 = 0 → CallI d mX5_isSpacingOrNone [.int x2] s1 (fun r5 s4 => (r5 = 0 → K (-1) s4) ∧ (¬ r5 = 0 → CallI d mX5_isSpacingOrNone [.int x3] s4 (fun r8 s7 => (r8 = 0 → K (-1) s7) ∧ (¬ r8 = 0 → CallI d mX5_isSpacingOrNone [.int x4] s7 (fun r11 s10 => (¬ r11 = 0 → (¬ x2 = 0 → (¬ x3 = 0 → CallU d mX5_remember [.ref 0] s10 (fun s15 => CallU d mX3_forgetTurns [.ref 1] s15 (fun s16 => CallU d mX3_addTurn [.ref 1, .int x1] s16 (fun s17 => CallU d mX3_addTurn [.ref 1, .int x2] s17 (fun s18 => CallU d mX3_addTurn [.ref 1, .int x3] s18 (fun s19 => CallU d mX3_addTurn [.ref 1, .int x4] s19 (fun s20 => CallI d mX3_turnCount [.ref 1] s20 (fun r22 s21 => K r22 s21)))))))) ∧ (x3 = 0 → (x4 = 0 → CallU d mX5_remember [.ref 0] s10 (fun s24 => CallU d mX3_forgetTurns [.ref 1] s24 (fun s25 => CallU d mX3_addTurn [.ref 1, .int x1] s25 (fun s26 => CallU d mX3_addTurn [.ref 1, .int x2] s26 (fun s27 => CallU d mX3_addTurn [.ref 1, .int x3] s27 (fun s28 => CallU d mX3_addTurn [.ref 1, .int x4] s28 (fun s29 => CallI d mX3_turnCount [.ref 1] s29 (fun r31 s30 => K r31 s30)))))))) ∧ (¬ x4 = 0 → K (-1) s10))) ∧ (x2 = 0 → (¬ x3 = 0 → K (-1) s10) ∧ (x3 = 0 → (¬ x3 = 0 → CallU d mX5_remember [.ref 0] s10 (fun s34 => CallU d mX3_forgetTurns [.ref 1] s34 (fun s35 => CallU d mX3_addTurn [.ref 1, .int x1] s35 (fun s36 => CallU d mX3_addTurn [.ref 1, .int x2] s36 (fun s37 => CallU d mX3_addTurn [.ref 1, .int x3] s37 (fun s38 => CallU d mX3_addTurn [.ref 1, .int x4] s38 (fun s39 => CallI d mX3_turnCount [.ref 1] s39 (fun r41 s40 => K r41 s40)))))))) ∧ (x3 = 0 → (x4 = 0 → CallU d mX5_remember [.ref 0] s10 (fun s43 => CallU d mX3_forgetTurns [.ref 1] s43 (fun s44 => CallU d mX3_addTurn [.ref 1, .int x1] s44 (fun s45 => CallU d mX3_addTurn [.ref 1, .int x2] s45 (fun s46 => CallU d mX3_addTurn [.ref 1, .int x3] s46 (fun s47 => CallU d mX3_addTurn [.ref 1, .int x4] s47 (fun s48 => CallI d mX3_turnCount [.ref 1] s48 (fun r50 s49 => K r50 s49)))))))) ∧ (¬ x4 = 0 → K (-1) s10))))) ∧ (r11 = 0 → K (-1) s10))))))))) : CallI (d + 1) mX5_spacings [.ref 0, .int x1, .int x2, .int x3, .int x4] σ K := Call_of_Go (by decide +kernel) (ls := [.ref 0, .int x1, .int x2, .int x3, .int x4]) rfl (Nat.le_of_ble_eq_true rfl) (sgX5_spacings_0 h)
set_option maxHeartbeats 4000000 in
set_option maxRecDepth 100000 in
theorem sgX5_set_0 {d : Nat} {σ : St} {x1 : Int32} {x2 : Int32} {K : Int32 → St → Prop} (h : (¬ x1 = 0 → (¬ x1 = 1 → K (-1) σ) ∧ (x1 = 1 → CallI d mX5_isWithin [.int x2, .int 1, .int 99] σ (fun r4 s3 => (r4 = 0 → K (-1) s3) ∧ (¬ r4 = 0 → CallU d mX5_remember [.ref 0] s3 (fun s6 => CallI d mX3_changeLoud [.ref 1, .int x2] s6 (fun r8 s7 => K r8 s7)))))) ∧ (x1 = 0 → CallI d mX5_isWithin [.int x2, .int 0, .int 9] σ (fun r10 s9 => (r10 = 0 → (¬ x1 = 1 → K (-1) s9) ∧ (x1 = 1 → CallI d mX5_isWithin [.int x2, .int 1, .int 99] s9 (fun r14 s13 => (r14 = 0 → K (-1) s13) ∧ (¬ r14 = 0 → CallU d mX5_remember [.ref 0] s13 (fun s16 => CallI d mX3_changeLoud [.ref 1, .int x2] s16 (fun r18 s17 => K r18 s17)))))) ∧ (¬ r10 = 0 → CallU d mX5_remember [.ref 0] s9 (fun s19 => CallI d mX3_changeBlind [.ref 1, .int x2] s19 (fun r21 s20 => K r21 s20)))))) : Go mX5_set (d + 1) 0 [.ref 0, .int x1, .int x2] [] σ (QI K) := by
  refine Go.iload_n 1 dX5_set_0 rfl rfl (?_ : Go _ _ 1 _ _ _ _)
  refine Go.if_ne 27 dX5_set_1 rfl ⟨fun c1 => ?_, fun c1 => (?_ : Go _ _ 4 _ _ _ _)⟩
  · have h := h.1 c1
    refine Go.iload_n 1 dX5_set_27 rfl rfl (?_ : Go _ _ 28 _ _ _ _)
    refine Go.iconst dX5_set_28 k_ic_1 (?_ : Go _ _ 29 _ _ _ _)
    refine Go.icmp_ne 55 dX5_set_29 rfl ⟨fun c2 => ?_, fun c2 => (?_ : Go _ _ 32 _ _ _ _)⟩
    · have h := h.1 c2
      refine Go.iconst dX5_set_55 k_ic_m1 (?_ : Go _ _ 56 _ _ _ _)
      exact Go.iret rfl dX5_set_56 ⟨_, rfl, h⟩
    · have h := h.2 c2
      refine Go.iload_n 2 dX5_set_32 rfl rfl (?_ : Go _ _ 33 _ _ _ _)
      refine Go.iconst dX5_set_33 k_ic_1 (?_ : Go _ _ 34 _ _ _ _)
      refine Go.bipush dX5_set_34 k_bi_99 (?_ : Go _ _ 36 _ _ _ _)
      refine Go.callS (as := [.int x2, .int 1, .int 99]) (st := []) mk_X5_isWithin wl_X5_102 rfl rfl (Nat.le_of_ble_eq_true rfl) dX5_set_36 h ?_
      rintro _ s3 ⟨r4, rfl, h⟩
      show Go _ _ 39 _ [.int r4] _ _
      refine Go.if_eq 55 dX5_set_39 rfl ⟨fun c5 => ?_, fun c5 => (?_ : Go _ _ 42 _ _ _ _)⟩
      · have h := h.1 c5
        refine Go.iconst dX5_set_55 k_ic_m1 (?_ : Go _ _ 56 _ _ _ _)
        exact Go.iret rfl dX5_set_56 ⟨_, rfl, h⟩
      · have h := h.2 c5
        refine Go.aload_n 0 dX5_set_42 rfl rfl (?_ : Go _ _ 43 _ _ _ _)
        refine Go.callV (as := []) (st := []) mk_X5_remember wl_X5_66 shq_0 rfl rfl (Nat.le_of_ble_eq_true rfl) dX5_set_43 h ?_
        rintro _ s6 ⟨rfl, h⟩
        show Go _ _ 46 _ [] _ _
        refine Go.aload_n 0 dX5_set_46 rfl rfl (?_ : Go _ _ 47 _ _ _ _)
        refine Go.getR fk_X5_12 shq_0 frq_0_0 dX5_set_47 (?_ : Go _ _ 50 _ _ _ _)
        refine Go.iload_n 2 dX5_set_50 rfl rfl (?_ : Go _ _ 51 _ _ _ _)
        refine Go.callV (as := [.int x2]) (st := []) mk_X3_changeLoud wl_X5_110 shq_1 rfl rfl (Nat.le_of_ble_eq_true rfl) dX5_set_51 h ?_
        rintro _ s7 ⟨r8, rfl, h⟩
        show Go _ _ 54 _ [.int r8] _ _
        exact Go.iret rfl dX5_set_54 ⟨_, rfl, h⟩
  · have h := h.2 c1
    refine Go.iload_n 2 dX5_set_4 rfl rfl (?_ : Go _ _ 5 _ _ _ _)
    refine Go.iconst dX5_set_5 k_ic_0 (?_ : Go _ _ 6 _ _ _ _)
    refine Go.bipush dX5_set_6 k_bi_9 (?_ : Go _ _ 8 _ _ _ _)
    refine Go.callS (as := [.int x2, .int 0, .int 9]) (st := []) mk_X5_isWithin wl_X5_102 rfl rfl (Nat.le_of_ble_eq_true rfl) dX5_set_8 h ?_
    rintro _ s9 ⟨r10, rfl, h⟩
    show Go _ _ 11 _ [.int r10] _ _
    refine Go.if_eq 27 dX5_set_11 rfl ⟨fun c11 => ?_, fun c11 => (?_ : Go _ _ 14 _ _ _ _)⟩
    · have h := h.1 c11
      refine Go.iload_n 1 dX5_set_27 rfl rfl (?_ : Go _ _ 28 _ _ _ _)
      refine Go.iconst dX5_set_28 k_ic_1 (?_ : Go _ _ 29 _ _ _ _)
      refine Go.icmp_ne 55 dX5_set_29 rfl ⟨fun c12 => ?_, fun c12 => (?_ : Go _ _ 32 _ _ _ _)⟩
      · have h := h.1 c12
        refine Go.iconst dX5_set_55 k_ic_m1 (?_ : Go _ _ 56 _ _ _ _)
        exact Go.iret rfl dX5_set_56 ⟨_, rfl, h⟩
      · have h := h.2 c12
        refine Go.iload_n 2 dX5_set_32 rfl rfl (?_ : Go _ _ 33 _ _ _ _)
        refine Go.iconst dX5_set_33 k_ic_1 (?_ : Go _ _ 34 _ _ _ _)
        refine Go.bipush dX5_set_34 k_bi_99 (?_ : Go _ _ 36 _ _ _ _)
        refine Go.callS (as := [.int x2, .int 1, .int 99]) (st := []) mk_X5_isWithin wl_X5_102 rfl rfl (Nat.le_of_ble_eq_true rfl) dX5_set_36 h ?_
        rintro _ s13 ⟨r14, rfl, h⟩
        show Go _ _ 39 _ [.int r14] _ _
        refine Go.if_eq 55 dX5_set_39 rfl ⟨fun c15 => ?_, fun c15 => (?_ : Go _ _ 42 _ _ _ _)⟩
        · have h := h.1 c15
          refine Go.iconst dX5_set_55 k_ic_m1 (?_ : Go _ _ 56 _ _ _ _)
          exact Go.iret rfl dX5_set_56 ⟨_, rfl, h⟩
        · have h := h.2 c15
          refine Go.aload_n 0 dX5_set_42 rfl rfl (?_ : Go _ _ 43 _ _ _ _)
          refine Go.callV (as := []) (st := []) mk_X5_remember wl_X5_66 shq_0 rfl rfl (Nat.le_of_ble_eq_true rfl) dX5_set_43 h ?_
          rintro _ s16 ⟨rfl, h⟩
          show Go _ _ 46 _ [] _ _
          refine Go.aload_n 0 dX5_set_46 rfl rfl (?_ : Go _ _ 47 _ _ _ _)
          refine Go.getR fk_X5_12 shq_0 frq_0_0 dX5_set_47 (?_ : Go _ _ 50 _ _ _ _)
          refine Go.iload_n 2 dX5_set_50 rfl rfl (?_ : Go _ _ 51 _ _ _ _)
          refine Go.callV (as := [.int x2]) (st := []) mk_X3_changeLoud wl_X5_110 shq_1 rfl rfl (Nat.le_of_ble_eq_true rfl) dX5_set_51 h ?_
          rintro _ s17 ⟨r18, rfl, h⟩
          show Go _ _ 54 _ [.int r18] _ _
          exact Go.iret rfl dX5_set_54 ⟨_, rfl, h⟩
    · have h := h.2 c11
      refine Go.aload_n 0 dX5_set_14 rfl rfl (?_ : Go _ _ 15 _ _ _ _)
      refine Go.callV (as := []) (st := []) mk_X5_remember wl_X5_66 shq_0 rfl rfl (Nat.le_of_ble_eq_true rfl) dX5_set_15 h ?_
      rintro _ s19 ⟨rfl, h⟩
      show Go _ _ 18 _ [] _ _
      refine Go.aload_n 0 dX5_set_18 rfl rfl (?_ : Go _ _ 19 _ _ _ _)
      refine Go.getR fk_X5_12 shq_0 frq_0_0 dX5_set_19 (?_ : Go _ _ 22 _ _ _ _)
      refine Go.iload_n 2 dX5_set_22 rfl rfl (?_ : Go _ _ 23 _ _ _ _)
      refine Go.callV (as := [.int x2]) (st := []) mk_X3_changeBlind wl_X5_106 shq_1 rfl rfl (Nat.le_of_ble_eq_true rfl) dX5_set_23 h ?_
      rintro _ s20 ⟨r21, rfl, h⟩
      show Go _ _ 26 _ [.int r21] _ _
      exact Go.iret rfl dX5_set_26 ⟨_, rfl, h⟩
theorem cgX5_set {d : Nat} {σ : St} {x1 : Int32} {x2 : Int32} {K : Int32 → St → Prop} (h : (¬ x1 = 0 → (¬ x1 = 1 → K (-1) σ) ∧ (x1 = 1 → CallI d mX5_isWithin [.int x2, .int 1, .int 99] σ (fun r4 s3 => (r4 = 0 → K (-1) s3) ∧ (¬ r4 = 0 → CallU d mX5_remember [.ref 0] s3 (fun s6 => CallI d mX3_changeLoud [.ref 1, .int x2] s6 (fun r8 s7 => K r8 s7)))))) ∧ (x1 = 0 → CallI d mX5_isWithin [.int x2, .int 0, .int 9] σ (fun r10 s9 => (r10 = 0 → (¬ x1 = 1 → K (-1) s9) ∧ (x1 = 1 → CallI d mX5_isWithin [.int x2, .int 1, .int 99] s9 (fun r14 s13 => (r14 = 0 → K (-1) s13) ∧ (¬ r14 = 0 → CallU d mX5_remember [.ref 0] s13 (fun s16 => CallI d mX3_changeLoud [.ref 1, .int x2] s16 (fun r18 s17 => K r18 s17)))))) ∧ (¬ r10 = 0 → CallU d mX5_remember [.ref 0] s9 (fun s19 => CallI d mX3_changeBlind [.ref 1, .int x2] s19 (fun r21 s20 => K r21 s20)))))) : CallI (d + 1) mX5_set [.ref 0, .int x1, .int x2] σ K := Call_of_Go (by decide +kernel) (ls := [.ref 0, .int x1, .int x2]) rfl (Nat.le_of_ble_eq_true rfl) (sgX5_set_0 h)
set_option maxHeartbeats 4000000 in
set_option maxRecDepth 100000 in
theorem sgX5_targetOf_0 {d : Nat} {σ : St} {x1 : Int32} {x2 : Int32} {K : Int32 → St → Prop} (h : CallI d mX3_has [.ref 1, .int x1] σ (fun r2 s1 => (r2 = 0 → K (-1) s1) ∧ (¬ r2 = 0 → CallI d mX5_isWithin [.int x2, .int 0, .int 6] s1 (fun r5 s4 => (¬ r5 = 0 → (x2 = 0 → CallI d mX3_distanceOf [.ref 1, .int x1] s4 (fun r9 s8 => K r9 s8)) ∧ (¬ x2 = 0 → (x2 = 1 → CallI d mX3_strengthOf [.ref 1, .int x1] s4 (fun r12 s11 => K r12 s11)) ∧ (¬ x2 = 1 → (x2 = 2 → CallI d mX3_movementOf [.ref 1, .int x1] s4 (fun r15 s14 => K (r15 + 5) s14)) ∧ (¬ x2 = 2 → (x2 = 3 → CallI d mX3_isWall [.ref 1, .int x1] s4 (fun r18 s17 => CallI d mX5_asNumber [.int r18] s17 (fun r20 s19 => K r20 s19))) ∧ (¬ x2 = 3 → CallI d mX5_heardOf [.ref 0, .int x1, .int x2] s4 (fun r22 s21 => K r22 s21)))))) ∧ (r5 = 0 → K (-1) s4))))) : Go mX5_targetOf (d + 1) 0 [.ref 0, .int x1, .int x2] [] σ (QI K) := by
  refine Go.aload_n 0 dX5_targetOf_0 rfl rfl (?_ : Go _ _ 1 _ _ _ _)
  refine Go.getR fk_X5_12 shq_0 frq_0_0 dX5_targetOf_1 (?_ : Go _ _ 4 _ _ _ _)
  refine Go.iload_n 1 dX5_targetOf_4 rfl rfl (?_ : Go _ _ 5 _ _ _ _)
  refine Go.callV (as := [.int x1]) (st := []) mk_X3_has wl_X5_72 shq_1 rfl rfl (Nat.le_of_ble_eq_true rfl) dX5_targetOf_5 h ?_
  rintro _ s1 ⟨r2, rfl, h⟩
  show Go _ _ 8 _ [.int r2] _ _
  refine Go.if_eq 21 dX5_targetOf_8 rfl ⟨fun c3 => ?_, fun c3 => (?_ : Go _ _ 11 _ _ _ _)⟩
  · have h := h.1 c3
    refine Go.iconst dX5_targetOf_21 k_ic_m1 (?_ : Go _ _ 22 _ _ _ _)
    exact Go.iret rfl dX5_targetOf_22 ⟨_, rfl, h⟩
  · have h := h.2 c3
    refine Go.iload_n 2 dX5_targetOf_11 rfl rfl (?_ : Go _ _ 12 _ _ _ _)
    refine Go.iconst dX5_targetOf_12 k_ic_0 (?_ : Go _ _ 13 _ _ _ _)
    refine Go.bipush dX5_targetOf_13 k_bi_6 (?_ : Go _ _ 15 _ _ _ _)
    refine Go.callS (as := [.int x2, .int 0, .int 6]) (st := []) mk_X5_isWithin wl_X5_102 rfl rfl (Nat.le_of_ble_eq_true rfl) dX5_targetOf_15 h ?_
    rintro _ s4 ⟨r5, rfl, h⟩
    show Go _ _ 18 _ [.int r5] _ _
    refine Go.if_ne 23 dX5_targetOf_18 rfl ⟨fun c6 => ?_, fun c6 => (?_ : Go _ _ 21 _ _ _ _)⟩
    · have h := h.1 c6
      refine Go.iload_n 2 dX5_targetOf_23 rfl rfl (?_ : Go _ _ 24 _ _ _ _)
      refine Go.tsw [(0, 56), (1, 65), (2, 74), (3, 85)] 97 dX5_targetOf_24 (by decide +kernel) ?_
      refine And.intro (fun c7 => ?_) (fun c7 => ?_)
      · have h := h.1 c7
        show Go _ _ 56 _ _ _ _
        refine Go.aload_n 0 dX5_targetOf_56 rfl rfl (?_ : Go _ _ 57 _ _ _ _)
        refine Go.getR fk_X5_12 shq_0 frq_0_0 dX5_targetOf_57 (?_ : Go _ _ 60 _ _ _ _)
        refine Go.iload_n 1 dX5_targetOf_60 rfl rfl (?_ : Go _ _ 61 _ _ _ _)
        refine Go.callV (as := [.int x1]) (st := []) mk_X3_distanceOf wl_X5_143 shq_1 rfl rfl (Nat.le_of_ble_eq_true rfl) dX5_targetOf_61 h ?_
        rintro _ s8 ⟨r9, rfl, h⟩
        show Go _ _ 64 _ [.int r9] _ _
        exact Go.iret rfl dX5_targetOf_64 ⟨_, rfl, h⟩
      · have h := h.2 c7
        refine And.intro (fun c10 => ?_) (fun c10 => ?_)
        · have h := h.1 c10
          show Go _ _ 65 _ _ _ _
          refine Go.aload_n 0 dX5_targetOf_65 rfl rfl (?_ : Go _ _ 66 _ _ _ _)
          refine Go.getR fk_X5_12 shq_0 frq_0_0 dX5_targetOf_66 (?_ : Go _ _ 69 _ _ _ _)
          refine Go.iload_n 1 dX5_targetOf_69 rfl rfl (?_ : Go _ _ 70 _ _ _ _)
          refine Go.callV (as := [.int x1]) (st := []) mk_X3_strengthOf wl_X5_146 shq_1 rfl rfl (Nat.le_of_ble_eq_true rfl) dX5_targetOf_70 h ?_
          rintro _ s11 ⟨r12, rfl, h⟩
          show Go _ _ 73 _ [.int r12] _ _
          exact Go.iret rfl dX5_targetOf_73 ⟨_, rfl, h⟩
        · have h := h.2 c10
          refine And.intro (fun c13 => ?_) (fun c13 => ?_)
          · have h := h.1 c13
            show Go _ _ 74 _ _ _ _
            refine Go.aload_n 0 dX5_targetOf_74 rfl rfl (?_ : Go _ _ 75 _ _ _ _)
            refine Go.getR fk_X5_12 shq_0 frq_0_0 dX5_targetOf_75 (?_ : Go _ _ 78 _ _ _ _)
            refine Go.iload_n 1 dX5_targetOf_78 rfl rfl (?_ : Go _ _ 79 _ _ _ _)
            refine Go.callV (as := [.int x1]) (st := []) mk_X3_movementOf wl_X5_149 shq_1 rfl rfl (Nat.le_of_ble_eq_true rfl) dX5_targetOf_79 h ?_
            rintro _ s14 ⟨r15, rfl, h⟩
            show Go _ _ 82 _ [.int r15] _ _
            refine Go.iconst dX5_targetOf_82 k_ic_5 (?_ : Go _ _ 83 _ _ _ _)
            refine Go.iadd dX5_targetOf_83 (?_ : Go _ _ 84 _ _ _ _)
            exact Go.iret rfl dX5_targetOf_84 ⟨_, rfl, h⟩
          · have h := h.2 c13
            refine And.intro (fun c16 => ?_) (fun c16 => ?_)
            · have h := h.1 c16
              show Go _ _ 85 _ _ _ _
              refine Go.aload_n 0 dX5_targetOf_85 rfl rfl (?_ : Go _ _ 86 _ _ _ _)
              refine Go.getR fk_X5_12 shq_0 frq_0_0 dX5_targetOf_86 (?_ : Go _ _ 89 _ _ _ _)
              refine Go.iload_n 1 dX5_targetOf_89 rfl rfl (?_ : Go _ _ 90 _ _ _ _)
              refine Go.callV (as := [.int x1]) (st := []) mk_X3_isWall wl_X5_152 shq_1 rfl rfl (Nat.le_of_ble_eq_true rfl) dX5_targetOf_90 h ?_
              rintro _ s17 ⟨r18, rfl, h⟩
              show Go _ _ 93 _ [.int r18] _ _
              refine Go.callS (as := [.int r18]) (st := []) mk_X5_asNumber wl_X5_155 rfl rfl (Nat.le_of_ble_eq_true rfl) dX5_targetOf_93 h ?_
              rintro _ s19 ⟨r20, rfl, h⟩
              show Go _ _ 96 _ [.int r20] _ _
              exact Go.iret rfl dX5_targetOf_96 ⟨_, rfl, h⟩
            · have h := h.2 c16
              show Go _ _ 97 _ _ _ _
              refine Go.aload_n 0 dX5_targetOf_97 rfl rfl (?_ : Go _ _ 98 _ _ _ _)
              refine Go.iload_n 1 dX5_targetOf_98 rfl rfl (?_ : Go _ _ 99 _ _ _ _)
              refine Go.iload_n 2 dX5_targetOf_99 rfl rfl (?_ : Go _ _ 100 _ _ _ _)
              refine Go.callV (as := [.int x1, .int x2]) (st := []) mk_X5_heardOf wl_X5_159 shq_0 rfl rfl (Nat.le_of_ble_eq_true rfl) dX5_targetOf_100 h ?_
              rintro _ s21 ⟨r22, rfl, h⟩
              show Go _ _ 103 _ [.int r22] _ _
              exact Go.iret rfl dX5_targetOf_103 ⟨_, rfl, h⟩
    · have h := h.2 c6
      refine Go.iconst dX5_targetOf_21 k_ic_m1 (?_ : Go _ _ 22 _ _ _ _)
      exact Go.iret rfl dX5_targetOf_22 ⟨_, rfl, h⟩
theorem cgX5_targetOf {d : Nat} {σ : St} {x1 : Int32} {x2 : Int32} {K : Int32 → St → Prop} (h : CallI d mX3_has [.ref 1, .int x1] σ (fun r2 s1 => (r2 = 0 → K (-1) s1) ∧ (¬ r2 = 0 → CallI d mX5_isWithin [.int x2, .int 0, .int 6] s1 (fun r5 s4 => (¬ r5 = 0 → (x2 = 0 → CallI d mX3_distanceOf [.ref 1, .int x1] s4 (fun r9 s8 => K r9 s8)) ∧ (¬ x2 = 0 → (x2 = 1 → CallI d mX3_strengthOf [.ref 1, .int x1] s4 (fun r12 s11 => K r12 s11)) ∧ (¬ x2 = 1 → (x2 = 2 → CallI d mX3_movementOf [.ref 1, .int x1] s4 (fun r15 s14 => K (r15 + 5) s14)) ∧ (¬ x2 = 2 → (x2 = 3 → CallI d mX3_isWall [.ref 1, .int x1] s4 (fun r18 s17 => CallI d mX5_asNumber [.int r18] s17 (fun r20 s19 => K r20 s19))) ∧ (¬ x2 = 3 → CallI d mX5_heardOf [.ref 0, .int x1, .int x2] s4 (fun r22 s21 => K r22 s21)))))) ∧ (r5 = 0 → K (-1) s4))))) : CallI (d + 1) mX5_targetOf [.ref 0, .int x1, .int x2] σ K := Call_of_Go (by decide +kernel) (ls := [.ref 0, .int x1, .int x2]) rfl (Nat.le_of_ble_eq_true rfl) (sgX5_targetOf_0 h)
set_option maxHeartbeats 4000000 in
set_option maxRecDepth 100000 in
theorem sgX5_ghost_0 {d : Nat} {σ : St} {x1 : Int32} {x2 : Int32} {K : Int32 → St → Prop} (h : (x1 < 0 → K (-1) σ) ∧ (¬ x1 < 0 → CallI d mX5_isWithin [.int x2, .int 0, .int 4] σ (fun r3 s2 => (¬ r3 = 0 → CallU d mX0_listen [.ref 54, .ref 1] s2 (fun s5 => CallI d mX0_ghostCount [.ref 54] s5 (fun r7 s6 => (x1 < r7 → CallI d mX3_targetCount [.ref 1] s6 (fun r10 s9 => (x2 = 0 → CallI d mX0_distanceOf [.ref 54, .int (r10 + x1)] s9 (fun r13 s12 => K r13 s12)) ∧ (¬ x2 = 0 → (x2 = 1 → CallI d mX0_strengthOf [.ref 54, .int (r10 + x1)] s9 (fun r16 s15 => K r16 s15)) ∧ (¬ x2 = 1 → (x2 = 2 → CallI d mX0_lesserWall [.ref 54, .int (r10 + x1)] s9 (fun r19 s18 => K r19 s18)) ∧ (¬ x2 = 2 → (x2 = 3 → CallI d mX0_greaterWall [.ref 54, .int (r10 + x1)] s9 (fun r22 s21 => K r22 s21)) ∧ (¬ x2 = 3 → CallI d mX0_isToldSource [.ref 54, .int (r10 + x1)] s9 (fun r24 s23 => CallI d mX5_asNumber [.int r24] s23 (fun r26 s25 => K r26 s25)))))))) ∧ (¬ x1 < r7 → K (-4) s6)))) ∧ (r3 = 0 → K (-1) s2)))) : Go mX5_ghost (d + 1) 0 [.ref 0, .int x1, .int x2, .null] [] σ (QI K) := by
  refine Go.iload_n 1 dX5_ghost_0 rfl rfl (?_ : Go _ _ 1 _ _ _ _)
  refine Go.if_lt 13 dX5_ghost_1 rfl ⟨fun c1 => ?_, fun c1 => (?_ : Go _ _ 4 _ _ _ _)⟩
  · have h := h.1 c1
    refine Go.iconst dX5_ghost_13 k_ic_m1 (?_ : Go _ _ 14 _ _ _ _)
    exact Go.iret rfl dX5_ghost_14 ⟨_, rfl, h⟩
  · have h := h.2 c1
    refine Go.iload_n 2 dX5_ghost_4 rfl rfl (?_ : Go _ _ 5 _ _ _ _)
    refine Go.iconst dX5_ghost_5 k_ic_0 (?_ : Go _ _ 6 _ _ _ _)
    refine Go.iconst dX5_ghost_6 k_ic_4 (?_ : Go _ _ 7 _ _ _ _)
    refine Go.callS (as := [.int x2, .int 0, .int 4]) (st := []) mk_X5_isWithin wl_X5_102 rfl rfl (Nat.le_of_ble_eq_true rfl) dX5_ghost_7 h ?_
    rintro _ s2 ⟨r3, rfl, h⟩
    show Go _ _ 10 _ [.int r3] _ _
    refine Go.if_ne 15 dX5_ghost_10 rfl ⟨fun c4 => ?_, fun c4 => (?_ : Go _ _ 13 _ _ _ _)⟩
    · have h := h.1 c4
      refine Go.aload_n 0 dX5_ghost_15 rfl rfl (?_ : Go _ _ 16 _ _ _ _)
      refine Go.getR fk_X5_50 shq_0 frq_0_7 dX5_ghost_16 (?_ : Go _ _ 19 _ _ _ _)
      refine Go.aload_n 0 dX5_ghost_19 rfl rfl (?_ : Go _ _ 20 _ _ _ _)
      refine Go.getR fk_X5_12 shq_0 frq_0_0 dX5_ghost_20 (?_ : Go _ _ 23 _ _ _ _)
      refine Go.callV (as := [.ref 1]) (st := []) mk_X0_listen wl_X5_163 shq_54 rfl rfl (Nat.le_of_ble_eq_true rfl) dX5_ghost_23 h ?_
      rintro _ s5 ⟨rfl, h⟩
      show Go _ _ 26 _ [] _ _
      refine Go.iload_n 1 dX5_ghost_26 rfl rfl (?_ : Go _ _ 27 _ _ _ _)
      refine Go.aload_n 0 dX5_ghost_27 rfl rfl (?_ : Go _ _ 28 _ _ _ _)
      refine Go.getR fk_X5_50 shq_0 frq_0_7 dX5_ghost_28 (?_ : Go _ _ 31 _ _ _ _)
      refine Go.callV (as := []) (st := [.int x1]) mk_X0_ghostCount wl_X5_166 shq_54 rfl rfl (Nat.le_of_ble_eq_true rfl) dX5_ghost_31 h ?_
      rintro _ s6 ⟨r7, rfl, h⟩
      show Go _ _ 34 _ [.int r7, .int x1] _ _
      refine Go.icmp_lt 40 dX5_ghost_34 rfl ⟨fun c8 => ?_, fun c8 => (?_ : Go _ _ 37 _ _ _ _)⟩
      · have h := h.1 c8
        refine Go.aload_n 0 dX5_ghost_40 rfl rfl (?_ : Go _ _ 41 _ _ _ _)
        refine Go.getR fk_X5_12 shq_0 frq_0_0 dX5_ghost_41 (?_ : Go _ _ 44 _ _ _ _)
        refine Go.callV (as := []) (st := []) mk_X3_targetCount wl_X5_80 shq_1 rfl rfl (Nat.le_of_ble_eq_true rfl) dX5_ghost_44 h ?_
        rintro _ s9 ⟨r10, rfl, h⟩
        show Go _ _ 47 _ [.int r10] _ _
        refine Go.iload_n 1 dX5_ghost_47 rfl rfl (?_ : Go _ _ 48 _ _ _ _)
        refine Go.iadd dX5_ghost_48 (?_ : Go _ _ 49 _ _ _ _)
        refine Go.istore_n 3 dX5_ghost_49 rfl (by decide) rfl rfl (?_ : Go _ _ 50 [.ref 0, .int x1, .int x2, .int (r10 + x1)] _ _ _)
        refine Go.iload_n 2 dX5_ghost_50 rfl rfl (?_ : Go _ _ 51 _ _ _ _)
        refine Go.tsw [(0, 80), (1, 89), (2, 98), (3, 107)] 116 dX5_ghost_51 (by decide +kernel) ?_
        refine And.intro (fun c11 => ?_) (fun c11 => ?_)
        · have h := h.1 c11
          show Go _ _ 80 _ _ _ _
          refine Go.aload_n 0 dX5_ghost_80 rfl rfl (?_ : Go _ _ 81 _ _ _ _)
          refine Go.getR fk_X5_50 shq_0 frq_0_7 dX5_ghost_81 (?_ : Go _ _ 84 _ _ _ _)
          refine Go.iload_n 3 dX5_ghost_84 rfl rfl (?_ : Go _ _ 85 _ _ _ _)
          refine Go.callV (as := [.int (r10 + x1)]) (st := []) mk_X0_distanceOf wl_X5_169 shq_54 rfl rfl (Nat.le_of_ble_eq_true rfl) dX5_ghost_85 h ?_
          rintro _ s12 ⟨r13, rfl, h⟩
          show Go _ _ 88 _ [.int r13] _ _
          exact Go.iret rfl dX5_ghost_88 ⟨_, rfl, h⟩
        · have h := h.2 c11
          refine And.intro (fun c14 => ?_) (fun c14 => ?_)
          · have h := h.1 c14
            show Go _ _ 89 _ _ _ _
            refine Go.aload_n 0 dX5_ghost_89 rfl rfl (?_ : Go _ _ 90 _ _ _ _)
            refine Go.getR fk_X5_50 shq_0 frq_0_7 dX5_ghost_90 (?_ : Go _ _ 93 _ _ _ _)
            refine Go.iload_n 3 dX5_ghost_93 rfl rfl (?_ : Go _ _ 94 _ _ _ _)
            refine Go.callV (as := [.int (r10 + x1)]) (st := []) mk_X0_strengthOf wl_X5_170 shq_54 rfl rfl (Nat.le_of_ble_eq_true rfl) dX5_ghost_94 h ?_
            rintro _ s15 ⟨r16, rfl, h⟩
            show Go _ _ 97 _ [.int r16] _ _
            exact Go.iret rfl dX5_ghost_97 ⟨_, rfl, h⟩
          · have h := h.2 c14
            refine And.intro (fun c17 => ?_) (fun c17 => ?_)
            · have h := h.1 c17
              show Go _ _ 98 _ _ _ _
              refine Go.aload_n 0 dX5_ghost_98 rfl rfl (?_ : Go _ _ 99 _ _ _ _)
              refine Go.getR fk_X5_50 shq_0 frq_0_7 dX5_ghost_99 (?_ : Go _ _ 102 _ _ _ _)
              refine Go.iload_n 3 dX5_ghost_102 rfl rfl (?_ : Go _ _ 103 _ _ _ _)
              refine Go.callV (as := [.int (r10 + x1)]) (st := []) mk_X0_lesserWall wl_X5_171 shq_54 rfl rfl (Nat.le_of_ble_eq_true rfl) dX5_ghost_103 h ?_
              rintro _ s18 ⟨r19, rfl, h⟩
              show Go _ _ 106 _ [.int r19] _ _
              exact Go.iret rfl dX5_ghost_106 ⟨_, rfl, h⟩
            · have h := h.2 c17
              refine And.intro (fun c20 => ?_) (fun c20 => ?_)
              · have h := h.1 c20
                show Go _ _ 107 _ _ _ _
                refine Go.aload_n 0 dX5_ghost_107 rfl rfl (?_ : Go _ _ 108 _ _ _ _)
                refine Go.getR fk_X5_50 shq_0 frq_0_7 dX5_ghost_108 (?_ : Go _ _ 111 _ _ _ _)
                refine Go.iload_n 3 dX5_ghost_111 rfl rfl (?_ : Go _ _ 112 _ _ _ _)
                refine Go.callV (as := [.int (r10 + x1)]) (st := []) mk_X0_greaterWall wl_X5_174 shq_54 rfl rfl (Nat.le_of_ble_eq_true rfl) dX5_ghost_112 h ?_
                rintro _ s21 ⟨r22, rfl, h⟩
                show Go _ _ 115 _ [.int r22] _ _
                exact Go.iret rfl dX5_ghost_115 ⟨_, rfl, h⟩
              · have h := h.2 c20
                show Go _ _ 116 _ _ _ _
                refine Go.aload_n 0 dX5_ghost_116 rfl rfl (?_ : Go _ _ 117 _ _ _ _)
                refine Go.getR fk_X5_50 shq_0 frq_0_7 dX5_ghost_117 (?_ : Go _ _ 120 _ _ _ _)
                refine Go.iload_n 3 dX5_ghost_120 rfl rfl (?_ : Go _ _ 121 _ _ _ _)
                refine Go.callV (as := [.int (r10 + x1)]) (st := []) mk_X0_isToldSource wl_X5_177 shq_54 rfl rfl (Nat.le_of_ble_eq_true rfl) dX5_ghost_121 h ?_
                rintro _ s23 ⟨r24, rfl, h⟩
                show Go _ _ 124 _ [.int r24] _ _
                refine Go.callS (as := [.int r24]) (st := []) mk_X5_asNumber wl_X5_155 rfl rfl (Nat.le_of_ble_eq_true rfl) dX5_ghost_124 h ?_
                rintro _ s25 ⟨r26, rfl, h⟩
                show Go _ _ 127 _ [.int r26] _ _
                exact Go.iret rfl dX5_ghost_127 ⟨_, rfl, h⟩
      · have h := h.2 c8
        refine Go.bipush dX5_ghost_37 k_bi_m4 (?_ : Go _ _ 39 _ _ _ _)
        exact Go.iret rfl dX5_ghost_39 ⟨_, rfl, h⟩
    · have h := h.2 c4
      refine Go.iconst dX5_ghost_13 k_ic_m1 (?_ : Go _ _ 14 _ _ _ _)
      exact Go.iret rfl dX5_ghost_14 ⟨_, rfl, h⟩
theorem cgX5_ghost {d : Nat} {σ : St} {x1 : Int32} {x2 : Int32} {K : Int32 → St → Prop} (h : (x1 < 0 → K (-1) σ) ∧ (¬ x1 < 0 → CallI d mX5_isWithin [.int x2, .int 0, .int 4] σ (fun r3 s2 => (¬ r3 = 0 → CallU d mX0_listen [.ref 54, .ref 1] s2 (fun s5 => CallI d mX0_ghostCount [.ref 54] s5 (fun r7 s6 => (x1 < r7 → CallI d mX3_targetCount [.ref 1] s6 (fun r10 s9 => (x2 = 0 → CallI d mX0_distanceOf [.ref 54, .int (r10 + x1)] s9 (fun r13 s12 => K r13 s12)) ∧ (¬ x2 = 0 → (x2 = 1 → CallI d mX0_strengthOf [.ref 54, .int (r10 + x1)] s9 (fun r16 s15 => K r16 s15)) ∧ (¬ x2 = 1 → (x2 = 2 → CallI d mX0_lesserWall [.ref 54, .int (r10 + x1)] s9 (fun r19 s18 => K r19 s18)) ∧ (¬ x2 = 2 → (x2 = 3 → CallI d mX0_greaterWall [.ref 54, .int (r10 + x1)] s9 (fun r22 s21 => K r22 s21)) ∧ (¬ x2 = 3 → CallI d mX0_isToldSource [.ref 54, .int (r10 + x1)] s9 (fun r24 s23 => CallI d mX5_asNumber [.int r24] s23 (fun r26 s25 => K r26 s25)))))))) ∧ (¬ x1 < r7 → K (-4) s6)))) ∧ (r3 = 0 → K (-1) s2)))) : CallI (d + 1) mX5_ghost [.ref 0, .int x1, .int x2] σ K := Call_of_Go (by decide +kernel) (ls := [.ref 0, .int x1, .int x2, .null]) rfl (Nat.le_of_ble_eq_true rfl) (sgX5_ghost_0 h)
set_option maxHeartbeats 4000000 in
set_option maxRecDepth 100000 in
theorem sgX5_echo_0 {d : Nat} {σ : St} {x1 : Int32} {x2 : Int32} {x3 : Int32} {K : Int32 → St → Prop} (h : CallI d mX3_hasTurn [.ref 1, .int x1] σ (fun r2 s1 => (r2 = 0 → K (-1) s1) ∧ (¬ r2 = 0 → (x2 < 0 → K (-1) s1) ∧ (¬ x2 < 0 → CallI d mX5_isWithin [.int x3, .int 0, .int 3] s1 (fun r6 s5 => (¬ r6 = 0 → CallU d mX0_listen [.ref 54, .ref 1] s5 (fun s8 => CallI d mX0_findEcho [.ref 54, .int x1, .int x2] s8 (fun r10 s9 => (0 ≤ r10 → (x3 = 0 → K (r10 / 11) s9) ∧ (¬ x3 = 0 → (x3 = 1 → K (((irem r10 11) - 5) + 5) s9) ∧ (¬ x3 = 1 → (x3 = 2 → CallI d mX0_strengthTogether [.ref 54, .int x1, .int (r10 / 11), .int ((irem r10 11) - 5)] s9 (fun r16 s15 => K r16 s15)) ∧ (¬ x3 = 2 → CallI d mX0_sourcesTogether [.ref 54, .int x1, .int (r10 / 11), .int ((irem r10 11) - 5)] s9 (fun r18 s17 => K r18 s17))))) ∧ (¬ 0 ≤ r10 → K (-4) s9)))) ∧ (r6 = 0 → K (-1) s5)))))) : Go mX5_echo (d + 1) 0 [.ref 0, .int x1, .int x2, .int x3, .null, .null, .null] [] σ (QI K) := by
  refine Go.aload_n 0 dX5_echo_0 rfl rfl (?_ : Go _ _ 1 _ _ _ _)
  refine Go.getR fk_X5_12 shq_0 frq_0_0 dX5_echo_1 (?_ : Go _ _ 4 _ _ _ _)
  refine Go.iload_n 1 dX5_echo_4 rfl rfl (?_ : Go _ _ 5 _ _ _ _)
  refine Go.callV (as := [.int x1]) (st := []) mk_X3_hasTurn wl_X5_180 shq_1 rfl rfl (Nat.le_of_ble_eq_true rfl) dX5_echo_5 h ?_
  rintro _ s1 ⟨r2, rfl, h⟩
  show Go _ _ 8 _ [.int r2] _ _
  refine Go.if_eq 24 dX5_echo_8 rfl ⟨fun c3 => ?_, fun c3 => (?_ : Go _ _ 11 _ _ _ _)⟩
  · have h := h.1 c3
    refine Go.iconst dX5_echo_24 k_ic_m1 (?_ : Go _ _ 25 _ _ _ _)
    exact Go.iret rfl dX5_echo_25 ⟨_, rfl, h⟩
  · have h := h.2 c3
    refine Go.iload_n 2 dX5_echo_11 rfl rfl (?_ : Go _ _ 12 _ _ _ _)
    refine Go.if_lt 24 dX5_echo_12 rfl ⟨fun c4 => ?_, fun c4 => (?_ : Go _ _ 15 _ _ _ _)⟩
    · have h := h.1 c4
      refine Go.iconst dX5_echo_24 k_ic_m1 (?_ : Go _ _ 25 _ _ _ _)
      exact Go.iret rfl dX5_echo_25 ⟨_, rfl, h⟩
    · have h := h.2 c4
      refine Go.iload_n 3 dX5_echo_15 rfl rfl (?_ : Go _ _ 16 _ _ _ _)
      refine Go.iconst dX5_echo_16 k_ic_0 (?_ : Go _ _ 17 _ _ _ _)
      refine Go.iconst dX5_echo_17 k_ic_3 (?_ : Go _ _ 18 _ _ _ _)
      refine Go.callS (as := [.int x3, .int 0, .int 3]) (st := []) mk_X5_isWithin wl_X5_102 rfl rfl (Nat.le_of_ble_eq_true rfl) dX5_echo_18 h ?_
      rintro _ s5 ⟨r6, rfl, h⟩
      show Go _ _ 21 _ [.int r6] _ _
      refine Go.if_ne 26 dX5_echo_21 rfl ⟨fun c7 => ?_, fun c7 => (?_ : Go _ _ 24 _ _ _ _)⟩
      · have h := h.1 c7
        refine Go.aload_n 0 dX5_echo_26 rfl rfl (?_ : Go _ _ 27 _ _ _ _)
        refine Go.getR fk_X5_50 shq_0 frq_0_7 dX5_echo_27 (?_ : Go _ _ 30 _ _ _ _)
        refine Go.aload_n 0 dX5_echo_30 rfl rfl (?_ : Go _ _ 31 _ _ _ _)
        refine Go.getR fk_X5_12 shq_0 frq_0_0 dX5_echo_31 (?_ : Go _ _ 34 _ _ _ _)
        refine Go.callV (as := [.ref 1]) (st := []) mk_X0_listen wl_X5_163 shq_54 rfl rfl (Nat.le_of_ble_eq_true rfl) dX5_echo_34 h ?_
        rintro _ s8 ⟨rfl, h⟩
        show Go _ _ 37 _ [] _ _
        refine Go.aload_n 0 dX5_echo_37 rfl rfl (?_ : Go _ _ 38 _ _ _ _)
        refine Go.getR fk_X5_50 shq_0 frq_0_7 dX5_echo_38 (?_ : Go _ _ 41 _ _ _ _)
        refine Go.iload_n 1 dX5_echo_41 rfl rfl (?_ : Go _ _ 42 _ _ _ _)
        refine Go.iload_n 2 dX5_echo_42 rfl rfl (?_ : Go _ _ 43 _ _ _ _)
        refine Go.callV (as := [.int x1, .int x2]) (st := []) mk_X0_findEcho wl_X5_183 shq_54 rfl rfl (Nat.le_of_ble_eq_true rfl) dX5_echo_43 h ?_
        rintro _ s9 ⟨r10, rfl, h⟩
        show Go _ _ 46 _ [.int r10] _ _
        refine Go.istore dX5_echo_46 (by decide) rfl rfl (?_ : Go _ _ 48 [.ref 0, .int x1, .int x2, .int x3, .int r10, .null, .null] _ _ _)
        refine Go.iload dX5_echo_48 rfl (?_ : Go _ _ 50 _ _ _ _)
        refine Go.if_ge 56 dX5_echo_50 rfl ⟨fun c11 => ?_, fun c11 => (?_ : Go _ _ 53 _ _ _ _)⟩
        · have h := h.1 c11
          refine Go.iload dX5_echo_56 rfl (?_ : Go _ _ 58 _ _ _ _)
          refine Go.bipush dX5_echo_58 k_bi_11 (?_ : Go _ _ 60 _ _ _ _)
          refine Go.idiv dX5_echo_60 (by decide) (?_ : Go _ _ 61 _ _ _ _)
          refine Go.istore dX5_echo_61 (by decide) rfl rfl (?_ : Go _ _ 63 [.ref 0, .int x1, .int x2, .int x3, .int r10, .int (r10 / 11), .null] _ _ _)
          refine Go.iload dX5_echo_63 rfl (?_ : Go _ _ 65 _ _ _ _)
          refine Go.bipush dX5_echo_65 k_bi_11 (?_ : Go _ _ 67 _ _ _ _)
          refine Go.irem dX5_echo_67 (by decide) (?_ : Go _ _ 68 _ _ _ _)
          refine Go.iconst dX5_echo_68 k_ic_5 (?_ : Go _ _ 69 _ _ _ _)
          refine Go.isub dX5_echo_69 (?_ : Go _ _ 70 _ _ _ _)
          refine Go.istore dX5_echo_70 (by decide) rfl rfl (?_ : Go _ _ 72 [.ref 0, .int x1, .int x2, .int x3, .int r10, .int (r10 / 11), .int ((irem r10 11) - 5)] _ _ _)
          refine Go.iload_n 3 dX5_echo_72 rfl rfl (?_ : Go _ _ 73 _ _ _ _)
          refine Go.tsw [(0, 100), (1, 103), (2, 108)] 121 dX5_echo_73 (by decide +kernel) ?_
          refine And.intro (fun c12 => ?_) (fun c12 => ?_)
          · have h := h.1 c12
            show Go _ _ 100 _ _ _ _
            refine Go.iload dX5_echo_100 rfl (?_ : Go _ _ 102 _ _ _ _)
            exact Go.iret rfl dX5_echo_102 ⟨_, rfl, h⟩
          · have h := h.2 c12
            refine And.intro (fun c13 => ?_) (fun c13 => ?_)
            · have h := h.1 c13
              show Go _ _ 103 _ _ _ _
              refine Go.iload dX5_echo_103 rfl (?_ : Go _ _ 105 _ _ _ _)
              refine Go.iconst dX5_echo_105 k_ic_5 (?_ : Go _ _ 106 _ _ _ _)
              refine Go.iadd dX5_echo_106 (?_ : Go _ _ 107 _ _ _ _)
              exact Go.iret rfl dX5_echo_107 ⟨_, rfl, h⟩
            · have h := h.2 c13
              refine And.intro (fun c14 => ?_) (fun c14 => ?_)
              · have h := h.1 c14
                show Go _ _ 108 _ _ _ _
                refine Go.aload_n 0 dX5_echo_108 rfl rfl (?_ : Go _ _ 109 _ _ _ _)
                refine Go.getR fk_X5_50 shq_0 frq_0_7 dX5_echo_109 (?_ : Go _ _ 112 _ _ _ _)
                refine Go.iload_n 1 dX5_echo_112 rfl rfl (?_ : Go _ _ 113 _ _ _ _)
                refine Go.iload dX5_echo_113 rfl (?_ : Go _ _ 115 _ _ _ _)
                refine Go.iload dX5_echo_115 rfl (?_ : Go _ _ 117 _ _ _ _)
                refine Go.callV (as := [.int x1, .int (r10 / 11), .int ((irem r10 11) - 5)]) (st := []) mk_X0_strengthTogether wl_X5_186 shq_54 rfl rfl (Nat.le_of_ble_eq_true rfl) dX5_echo_117 h ?_
                rintro _ s15 ⟨r16, rfl, h⟩
                show Go _ _ 120 _ [.int r16] _ _
                exact Go.iret rfl dX5_echo_120 ⟨_, rfl, h⟩
              · have h := h.2 c14
                show Go _ _ 121 _ _ _ _
                refine Go.aload_n 0 dX5_echo_121 rfl rfl (?_ : Go _ _ 122 _ _ _ _)
                refine Go.getR fk_X5_50 shq_0 frq_0_7 dX5_echo_122 (?_ : Go _ _ 125 _ _ _ _)
                refine Go.iload_n 1 dX5_echo_125 rfl rfl (?_ : Go _ _ 126 _ _ _ _)
                refine Go.iload dX5_echo_126 rfl (?_ : Go _ _ 128 _ _ _ _)
                refine Go.iload dX5_echo_128 rfl (?_ : Go _ _ 130 _ _ _ _)
                refine Go.callV (as := [.int x1, .int (r10 / 11), .int ((irem r10 11) - 5)]) (st := []) mk_X0_sourcesTogether wl_X5_190 shq_54 rfl rfl (Nat.le_of_ble_eq_true rfl) dX5_echo_130 h ?_
                rintro _ s17 ⟨r18, rfl, h⟩
                show Go _ _ 133 _ [.int r18] _ _
                exact Go.iret rfl dX5_echo_133 ⟨_, rfl, h⟩
        · have h := h.2 c11
          refine Go.bipush dX5_echo_53 k_bi_m4 (?_ : Go _ _ 55 _ _ _ _)
          exact Go.iret rfl dX5_echo_55 ⟨_, rfl, h⟩
      · have h := h.2 c7
        refine Go.iconst dX5_echo_24 k_ic_m1 (?_ : Go _ _ 25 _ _ _ _)
        exact Go.iret rfl dX5_echo_25 ⟨_, rfl, h⟩
theorem cgX5_echo {d : Nat} {σ : St} {x1 : Int32} {x2 : Int32} {x3 : Int32} {K : Int32 → St → Prop} (h : CallI d mX3_hasTurn [.ref 1, .int x1] σ (fun r2 s1 => (r2 = 0 → K (-1) s1) ∧ (¬ r2 = 0 → (x2 < 0 → K (-1) s1) ∧ (¬ x2 < 0 → CallI d mX5_isWithin [.int x3, .int 0, .int 3] s1 (fun r6 s5 => (¬ r6 = 0 → CallU d mX0_listen [.ref 54, .ref 1] s5 (fun s8 => CallI d mX0_findEcho [.ref 54, .int x1, .int x2] s8 (fun r10 s9 => (0 ≤ r10 → (x3 = 0 → K (r10 / 11) s9) ∧ (¬ x3 = 0 → (x3 = 1 → K (((irem r10 11) - 5) + 5) s9) ∧ (¬ x3 = 1 → (x3 = 2 → CallI d mX0_strengthTogether [.ref 54, .int x1, .int (r10 / 11), .int ((irem r10 11) - 5)] s9 (fun r16 s15 => K r16 s15)) ∧ (¬ x3 = 2 → CallI d mX0_sourcesTogether [.ref 54, .int x1, .int (r10 / 11), .int ((irem r10 11) - 5)] s9 (fun r18 s17 => K r18 s17))))) ∧ (¬ 0 ≤ r10 → K (-4) s9)))) ∧ (r6 = 0 → K (-1) s5)))))) : CallI (d + 1) mX5_echo [.ref 0, .int x1, .int x2, .int x3] σ K := Call_of_Go (by decide +kernel) (ls := [.ref 0, .int x1, .int x2, .int x3, .null, .null, .null]) rfl (Nat.le_of_ble_eq_true rfl) (sgX5_echo_0 h)
set_option maxHeartbeats 4000000 in
set_option maxRecDepth 100000 in
theorem sgX5_fits_0 {d : Nat} {σ : St} {x1 : Int32} {x2 : Int32} {x3 : Int32} {K : Int32 → St → Prop} (h : CallI d mX5_isWithin [.int x1, .int 1, .int 600] σ (fun r2 s1 => (r2 = 0 → K (-1) s1) ∧ (¬ r2 = 0 → CallI d mX5_isWithin [.int x2, .int (-5), .int 5] s1 (fun r5 s4 => (r5 = 0 → K (-1) s4) ∧ (¬ r5 = 0 → CallI d mX3_hasTurn [.ref 1, .int x3] s4 (fun r8 s7 => (¬ r8 = 0 → CallU d mX0_listen [.ref 54, .ref 1] s7 (fun s10 => CallI d mX0_fitOf [.ref 54, .int x1, .int x2, .int x3] s10 (fun r12 s11 => K r12 s11))) ∧ (r8 = 0 → K (-1) s7))))))) : Go mX5_fits (d + 1) 0 [.ref 0, .int x1, .int x2, .int x3] [] σ (QI K) := by
  refine Go.iload_n 1 dX5_fits_0 rfl rfl (?_ : Go _ _ 1 _ _ _ _)
  refine Go.iconst dX5_fits_1 k_ic_1 (?_ : Go _ _ 2 _ _ _ _)
  refine Go.sipush dX5_fits_2 k_si_600 (?_ : Go _ _ 5 _ _ _ _)
  refine Go.callS (as := [.int x1, .int 1, .int 600]) (st := []) mk_X5_isWithin wl_X5_102 rfl rfl (Nat.le_of_ble_eq_true rfl) dX5_fits_5 h ?_
  rintro _ s1 ⟨r2, rfl, h⟩
  show Go _ _ 8 _ [.int r2] _ _
  refine Go.if_eq 32 dX5_fits_8 rfl ⟨fun c3 => ?_, fun c3 => (?_ : Go _ _ 11 _ _ _ _)⟩
  · have h := h.1 c3
    refine Go.iconst dX5_fits_32 k_ic_m1 (?_ : Go _ _ 33 _ _ _ _)
    exact Go.iret rfl dX5_fits_33 ⟨_, rfl, h⟩
  · have h := h.2 c3
    refine Go.iload_n 2 dX5_fits_11 rfl rfl (?_ : Go _ _ 12 _ _ _ _)
    refine Go.bipush dX5_fits_12 k_bi_m5 (?_ : Go _ _ 14 _ _ _ _)
    refine Go.iconst dX5_fits_14 k_ic_5 (?_ : Go _ _ 15 _ _ _ _)
    refine Go.callS (as := [.int x2, .int (-5), .int 5]) (st := []) mk_X5_isWithin wl_X5_102 rfl rfl (Nat.le_of_ble_eq_true rfl) dX5_fits_15 h ?_
    rintro _ s4 ⟨r5, rfl, h⟩
    show Go _ _ 18 _ [.int r5] _ _
    refine Go.if_eq 32 dX5_fits_18 rfl ⟨fun c6 => ?_, fun c6 => (?_ : Go _ _ 21 _ _ _ _)⟩
    · have h := h.1 c6
      refine Go.iconst dX5_fits_32 k_ic_m1 (?_ : Go _ _ 33 _ _ _ _)
      exact Go.iret rfl dX5_fits_33 ⟨_, rfl, h⟩
    · have h := h.2 c6
      refine Go.aload_n 0 dX5_fits_21 rfl rfl (?_ : Go _ _ 22 _ _ _ _)
      refine Go.getR fk_X5_12 shq_0 frq_0_0 dX5_fits_22 (?_ : Go _ _ 25 _ _ _ _)
      refine Go.iload_n 3 dX5_fits_25 rfl rfl (?_ : Go _ _ 26 _ _ _ _)
      refine Go.callV (as := [.int x3]) (st := []) mk_X3_hasTurn wl_X5_180 shq_1 rfl rfl (Nat.le_of_ble_eq_true rfl) dX5_fits_26 h ?_
      rintro _ s7 ⟨r8, rfl, h⟩
      show Go _ _ 29 _ [.int r8] _ _
      refine Go.if_ne 34 dX5_fits_29 rfl ⟨fun c9 => ?_, fun c9 => (?_ : Go _ _ 32 _ _ _ _)⟩
      · have h := h.1 c9
        refine Go.aload_n 0 dX5_fits_34 rfl rfl (?_ : Go _ _ 35 _ _ _ _)
        refine Go.getR fk_X5_50 shq_0 frq_0_7 dX5_fits_35 (?_ : Go _ _ 38 _ _ _ _)
        refine Go.aload_n 0 dX5_fits_38 rfl rfl (?_ : Go _ _ 39 _ _ _ _)
        refine Go.getR fk_X5_12 shq_0 frq_0_0 dX5_fits_39 (?_ : Go _ _ 42 _ _ _ _)
        refine Go.callV (as := [.ref 1]) (st := []) mk_X0_listen wl_X5_163 shq_54 rfl rfl (Nat.le_of_ble_eq_true rfl) dX5_fits_42 h ?_
        rintro _ s10 ⟨rfl, h⟩
        show Go _ _ 45 _ [] _ _
        refine Go.aload_n 0 dX5_fits_45 rfl rfl (?_ : Go _ _ 46 _ _ _ _)
        refine Go.getR fk_X5_50 shq_0 frq_0_7 dX5_fits_46 (?_ : Go _ _ 49 _ _ _ _)
        refine Go.iload_n 1 dX5_fits_49 rfl rfl (?_ : Go _ _ 50 _ _ _ _)
        refine Go.iload_n 2 dX5_fits_50 rfl rfl (?_ : Go _ _ 51 _ _ _ _)
        refine Go.iload_n 3 dX5_fits_51 rfl rfl (?_ : Go _ _ 52 _ _ _ _)
        refine Go.callV (as := [.int x1, .int x2, .int x3]) (st := []) mk_X0_fitOf wl_X5_193 shq_54 rfl rfl (Nat.le_of_ble_eq_true rfl) dX5_fits_52 h ?_
        rintro _ s11 ⟨r12, rfl, h⟩
        show Go _ _ 55 _ [.int r12] _ _
        exact Go.iret rfl dX5_fits_55 ⟨_, rfl, h⟩
      · have h := h.2 c9
        refine Go.iconst dX5_fits_32 k_ic_m1 (?_ : Go _ _ 33 _ _ _ _)
        exact Go.iret rfl dX5_fits_33 ⟨_, rfl, h⟩
theorem cgX5_fits {d : Nat} {σ : St} {x1 : Int32} {x2 : Int32} {x3 : Int32} {K : Int32 → St → Prop} (h : CallI d mX5_isWithin [.int x1, .int 1, .int 600] σ (fun r2 s1 => (r2 = 0 → K (-1) s1) ∧ (¬ r2 = 0 → CallI d mX5_isWithin [.int x2, .int (-5), .int 5] s1 (fun r5 s4 => (r5 = 0 → K (-1) s4) ∧ (¬ r5 = 0 → CallI d mX3_hasTurn [.ref 1, .int x3] s4 (fun r8 s7 => (¬ r8 = 0 → CallU d mX0_listen [.ref 54, .ref 1] s7 (fun s10 => CallI d mX0_fitOf [.ref 54, .int x1, .int x2, .int x3] s10 (fun r12 s11 => K r12 s11))) ∧ (r8 = 0 → K (-1) s7))))))) : CallI (d + 1) mX5_fits [.ref 0, .int x1, .int x2, .int x3] σ K := Call_of_Go (by decide +kernel) (ls := [.ref 0, .int x1, .int x2, .int x3]) rfl (Nat.le_of_ble_eq_true rfl) (sgX5_fits_0 h)
set_option maxHeartbeats 4000000 in
set_option maxRecDepth 100000 in
theorem sgX5_told_0 {d : Nat} {σ : St} {x1 : Int32} {x2 : Int32} {K : Int32 → St → Prop} (h : (x1 < 0 → K (-1) σ) ∧ (¬ x1 < 0 → CallI d mX5_isWithin [.int x2, .int 0, .int 3] σ (fun r3 s2 => (¬ r3 = 0 → CallU d mX0_listen [.ref 54, .ref 1] s2 (fun s5 => CallI d mX0_findTold [.ref 54, .int x1] s5 (fun r7 s6 => (0 ≤ r7 → (x2 = 0 → K (r7 / 11) s6) ∧ (¬ x2 = 0 → (x2 = 1 → K (((irem r7 11) - 5) + 5) s6) ∧ (¬ x2 = 1 → (x2 = 2 → CallI d mX0_isTrue [.ref 54, .int (r7 / 11), .int ((irem r7 11) - 5)] s6 (fun r13 s12 => CallI d mX5_asNumber [.int r13] s12 (fun r15 s14 => K r15 s14))) ∧ (¬ x2 = 2 → CallI d mX0_turnsThatFit [.ref 54, .int (r7 / 11), .int ((irem r7 11) - 5)] s6 (fun r17 s16 => K r17 s16))))) ∧ (¬ 0 ≤ r7 → K (-4) s6)))) ∧ (r3 = 0 → K (-1) s2)))) : Go mX5_told (d + 1) 0 [.ref 0, .int x1, .int x2, .null, .null, .null] [] σ (QI K) := by
  refine Go.iload_n 1 dX5_told_0 rfl rfl (?_ : Go _ _ 1 _ _ _ _)
  refine Go.if_lt 13 dX5_told_1 rfl ⟨fun c1 => ?_, fun c1 => (?_ : Go _ _ 4 _ _ _ _)⟩
  · have h := h.1 c1
    refine Go.iconst dX5_told_13 k_ic_m1 (?_ : Go _ _ 14 _ _ _ _)
    exact Go.iret rfl dX5_told_14 ⟨_, rfl, h⟩
  · have h := h.2 c1
    refine Go.iload_n 2 dX5_told_4 rfl rfl (?_ : Go _ _ 5 _ _ _ _)
    refine Go.iconst dX5_told_5 k_ic_0 (?_ : Go _ _ 6 _ _ _ _)
    refine Go.iconst dX5_told_6 k_ic_3 (?_ : Go _ _ 7 _ _ _ _)
    refine Go.callS (as := [.int x2, .int 0, .int 3]) (st := []) mk_X5_isWithin wl_X5_102 rfl rfl (Nat.le_of_ble_eq_true rfl) dX5_told_7 h ?_
    rintro _ s2 ⟨r3, rfl, h⟩
    show Go _ _ 10 _ [.int r3] _ _
    refine Go.if_ne 15 dX5_told_10 rfl ⟨fun c4 => ?_, fun c4 => (?_ : Go _ _ 13 _ _ _ _)⟩
    · have h := h.1 c4
      refine Go.aload_n 0 dX5_told_15 rfl rfl (?_ : Go _ _ 16 _ _ _ _)
      refine Go.getR fk_X5_50 shq_0 frq_0_7 dX5_told_16 (?_ : Go _ _ 19 _ _ _ _)
      refine Go.aload_n 0 dX5_told_19 rfl rfl (?_ : Go _ _ 20 _ _ _ _)
      refine Go.getR fk_X5_12 shq_0 frq_0_0 dX5_told_20 (?_ : Go _ _ 23 _ _ _ _)
      refine Go.callV (as := [.ref 1]) (st := []) mk_X0_listen wl_X5_163 shq_54 rfl rfl (Nat.le_of_ble_eq_true rfl) dX5_told_23 h ?_
      rintro _ s5 ⟨rfl, h⟩
      show Go _ _ 26 _ [] _ _
      refine Go.aload_n 0 dX5_told_26 rfl rfl (?_ : Go _ _ 27 _ _ _ _)
      refine Go.getR fk_X5_50 shq_0 frq_0_7 dX5_told_27 (?_ : Go _ _ 30 _ _ _ _)
      refine Go.iload_n 1 dX5_told_30 rfl rfl (?_ : Go _ _ 31 _ _ _ _)
      refine Go.callV (as := [.int x1]) (st := []) mk_X0_findTold wl_X5_196 shq_54 rfl rfl (Nat.le_of_ble_eq_true rfl) dX5_told_31 h ?_
      rintro _ s6 ⟨r7, rfl, h⟩
      show Go _ _ 34 _ [.int r7] _ _
      refine Go.istore_n 3 dX5_told_34 rfl (by decide) rfl rfl (?_ : Go _ _ 35 [.ref 0, .int x1, .int x2, .int r7, .null, .null] _ _ _)
      refine Go.iload_n 3 dX5_told_35 rfl rfl (?_ : Go _ _ 36 _ _ _ _)
      refine Go.if_ge 42 dX5_told_36 rfl ⟨fun c8 => ?_, fun c8 => (?_ : Go _ _ 39 _ _ _ _)⟩
      · have h := h.1 c8
        refine Go.iload_n 3 dX5_told_42 rfl rfl (?_ : Go _ _ 43 _ _ _ _)
        refine Go.bipush dX5_told_43 k_bi_11 (?_ : Go _ _ 45 _ _ _ _)
        refine Go.idiv dX5_told_45 (by decide) (?_ : Go _ _ 46 _ _ _ _)
        refine Go.istore dX5_told_46 (by decide) rfl rfl (?_ : Go _ _ 48 [.ref 0, .int x1, .int x2, .int r7, .int (r7 / 11), .null] _ _ _)
        refine Go.iload_n 3 dX5_told_48 rfl rfl (?_ : Go _ _ 49 _ _ _ _)
        refine Go.bipush dX5_told_49 k_bi_11 (?_ : Go _ _ 51 _ _ _ _)
        refine Go.irem dX5_told_51 (by decide) (?_ : Go _ _ 52 _ _ _ _)
        refine Go.iconst dX5_told_52 k_ic_5 (?_ : Go _ _ 53 _ _ _ _)
        refine Go.isub dX5_told_53 (?_ : Go _ _ 54 _ _ _ _)
        refine Go.istore dX5_told_54 (by decide) rfl rfl (?_ : Go _ _ 56 [.ref 0, .int x1, .int x2, .int r7, .int (r7 / 11), .int ((irem r7 11) - 5)] _ _ _)
        refine Go.iload_n 2 dX5_told_56 rfl rfl (?_ : Go _ _ 57 _ _ _ _)
        refine Go.tsw [(0, 84), (1, 87), (2, 92)] 107 dX5_told_57 (by decide +kernel) ?_
        refine And.intro (fun c9 => ?_) (fun c9 => ?_)
        · have h := h.1 c9
          show Go _ _ 84 _ _ _ _
          refine Go.iload dX5_told_84 rfl (?_ : Go _ _ 86 _ _ _ _)
          exact Go.iret rfl dX5_told_86 ⟨_, rfl, h⟩
        · have h := h.2 c9
          refine And.intro (fun c10 => ?_) (fun c10 => ?_)
          · have h := h.1 c10
            show Go _ _ 87 _ _ _ _
            refine Go.iload dX5_told_87 rfl (?_ : Go _ _ 89 _ _ _ _)
            refine Go.iconst dX5_told_89 k_ic_5 (?_ : Go _ _ 90 _ _ _ _)
            refine Go.iadd dX5_told_90 (?_ : Go _ _ 91 _ _ _ _)
            exact Go.iret rfl dX5_told_91 ⟨_, rfl, h⟩
          · have h := h.2 c10
            refine And.intro (fun c11 => ?_) (fun c11 => ?_)
            · have h := h.1 c11
              show Go _ _ 92 _ _ _ _
              refine Go.aload_n 0 dX5_told_92 rfl rfl (?_ : Go _ _ 93 _ _ _ _)
              refine Go.getR fk_X5_50 shq_0 frq_0_7 dX5_told_93 (?_ : Go _ _ 96 _ _ _ _)
              refine Go.iload dX5_told_96 rfl (?_ : Go _ _ 98 _ _ _ _)
              refine Go.iload dX5_told_98 rfl (?_ : Go _ _ 100 _ _ _ _)
              refine Go.callV (as := [.int (r7 / 11), .int ((irem r7 11) - 5)]) (st := []) mk_X0_isTrue wl_X5_199 shq_54 rfl rfl (Nat.le_of_ble_eq_true rfl) dX5_told_100 h ?_
              rintro _ s12 ⟨r13, rfl, h⟩
              show Go _ _ 103 _ [.int r13] _ _
              refine Go.callS (as := [.int r13]) (st := []) mk_X5_asNumber wl_X5_155 rfl rfl (Nat.le_of_ble_eq_true rfl) dX5_told_103 h ?_
              rintro _ s14 ⟨r15, rfl, h⟩
              show Go _ _ 106 _ [.int r15] _ _
              exact Go.iret rfl dX5_told_106 ⟨_, rfl, h⟩
            · have h := h.2 c11
              show Go _ _ 107 _ _ _ _
              refine Go.aload_n 0 dX5_told_107 rfl rfl (?_ : Go _ _ 108 _ _ _ _)
              refine Go.getR fk_X5_50 shq_0 frq_0_7 dX5_told_108 (?_ : Go _ _ 111 _ _ _ _)
              refine Go.iload dX5_told_111 rfl (?_ : Go _ _ 113 _ _ _ _)
              refine Go.iload dX5_told_113 rfl (?_ : Go _ _ 115 _ _ _ _)
              refine Go.callV (as := [.int (r7 / 11), .int ((irem r7 11) - 5)]) (st := []) mk_X0_turnsThatFit wl_X5_203 shq_54 rfl rfl (Nat.le_of_ble_eq_true rfl) dX5_told_115 h ?_
              rintro _ s16 ⟨r17, rfl, h⟩
              show Go _ _ 118 _ [.int r17] _ _
              exact Go.iret rfl dX5_told_118 ⟨_, rfl, h⟩
      · have h := h.2 c8
        refine Go.bipush dX5_told_39 k_bi_m4 (?_ : Go _ _ 41 _ _ _ _)
        exact Go.iret rfl dX5_told_41 ⟨_, rfl, h⟩
    · have h := h.2 c4
      refine Go.iconst dX5_told_13 k_ic_m1 (?_ : Go _ _ 14 _ _ _ _)
      exact Go.iret rfl dX5_told_14 ⟨_, rfl, h⟩
theorem cgX5_told {d : Nat} {σ : St} {x1 : Int32} {x2 : Int32} {K : Int32 → St → Prop} (h : (x1 < 0 → K (-1) σ) ∧ (¬ x1 < 0 → CallI d mX5_isWithin [.int x2, .int 0, .int 3] σ (fun r3 s2 => (¬ r3 = 0 → CallU d mX0_listen [.ref 54, .ref 1] s2 (fun s5 => CallI d mX0_findTold [.ref 54, .int x1] s5 (fun r7 s6 => (0 ≤ r7 → (x2 = 0 → K (r7 / 11) s6) ∧ (¬ x2 = 0 → (x2 = 1 → K (((irem r7 11) - 5) + 5) s6) ∧ (¬ x2 = 1 → (x2 = 2 → CallI d mX0_isTrue [.ref 54, .int (r7 / 11), .int ((irem r7 11) - 5)] s6 (fun r13 s12 => CallI d mX5_asNumber [.int r13] s12 (fun r15 s14 => K r15 s14))) ∧ (¬ x2 = 2 → CallI d mX0_turnsThatFit [.ref 54, .int (r7 / 11), .int ((irem r7 11) - 5)] s6 (fun r17 s16 => K r17 s16))))) ∧ (¬ 0 ≤ r7 → K (-4) s6)))) ∧ (r3 = 0 → K (-1) s2)))) : CallI (d + 1) mX5_told [.ref 0, .int x1, .int x2] σ K := Call_of_Go (by decide +kernel) (ls := [.ref 0, .int x1, .int x2, .null, .null, .null]) rfl (Nat.le_of_ble_eq_true rfl) (sgX5_told_0 h)
set_option maxHeartbeats 4000000 in
set_option maxRecDepth 100000 in
theorem sgX5_alike_0 {d : Nat} {σ : St} {x1 : Int32} {K : Int32 → St → Prop} (h : CallI d mX5_isWithin [.int x1, .int 0, .int 1] σ (fun r2 s1 => (¬ r2 = 0 → CallI d mX3_spacingOf [.ref 1, .int 0] s1 (fun r5 s4 => Go mX5_alike (d + 1) 22 [.ref 0, .int x1, .int r5, .int 1, .null] [] s4 (QI K))) ∧ (r2 = 0 → K (-1) s1))) : Go mX5_alike (d + 1) 0 [.ref 0, .int x1, .null, .null, .null] [] σ (QI K) := by
  refine Go.iload_n 1 dX5_alike_0 rfl rfl (?_ : Go _ _ 1 _ _ _ _)
  refine Go.iconst dX5_alike_1 k_ic_0 (?_ : Go _ _ 2 _ _ _ _)
  refine Go.iconst dX5_alike_2 k_ic_1 (?_ : Go _ _ 3 _ _ _ _)
  refine Go.callS (as := [.int x1, .int 0, .int 1]) (st := []) mk_X5_isWithin wl_X5_102 rfl rfl (Nat.le_of_ble_eq_true rfl) dX5_alike_3 h ?_
  rintro _ s1 ⟨r2, rfl, h⟩
  show Go _ _ 6 _ [.int r2] _ _
  refine Go.if_ne 11 dX5_alike_6 rfl ⟨fun c3 => ?_, fun c3 => (?_ : Go _ _ 9 _ _ _ _)⟩
  · have h := h.1 c3
    refine Go.aload_n 0 dX5_alike_11 rfl rfl (?_ : Go _ _ 12 _ _ _ _)
    refine Go.getR fk_X5_12 shq_0 frq_0_0 dX5_alike_12 (?_ : Go _ _ 15 _ _ _ _)
    refine Go.iconst dX5_alike_15 k_ic_0 (?_ : Go _ _ 16 _ _ _ _)
    refine Go.callV (as := [.int 0]) (st := []) mk_X3_spacingOf wl_X5_206 shq_1 rfl rfl (Nat.le_of_ble_eq_true rfl) dX5_alike_16 h ?_
    rintro _ s4 ⟨r5, rfl, h⟩
    show Go _ _ 19 _ [.int r5] _ _
    refine Go.istore_n 2 dX5_alike_19 rfl (by decide) rfl rfl (?_ : Go _ _ 20 [.ref 0, .int x1, .int r5, .null, .null] _ _ _)
    refine Go.iconst dX5_alike_20 k_ic_1 (?_ : Go _ _ 21 _ _ _ _)
    refine Go.istore_n 3 dX5_alike_21 rfl (by decide) rfl rfl (?_ : Go _ _ 22 [.ref 0, .int x1, .int r5, .int 1, .null] _ _ _)
    exact h
  · have h := h.2 c3
    refine Go.iconst dX5_alike_9 k_ic_m1 (?_ : Go _ _ 10 _ _ _ _)
    exact Go.iret rfl dX5_alike_10 ⟨_, rfl, h⟩
theorem cgX5_alike {d : Nat} {σ : St} {x1 : Int32} {K : Int32 → St → Prop} (h : CallI d mX5_isWithin [.int x1, .int 0, .int 1] σ (fun r2 s1 => (¬ r2 = 0 → CallI d mX3_spacingOf [.ref 1, .int 0] s1 (fun r5 s4 => Go mX5_alike (d + 1) 22 [.ref 0, .int x1, .int r5, .int 1, .null] [] s4 (QI K))) ∧ (r2 = 0 → K (-1) s1))) : CallI (d + 1) mX5_alike [.ref 0, .int x1] σ K := Call_of_Go (by decide +kernel) (ls := [.ref 0, .int x1, .null, .null, .null]) rfl (Nat.le_of_ble_eq_true rfl) (sgX5_alike_0 h)
set_option maxHeartbeats 4000000 in
set_option maxRecDepth 100000 in
theorem sgX5_alike_22 {d : Nat} {σ : St} {v1 : Int32} {v2 : Int32} {v3 : Int32} {K : Int32 → St → Prop} (h : CallI d mX3_turnCount [.ref 1] σ (fun r2 s1 => (r2 ≤ v3 → K v2 s1) ∧ (¬ r2 ≤ v3 → CallI d mX3_spacingOf [.ref 1, .int v3] s1 (fun r5 s4 => (¬ v1 = 0 → CallI d mX5_commonMultiple [.int v2, .int r5] s4 (fun r8 s7 => Go mX5_alike (d + 1) 22 [.ref 0, .int v1, .int r8, .int (v3 + 1), .null] [] s7 (QI K))) ∧ (v1 = 0 → CallI d mX5_firstCommonMultiple [.int v2, .int r5] s4 (fun r10 s9 => Go mX5_alike (d + 1) 22 [.ref 0, .int v1, .int r10, .int (v3 + 1), .null] [] s9 (QI K))))))) : Go mX5_alike (d + 1) 22 [.ref 0, .int v1, .int v2, .int v3, .null] [] σ (QI K) := by
  refine Go.iload_n 3 dX5_alike_22 rfl rfl (?_ : Go _ _ 23 _ _ _ _)
  refine Go.aload_n 0 dX5_alike_23 rfl rfl (?_ : Go _ _ 24 _ _ _ _)
  refine Go.getR fk_X5_12 shq_0 frq_0_0 dX5_alike_24 (?_ : Go _ _ 27 _ _ _ _)
  refine Go.callV (as := []) (st := [.int v3]) mk_X3_turnCount wl_X5_99 shq_1 rfl rfl (Nat.le_of_ble_eq_true rfl) dX5_alike_27 h ?_
  rintro _ s1 ⟨r2, rfl, h⟩
  show Go _ _ 30 _ [.int r2, .int v3] _ _
  refine Go.icmp_ge 69 dX5_alike_30 rfl ⟨fun c3 => ?_, fun c3 => (?_ : Go _ _ 33 _ _ _ _)⟩
  · have h := h.1 c3
    refine Go.iload_n 2 dX5_alike_69 rfl rfl (?_ : Go _ _ 70 _ _ _ _)
    exact Go.iret rfl dX5_alike_70 ⟨_, rfl, h⟩
  · have h := h.2 c3
    refine Go.aload_n 0 dX5_alike_33 rfl rfl (?_ : Go _ _ 34 _ _ _ _)
    refine Go.getR fk_X5_12 shq_0 frq_0_0 dX5_alike_34 (?_ : Go _ _ 37 _ _ _ _)
    refine Go.iload_n 3 dX5_alike_37 rfl rfl (?_ : Go _ _ 38 _ _ _ _)
    refine Go.callV (as := [.int v3]) (st := []) mk_X3_spacingOf wl_X5_206 shq_1 rfl rfl (Nat.le_of_ble_eq_true rfl) dX5_alike_38 h ?_
    rintro _ s4 ⟨r5, rfl, h⟩
    show Go _ _ 41 _ [.int r5] _ _
    refine Go.istore dX5_alike_41 (by decide) rfl rfl (?_ : Go _ _ 43 [.ref 0, .int v1, .int v2, .int v3, .int r5] _ _ _)
    refine Go.iload_n 1 dX5_alike_43 rfl rfl (?_ : Go _ _ 44 _ _ _ _)
    refine Go.if_ne 56 dX5_alike_44 rfl ⟨fun c6 => ?_, fun c6 => (?_ : Go _ _ 47 _ _ _ _)⟩
    · have h := h.1 c6
      refine Go.iload_n 2 dX5_alike_56 rfl rfl (?_ : Go _ _ 57 _ _ _ _)
      refine Go.iload dX5_alike_57 rfl (?_ : Go _ _ 59 _ _ _ _)
      refine Go.callS (as := [.int v2, .int r5]) (st := []) mk_X5_commonMultiple wl_X5_212 rfl rfl (Nat.le_of_ble_eq_true rfl) dX5_alike_59 h ?_
      rintro _ s7 ⟨r8, rfl, h⟩
      show Go _ _ 62 _ [.int r8] _ _
      refine Go.istore_n 2 dX5_alike_62 rfl (by decide) rfl rfl (?_ : Go _ _ 63 [.ref 0, .int v1, .int r8, .int v3, .int r5] _ _ _)
      refine Go.iinc dX5_alike_63 rfl (congrArg (fun z => v3 + z) k_ic_1) (by decide) rfl rfl (?_ : Go _ _ 66 [.ref 0, .int v1, .int r8, .int (v3 + 1), .int r5] _ _ _)
      refine Go.goto 22 dX5_alike_66 rfl ?_
      refine Go.drop (ls' := [.ref 0, .int v1, .int r8, .int (v3 + 1), .null]) 4 rfl ?_
      exact h
    · have h := h.2 c6
      refine Go.iload_n 2 dX5_alike_47 rfl rfl (?_ : Go _ _ 48 _ _ _ _)
      refine Go.iload dX5_alike_48 rfl (?_ : Go _ _ 50 _ _ _ _)
      refine Go.callS (as := [.int v2, .int r5]) (st := []) mk_X5_firstCommonMultiple wl_X5_209 rfl rfl (Nat.le_of_ble_eq_true rfl) dX5_alike_50 h ?_
      rintro _ s9 ⟨r10, rfl, h⟩
      show Go _ _ 53 _ [.int r10] _ _
      refine Go.goto 62 dX5_alike_53 rfl ?_
      refine Go.istore_n 2 dX5_alike_62 rfl (by decide) rfl rfl (?_ : Go _ _ 63 [.ref 0, .int v1, .int r10, .int v3, .int r5] _ _ _)
      refine Go.iinc dX5_alike_63 rfl (congrArg (fun z => v3 + z) k_ic_1) (by decide) rfl rfl (?_ : Go _ _ 66 [.ref 0, .int v1, .int r10, .int (v3 + 1), .int r5] _ _ _)
      refine Go.goto 22 dX5_alike_66 rfl ?_
      refine Go.drop (ls' := [.ref 0, .int v1, .int r10, .int (v3 + 1), .null]) 4 rfl ?_
      exact h
set_option maxHeartbeats 4000000 in
set_option maxRecDepth 100000 in
theorem sgX5_unfold_0 {d : Nat} {σ : St} {x1 : Int32} {x2 : Int32} {x3 : Int32} {K : Int32 → St → Prop} (h : CallI d mX3_spacingOf [.ref 1, .int 0] σ (fun r2 s1 => CallI d mX3_hasTurn [.ref 1, .int 1] s1 (fun r4 s3 => (r4 = 0 → CallI d mX5_isWithin [.int x1, .int 0, .int (r2 - 1)] s3 (fun r7 s6 => (r7 = 0 → K (-1) s6) ∧ (¬ r7 = 0 → CallI d mX5_isWithin [.int x2, .int 0, .int (1 - 1)] s6 (fun r10 s9 => (r10 = 0 → K (-1) s9) ∧ (¬ r10 = 0 → CallI d mX5_isWithin [.int x3, .int 0, .int 1] s9 (fun r13 s12 => (¬ r13 = 0 → (¬ x3 = 0 → CallI d mX5_tryDistances [.int x1, .int r2, .int x2, .int 1, .int x1, .int r2] s12 (fun r17 s16 => K r17 s16)) ∧ (x3 = 0 → CallI d mX5_tryDistances [.int x1, .int r2, .int x2, .int 1, .int 0, .int 1] s12 (fun r19 s18 => K r19 s18))) ∧ (r13 = 0 → K (-1) s12))))))) ∧ (¬ r4 = 0 → CallI d mX3_spacingOf [.ref 1, .int 1] s3 (fun r21 s20 => CallI d mX5_isWithin [.int x1, .int 0, .int (r2 - 1)] s20 (fun r23 s22 => (r23 = 0 → K (-1) s22) ∧ (¬ r23 = 0 → CallI d mX5_isWithin [.int x2, .int 0, .int (r21 - 1)] s22 (fun r26 s25 => (r26 = 0 → K (-1) s25) ∧ (¬ r26 = 0 → CallI d mX5_isWithin [.int x3, .int 0, .int 1] s25 (fun r29 s28 => (¬ r29 = 0 → (¬ x3 = 0 → CallI d mX5_tryDistances [.int x1, .int r2, .int x2, .int r21, .int x1, .int r2] s28 (fun r33 s32 => K r33 s32)) ∧ (x3 = 0 → CallI d mX5_tryDistances [.int x1, .int r2, .int x2, .int r21, .int 0, .int 1] s28 (fun r35 s34 => K r35 s34))) ∧ (r29 = 0 → K (-1) s28))))))))))) : Go mX5_unfold (d + 1) 0 [.ref 0, .int x1, .int x2, .int x3, .null, .null] [] σ (QI K) := by
  refine Go.aload_n 0 dX5_unfold_0 rfl rfl (?_ : Go _ _ 1 _ _ _ _)
  refine Go.getR fk_X5_12 shq_0 frq_0_0 dX5_unfold_1 (?_ : Go _ _ 4 _ _ _ _)
  refine Go.iconst dX5_unfold_4 k_ic_0 (?_ : Go _ _ 5 _ _ _ _)
  refine Go.callV (as := [.int 0]) (st := []) mk_X3_spacingOf wl_X5_206 shq_1 rfl rfl (Nat.le_of_ble_eq_true rfl) dX5_unfold_5 h ?_
  rintro _ s1 ⟨r2, rfl, h⟩
  show Go _ _ 8 _ [.int r2] _ _
  refine Go.istore dX5_unfold_8 (by decide) rfl rfl (?_ : Go _ _ 10 [.ref 0, .int x1, .int x2, .int x3, .int r2, .null] _ _ _)
  refine Go.aload_n 0 dX5_unfold_10 rfl rfl (?_ : Go _ _ 11 _ _ _ _)
  refine Go.getR fk_X5_12 shq_0 frq_0_0 dX5_unfold_11 (?_ : Go _ _ 14 _ _ _ _)
  refine Go.iconst dX5_unfold_14 k_ic_1 (?_ : Go _ _ 15 _ _ _ _)
  refine Go.callV (as := [.int 1]) (st := []) mk_X3_hasTurn wl_X5_180 shq_1 rfl rfl (Nat.le_of_ble_eq_true rfl) dX5_unfold_15 h ?_
  rintro _ s3 ⟨r4, rfl, h⟩
  show Go _ _ 18 _ [.int r4] _ _
  refine Go.if_eq 32 dX5_unfold_18 rfl ⟨fun c5 => ?_, fun c5 => (?_ : Go _ _ 21 _ _ _ _)⟩
  · have h := h.1 c5
    refine Go.iconst dX5_unfold_32 k_ic_1 (?_ : Go _ _ 33 _ _ _ _)
    refine Go.istore dX5_unfold_33 (by decide) rfl rfl (?_ : Go _ _ 35 [.ref 0, .int x1, .int x2, .int x3, .int r2, .int 1] _ _ _)
    refine Go.iload_n 1 dX5_unfold_35 rfl rfl (?_ : Go _ _ 36 _ _ _ _)
    refine Go.iconst dX5_unfold_36 k_ic_0 (?_ : Go _ _ 37 _ _ _ _)
    refine Go.iload dX5_unfold_37 rfl (?_ : Go _ _ 39 _ _ _ _)
    refine Go.iconst dX5_unfold_39 k_ic_1 (?_ : Go _ _ 40 _ _ _ _)
    refine Go.isub dX5_unfold_40 (?_ : Go _ _ 41 _ _ _ _)
    refine Go.callS (as := [.int x1, .int 0, .int (r2 - 1)]) (st := []) mk_X5_isWithin wl_X5_102 rfl rfl (Nat.le_of_ble_eq_true rfl) dX5_unfold_41 h ?_
    rintro _ s6 ⟨r7, rfl, h⟩
    show Go _ _ 44 _ [.int r7] _ _
    refine Go.if_eq 68 dX5_unfold_44 rfl ⟨fun c8 => ?_, fun c8 => (?_ : Go _ _ 47 _ _ _ _)⟩
    · have h := h.1 c8
      refine Go.iconst dX5_unfold_68 k_ic_m1 (?_ : Go _ _ 69 _ _ _ _)
      exact Go.iret rfl dX5_unfold_69 ⟨_, rfl, h⟩
    · have h := h.2 c8
      refine Go.iload_n 2 dX5_unfold_47 rfl rfl (?_ : Go _ _ 48 _ _ _ _)
      refine Go.iconst dX5_unfold_48 k_ic_0 (?_ : Go _ _ 49 _ _ _ _)
      refine Go.iload dX5_unfold_49 rfl (?_ : Go _ _ 51 _ _ _ _)
      refine Go.iconst dX5_unfold_51 k_ic_1 (?_ : Go _ _ 52 _ _ _ _)
      refine Go.isub dX5_unfold_52 (?_ : Go _ _ 53 _ _ _ _)
      refine Go.callS (as := [.int x2, .int 0, .int (1 - 1)]) (st := []) mk_X5_isWithin wl_X5_102 rfl rfl (Nat.le_of_ble_eq_true rfl) dX5_unfold_53 h ?_
      rintro _ s9 ⟨r10, rfl, h⟩
      show Go _ _ 56 _ [.int r10] _ _
      refine Go.if_eq 68 dX5_unfold_56 rfl ⟨fun c11 => ?_, fun c11 => (?_ : Go _ _ 59 _ _ _ _)⟩
      · have h := h.1 c11
        refine Go.iconst dX5_unfold_68 k_ic_m1 (?_ : Go _ _ 69 _ _ _ _)
        exact Go.iret rfl dX5_unfold_69 ⟨_, rfl, h⟩
      · have h := h.2 c11
        refine Go.iload_n 3 dX5_unfold_59 rfl rfl (?_ : Go _ _ 60 _ _ _ _)
        refine Go.iconst dX5_unfold_60 k_ic_0 (?_ : Go _ _ 61 _ _ _ _)
        refine Go.iconst dX5_unfold_61 k_ic_1 (?_ : Go _ _ 62 _ _ _ _)
        refine Go.callS (as := [.int x3, .int 0, .int 1]) (st := []) mk_X5_isWithin wl_X5_102 rfl rfl (Nat.le_of_ble_eq_true rfl) dX5_unfold_62 h ?_
        rintro _ s12 ⟨r13, rfl, h⟩
        show Go _ _ 65 _ [.int r13] _ _
        refine Go.if_ne 70 dX5_unfold_65 rfl ⟨fun c14 => ?_, fun c14 => (?_ : Go _ _ 68 _ _ _ _)⟩
        · have h := h.1 c14
          refine Go.iload_n 3 dX5_unfold_70 rfl rfl (?_ : Go _ _ 71 _ _ _ _)
          refine Go.if_ne 88 dX5_unfold_71 rfl ⟨fun c15 => ?_, fun c15 => (?_ : Go _ _ 74 _ _ _ _)⟩
          · have h := h.1 c15
            refine Go.iload_n 1 dX5_unfold_88 rfl rfl (?_ : Go _ _ 89 _ _ _ _)
            refine Go.iload dX5_unfold_89 rfl (?_ : Go _ _ 91 _ _ _ _)
            refine Go.iload_n 2 dX5_unfold_91 rfl rfl (?_ : Go _ _ 92 _ _ _ _)
            refine Go.iload dX5_unfold_92 rfl (?_ : Go _ _ 94 _ _ _ _)
            refine Go.iload_n 1 dX5_unfold_94 rfl rfl (?_ : Go _ _ 95 _ _ _ _)
            refine Go.iload dX5_unfold_95 rfl (?_ : Go _ _ 97 _ _ _ _)
            refine Go.callS (as := [.int x1, .int r2, .int x2, .int 1, .int x1, .int r2]) (st := []) mk_X5_tryDistances wl_X5_215 rfl rfl (Nat.le_of_ble_eq_true rfl) dX5_unfold_97 h ?_
            rintro _ s16 ⟨r17, rfl, h⟩
            show Go _ _ 100 _ [.int r17] _ _
            exact Go.iret rfl dX5_unfold_100 ⟨_, rfl, h⟩
          · have h := h.2 c15
            refine Go.iload_n 1 dX5_unfold_74 rfl rfl (?_ : Go _ _ 75 _ _ _ _)
            refine Go.iload dX5_unfold_75 rfl (?_ : Go _ _ 77 _ _ _ _)
            refine Go.iload_n 2 dX5_unfold_77 rfl rfl (?_ : Go _ _ 78 _ _ _ _)
            refine Go.iload dX5_unfold_78 rfl (?_ : Go _ _ 80 _ _ _ _)
            refine Go.iconst dX5_unfold_80 k_ic_0 (?_ : Go _ _ 81 _ _ _ _)
            refine Go.iconst dX5_unfold_81 k_ic_1 (?_ : Go _ _ 82 _ _ _ _)
            refine Go.callS (as := [.int x1, .int r2, .int x2, .int 1, .int 0, .int 1]) (st := []) mk_X5_tryDistances wl_X5_215 rfl rfl (Nat.le_of_ble_eq_true rfl) dX5_unfold_82 h ?_
            rintro _ s18 ⟨r19, rfl, h⟩
            show Go _ _ 85 _ [.int r19] _ _
            refine Go.goto 100 dX5_unfold_85 rfl ?_
            exact Go.iret rfl dX5_unfold_100 ⟨_, rfl, h⟩
        · have h := h.2 c14
          refine Go.iconst dX5_unfold_68 k_ic_m1 (?_ : Go _ _ 69 _ _ _ _)
          exact Go.iret rfl dX5_unfold_69 ⟨_, rfl, h⟩
  · have h := h.2 c5
    refine Go.aload_n 0 dX5_unfold_21 rfl rfl (?_ : Go _ _ 22 _ _ _ _)
    refine Go.getR fk_X5_12 shq_0 frq_0_0 dX5_unfold_22 (?_ : Go _ _ 25 _ _ _ _)
    refine Go.iconst dX5_unfold_25 k_ic_1 (?_ : Go _ _ 26 _ _ _ _)
    refine Go.callV (as := [.int 1]) (st := []) mk_X3_spacingOf wl_X5_206 shq_1 rfl rfl (Nat.le_of_ble_eq_true rfl) dX5_unfold_26 h ?_
    rintro _ s20 ⟨r21, rfl, h⟩
    show Go _ _ 29 _ [.int r21] _ _
    refine Go.goto 33 dX5_unfold_29 rfl ?_
    refine Go.istore dX5_unfold_33 (by decide) rfl rfl (?_ : Go _ _ 35 [.ref 0, .int x1, .int x2, .int x3, .int r2, .int r21] _ _ _)
    refine Go.iload_n 1 dX5_unfold_35 rfl rfl (?_ : Go _ _ 36 _ _ _ _)
    refine Go.iconst dX5_unfold_36 k_ic_0 (?_ : Go _ _ 37 _ _ _ _)
    refine Go.iload dX5_unfold_37 rfl (?_ : Go _ _ 39 _ _ _ _)
    refine Go.iconst dX5_unfold_39 k_ic_1 (?_ : Go _ _ 40 _ _ _ _)
    refine Go.isub dX5_unfold_40 (?_ : Go _ _ 41 _ _ _ _)
    refine Go.callS (as := [.int x1, .int 0, .int (r2 - 1)]) (st := []) mk_X5_isWithin wl_X5_102 rfl rfl (Nat.le_of_ble_eq_true rfl) dX5_unfold_41 h ?_
    rintro _ s22 ⟨r23, rfl, h⟩
    show Go _ _ 44 _ [.int r23] _ _
    refine Go.if_eq 68 dX5_unfold_44 rfl ⟨fun c24 => ?_, fun c24 => (?_ : Go _ _ 47 _ _ _ _)⟩
    · have h := h.1 c24
      refine Go.iconst dX5_unfold_68 k_ic_m1 (?_ : Go _ _ 69 _ _ _ _)
      exact Go.iret rfl dX5_unfold_69 ⟨_, rfl, h⟩
    · have h := h.2 c24
      refine Go.iload_n 2 dX5_unfold_47 rfl rfl (?_ : Go _ _ 48 _ _ _ _)
      refine Go.iconst dX5_unfold_48 k_ic_0 (?_ : Go _ _ 49 _ _ _ _)
      refine Go.iload dX5_unfold_49 rfl (?_ : Go _ _ 51 _ _ _ _)
      refine Go.iconst dX5_unfold_51 k_ic_1 (?_ : Go _ _ 52 _ _ _ _)
      refine Go.isub dX5_unfold_52 (?_ : Go _ _ 53 _ _ _ _)
      refine Go.callS (as := [.int x2, .int 0, .int (r21 - 1)]) (st := []) mk_X5_isWithin wl_X5_102 rfl rfl (Nat.le_of_ble_eq_true rfl) dX5_unfold_53 h ?_
      rintro _ s25 ⟨r26, rfl, h⟩
      show Go _ _ 56 _ [.int r26] _ _
      refine Go.if_eq 68 dX5_unfold_56 rfl ⟨fun c27 => ?_, fun c27 => (?_ : Go _ _ 59 _ _ _ _)⟩
      · have h := h.1 c27
        refine Go.iconst dX5_unfold_68 k_ic_m1 (?_ : Go _ _ 69 _ _ _ _)
        exact Go.iret rfl dX5_unfold_69 ⟨_, rfl, h⟩
      · have h := h.2 c27
        refine Go.iload_n 3 dX5_unfold_59 rfl rfl (?_ : Go _ _ 60 _ _ _ _)
        refine Go.iconst dX5_unfold_60 k_ic_0 (?_ : Go _ _ 61 _ _ _ _)
        refine Go.iconst dX5_unfold_61 k_ic_1 (?_ : Go _ _ 62 _ _ _ _)
        refine Go.callS (as := [.int x3, .int 0, .int 1]) (st := []) mk_X5_isWithin wl_X5_102 rfl rfl (Nat.le_of_ble_eq_true rfl) dX5_unfold_62 h ?_
        rintro _ s28 ⟨r29, rfl, h⟩
        show Go _ _ 65 _ [.int r29] _ _
        refine Go.if_ne 70 dX5_unfold_65 rfl ⟨fun c30 => ?_, fun c30 => (?_ : Go _ _ 68 _ _ _ _)⟩
        · have h := h.1 c30
          refine Go.iload_n 3 dX5_unfold_70 rfl rfl (?_ : Go _ _ 71 _ _ _ _)
          refine Go.if_ne 88 dX5_unfold_71 rfl ⟨fun c31 => ?_, fun c31 => (?_ : Go _ _ 74 _ _ _ _)⟩
          · have h := h.1 c31
            refine Go.iload_n 1 dX5_unfold_88 rfl rfl (?_ : Go _ _ 89 _ _ _ _)
            refine Go.iload dX5_unfold_89 rfl (?_ : Go _ _ 91 _ _ _ _)
            refine Go.iload_n 2 dX5_unfold_91 rfl rfl (?_ : Go _ _ 92 _ _ _ _)
            refine Go.iload dX5_unfold_92 rfl (?_ : Go _ _ 94 _ _ _ _)
            refine Go.iload_n 1 dX5_unfold_94 rfl rfl (?_ : Go _ _ 95 _ _ _ _)
            refine Go.iload dX5_unfold_95 rfl (?_ : Go _ _ 97 _ _ _ _)
            refine Go.callS (as := [.int x1, .int r2, .int x2, .int r21, .int x1, .int r2]) (st := []) mk_X5_tryDistances wl_X5_215 rfl rfl (Nat.le_of_ble_eq_true rfl) dX5_unfold_97 h ?_
            rintro _ s32 ⟨r33, rfl, h⟩
            show Go _ _ 100 _ [.int r33] _ _
            exact Go.iret rfl dX5_unfold_100 ⟨_, rfl, h⟩
          · have h := h.2 c31
            refine Go.iload_n 1 dX5_unfold_74 rfl rfl (?_ : Go _ _ 75 _ _ _ _)
            refine Go.iload dX5_unfold_75 rfl (?_ : Go _ _ 77 _ _ _ _)
            refine Go.iload_n 2 dX5_unfold_77 rfl rfl (?_ : Go _ _ 78 _ _ _ _)
            refine Go.iload dX5_unfold_78 rfl (?_ : Go _ _ 80 _ _ _ _)
            refine Go.iconst dX5_unfold_80 k_ic_0 (?_ : Go _ _ 81 _ _ _ _)
            refine Go.iconst dX5_unfold_81 k_ic_1 (?_ : Go _ _ 82 _ _ _ _)
            refine Go.callS (as := [.int x1, .int r2, .int x2, .int r21, .int 0, .int 1]) (st := []) mk_X5_tryDistances wl_X5_215 rfl rfl (Nat.le_of_ble_eq_true rfl) dX5_unfold_82 h ?_
            rintro _ s34 ⟨r35, rfl, h⟩
            show Go _ _ 85 _ [.int r35] _ _
            refine Go.goto 100 dX5_unfold_85 rfl ?_
            exact Go.iret rfl dX5_unfold_100 ⟨_, rfl, h⟩
        · have h := h.2 c30
          refine Go.iconst dX5_unfold_68 k_ic_m1 (?_ : Go _ _ 69 _ _ _ _)
          exact Go.iret rfl dX5_unfold_69 ⟨_, rfl, h⟩
theorem cgX5_unfold {d : Nat} {σ : St} {x1 : Int32} {x2 : Int32} {x3 : Int32} {K : Int32 → St → Prop} (h : CallI d mX3_spacingOf [.ref 1, .int 0] σ (fun r2 s1 => CallI d mX3_hasTurn [.ref 1, .int 1] s1 (fun r4 s3 => (r4 = 0 → CallI d mX5_isWithin [.int x1, .int 0, .int (r2 - 1)] s3 (fun r7 s6 => (r7 = 0 → K (-1) s6) ∧ (¬ r7 = 0 → CallI d mX5_isWithin [.int x2, .int 0, .int (1 - 1)] s6 (fun r10 s9 => (r10 = 0 → K (-1) s9) ∧ (¬ r10 = 0 → CallI d mX5_isWithin [.int x3, .int 0, .int 1] s9 (fun r13 s12 => (¬ r13 = 0 → (¬ x3 = 0 → CallI d mX5_tryDistances [.int x1, .int r2, .int x2, .int 1, .int x1, .int r2] s12 (fun r17 s16 => K r17 s16)) ∧ (x3 = 0 → CallI d mX5_tryDistances [.int x1, .int r2, .int x2, .int 1, .int 0, .int 1] s12 (fun r19 s18 => K r19 s18))) ∧ (r13 = 0 → K (-1) s12))))))) ∧ (¬ r4 = 0 → CallI d mX3_spacingOf [.ref 1, .int 1] s3 (fun r21 s20 => CallI d mX5_isWithin [.int x1, .int 0, .int (r2 - 1)] s20 (fun r23 s22 => (r23 = 0 → K (-1) s22) ∧ (¬ r23 = 0 → CallI d mX5_isWithin [.int x2, .int 0, .int (r21 - 1)] s22 (fun r26 s25 => (r26 = 0 → K (-1) s25) ∧ (¬ r26 = 0 → CallI d mX5_isWithin [.int x3, .int 0, .int 1] s25 (fun r29 s28 => (¬ r29 = 0 → (¬ x3 = 0 → CallI d mX5_tryDistances [.int x1, .int r2, .int x2, .int r21, .int x1, .int r2] s28 (fun r33 s32 => K r33 s32)) ∧ (x3 = 0 → CallI d mX5_tryDistances [.int x1, .int r2, .int x2, .int r21, .int 0, .int 1] s28 (fun r35 s34 => K r35 s34))) ∧ (r29 = 0 → K (-1) s28))))))))))) : CallI (d + 1) mX5_unfold [.ref 0, .int x1, .int x2, .int x3] σ K := Call_of_Go (by decide +kernel) (ls := [.ref 0, .int x1, .int x2, .int x3, .null, .null]) rfl (Nat.le_of_ble_eq_true rfl) (sgX5_unfold_0 h)
set_option maxHeartbeats 4000000 in
set_option maxRecDepth 100000 in
theorem sgX5_count_0 {d : Nat} {σ : St} {x1 : Int32} {K : Int32 → St → Prop} (h : CallI d mX5_isWithin [.int x1, .int 0, .int 18] σ (fun r2 s1 => (¬ r2 = 0 → (x1 < 4 → (x1 = 2 → CallI d mX5_countHeard [.ref 0, .int x1] s1 (fun r7 s6 => K r7 s6)) ∧ (¬ x1 = 2 → (x1 < 8 → (x1 = 0 → CallI d mX3_targetCount [.ref 1] s1 (fun r11 s10 => K r11 s10)) ∧ (¬ x1 = 0 → (x1 = 1 → CallI d mX3_wallCount [.ref 1] s1 (fun r14 s13 => K r14 s13)) ∧ (¬ x1 = 1 → (x1 = 2 → K (sF s1 0 9) s1) ∧ (¬ x1 = 2 → (x1 = 3 → CallI d mX3_turnCount [.ref 1] s1 (fun r18 s17 => K r18 s17)) ∧ (¬ x1 = 3 → (x1 = 4 → K (sF s1 0 9) s1) ∧ (¬ x1 = 4 → (x1 = 5 → K (sF s1 0 9) s1) ∧ (¬ x1 = 5 → (x1 = 6 → K (sF s1 0 9) s1) ∧ (¬ x1 = 6 → (x1 = 7 → K (sF s1 0 9) s1) ∧ (¬ x1 = 7 → (x1 = 8 → K (sF s1 0 9) s1) ∧ (¬ x1 = 8 → (x1 = 9 → K (sF s1 0 9) s1) ∧ (¬ x1 = 9 → (x1 = 10 → K (sF s1 0 9) s1) ∧ (¬ x1 = 10 → (x1 = 11 → K (sF s1 0 9) s1) ∧ (¬ x1 = 11 → (x1 = 12 → K (sF s1 0 9) s1) ∧ (¬ x1 = 12 → (x1 = 13 → K (sF s1 0 9) s1) ∧ (¬ x1 = 13 → (x1 = 14 → CallI d mX3_blindBelow [.ref 1] s1 (fun r31 s30 => K r31 s30)) ∧ (¬ x1 = 14 → (x1 = 15 → CallI d mX3_loudFrom [.ref 1] s1 (fun r34 s33 => K r34 s33)) ∧ (¬ x1 = 15 → (x1 = 16 → CallU d mX4_write [.ref 52, .ref 1] s1 (fun s36 => CallI d mX4_length [.ref 52] s36 (fun r38 s37 => K r38 s37))) ∧ (¬ x1 = 16 → (x1 = 17 → CallI d mX1_length [.ref 44] s1 (fun r41 s40 => K r41 s40)) ∧ (¬ x1 = 17 → K (sF s1 0 9) s1))))))))))))))))))) ∧ (¬ x1 < 8 → (13 < x1 → (x1 = 0 → CallI d mX3_targetCount [.ref 1] s1 (fun r45 s44 => K r45 s44)) ∧ (¬ x1 = 0 → (x1 = 1 → CallI d mX3_wallCount [.ref 1] s1 (fun r48 s47 => K r48 s47)) ∧ (¬ x1 = 1 → (x1 = 2 → K (sF s1 0 9) s1) ∧ (¬ x1 = 2 → (x1 = 3 → CallI d mX3_turnCount [.ref 1] s1 (fun r52 s51 => K r52 s51)) ∧ (¬ x1 = 3 → (x1 = 4 → K (sF s1 0 9) s1) ∧ (¬ x1 = 4 → (x1 = 5 → K (sF s1 0 9) s1) ∧ (¬ x1 = 5 → (x1 = 6 → K (sF s1 0 9) s1) ∧ (¬ x1 = 6 → (x1 = 7 → K (sF s1 0 9) s1) ∧ (¬ x1 = 7 → (x1 = 8 → K (sF s1 0 9) s1) ∧ (¬ x1 = 8 → (x1 = 9 → K (sF s1 0 9) s1) ∧ (¬ x1 = 9 → (x1 = 10 → K (sF s1 0 9) s1) ∧ (¬ x1 = 10 → (x1 = 11 → K (sF s1 0 9) s1) ∧ (¬ x1 = 11 → (x1 = 12 → K (sF s1 0 9) s1) ∧ (¬ x1 = 12 → (x1 = 13 → K (sF s1 0 9) s1) ∧ (¬ x1 = 13 → (x1 = 14 → CallI d mX3_blindBelow [.ref 1] s1 (fun r65 s64 => K r65 s64)) ∧ (¬ x1 = 14 → (x1 = 15 → CallI d mX3_loudFrom [.ref 1] s1 (fun r68 s67 => K r68 s67)) ∧ (¬ x1 = 15 → (x1 = 16 → CallU d mX4_write [.ref 52, .ref 1] s1 (fun s70 => CallI d mX4_length [.ref 52] s70 (fun r72 s71 => K r72 s71))) ∧ (¬ x1 = 16 → (x1 = 17 → CallI d mX1_length [.ref 44] s1 (fun r75 s74 => K r75 s74)) ∧ (¬ x1 = 17 → K (sF s1 0 9) s1))))))))))))))))))) ∧ (¬ 13 < x1 → CallI d mX5_countHeard [.ref 0, .int x1] s1 (fun r77 s76 => K r77 s76))))) ∧ (¬ x1 < 4 → (7 < x1 → (x1 = 2 → CallI d mX5_countHeard [.ref 0, .int x1] s1 (fun r81 s80 => K r81 s80)) ∧ (¬ x1 = 2 → (x1 < 8 → (x1 = 0 → CallI d mX3_targetCount [.ref 1] s1 (fun r85 s84 => K r85 s84)) ∧ (¬ x1 = 0 → (x1 = 1 → CallI d mX3_wallCount [.ref 1] s1 (fun r88 s87 => K r88 s87)) ∧ (¬ x1 = 1 → (x1 = 2 → K (sF s1 0 9) s1) ∧ (¬ x1 = 2 → (x1 = 3 → CallI d mX3_turnCount [.ref 1] s1 (fun r92 s91 => K r92 s91)) ∧ (¬ x1 = 3 → (x1 = 4 → K (sF s1 0 9) s1) ∧ (¬ x1 = 4 → (x1 = 5 → K (sF s1 0 9) s1) ∧ (¬ x1 = 5 → (x1 = 6 → K (sF s1 0 9) s1) ∧ (¬ x1 = 6 → (x1 = 7 → K (sF s1 0 9) s1) ∧ (¬ x1 = 7 → (x1 = 8 → K (sF s1 0 9) s1) ∧ (¬ x1 = 8 → (x1 = 9 → K (sF s1 0 9) s1) ∧ (¬ x1 = 9 → (x1 = 10 → K (sF s1 0 9) s1) ∧ (¬ x1 = 10 → (x1 = 11 → K (sF s1 0 9) s1) ∧ (¬ x1 = 11 → (x1 = 12 → K (sF s1 0 9) s1) ∧ (¬ x1 = 12 → (x1 = 13 → K (sF s1 0 9) s1) ∧ (¬ x1 = 13 → (x1 = 14 → CallI d mX3_blindBelow [.ref 1] s1 (fun r105 s104 => K r105 s104)) ∧ (¬ x1 = 14 → (x1 = 15 → CallI d mX3_loudFrom [.ref 1] s1 (fun r108 s107 => K r108 s107)) ∧ (¬ x1 = 15 → (x1 = 16 → CallU d mX4_write [.ref 52, .ref 1] s1 (fun s110 => CallI d mX4_length [.ref 52] s110 (fun r112 s111 => K r112 s111))) ∧ (¬ x1 = 16 → (x1 = 17 → CallI d mX1_length [.ref 44] s1 (fun r115 s114 => K r115 s114)) ∧ (¬ x1 = 17 → K (sF s1 0 9) s1))))))))))))))))))) ∧ (¬ x1 < 8 → (13 < x1 → (x1 = 0 → CallI d mX3_targetCount [.ref 1] s1 (fun r119 s118 => K r119 s118)) ∧ (¬ x1 = 0 → (x1 = 1 → CallI d mX3_wallCount [.ref 1] s1 (fun r122 s121 => K r122 s121)) ∧ (¬ x1 = 1 → (x1 = 2 → K (sF s1 0 9) s1) ∧ (¬ x1 = 2 → (x1 = 3 → CallI d mX3_turnCount [.ref 1] s1 (fun r126 s125 => K r126 s125)) ∧ (¬ x1 = 3 → (x1 = 4 → K (sF s1 0 9) s1) ∧ (¬ x1 = 4 → (x1 = 5 → K (sF s1 0 9) s1) ∧ (¬ x1 = 5 → (x1 = 6 → K (sF s1 0 9) s1) ∧ (¬ x1 = 6 → (x1 = 7 → K (sF s1 0 9) s1) ∧ (¬ x1 = 7 → (x1 = 8 → K (sF s1 0 9) s1) ∧ (¬ x1 = 8 → (x1 = 9 → K (sF s1 0 9) s1) ∧ (¬ x1 = 9 → (x1 = 10 → K (sF s1 0 9) s1) ∧ (¬ x1 = 10 → (x1 = 11 → K (sF s1 0 9) s1) ∧ (¬ x1 = 11 → (x1 = 12 → K (sF s1 0 9) s1) ∧ (¬ x1 = 12 → (x1 = 13 → K (sF s1 0 9) s1) ∧ (¬ x1 = 13 → (x1 = 14 → CallI d mX3_blindBelow [.ref 1] s1 (fun r139 s138 => K r139 s138)) ∧ (¬ x1 = 14 → (x1 = 15 → CallI d mX3_loudFrom [.ref 1] s1 (fun r142 s141 => K r142 s141)) ∧ (¬ x1 = 15 → (x1 = 16 → CallU d mX4_write [.ref 52, .ref 1] s1 (fun s144 => CallI d mX4_length [.ref 52] s144 (fun r146 s145 => K r146 s145))) ∧ (¬ x1 = 16 → (x1 = 17 → CallI d mX1_length [.ref 44] s1 (fun r149 s148 => K r149 s148)) ∧ (¬ x1 = 17 → K (sF s1 0 9) s1))))))))))))))))))) ∧ (¬ 13 < x1 → CallI d mX5_countHeard [.ref 0, .int x1] s1 (fun r151 s150 => K r151 s150))))) ∧ (¬ 7 < x1 → CallI d mX3_hasTurn [.ref 1, .int (x1 - 4)] s1 (fun r153 s152 => (r153 = 0 → K (-4) s152) ∧ (¬ r153 = 0 → CallI d mX3_spacingOf [.ref 1, .int (x1 - 4)] s152 (fun r156 s155 => K r156 s155)))))) ∧ (r2 = 0 → K (-1) s1))) : Go mX5_count (d + 1) 0 [.ref 0, .int x1] [] σ (QI K) := by
  refine Go.iload_n 1 dX5_count_0 rfl rfl (?_ : Go _ _ 1 _ _ _ _)
  refine Go.iconst dX5_count_1 k_ic_0 (?_ : Go _ _ 2 _ _ _ _)
  refine Go.bipush dX5_count_2 k_bi_18 (?_ : Go _ _ 4 _ _ _ _)
  refine Go.callS (as := [.int x1, .int 0, .int 18]) (st := []) mk_X5_isWithin wl_X5_102 rfl rfl (Nat.le_of_ble_eq_true rfl) dX5_count_4 h ?_
  rintro _ s1 ⟨r2, rfl, h⟩
  show Go _ _ 7 _ [.int r2] _ _
  refine Go.if_ne 12 dX5_count_7 rfl ⟨fun c3 => ?_, fun c3 => (?_ : Go _ _ 10 _ _ _ _)⟩
  · have h := h.1 c3
    refine Go.iload_n 1 dX5_count_12 rfl rfl (?_ : Go _ _ 13 _ _ _ _)
    refine Go.iconst dX5_count_13 k_ic_4 (?_ : Go _ _ 14 _ _ _ _)
    refine Go.icmp_lt 52 dX5_count_14 rfl ⟨fun c4 => ?_, fun c4 => (?_ : Go _ _ 17 _ _ _ _)⟩
    · have h := h.1 c4
      refine Go.iload_n 1 dX5_count_52 rfl rfl (?_ : Go _ _ 53 _ _ _ _)
      refine Go.iconst dX5_count_53 k_ic_2 (?_ : Go _ _ 54 _ _ _ _)
      refine Go.icmp_eq 69 dX5_count_54 rfl ⟨fun c5 => ?_, fun c5 => (?_ : Go _ _ 57 _ _ _ _)⟩
      · have h := h.1 c5
        refine Go.aload_n 0 dX5_count_69 rfl rfl (?_ : Go _ _ 70 _ _ _ _)
        refine Go.iload_n 1 dX5_count_70 rfl rfl (?_ : Go _ _ 71 _ _ _ _)
        refine Go.callV (as := [.int x1]) (st := []) mk_X5_countHeard wl_X5_219 shq_0 rfl rfl (Nat.le_of_ble_eq_true rfl) dX5_count_71 h ?_
        rintro _ s6 ⟨r7, rfl, h⟩
        show Go _ _ 74 _ [.int r7] _ _
        exact Go.iret rfl dX5_count_74 ⟨_, rfl, h⟩
      · have h := h.2 c5
        refine Go.iload_n 1 dX5_count_57 rfl rfl (?_ : Go _ _ 58 _ _ _ _)
        refine Go.bipush dX5_count_58 k_bi_8 (?_ : Go _ _ 60 _ _ _ _)
        refine Go.icmp_lt 75 dX5_count_60 rfl ⟨fun c8 => ?_, fun c8 => (?_ : Go _ _ 63 _ _ _ _)⟩
        · have h := h.1 c8
          refine Go.iload_n 1 dX5_count_75 rfl rfl (?_ : Go _ _ 76 _ _ _ _)
          refine Go.tsw [(0, 164), (1, 172), (2, 231), (3, 180), (4, 231), (5, 231), (6, 231), (7, 231), (8, 231), (9, 231), (10, 231), (11, 231), (12, 231), (13, 231), (14, 188), (15, 196), (16, 204), (17, 223)] 231 dX5_count_76 (by decide +kernel) ?_
          refine And.intro (fun c9 => ?_) (fun c9 => ?_)
          · have h := h.1 c9
            show Go _ _ 164 _ _ _ _
            refine Go.aload_n 0 dX5_count_164 rfl rfl (?_ : Go _ _ 165 _ _ _ _)
            refine Go.getR fk_X5_12 shq_0 frq_0_0 dX5_count_165 (?_ : Go _ _ 168 _ _ _ _)
            refine Go.callV (as := []) (st := []) mk_X3_targetCount wl_X5_80 shq_1 rfl rfl (Nat.le_of_ble_eq_true rfl) dX5_count_168 h ?_
            rintro _ s10 ⟨r11, rfl, h⟩
            show Go _ _ 171 _ [.int r11] _ _
            exact Go.iret rfl dX5_count_171 ⟨_, rfl, h⟩
          · have h := h.2 c9
            refine And.intro (fun c12 => ?_) (fun c12 => ?_)
            · have h := h.1 c12
              show Go _ _ 172 _ _ _ _
              refine Go.aload_n 0 dX5_count_172 rfl rfl (?_ : Go _ _ 173 _ _ _ _)
              refine Go.getR fk_X5_12 shq_0 frq_0_0 dX5_count_173 (?_ : Go _ _ 176 _ _ _ _)
              refine Go.callV (as := []) (st := []) mk_X3_wallCount wl_X5_222 shq_1 rfl rfl (Nat.le_of_ble_eq_true rfl) dX5_count_176 h ?_
              rintro _ s13 ⟨r14, rfl, h⟩
              show Go _ _ 179 _ [.int r14] _ _
              exact Go.iret rfl dX5_count_179 ⟨_, rfl, h⟩
            · have h := h.2 c12
              refine And.intro (fun c15 => ?_) (fun c15 => ?_)
              · have h := h.1 c15
                show Go _ _ 231 _ _ _ _
                refine Go.aload_n 0 dX5_count_231 rfl rfl (?_ : Go _ _ 232 _ _ _ _)
                refine Go.getI fk_X5_58 shq_0 frq_0_9 dX5_count_232 (?_ : Go _ _ 235 _ _ _ _)
                exact Go.iret rfl dX5_count_235 ⟨_, rfl, h⟩
              · have h := h.2 c15
                refine And.intro (fun c16 => ?_) (fun c16 => ?_)
                · have h := h.1 c16
                  show Go _ _ 180 _ _ _ _
                  refine Go.aload_n 0 dX5_count_180 rfl rfl (?_ : Go _ _ 181 _ _ _ _)
                  refine Go.getR fk_X5_12 shq_0 frq_0_0 dX5_count_181 (?_ : Go _ _ 184 _ _ _ _)
                  refine Go.callV (as := []) (st := []) mk_X3_turnCount wl_X5_99 shq_1 rfl rfl (Nat.le_of_ble_eq_true rfl) dX5_count_184 h ?_
                  rintro _ s17 ⟨r18, rfl, h⟩
                  show Go _ _ 187 _ [.int r18] _ _
                  exact Go.iret rfl dX5_count_187 ⟨_, rfl, h⟩
                · have h := h.2 c16
                  refine And.intro (fun c19 => ?_) (fun c19 => ?_)
                  · have h := h.1 c19
                    show Go _ _ 231 _ _ _ _
                    refine Go.aload_n 0 dX5_count_231 rfl rfl (?_ : Go _ _ 232 _ _ _ _)
                    refine Go.getI fk_X5_58 shq_0 frq_0_9 dX5_count_232 (?_ : Go _ _ 235 _ _ _ _)
                    exact Go.iret rfl dX5_count_235 ⟨_, rfl, h⟩
                  · have h := h.2 c19
                    refine And.intro (fun c20 => ?_) (fun c20 => ?_)
                    · have h := h.1 c20
                      show Go _ _ 231 _ _ _ _
                      refine Go.aload_n 0 dX5_count_231 rfl rfl (?_ : Go _ _ 232 _ _ _ _)
                      refine Go.getI fk_X5_58 shq_0 frq_0_9 dX5_count_232 (?_ : Go _ _ 235 _ _ _ _)
                      exact Go.iret rfl dX5_count_235 ⟨_, rfl, h⟩
                    · have h := h.2 c20
                      refine And.intro (fun c21 => ?_) (fun c21 => ?_)
                      · have h := h.1 c21
                        show Go _ _ 231 _ _ _ _
                        refine Go.aload_n 0 dX5_count_231 rfl rfl (?_ : Go _ _ 232 _ _ _ _)
                        refine Go.getI fk_X5_58 shq_0 frq_0_9 dX5_count_232 (?_ : Go _ _ 235 _ _ _ _)
                        exact Go.iret rfl dX5_count_235 ⟨_, rfl, h⟩
                      · have h := h.2 c21
                        refine And.intro (fun c22 => ?_) (fun c22 => ?_)
                        · have h := h.1 c22
                          show Go _ _ 231 _ _ _ _
                          refine Go.aload_n 0 dX5_count_231 rfl rfl (?_ : Go _ _ 232 _ _ _ _)
                          refine Go.getI fk_X5_58 shq_0 frq_0_9 dX5_count_232 (?_ : Go _ _ 235 _ _ _ _)
                          exact Go.iret rfl dX5_count_235 ⟨_, rfl, h⟩
                        · have h := h.2 c22
                          refine And.intro (fun c23 => ?_) (fun c23 => ?_)
                          · have h := h.1 c23
                            show Go _ _ 231 _ _ _ _
                            refine Go.aload_n 0 dX5_count_231 rfl rfl (?_ : Go _ _ 232 _ _ _ _)
                            refine Go.getI fk_X5_58 shq_0 frq_0_9 dX5_count_232 (?_ : Go _ _ 235 _ _ _ _)
                            exact Go.iret rfl dX5_count_235 ⟨_, rfl, h⟩
                          · have h := h.2 c23
                            refine And.intro (fun c24 => ?_) (fun c24 => ?_)
                            · have h := h.1 c24
                              show Go _ _ 231 _ _ _ _
                              refine Go.aload_n 0 dX5_count_231 rfl rfl (?_ : Go _ _ 232 _ _ _ _)
                              refine Go.getI fk_X5_58 shq_0 frq_0_9 dX5_count_232 (?_ : Go _ _ 235 _ _ _ _)
                              exact Go.iret rfl dX5_count_235 ⟨_, rfl, h⟩
                            · have h := h.2 c24
                              refine And.intro (fun c25 => ?_) (fun c25 => ?_)
                              · have h := h.1 c25
                                show Go _ _ 231 _ _ _ _
                                refine Go.aload_n 0 dX5_count_231 rfl rfl (?_ : Go _ _ 232 _ _ _ _)
                                refine Go.getI fk_X5_58 shq_0 frq_0_9 dX5_count_232 (?_ : Go _ _ 235 _ _ _ _)
                                exact Go.iret rfl dX5_count_235 ⟨_, rfl, h⟩
                              · have h := h.2 c25
                                refine And.intro (fun c26 => ?_) (fun c26 => ?_)
                                · have h := h.1 c26
                                  show Go _ _ 231 _ _ _ _
                                  refine Go.aload_n 0 dX5_count_231 rfl rfl (?_ : Go _ _ 232 _ _ _ _)
                                  refine Go.getI fk_X5_58 shq_0 frq_0_9 dX5_count_232 (?_ : Go _ _ 235 _ _ _ _)
                                  exact Go.iret rfl dX5_count_235 ⟨_, rfl, h⟩
                                · have h := h.2 c26
                                  refine And.intro (fun c27 => ?_) (fun c27 => ?_)
                                  · have h := h.1 c27
                                    show Go _ _ 231 _ _ _ _
                                    refine Go.aload_n 0 dX5_count_231 rfl rfl (?_ : Go _ _ 232 _ _ _ _)
                                    refine Go.getI fk_X5_58 shq_0 frq_0_9 dX5_count_232 (?_ : Go _ _ 235 _ _ _ _)
                                    exact Go.iret rfl dX5_count_235 ⟨_, rfl, h⟩
                                  · have h := h.2 c27
                                    refine And.intro (fun c28 => ?_) (fun c28 => ?_)
                                    · have h := h.1 c28
                                      show Go _ _ 231 _ _ _ _
                                      refine Go.aload_n 0 dX5_count_231 rfl rfl (?_ : Go _ _ 232 _ _ _ _)
                                      refine Go.getI fk_X5_58 shq_0 frq_0_9 dX5_count_232 (?_ : Go _ _ 235 _ _ _ _)
                                      exact Go.iret rfl dX5_count_235 ⟨_, rfl, h⟩
                                    · have h := h.2 c28
                                      refine And.intro (fun c29 => ?_) (fun c29 => ?_)
                                      · have h := h.1 c29
                                        show Go _ _ 188 _ _ _ _
                                        refine Go.aload_n 0 dX5_count_188 rfl rfl (?_ : Go _ _ 189 _ _ _ _)
                                        refine Go.getR fk_X5_12 shq_0 frq_0_0 dX5_count_189 (?_ : Go _ _ 192 _ _ _ _)
                                        refine Go.callV (as := []) (st := []) mk_X3_blindBelow wl_X5_225 shq_1 rfl rfl (Nat.le_of_ble_eq_true rfl) dX5_count_192 h ?_
                                        rintro _ s30 ⟨r31, rfl, h⟩
                                        show Go _ _ 195 _ [.int r31] _ _
                                        exact Go.iret rfl dX5_count_195 ⟨_, rfl, h⟩
                                      · have h := h.2 c29
                                        refine And.intro (fun c32 => ?_) (fun c32 => ?_)
                                        · have h := h.1 c32
                                          show Go _ _ 196 _ _ _ _
                                          refine Go.aload_n 0 dX5_count_196 rfl rfl (?_ : Go _ _ 197 _ _ _ _)
                                          refine Go.getR fk_X5_12 shq_0 frq_0_0 dX5_count_197 (?_ : Go _ _ 200 _ _ _ _)
                                          refine Go.callV (as := []) (st := []) mk_X3_loudFrom wl_X5_228 shq_1 rfl rfl (Nat.le_of_ble_eq_true rfl) dX5_count_200 h ?_
                                          rintro _ s33 ⟨r34, rfl, h⟩
                                          show Go _ _ 203 _ [.int r34] _ _
                                          exact Go.iret rfl dX5_count_203 ⟨_, rfl, h⟩
                                        · have h := h.2 c32
                                          refine And.intro (fun c35 => ?_) (fun c35 => ?_)
                                          · have h := h.1 c35
                                            show Go _ _ 204 _ _ _ _
                                            refine Go.aload_n 0 dX5_count_204 rfl rfl (?_ : Go _ _ 205 _ _ _ _)
                                            refine Go.getR fk_X5_43 shq_0 frq_0_6 dX5_count_205 (?_ : Go _ _ 208 _ _ _ _)
                                            refine Go.aload_n 0 dX5_count_208 rfl rfl (?_ : Go _ _ 209 _ _ _ _)
                                            refine Go.getR fk_X5_12 shq_0 frq_0_0 dX5_count_209 (?_ : Go _ _ 212 _ _ _ _)
                                            refine Go.callV (as := [.ref 1]) (st := []) mk_X4_write wl_X5_136 shq_52 rfl rfl (Nat.le_of_ble_eq_true rfl) dX5_count_212 h ?_
                                            rintro _ s36 ⟨rfl, h⟩
                                            show Go _ _ 215 _ [] _ _
                                            refine Go.aload_n 0 dX5_count_215 rfl rfl (?_ : Go _ _ 216 _ _ _ _)
                                            refine Go.getR fk_X5_43 shq_0 frq_0_6 dX5_count_216 (?_ : Go _ _ 219 _ _ _ _)
                                            refine Go.callV (as := []) (st := []) mk_X4_length wl_X5_139 shq_52 rfl rfl (Nat.le_of_ble_eq_true rfl) dX5_count_219 h ?_
                                            rintro _ s37 ⟨r38, rfl, h⟩
                                            show Go _ _ 222 _ [.int r38] _ _
                                            exact Go.iret rfl dX5_count_222 ⟨_, rfl, h⟩
                                          · have h := h.2 c35
                                            refine And.intro (fun c39 => ?_) (fun c39 => ?_)
                                            · have h := h.1 c39
                                              show Go _ _ 223 _ _ _ _
                                              refine Go.aload_n 0 dX5_count_223 rfl rfl (?_ : Go _ _ 224 _ _ _ _)
                                              refine Go.getR fk_X5_29 shq_0 frq_0_4 dX5_count_224 (?_ : Go _ _ 227 _ _ _ _)
                                              refine Go.callV (as := []) (st := []) mk_X1_length wl_X5_117 shq_44 rfl rfl (Nat.le_of_ble_eq_true rfl) dX5_count_227 h ?_
                                              rintro _ s40 ⟨r41, rfl, h⟩
                                              show Go _ _ 230 _ [.int r41] _ _
                                              exact Go.iret rfl dX5_count_230 ⟨_, rfl, h⟩
                                            · have h := h.2 c39
                                              show Go _ _ 231 _ _ _ _
                                              refine Go.aload_n 0 dX5_count_231 rfl rfl (?_ : Go _ _ 232 _ _ _ _)
                                              refine Go.getI fk_X5_58 shq_0 frq_0_9 dX5_count_232 (?_ : Go _ _ 235 _ _ _ _)
                                              exact Go.iret rfl dX5_count_235 ⟨_, rfl, h⟩
        · have h := h.2 c8
          refine Go.iload_n 1 dX5_count_63 rfl rfl (?_ : Go _ _ 64 _ _ _ _)
          refine Go.bipush dX5_count_64 k_bi_13 (?_ : Go _ _ 66 _ _ _ _)
          refine Go.icmp_gt 75 dX5_count_66 rfl ⟨fun c42 => ?_, fun c42 => (?_ : Go _ _ 69 _ _ _ _)⟩
          · have h := h.1 c42
            refine Go.iload_n 1 dX5_count_75 rfl rfl (?_ : Go _ _ 76 _ _ _ _)
            refine Go.tsw [(0, 164), (1, 172), (2, 231), (3, 180), (4, 231), (5, 231), (6, 231), (7, 231), (8, 231), (9, 231), (10, 231), (11, 231), (12, 231), (13, 231), (14, 188), (15, 196), (16, 204), (17, 223)] 231 dX5_count_76 (by decide +kernel) ?_
            refine And.intro (fun c43 => ?_) (fun c43 => ?_)
            · have h := h.1 c43
              show Go _ _ 164 _ _ _ _
              refine Go.aload_n 0 dX5_count_164 rfl rfl (?_ : Go _ _ 165 _ _ _ _)
              refine Go.getR fk_X5_12 shq_0 frq_0_0 dX5_count_165 (?_ : Go _ _ 168 _ _ _ _)
              refine Go.callV (as := []) (st := []) mk_X3_targetCount wl_X5_80 shq_1 rfl rfl (Nat.le_of_ble_eq_true rfl) dX5_count_168 h ?_
              rintro _ s44 ⟨r45, rfl, h⟩
              show Go _ _ 171 _ [.int r45] _ _
              exact Go.iret rfl dX5_count_171 ⟨_, rfl, h⟩
            · have h := h.2 c43
              refine And.intro (fun c46 => ?_) (fun c46 => ?_)
              · have h := h.1 c46
                show Go _ _ 172 _ _ _ _
                refine Go.aload_n 0 dX5_count_172 rfl rfl (?_ : Go _ _ 173 _ _ _ _)
                refine Go.getR fk_X5_12 shq_0 frq_0_0 dX5_count_173 (?_ : Go _ _ 176 _ _ _ _)
                refine Go.callV (as := []) (st := []) mk_X3_wallCount wl_X5_222 shq_1 rfl rfl (Nat.le_of_ble_eq_true rfl) dX5_count_176 h ?_
                rintro _ s47 ⟨r48, rfl, h⟩
                show Go _ _ 179 _ [.int r48] _ _
                exact Go.iret rfl dX5_count_179 ⟨_, rfl, h⟩
              · have h := h.2 c46
                refine And.intro (fun c49 => ?_) (fun c49 => ?_)
                · have h := h.1 c49
                  show Go _ _ 231 _ _ _ _
                  refine Go.aload_n 0 dX5_count_231 rfl rfl (?_ : Go _ _ 232 _ _ _ _)
                  refine Go.getI fk_X5_58 shq_0 frq_0_9 dX5_count_232 (?_ : Go _ _ 235 _ _ _ _)
                  exact Go.iret rfl dX5_count_235 ⟨_, rfl, h⟩
                · have h := h.2 c49
                  refine And.intro (fun c50 => ?_) (fun c50 => ?_)
                  · have h := h.1 c50
                    show Go _ _ 180 _ _ _ _
                    refine Go.aload_n 0 dX5_count_180 rfl rfl (?_ : Go _ _ 181 _ _ _ _)
                    refine Go.getR fk_X5_12 shq_0 frq_0_0 dX5_count_181 (?_ : Go _ _ 184 _ _ _ _)
                    refine Go.callV (as := []) (st := []) mk_X3_turnCount wl_X5_99 shq_1 rfl rfl (Nat.le_of_ble_eq_true rfl) dX5_count_184 h ?_
                    rintro _ s51 ⟨r52, rfl, h⟩
                    show Go _ _ 187 _ [.int r52] _ _
                    exact Go.iret rfl dX5_count_187 ⟨_, rfl, h⟩
                  · have h := h.2 c50
                    refine And.intro (fun c53 => ?_) (fun c53 => ?_)
                    · have h := h.1 c53
                      show Go _ _ 231 _ _ _ _
                      refine Go.aload_n 0 dX5_count_231 rfl rfl (?_ : Go _ _ 232 _ _ _ _)
                      refine Go.getI fk_X5_58 shq_0 frq_0_9 dX5_count_232 (?_ : Go _ _ 235 _ _ _ _)
                      exact Go.iret rfl dX5_count_235 ⟨_, rfl, h⟩
                    · have h := h.2 c53
                      refine And.intro (fun c54 => ?_) (fun c54 => ?_)
                      · have h := h.1 c54
                        show Go _ _ 231 _ _ _ _
                        refine Go.aload_n 0 dX5_count_231 rfl rfl (?_ : Go _ _ 232 _ _ _ _)
                        refine Go.getI fk_X5_58 shq_0 frq_0_9 dX5_count_232 (?_ : Go _ _ 235 _ _ _ _)
                        exact Go.iret rfl dX5_count_235 ⟨_, rfl, h⟩
                      · have h := h.2 c54
                        refine And.intro (fun c55 => ?_) (fun c55 => ?_)
                        · have h := h.1 c55
                          show Go _ _ 231 _ _ _ _
                          refine Go.aload_n 0 dX5_count_231 rfl rfl (?_ : Go _ _ 232 _ _ _ _)
                          refine Go.getI fk_X5_58 shq_0 frq_0_9 dX5_count_232 (?_ : Go _ _ 235 _ _ _ _)
                          exact Go.iret rfl dX5_count_235 ⟨_, rfl, h⟩
                        · have h := h.2 c55
                          refine And.intro (fun c56 => ?_) (fun c56 => ?_)
                          · have h := h.1 c56
                            show Go _ _ 231 _ _ _ _
                            refine Go.aload_n 0 dX5_count_231 rfl rfl (?_ : Go _ _ 232 _ _ _ _)
                            refine Go.getI fk_X5_58 shq_0 frq_0_9 dX5_count_232 (?_ : Go _ _ 235 _ _ _ _)
                            exact Go.iret rfl dX5_count_235 ⟨_, rfl, h⟩
                          · have h := h.2 c56
                            refine And.intro (fun c57 => ?_) (fun c57 => ?_)
                            · have h := h.1 c57
                              show Go _ _ 231 _ _ _ _
                              refine Go.aload_n 0 dX5_count_231 rfl rfl (?_ : Go _ _ 232 _ _ _ _)
                              refine Go.getI fk_X5_58 shq_0 frq_0_9 dX5_count_232 (?_ : Go _ _ 235 _ _ _ _)
                              exact Go.iret rfl dX5_count_235 ⟨_, rfl, h⟩
                            · have h := h.2 c57
                              refine And.intro (fun c58 => ?_) (fun c58 => ?_)
                              · have h := h.1 c58
                                show Go _ _ 231 _ _ _ _
                                refine Go.aload_n 0 dX5_count_231 rfl rfl (?_ : Go _ _ 232 _ _ _ _)
                                refine Go.getI fk_X5_58 shq_0 frq_0_9 dX5_count_232 (?_ : Go _ _ 235 _ _ _ _)
                                exact Go.iret rfl dX5_count_235 ⟨_, rfl, h⟩
                              · have h := h.2 c58
                                refine And.intro (fun c59 => ?_) (fun c59 => ?_)
                                · have h := h.1 c59
                                  show Go _ _ 231 _ _ _ _
                                  refine Go.aload_n 0 dX5_count_231 rfl rfl (?_ : Go _ _ 232 _ _ _ _)
                                  refine Go.getI fk_X5_58 shq_0 frq_0_9 dX5_count_232 (?_ : Go _ _ 235 _ _ _ _)
                                  exact Go.iret rfl dX5_count_235 ⟨_, rfl, h⟩
                                · have h := h.2 c59
                                  refine And.intro (fun c60 => ?_) (fun c60 => ?_)
                                  · have h := h.1 c60
                                    show Go _ _ 231 _ _ _ _
                                    refine Go.aload_n 0 dX5_count_231 rfl rfl (?_ : Go _ _ 232 _ _ _ _)
                                    refine Go.getI fk_X5_58 shq_0 frq_0_9 dX5_count_232 (?_ : Go _ _ 235 _ _ _ _)
                                    exact Go.iret rfl dX5_count_235 ⟨_, rfl, h⟩
                                  · have h := h.2 c60
                                    refine And.intro (fun c61 => ?_) (fun c61 => ?_)
                                    · have h := h.1 c61
                                      show Go _ _ 231 _ _ _ _
                                      refine Go.aload_n 0 dX5_count_231 rfl rfl (?_ : Go _ _ 232 _ _ _ _)
                                      refine Go.getI fk_X5_58 shq_0 frq_0_9 dX5_count_232 (?_ : Go _ _ 235 _ _ _ _)
                                      exact Go.iret rfl dX5_count_235 ⟨_, rfl, h⟩
                                    · have h := h.2 c61
                                      refine And.intro (fun c62 => ?_) (fun c62 => ?_)
                                      · have h := h.1 c62
                                        show Go _ _ 231 _ _ _ _
                                        refine Go.aload_n 0 dX5_count_231 rfl rfl (?_ : Go _ _ 232 _ _ _ _)
                                        refine Go.getI fk_X5_58 shq_0 frq_0_9 dX5_count_232 (?_ : Go _ _ 235 _ _ _ _)
                                        exact Go.iret rfl dX5_count_235 ⟨_, rfl, h⟩
                                      · have h := h.2 c62
                                        refine And.intro (fun c63 => ?_) (fun c63 => ?_)
                                        · have h := h.1 c63
                                          show Go _ _ 188 _ _ _ _
                                          refine Go.aload_n 0 dX5_count_188 rfl rfl (?_ : Go _ _ 189 _ _ _ _)
                                          refine Go.getR fk_X5_12 shq_0 frq_0_0 dX5_count_189 (?_ : Go _ _ 192 _ _ _ _)
                                          refine Go.callV (as := []) (st := []) mk_X3_blindBelow wl_X5_225 shq_1 rfl rfl (Nat.le_of_ble_eq_true rfl) dX5_count_192 h ?_
                                          rintro _ s64 ⟨r65, rfl, h⟩
                                          show Go _ _ 195 _ [.int r65] _ _
                                          exact Go.iret rfl dX5_count_195 ⟨_, rfl, h⟩
                                        · have h := h.2 c63
                                          refine And.intro (fun c66 => ?_) (fun c66 => ?_)
                                          · have h := h.1 c66
                                            show Go _ _ 196 _ _ _ _
                                            refine Go.aload_n 0 dX5_count_196 rfl rfl (?_ : Go _ _ 197 _ _ _ _)
                                            refine Go.getR fk_X5_12 shq_0 frq_0_0 dX5_count_197 (?_ : Go _ _ 200 _ _ _ _)
                                            refine Go.callV (as := []) (st := []) mk_X3_loudFrom wl_X5_228 shq_1 rfl rfl (Nat.le_of_ble_eq_true rfl) dX5_count_200 h ?_
                                            rintro _ s67 ⟨r68, rfl, h⟩
                                            show Go _ _ 203 _ [.int r68] _ _
                                            exact Go.iret rfl dX5_count_203 ⟨_, rfl, h⟩
                                          · have h := h.2 c66
                                            refine And.intro (fun c69 => ?_) (fun c69 => ?_)
                                            · have h := h.1 c69
                                              show Go _ _ 204 _ _ _ _
                                              refine Go.aload_n 0 dX5_count_204 rfl rfl (?_ : Go _ _ 205 _ _ _ _)
                                              refine Go.getR fk_X5_43 shq_0 frq_0_6 dX5_count_205 (?_ : Go _ _ 208 _ _ _ _)
                                              refine Go.aload_n 0 dX5_count_208 rfl rfl (?_ : Go _ _ 209 _ _ _ _)
                                              refine Go.getR fk_X5_12 shq_0 frq_0_0 dX5_count_209 (?_ : Go _ _ 212 _ _ _ _)
                                              refine Go.callV (as := [.ref 1]) (st := []) mk_X4_write wl_X5_136 shq_52 rfl rfl (Nat.le_of_ble_eq_true rfl) dX5_count_212 h ?_
                                              rintro _ s70 ⟨rfl, h⟩
                                              show Go _ _ 215 _ [] _ _
                                              refine Go.aload_n 0 dX5_count_215 rfl rfl (?_ : Go _ _ 216 _ _ _ _)
                                              refine Go.getR fk_X5_43 shq_0 frq_0_6 dX5_count_216 (?_ : Go _ _ 219 _ _ _ _)
                                              refine Go.callV (as := []) (st := []) mk_X4_length wl_X5_139 shq_52 rfl rfl (Nat.le_of_ble_eq_true rfl) dX5_count_219 h ?_
                                              rintro _ s71 ⟨r72, rfl, h⟩
                                              show Go _ _ 222 _ [.int r72] _ _
                                              exact Go.iret rfl dX5_count_222 ⟨_, rfl, h⟩
                                            · have h := h.2 c69
                                              refine And.intro (fun c73 => ?_) (fun c73 => ?_)
                                              · have h := h.1 c73
                                                show Go _ _ 223 _ _ _ _
                                                refine Go.aload_n 0 dX5_count_223 rfl rfl (?_ : Go _ _ 224 _ _ _ _)
                                                refine Go.getR fk_X5_29 shq_0 frq_0_4 dX5_count_224 (?_ : Go _ _ 227 _ _ _ _)
                                                refine Go.callV (as := []) (st := []) mk_X1_length wl_X5_117 shq_44 rfl rfl (Nat.le_of_ble_eq_true rfl) dX5_count_227 h ?_
                                                rintro _ s74 ⟨r75, rfl, h⟩
                                                show Go _ _ 230 _ [.int r75] _ _
                                                exact Go.iret rfl dX5_count_230 ⟨_, rfl, h⟩
                                              · have h := h.2 c73
                                                show Go _ _ 231 _ _ _ _
                                                refine Go.aload_n 0 dX5_count_231 rfl rfl (?_ : Go _ _ 232 _ _ _ _)
                                                refine Go.getI fk_X5_58 shq_0 frq_0_9 dX5_count_232 (?_ : Go _ _ 235 _ _ _ _)
                                                exact Go.iret rfl dX5_count_235 ⟨_, rfl, h⟩
          · have h := h.2 c42
            refine Go.aload_n 0 dX5_count_69 rfl rfl (?_ : Go _ _ 70 _ _ _ _)
            refine Go.iload_n 1 dX5_count_70 rfl rfl (?_ : Go _ _ 71 _ _ _ _)
            refine Go.callV (as := [.int x1]) (st := []) mk_X5_countHeard wl_X5_219 shq_0 rfl rfl (Nat.le_of_ble_eq_true rfl) dX5_count_71 h ?_
            rintro _ s76 ⟨r77, rfl, h⟩
            show Go _ _ 74 _ [.int r77] _ _
            exact Go.iret rfl dX5_count_74 ⟨_, rfl, h⟩
    · have h := h.2 c4
      refine Go.iload_n 1 dX5_count_17 rfl rfl (?_ : Go _ _ 18 _ _ _ _)
      refine Go.bipush dX5_count_18 k_bi_7 (?_ : Go _ _ 20 _ _ _ _)
      refine Go.icmp_gt 52 dX5_count_20 rfl ⟨fun c78 => ?_, fun c78 => (?_ : Go _ _ 23 _ _ _ _)⟩
      · have h := h.1 c78
        refine Go.iload_n 1 dX5_count_52 rfl rfl (?_ : Go _ _ 53 _ _ _ _)
        refine Go.iconst dX5_count_53 k_ic_2 (?_ : Go _ _ 54 _ _ _ _)
        refine Go.icmp_eq 69 dX5_count_54 rfl ⟨fun c79 => ?_, fun c79 => (?_ : Go _ _ 57 _ _ _ _)⟩
        · have h := h.1 c79
          refine Go.aload_n 0 dX5_count_69 rfl rfl (?_ : Go _ _ 70 _ _ _ _)
          refine Go.iload_n 1 dX5_count_70 rfl rfl (?_ : Go _ _ 71 _ _ _ _)
          refine Go.callV (as := [.int x1]) (st := []) mk_X5_countHeard wl_X5_219 shq_0 rfl rfl (Nat.le_of_ble_eq_true rfl) dX5_count_71 h ?_
          rintro _ s80 ⟨r81, rfl, h⟩
          show Go _ _ 74 _ [.int r81] _ _
          exact Go.iret rfl dX5_count_74 ⟨_, rfl, h⟩
        · have h := h.2 c79
          refine Go.iload_n 1 dX5_count_57 rfl rfl (?_ : Go _ _ 58 _ _ _ _)
          refine Go.bipush dX5_count_58 k_bi_8 (?_ : Go _ _ 60 _ _ _ _)
          refine Go.icmp_lt 75 dX5_count_60 rfl ⟨fun c82 => ?_, fun c82 => (?_ : Go _ _ 63 _ _ _ _)⟩
          · have h := h.1 c82
            refine Go.iload_n 1 dX5_count_75 rfl rfl (?_ : Go _ _ 76 _ _ _ _)
            refine Go.tsw [(0, 164), (1, 172), (2, 231), (3, 180), (4, 231), (5, 231), (6, 231), (7, 231), (8, 231), (9, 231), (10, 231), (11, 231), (12, 231), (13, 231), (14, 188), (15, 196), (16, 204), (17, 223)] 231 dX5_count_76 (by decide +kernel) ?_
            refine And.intro (fun c83 => ?_) (fun c83 => ?_)
            · have h := h.1 c83
              show Go _ _ 164 _ _ _ _
              refine Go.aload_n 0 dX5_count_164 rfl rfl (?_ : Go _ _ 165 _ _ _ _)
              refine Go.getR fk_X5_12 shq_0 frq_0_0 dX5_count_165 (?_ : Go _ _ 168 _ _ _ _)
              refine Go.callV (as := []) (st := []) mk_X3_targetCount wl_X5_80 shq_1 rfl rfl (Nat.le_of_ble_eq_true rfl) dX5_count_168 h ?_
              rintro _ s84 ⟨r85, rfl, h⟩
              show Go _ _ 171 _ [.int r85] _ _
              exact Go.iret rfl dX5_count_171 ⟨_, rfl, h⟩
            · have h := h.2 c83
              refine And.intro (fun c86 => ?_) (fun c86 => ?_)
              · have h := h.1 c86
                show Go _ _ 172 _ _ _ _
                refine Go.aload_n 0 dX5_count_172 rfl rfl (?_ : Go _ _ 173 _ _ _ _)
                refine Go.getR fk_X5_12 shq_0 frq_0_0 dX5_count_173 (?_ : Go _ _ 176 _ _ _ _)
                refine Go.callV (as := []) (st := []) mk_X3_wallCount wl_X5_222 shq_1 rfl rfl (Nat.le_of_ble_eq_true rfl) dX5_count_176 h ?_
                rintro _ s87 ⟨r88, rfl, h⟩
                show Go _ _ 179 _ [.int r88] _ _
                exact Go.iret rfl dX5_count_179 ⟨_, rfl, h⟩
              · have h := h.2 c86
                refine And.intro (fun c89 => ?_) (fun c89 => ?_)
                · have h := h.1 c89
                  show Go _ _ 231 _ _ _ _
                  refine Go.aload_n 0 dX5_count_231 rfl rfl (?_ : Go _ _ 232 _ _ _ _)
                  refine Go.getI fk_X5_58 shq_0 frq_0_9 dX5_count_232 (?_ : Go _ _ 235 _ _ _ _)
                  exact Go.iret rfl dX5_count_235 ⟨_, rfl, h⟩
                · have h := h.2 c89
                  refine And.intro (fun c90 => ?_) (fun c90 => ?_)
                  · have h := h.1 c90
                    show Go _ _ 180 _ _ _ _
                    refine Go.aload_n 0 dX5_count_180 rfl rfl (?_ : Go _ _ 181 _ _ _ _)
                    refine Go.getR fk_X5_12 shq_0 frq_0_0 dX5_count_181 (?_ : Go _ _ 184 _ _ _ _)
                    refine Go.callV (as := []) (st := []) mk_X3_turnCount wl_X5_99 shq_1 rfl rfl (Nat.le_of_ble_eq_true rfl) dX5_count_184 h ?_
                    rintro _ s91 ⟨r92, rfl, h⟩
                    show Go _ _ 187 _ [.int r92] _ _
                    exact Go.iret rfl dX5_count_187 ⟨_, rfl, h⟩
                  · have h := h.2 c90
                    refine And.intro (fun c93 => ?_) (fun c93 => ?_)
                    · have h := h.1 c93
                      show Go _ _ 231 _ _ _ _
                      refine Go.aload_n 0 dX5_count_231 rfl rfl (?_ : Go _ _ 232 _ _ _ _)
                      refine Go.getI fk_X5_58 shq_0 frq_0_9 dX5_count_232 (?_ : Go _ _ 235 _ _ _ _)
                      exact Go.iret rfl dX5_count_235 ⟨_, rfl, h⟩
                    · have h := h.2 c93
                      refine And.intro (fun c94 => ?_) (fun c94 => ?_)
                      · have h := h.1 c94
                        show Go _ _ 231 _ _ _ _
                        refine Go.aload_n 0 dX5_count_231 rfl rfl (?_ : Go _ _ 232 _ _ _ _)
                        refine Go.getI fk_X5_58 shq_0 frq_0_9 dX5_count_232 (?_ : Go _ _ 235 _ _ _ _)
                        exact Go.iret rfl dX5_count_235 ⟨_, rfl, h⟩
                      · have h := h.2 c94
                        refine And.intro (fun c95 => ?_) (fun c95 => ?_)
                        · have h := h.1 c95
                          show Go _ _ 231 _ _ _ _
                          refine Go.aload_n 0 dX5_count_231 rfl rfl (?_ : Go _ _ 232 _ _ _ _)
                          refine Go.getI fk_X5_58 shq_0 frq_0_9 dX5_count_232 (?_ : Go _ _ 235 _ _ _ _)
                          exact Go.iret rfl dX5_count_235 ⟨_, rfl, h⟩
                        · have h := h.2 c95
                          refine And.intro (fun c96 => ?_) (fun c96 => ?_)
                          · have h := h.1 c96
                            show Go _ _ 231 _ _ _ _
                            refine Go.aload_n 0 dX5_count_231 rfl rfl (?_ : Go _ _ 232 _ _ _ _)
                            refine Go.getI fk_X5_58 shq_0 frq_0_9 dX5_count_232 (?_ : Go _ _ 235 _ _ _ _)
                            exact Go.iret rfl dX5_count_235 ⟨_, rfl, h⟩
                          · have h := h.2 c96
                            refine And.intro (fun c97 => ?_) (fun c97 => ?_)
                            · have h := h.1 c97
                              show Go _ _ 231 _ _ _ _
                              refine Go.aload_n 0 dX5_count_231 rfl rfl (?_ : Go _ _ 232 _ _ _ _)
                              refine Go.getI fk_X5_58 shq_0 frq_0_9 dX5_count_232 (?_ : Go _ _ 235 _ _ _ _)
                              exact Go.iret rfl dX5_count_235 ⟨_, rfl, h⟩
                            · have h := h.2 c97
                              refine And.intro (fun c98 => ?_) (fun c98 => ?_)
                              · have h := h.1 c98
                                show Go _ _ 231 _ _ _ _
                                refine Go.aload_n 0 dX5_count_231 rfl rfl (?_ : Go _ _ 232 _ _ _ _)
                                refine Go.getI fk_X5_58 shq_0 frq_0_9 dX5_count_232 (?_ : Go _ _ 235 _ _ _ _)
                                exact Go.iret rfl dX5_count_235 ⟨_, rfl, h⟩
                              · have h := h.2 c98
                                refine And.intro (fun c99 => ?_) (fun c99 => ?_)
                                · have h := h.1 c99
                                  show Go _ _ 231 _ _ _ _
                                  refine Go.aload_n 0 dX5_count_231 rfl rfl (?_ : Go _ _ 232 _ _ _ _)
                                  refine Go.getI fk_X5_58 shq_0 frq_0_9 dX5_count_232 (?_ : Go _ _ 235 _ _ _ _)
                                  exact Go.iret rfl dX5_count_235 ⟨_, rfl, h⟩
                                · have h := h.2 c99
                                  refine And.intro (fun c100 => ?_) (fun c100 => ?_)
                                  · have h := h.1 c100
                                    show Go _ _ 231 _ _ _ _
                                    refine Go.aload_n 0 dX5_count_231 rfl rfl (?_ : Go _ _ 232 _ _ _ _)
                                    refine Go.getI fk_X5_58 shq_0 frq_0_9 dX5_count_232 (?_ : Go _ _ 235 _ _ _ _)
                                    exact Go.iret rfl dX5_count_235 ⟨_, rfl, h⟩
                                  · have h := h.2 c100
                                    refine And.intro (fun c101 => ?_) (fun c101 => ?_)
                                    · have h := h.1 c101
                                      show Go _ _ 231 _ _ _ _
                                      refine Go.aload_n 0 dX5_count_231 rfl rfl (?_ : Go _ _ 232 _ _ _ _)
                                      refine Go.getI fk_X5_58 shq_0 frq_0_9 dX5_count_232 (?_ : Go _ _ 235 _ _ _ _)
                                      exact Go.iret rfl dX5_count_235 ⟨_, rfl, h⟩
                                    · have h := h.2 c101
                                      refine And.intro (fun c102 => ?_) (fun c102 => ?_)
                                      · have h := h.1 c102
                                        show Go _ _ 231 _ _ _ _
                                        refine Go.aload_n 0 dX5_count_231 rfl rfl (?_ : Go _ _ 232 _ _ _ _)
                                        refine Go.getI fk_X5_58 shq_0 frq_0_9 dX5_count_232 (?_ : Go _ _ 235 _ _ _ _)
                                        exact Go.iret rfl dX5_count_235 ⟨_, rfl, h⟩
                                      · have h := h.2 c102
                                        refine And.intro (fun c103 => ?_) (fun c103 => ?_)
                                        · have h := h.1 c103
                                          show Go _ _ 188 _ _ _ _
                                          refine Go.aload_n 0 dX5_count_188 rfl rfl (?_ : Go _ _ 189 _ _ _ _)
                                          refine Go.getR fk_X5_12 shq_0 frq_0_0 dX5_count_189 (?_ : Go _ _ 192 _ _ _ _)
                                          refine Go.callV (as := []) (st := []) mk_X3_blindBelow wl_X5_225 shq_1 rfl rfl (Nat.le_of_ble_eq_true rfl) dX5_count_192 h ?_
                                          rintro _ s104 ⟨r105, rfl, h⟩
                                          show Go _ _ 195 _ [.int r105] _ _
                                          exact Go.iret rfl dX5_count_195 ⟨_, rfl, h⟩
                                        · have h := h.2 c103
                                          refine And.intro (fun c106 => ?_) (fun c106 => ?_)
                                          · have h := h.1 c106
                                            show Go _ _ 196 _ _ _ _
                                            refine Go.aload_n 0 dX5_count_196 rfl rfl (?_ : Go _ _ 197 _ _ _ _)
                                            refine Go.getR fk_X5_12 shq_0 frq_0_0 dX5_count_197 (?_ : Go _ _ 200 _ _ _ _)
                                            refine Go.callV (as := []) (st := []) mk_X3_loudFrom wl_X5_228 shq_1 rfl rfl (Nat.le_of_ble_eq_true rfl) dX5_count_200 h ?_
                                            rintro _ s107 ⟨r108, rfl, h⟩
                                            show Go _ _ 203 _ [.int r108] _ _
                                            exact Go.iret rfl dX5_count_203 ⟨_, rfl, h⟩
                                          · have h := h.2 c106
                                            refine And.intro (fun c109 => ?_) (fun c109 => ?_)
                                            · have h := h.1 c109
                                              show Go _ _ 204 _ _ _ _
                                              refine Go.aload_n 0 dX5_count_204 rfl rfl (?_ : Go _ _ 205 _ _ _ _)
                                              refine Go.getR fk_X5_43 shq_0 frq_0_6 dX5_count_205 (?_ : Go _ _ 208 _ _ _ _)
                                              refine Go.aload_n 0 dX5_count_208 rfl rfl (?_ : Go _ _ 209 _ _ _ _)
                                              refine Go.getR fk_X5_12 shq_0 frq_0_0 dX5_count_209 (?_ : Go _ _ 212 _ _ _ _)
                                              refine Go.callV (as := [.ref 1]) (st := []) mk_X4_write wl_X5_136 shq_52 rfl rfl (Nat.le_of_ble_eq_true rfl) dX5_count_212 h ?_
                                              rintro _ s110 ⟨rfl, h⟩
                                              show Go _ _ 215 _ [] _ _
                                              refine Go.aload_n 0 dX5_count_215 rfl rfl (?_ : Go _ _ 216 _ _ _ _)
                                              refine Go.getR fk_X5_43 shq_0 frq_0_6 dX5_count_216 (?_ : Go _ _ 219 _ _ _ _)
                                              refine Go.callV (as := []) (st := []) mk_X4_length wl_X5_139 shq_52 rfl rfl (Nat.le_of_ble_eq_true rfl) dX5_count_219 h ?_
                                              rintro _ s111 ⟨r112, rfl, h⟩
                                              show Go _ _ 222 _ [.int r112] _ _
                                              exact Go.iret rfl dX5_count_222 ⟨_, rfl, h⟩
                                            · have h := h.2 c109
                                              refine And.intro (fun c113 => ?_) (fun c113 => ?_)
                                              · have h := h.1 c113
                                                show Go _ _ 223 _ _ _ _
                                                refine Go.aload_n 0 dX5_count_223 rfl rfl (?_ : Go _ _ 224 _ _ _ _)
                                                refine Go.getR fk_X5_29 shq_0 frq_0_4 dX5_count_224 (?_ : Go _ _ 227 _ _ _ _)
                                                refine Go.callV (as := []) (st := []) mk_X1_length wl_X5_117 shq_44 rfl rfl (Nat.le_of_ble_eq_true rfl) dX5_count_227 h ?_
                                                rintro _ s114 ⟨r115, rfl, h⟩
                                                show Go _ _ 230 _ [.int r115] _ _
                                                exact Go.iret rfl dX5_count_230 ⟨_, rfl, h⟩
                                              · have h := h.2 c113
                                                show Go _ _ 231 _ _ _ _
                                                refine Go.aload_n 0 dX5_count_231 rfl rfl (?_ : Go _ _ 232 _ _ _ _)
                                                refine Go.getI fk_X5_58 shq_0 frq_0_9 dX5_count_232 (?_ : Go _ _ 235 _ _ _ _)
                                                exact Go.iret rfl dX5_count_235 ⟨_, rfl, h⟩
          · have h := h.2 c82
            refine Go.iload_n 1 dX5_count_63 rfl rfl (?_ : Go _ _ 64 _ _ _ _)
            refine Go.bipush dX5_count_64 k_bi_13 (?_ : Go _ _ 66 _ _ _ _)
            refine Go.icmp_gt 75 dX5_count_66 rfl ⟨fun c116 => ?_, fun c116 => (?_ : Go _ _ 69 _ _ _ _)⟩
            · have h := h.1 c116
              refine Go.iload_n 1 dX5_count_75 rfl rfl (?_ : Go _ _ 76 _ _ _ _)
              refine Go.tsw [(0, 164), (1, 172), (2, 231), (3, 180), (4, 231), (5, 231), (6, 231), (7, 231), (8, 231), (9, 231), (10, 231), (11, 231), (12, 231), (13, 231), (14, 188), (15, 196), (16, 204), (17, 223)] 231 dX5_count_76 (by decide +kernel) ?_
              refine And.intro (fun c117 => ?_) (fun c117 => ?_)
              · have h := h.1 c117
                show Go _ _ 164 _ _ _ _
                refine Go.aload_n 0 dX5_count_164 rfl rfl (?_ : Go _ _ 165 _ _ _ _)
                refine Go.getR fk_X5_12 shq_0 frq_0_0 dX5_count_165 (?_ : Go _ _ 168 _ _ _ _)
                refine Go.callV (as := []) (st := []) mk_X3_targetCount wl_X5_80 shq_1 rfl rfl (Nat.le_of_ble_eq_true rfl) dX5_count_168 h ?_
                rintro _ s118 ⟨r119, rfl, h⟩
                show Go _ _ 171 _ [.int r119] _ _
                exact Go.iret rfl dX5_count_171 ⟨_, rfl, h⟩
              · have h := h.2 c117
                refine And.intro (fun c120 => ?_) (fun c120 => ?_)
                · have h := h.1 c120
                  show Go _ _ 172 _ _ _ _
                  refine Go.aload_n 0 dX5_count_172 rfl rfl (?_ : Go _ _ 173 _ _ _ _)
                  refine Go.getR fk_X5_12 shq_0 frq_0_0 dX5_count_173 (?_ : Go _ _ 176 _ _ _ _)
                  refine Go.callV (as := []) (st := []) mk_X3_wallCount wl_X5_222 shq_1 rfl rfl (Nat.le_of_ble_eq_true rfl) dX5_count_176 h ?_
                  rintro _ s121 ⟨r122, rfl, h⟩
                  show Go _ _ 179 _ [.int r122] _ _
                  exact Go.iret rfl dX5_count_179 ⟨_, rfl, h⟩
                · have h := h.2 c120
                  refine And.intro (fun c123 => ?_) (fun c123 => ?_)
                  · have h := h.1 c123
                    show Go _ _ 231 _ _ _ _
                    refine Go.aload_n 0 dX5_count_231 rfl rfl (?_ : Go _ _ 232 _ _ _ _)
                    refine Go.getI fk_X5_58 shq_0 frq_0_9 dX5_count_232 (?_ : Go _ _ 235 _ _ _ _)
                    exact Go.iret rfl dX5_count_235 ⟨_, rfl, h⟩
                  · have h := h.2 c123
                    refine And.intro (fun c124 => ?_) (fun c124 => ?_)
                    · have h := h.1 c124
                      show Go _ _ 180 _ _ _ _
                      refine Go.aload_n 0 dX5_count_180 rfl rfl (?_ : Go _ _ 181 _ _ _ _)
                      refine Go.getR fk_X5_12 shq_0 frq_0_0 dX5_count_181 (?_ : Go _ _ 184 _ _ _ _)
                      refine Go.callV (as := []) (st := []) mk_X3_turnCount wl_X5_99 shq_1 rfl rfl (Nat.le_of_ble_eq_true rfl) dX5_count_184 h ?_
                      rintro _ s125 ⟨r126, rfl, h⟩
                      show Go _ _ 187 _ [.int r126] _ _
                      exact Go.iret rfl dX5_count_187 ⟨_, rfl, h⟩
                    · have h := h.2 c124
                      refine And.intro (fun c127 => ?_) (fun c127 => ?_)
                      · have h := h.1 c127
                        show Go _ _ 231 _ _ _ _
                        refine Go.aload_n 0 dX5_count_231 rfl rfl (?_ : Go _ _ 232 _ _ _ _)
                        refine Go.getI fk_X5_58 shq_0 frq_0_9 dX5_count_232 (?_ : Go _ _ 235 _ _ _ _)
                        exact Go.iret rfl dX5_count_235 ⟨_, rfl, h⟩
                      · have h := h.2 c127
                        refine And.intro (fun c128 => ?_) (fun c128 => ?_)
                        · have h := h.1 c128
                          show Go _ _ 231 _ _ _ _
                          refine Go.aload_n 0 dX5_count_231 rfl rfl (?_ : Go _ _ 232 _ _ _ _)
                          refine Go.getI fk_X5_58 shq_0 frq_0_9 dX5_count_232 (?_ : Go _ _ 235 _ _ _ _)
                          exact Go.iret rfl dX5_count_235 ⟨_, rfl, h⟩
                        · have h := h.2 c128
                          refine And.intro (fun c129 => ?_) (fun c129 => ?_)
                          · have h := h.1 c129
                            show Go _ _ 231 _ _ _ _
                            refine Go.aload_n 0 dX5_count_231 rfl rfl (?_ : Go _ _ 232 _ _ _ _)
                            refine Go.getI fk_X5_58 shq_0 frq_0_9 dX5_count_232 (?_ : Go _ _ 235 _ _ _ _)
                            exact Go.iret rfl dX5_count_235 ⟨_, rfl, h⟩
                          · have h := h.2 c129
                            refine And.intro (fun c130 => ?_) (fun c130 => ?_)
                            · have h := h.1 c130
                              show Go _ _ 231 _ _ _ _
                              refine Go.aload_n 0 dX5_count_231 rfl rfl (?_ : Go _ _ 232 _ _ _ _)
                              refine Go.getI fk_X5_58 shq_0 frq_0_9 dX5_count_232 (?_ : Go _ _ 235 _ _ _ _)
                              exact Go.iret rfl dX5_count_235 ⟨_, rfl, h⟩
                            · have h := h.2 c130
                              refine And.intro (fun c131 => ?_) (fun c131 => ?_)
                              · have h := h.1 c131
                                show Go _ _ 231 _ _ _ _
                                refine Go.aload_n 0 dX5_count_231 rfl rfl (?_ : Go _ _ 232 _ _ _ _)
                                refine Go.getI fk_X5_58 shq_0 frq_0_9 dX5_count_232 (?_ : Go _ _ 235 _ _ _ _)
                                exact Go.iret rfl dX5_count_235 ⟨_, rfl, h⟩
                              · have h := h.2 c131
                                refine And.intro (fun c132 => ?_) (fun c132 => ?_)
                                · have h := h.1 c132
                                  show Go _ _ 231 _ _ _ _
                                  refine Go.aload_n 0 dX5_count_231 rfl rfl (?_ : Go _ _ 232 _ _ _ _)
                                  refine Go.getI fk_X5_58 shq_0 frq_0_9 dX5_count_232 (?_ : Go _ _ 235 _ _ _ _)
                                  exact Go.iret rfl dX5_count_235 ⟨_, rfl, h⟩
                                · have h := h.2 c132
                                  refine And.intro (fun c133 => ?_) (fun c133 => ?_)
                                  · have h := h.1 c133
                                    show Go _ _ 231 _ _ _ _
                                    refine Go.aload_n 0 dX5_count_231 rfl rfl (?_ : Go _ _ 232 _ _ _ _)
                                    refine Go.getI fk_X5_58 shq_0 frq_0_9 dX5_count_232 (?_ : Go _ _ 235 _ _ _ _)
                                    exact Go.iret rfl dX5_count_235 ⟨_, rfl, h⟩
                                  · have h := h.2 c133
                                    refine And.intro (fun c134 => ?_) (fun c134 => ?_)
                                    · have h := h.1 c134
                                      show Go _ _ 231 _ _ _ _
                                      refine Go.aload_n 0 dX5_count_231 rfl rfl (?_ : Go _ _ 232 _ _ _ _)
                                      refine Go.getI fk_X5_58 shq_0 frq_0_9 dX5_count_232 (?_ : Go _ _ 235 _ _ _ _)
                                      exact Go.iret rfl dX5_count_235 ⟨_, rfl, h⟩
                                    · have h := h.2 c134
                                      refine And.intro (fun c135 => ?_) (fun c135 => ?_)
                                      · have h := h.1 c135
                                        show Go _ _ 231 _ _ _ _
                                        refine Go.aload_n 0 dX5_count_231 rfl rfl (?_ : Go _ _ 232 _ _ _ _)
                                        refine Go.getI fk_X5_58 shq_0 frq_0_9 dX5_count_232 (?_ : Go _ _ 235 _ _ _ _)
                                        exact Go.iret rfl dX5_count_235 ⟨_, rfl, h⟩
                                      · have h := h.2 c135
                                        refine And.intro (fun c136 => ?_) (fun c136 => ?_)
                                        · have h := h.1 c136
                                          show Go _ _ 231 _ _ _ _
                                          refine Go.aload_n 0 dX5_count_231 rfl rfl (?_ : Go _ _ 232 _ _ _ _)
                                          refine Go.getI fk_X5_58 shq_0 frq_0_9 dX5_count_232 (?_ : Go _ _ 235 _ _ _ _)
                                          exact Go.iret rfl dX5_count_235 ⟨_, rfl, h⟩
                                        · have h := h.2 c136
                                          refine And.intro (fun c137 => ?_) (fun c137 => ?_)
                                          · have h := h.1 c137
                                            show Go _ _ 188 _ _ _ _
                                            refine Go.aload_n 0 dX5_count_188 rfl rfl (?_ : Go _ _ 189 _ _ _ _)
                                            refine Go.getR fk_X5_12 shq_0 frq_0_0 dX5_count_189 (?_ : Go _ _ 192 _ _ _ _)
                                            refine Go.callV (as := []) (st := []) mk_X3_blindBelow wl_X5_225 shq_1 rfl rfl (Nat.le_of_ble_eq_true rfl) dX5_count_192 h ?_
                                            rintro _ s138 ⟨r139, rfl, h⟩
                                            show Go _ _ 195 _ [.int r139] _ _
                                            exact Go.iret rfl dX5_count_195 ⟨_, rfl, h⟩
                                          · have h := h.2 c137
                                            refine And.intro (fun c140 => ?_) (fun c140 => ?_)
                                            · have h := h.1 c140
                                              show Go _ _ 196 _ _ _ _
                                              refine Go.aload_n 0 dX5_count_196 rfl rfl (?_ : Go _ _ 197 _ _ _ _)
                                              refine Go.getR fk_X5_12 shq_0 frq_0_0 dX5_count_197 (?_ : Go _ _ 200 _ _ _ _)
                                              refine Go.callV (as := []) (st := []) mk_X3_loudFrom wl_X5_228 shq_1 rfl rfl (Nat.le_of_ble_eq_true rfl) dX5_count_200 h ?_
                                              rintro _ s141 ⟨r142, rfl, h⟩
                                              show Go _ _ 203 _ [.int r142] _ _
                                              exact Go.iret rfl dX5_count_203 ⟨_, rfl, h⟩
                                            · have h := h.2 c140
                                              refine And.intro (fun c143 => ?_) (fun c143 => ?_)
                                              · have h := h.1 c143
                                                show Go _ _ 204 _ _ _ _
                                                refine Go.aload_n 0 dX5_count_204 rfl rfl (?_ : Go _ _ 205 _ _ _ _)
                                                refine Go.getR fk_X5_43 shq_0 frq_0_6 dX5_count_205 (?_ : Go _ _ 208 _ _ _ _)
                                                refine Go.aload_n 0 dX5_count_208 rfl rfl (?_ : Go _ _ 209 _ _ _ _)
                                                refine Go.getR fk_X5_12 shq_0 frq_0_0 dX5_count_209 (?_ : Go _ _ 212 _ _ _ _)
                                                refine Go.callV (as := [.ref 1]) (st := []) mk_X4_write wl_X5_136 shq_52 rfl rfl (Nat.le_of_ble_eq_true rfl) dX5_count_212 h ?_
                                                rintro _ s144 ⟨rfl, h⟩
                                                show Go _ _ 215 _ [] _ _
                                                refine Go.aload_n 0 dX5_count_215 rfl rfl (?_ : Go _ _ 216 _ _ _ _)
                                                refine Go.getR fk_X5_43 shq_0 frq_0_6 dX5_count_216 (?_ : Go _ _ 219 _ _ _ _)
                                                refine Go.callV (as := []) (st := []) mk_X4_length wl_X5_139 shq_52 rfl rfl (Nat.le_of_ble_eq_true rfl) dX5_count_219 h ?_
                                                rintro _ s145 ⟨r146, rfl, h⟩
                                                show Go _ _ 222 _ [.int r146] _ _
                                                exact Go.iret rfl dX5_count_222 ⟨_, rfl, h⟩
                                              · have h := h.2 c143
                                                refine And.intro (fun c147 => ?_) (fun c147 => ?_)
                                                · have h := h.1 c147
                                                  show Go _ _ 223 _ _ _ _
                                                  refine Go.aload_n 0 dX5_count_223 rfl rfl (?_ : Go _ _ 224 _ _ _ _)
                                                  refine Go.getR fk_X5_29 shq_0 frq_0_4 dX5_count_224 (?_ : Go _ _ 227 _ _ _ _)
                                                  refine Go.callV (as := []) (st := []) mk_X1_length wl_X5_117 shq_44 rfl rfl (Nat.le_of_ble_eq_true rfl) dX5_count_227 h ?_
                                                  rintro _ s148 ⟨r149, rfl, h⟩
                                                  show Go _ _ 230 _ [.int r149] _ _
                                                  exact Go.iret rfl dX5_count_230 ⟨_, rfl, h⟩
                                                · have h := h.2 c147
                                                  show Go _ _ 231 _ _ _ _
                                                  refine Go.aload_n 0 dX5_count_231 rfl rfl (?_ : Go _ _ 232 _ _ _ _)
                                                  refine Go.getI fk_X5_58 shq_0 frq_0_9 dX5_count_232 (?_ : Go _ _ 235 _ _ _ _)
                                                  exact Go.iret rfl dX5_count_235 ⟨_, rfl, h⟩
            · have h := h.2 c116
              refine Go.aload_n 0 dX5_count_69 rfl rfl (?_ : Go _ _ 70 _ _ _ _)
              refine Go.iload_n 1 dX5_count_70 rfl rfl (?_ : Go _ _ 71 _ _ _ _)
              refine Go.callV (as := [.int x1]) (st := []) mk_X5_countHeard wl_X5_219 shq_0 rfl rfl (Nat.le_of_ble_eq_true rfl) dX5_count_71 h ?_
              rintro _ s150 ⟨r151, rfl, h⟩
              show Go _ _ 74 _ [.int r151] _ _
              exact Go.iret rfl dX5_count_74 ⟨_, rfl, h⟩
      · have h := h.2 c78
        refine Go.aload_n 0 dX5_count_23 rfl rfl (?_ : Go _ _ 24 _ _ _ _)
        refine Go.getR fk_X5_12 shq_0 frq_0_0 dX5_count_24 (?_ : Go _ _ 27 _ _ _ _)
        refine Go.iload_n 1 dX5_count_27 rfl rfl (?_ : Go _ _ 28 _ _ _ _)
        refine Go.iconst dX5_count_28 k_ic_4 (?_ : Go _ _ 29 _ _ _ _)
        refine Go.isub dX5_count_29 (?_ : Go _ _ 30 _ _ _ _)
        refine Go.callV (as := [.int (x1 - 4)]) (st := []) mk_X3_hasTurn wl_X5_180 shq_1 rfl rfl (Nat.le_of_ble_eq_true rfl) dX5_count_30 h ?_
        rintro _ s152 ⟨r153, rfl, h⟩
        show Go _ _ 33 _ [.int r153] _ _
        refine Go.if_eq 49 dX5_count_33 rfl ⟨fun c154 => ?_, fun c154 => (?_ : Go _ _ 36 _ _ _ _)⟩
        · have h := h.1 c154
          refine Go.bipush dX5_count_49 k_bi_m4 (?_ : Go _ _ 51 _ _ _ _)
          exact Go.iret rfl dX5_count_51 ⟨_, rfl, h⟩
        · have h := h.2 c154
          refine Go.aload_n 0 dX5_count_36 rfl rfl (?_ : Go _ _ 37 _ _ _ _)
          refine Go.getR fk_X5_12 shq_0 frq_0_0 dX5_count_37 (?_ : Go _ _ 40 _ _ _ _)
          refine Go.iload_n 1 dX5_count_40 rfl rfl (?_ : Go _ _ 41 _ _ _ _)
          refine Go.iconst dX5_count_41 k_ic_4 (?_ : Go _ _ 42 _ _ _ _)
          refine Go.isub dX5_count_42 (?_ : Go _ _ 43 _ _ _ _)
          refine Go.callV (as := [.int (x1 - 4)]) (st := []) mk_X3_spacingOf wl_X5_206 shq_1 rfl rfl (Nat.le_of_ble_eq_true rfl) dX5_count_43 h ?_
          rintro _ s155 ⟨r156, rfl, h⟩
          show Go _ _ 46 _ [.int r156] _ _
          refine Go.goto 51 dX5_count_46 rfl ?_
          exact Go.iret rfl dX5_count_51 ⟨_, rfl, h⟩
  · have h := h.2 c3
    refine Go.iconst dX5_count_10 k_ic_m1 (?_ : Go _ _ 11 _ _ _ _)
    exact Go.iret rfl dX5_count_11 ⟨_, rfl, h⟩
theorem cgX5_count {d : Nat} {σ : St} {x1 : Int32} {K : Int32 → St → Prop} (h : CallI d mX5_isWithin [.int x1, .int 0, .int 18] σ (fun r2 s1 => (¬ r2 = 0 → (x1 < 4 → (x1 = 2 → CallI d mX5_countHeard [.ref 0, .int x1] s1 (fun r7 s6 => K r7 s6)) ∧ (¬ x1 = 2 → (x1 < 8 → (x1 = 0 → CallI d mX3_targetCount [.ref 1] s1 (fun r11 s10 => K r11 s10)) ∧ (¬ x1 = 0 → (x1 = 1 → CallI d mX3_wallCount [.ref 1] s1 (fun r14 s13 => K r14 s13)) ∧ (¬ x1 = 1 → (x1 = 2 → K (sF s1 0 9) s1) ∧ (¬ x1 = 2 → (x1 = 3 → CallI d mX3_turnCount [.ref 1] s1 (fun r18 s17 => K r18 s17)) ∧ (¬ x1 = 3 → (x1 = 4 → K (sF s1 0 9) s1) ∧ (¬ x1 = 4 → (x1 = 5 → K (sF s1 0 9) s1) ∧ (¬ x1 = 5 → (x1 = 6 → K (sF s1 0 9) s1) ∧ (¬ x1 = 6 → (x1 = 7 → K (sF s1 0 9) s1) ∧ (¬ x1 = 7 → (x1 = 8 → K (sF s1 0 9) s1) ∧ (¬ x1 = 8 → (x1 = 9 → K (sF s1 0 9) s1) ∧ (¬ x1 = 9 → (x1 = 10 → K (sF s1 0 9) s1) ∧ (¬ x1 = 10 → (x1 = 11 → K (sF s1 0 9) s1) ∧ (¬ x1 = 11 → (x1 = 12 → K (sF s1 0 9) s1) ∧ (¬ x1 = 12 → (x1 = 13 → K (sF s1 0 9) s1) ∧ (¬ x1 = 13 → (x1 = 14 → CallI d mX3_blindBelow [.ref 1] s1 (fun r31 s30 => K r31 s30)) ∧ (¬ x1 = 14 → (x1 = 15 → CallI d mX3_loudFrom [.ref 1] s1 (fun r34 s33 => K r34 s33)) ∧ (¬ x1 = 15 → (x1 = 16 → CallU d mX4_write [.ref 52, .ref 1] s1 (fun s36 => CallI d mX4_length [.ref 52] s36 (fun r38 s37 => K r38 s37))) ∧ (¬ x1 = 16 → (x1 = 17 → CallI d mX1_length [.ref 44] s1 (fun r41 s40 => K r41 s40)) ∧ (¬ x1 = 17 → K (sF s1 0 9) s1))))))))))))))))))) ∧ (¬ x1 < 8 → (13 < x1 → (x1 = 0 → CallI d mX3_targetCount [.ref 1] s1 (fun r45 s44 => K r45 s44)) ∧ (¬ x1 = 0 → (x1 = 1 → CallI d mX3_wallCount [.ref 1] s1 (fun r48 s47 => K r48 s47)) ∧ (¬ x1 = 1 → (x1 = 2 → K (sF s1 0 9) s1) ∧ (¬ x1 = 2 → (x1 = 3 → CallI d mX3_turnCount [.ref 1] s1 (fun r52 s51 => K r52 s51)) ∧ (¬ x1 = 3 → (x1 = 4 → K (sF s1 0 9) s1) ∧ (¬ x1 = 4 → (x1 = 5 → K (sF s1 0 9) s1) ∧ (¬ x1 = 5 → (x1 = 6 → K (sF s1 0 9) s1) ∧ (¬ x1 = 6 → (x1 = 7 → K (sF s1 0 9) s1) ∧ (¬ x1 = 7 → (x1 = 8 → K (sF s1 0 9) s1) ∧ (¬ x1 = 8 → (x1 = 9 → K (sF s1 0 9) s1) ∧ (¬ x1 = 9 → (x1 = 10 → K (sF s1 0 9) s1) ∧ (¬ x1 = 10 → (x1 = 11 → K (sF s1 0 9) s1) ∧ (¬ x1 = 11 → (x1 = 12 → K (sF s1 0 9) s1) ∧ (¬ x1 = 12 → (x1 = 13 → K (sF s1 0 9) s1) ∧ (¬ x1 = 13 → (x1 = 14 → CallI d mX3_blindBelow [.ref 1] s1 (fun r65 s64 => K r65 s64)) ∧ (¬ x1 = 14 → (x1 = 15 → CallI d mX3_loudFrom [.ref 1] s1 (fun r68 s67 => K r68 s67)) ∧ (¬ x1 = 15 → (x1 = 16 → CallU d mX4_write [.ref 52, .ref 1] s1 (fun s70 => CallI d mX4_length [.ref 52] s70 (fun r72 s71 => K r72 s71))) ∧ (¬ x1 = 16 → (x1 = 17 → CallI d mX1_length [.ref 44] s1 (fun r75 s74 => K r75 s74)) ∧ (¬ x1 = 17 → K (sF s1 0 9) s1))))))))))))))))))) ∧ (¬ 13 < x1 → CallI d mX5_countHeard [.ref 0, .int x1] s1 (fun r77 s76 => K r77 s76))))) ∧ (¬ x1 < 4 → (7 < x1 → (x1 = 2 → CallI d mX5_countHeard [.ref 0, .int x1] s1 (fun r81 s80 => K r81 s80)) ∧ (¬ x1 = 2 → (x1 < 8 → (x1 = 0 → CallI d mX3_targetCount [.ref 1] s1 (fun r85 s84 => K r85 s84)) ∧ (¬ x1 = 0 → (x1 = 1 → CallI d mX3_wallCount [.ref 1] s1 (fun r88 s87 => K r88 s87)) ∧ (¬ x1 = 1 → (x1 = 2 → K (sF s1 0 9) s1) ∧ (¬ x1 = 2 → (x1 = 3 → CallI d mX3_turnCount [.ref 1] s1 (fun r92 s91 => K r92 s91)) ∧ (¬ x1 = 3 → (x1 = 4 → K (sF s1 0 9) s1) ∧ (¬ x1 = 4 → (x1 = 5 → K (sF s1 0 9) s1) ∧ (¬ x1 = 5 → (x1 = 6 → K (sF s1 0 9) s1) ∧ (¬ x1 = 6 → (x1 = 7 → K (sF s1 0 9) s1) ∧ (¬ x1 = 7 → (x1 = 8 → K (sF s1 0 9) s1) ∧ (¬ x1 = 8 → (x1 = 9 → K (sF s1 0 9) s1) ∧ (¬ x1 = 9 → (x1 = 10 → K (sF s1 0 9) s1) ∧ (¬ x1 = 10 → (x1 = 11 → K (sF s1 0 9) s1) ∧ (¬ x1 = 11 → (x1 = 12 → K (sF s1 0 9) s1) ∧ (¬ x1 = 12 → (x1 = 13 → K (sF s1 0 9) s1) ∧ (¬ x1 = 13 → (x1 = 14 → CallI d mX3_blindBelow [.ref 1] s1 (fun r105 s104 => K r105 s104)) ∧ (¬ x1 = 14 → (x1 = 15 → CallI d mX3_loudFrom [.ref 1] s1 (fun r108 s107 => K r108 s107)) ∧ (¬ x1 = 15 → (x1 = 16 → CallU d mX4_write [.ref 52, .ref 1] s1 (fun s110 => CallI d mX4_length [.ref 52] s110 (fun r112 s111 => K r112 s111))) ∧ (¬ x1 = 16 → (x1 = 17 → CallI d mX1_length [.ref 44] s1 (fun r115 s114 => K r115 s114)) ∧ (¬ x1 = 17 → K (sF s1 0 9) s1))))))))))))))))))) ∧ (¬ x1 < 8 → (13 < x1 → (x1 = 0 → CallI d mX3_targetCount [.ref 1] s1 (fun r119 s118 => K r119 s118)) ∧ (¬ x1 = 0 → (x1 = 1 → CallI d mX3_wallCount [.ref 1] s1 (fun r122 s121 => K r122 s121)) ∧ (¬ x1 = 1 → (x1 = 2 → K (sF s1 0 9) s1) ∧ (¬ x1 = 2 → (x1 = 3 → CallI d mX3_turnCount [.ref 1] s1 (fun r126 s125 => K r126 s125)) ∧ (¬ x1 = 3 → (x1 = 4 → K (sF s1 0 9) s1) ∧ (¬ x1 = 4 → (x1 = 5 → K (sF s1 0 9) s1) ∧ (¬ x1 = 5 → (x1 = 6 → K (sF s1 0 9) s1) ∧ (¬ x1 = 6 → (x1 = 7 → K (sF s1 0 9) s1) ∧ (¬ x1 = 7 → (x1 = 8 → K (sF s1 0 9) s1) ∧ (¬ x1 = 8 → (x1 = 9 → K (sF s1 0 9) s1) ∧ (¬ x1 = 9 → (x1 = 10 → K (sF s1 0 9) s1) ∧ (¬ x1 = 10 → (x1 = 11 → K (sF s1 0 9) s1) ∧ (¬ x1 = 11 → (x1 = 12 → K (sF s1 0 9) s1) ∧ (¬ x1 = 12 → (x1 = 13 → K (sF s1 0 9) s1) ∧ (¬ x1 = 13 → (x1 = 14 → CallI d mX3_blindBelow [.ref 1] s1 (fun r139 s138 => K r139 s138)) ∧ (¬ x1 = 14 → (x1 = 15 → CallI d mX3_loudFrom [.ref 1] s1 (fun r142 s141 => K r142 s141)) ∧ (¬ x1 = 15 → (x1 = 16 → CallU d mX4_write [.ref 52, .ref 1] s1 (fun s144 => CallI d mX4_length [.ref 52] s144 (fun r146 s145 => K r146 s145))) ∧ (¬ x1 = 16 → (x1 = 17 → CallI d mX1_length [.ref 44] s1 (fun r149 s148 => K r149 s148)) ∧ (¬ x1 = 17 → K (sF s1 0 9) s1))))))))))))))))))) ∧ (¬ 13 < x1 → CallI d mX5_countHeard [.ref 0, .int x1] s1 (fun r151 s150 => K r151 s150))))) ∧ (¬ 7 < x1 → CallI d mX3_hasTurn [.ref 1, .int (x1 - 4)] s1 (fun r153 s152 => (r153 = 0 → K (-4) s152) ∧ (¬ r153 = 0 → CallI d mX3_spacingOf [.ref 1, .int (x1 - 4)] s152 (fun r156 s155 => K r156 s155)))))) ∧ (r2 = 0 → K (-1) s1))) : CallI (d + 1) mX5_count [.ref 0, .int x1] σ K := Call_of_Go (by decide +kernel) (ls := [.ref 0, .int x1]) rfl (Nat.le_of_ble_eq_true rfl) (sgX5_count_0 h)
set_option maxHeartbeats 4000000 in
set_option maxRecDepth 100000 in
theorem sgX5_ifTurn_0 {d : Nat} {σ : St} {x1 : Int32} {x2 : Int32} {K : Int32 → St → Prop} (h : CallI d mX5_isSpacing [.int x1] σ (fun r2 s1 => (r2 = 0 → K (-1) s1) ∧ (¬ r2 = 0 → CallI d mX5_isWithin [.int x2, .int 0, .int 2] s1 (fun r5 s4 => (¬ r5 = 0 → CallI d mX3_turnCount [.ref 1] s4 (fun r8 s7 => (r8 < 4 → CallU d mX3_become [.ref 7, .ref 1] s7 (fun s10 => CallU d mX3_addTurn [.ref 7, .int x1] s10 (fun s11 => CallU d mX0_listen [.ref 54, .ref 7] s11 (fun s12 => (x2 = 0 → CallI d mX0_toldCount [.ref 54] s12 (fun r15 s14 => K r15 s14)) ∧ (¬ x2 = 0 → (x2 = 1 → CallI d mX0_toldCount [.ref 54] s12 (fun r18 s17 => CallI d mX0_trueCount [.ref 54] s17 (fun r20 s19 => K (r18 - r20) s19))) ∧ (¬ x2 = 1 → CallI d mX0_missedCount [.ref 54] s12 (fun r22 s21 => K r22 s21))))))) ∧ (¬ r8 < 4 → K (-3) s7))) ∧ (r5 = 0 → K (-1) s4))))) : Go mX5_ifTurn (d + 1) 0 [.ref 0, .int x1, .int x2] [] σ (QI K) := by
  refine Go.iload_n 1 dX5_ifTurn_0 rfl rfl (?_ : Go _ _ 1 _ _ _ _)
  refine Go.callS (as := [.int x1]) (st := []) mk_X5_isSpacing wl_X5_87 rfl rfl (Nat.le_of_ble_eq_true rfl) dX5_ifTurn_1 h ?_
  rintro _ s1 ⟨r2, rfl, h⟩
  show Go _ _ 4 _ [.int r2] _ _
  refine Go.if_eq 16 dX5_ifTurn_4 rfl ⟨fun c3 => ?_, fun c3 => (?_ : Go _ _ 7 _ _ _ _)⟩
  · have h := h.1 c3
    refine Go.iconst dX5_ifTurn_16 k_ic_m1 (?_ : Go _ _ 17 _ _ _ _)
    exact Go.iret rfl dX5_ifTurn_17 ⟨_, rfl, h⟩
  · have h := h.2 c3
    refine Go.iload_n 2 dX5_ifTurn_7 rfl rfl (?_ : Go _ _ 8 _ _ _ _)
    refine Go.iconst dX5_ifTurn_8 k_ic_0 (?_ : Go _ _ 9 _ _ _ _)
    refine Go.iconst dX5_ifTurn_9 k_ic_2 (?_ : Go _ _ 10 _ _ _ _)
    refine Go.callS (as := [.int x2, .int 0, .int 2]) (st := []) mk_X5_isWithin wl_X5_102 rfl rfl (Nat.le_of_ble_eq_true rfl) dX5_ifTurn_10 h ?_
    rintro _ s4 ⟨r5, rfl, h⟩
    show Go _ _ 13 _ [.int r5] _ _
    refine Go.if_ne 18 dX5_ifTurn_13 rfl ⟨fun c6 => ?_, fun c6 => (?_ : Go _ _ 16 _ _ _ _)⟩
    · have h := h.1 c6
      refine Go.aload_n 0 dX5_ifTurn_18 rfl rfl (?_ : Go _ _ 19 _ _ _ _)
      refine Go.getR fk_X5_12 shq_0 frq_0_0 dX5_ifTurn_19 (?_ : Go _ _ 22 _ _ _ _)
      refine Go.callV (as := []) (st := []) mk_X3_turnCount wl_X5_99 shq_1 rfl rfl (Nat.le_of_ble_eq_true rfl) dX5_ifTurn_22 h ?_
      rintro _ s7 ⟨r8, rfl, h⟩
      show Go _ _ 25 _ [.int r8] _ _
      refine Go.iconst dX5_ifTurn_25 k_ic_4 (?_ : Go _ _ 26 _ _ _ _)
      refine Go.icmp_lt 32 dX5_ifTurn_26 rfl ⟨fun c9 => ?_, fun c9 => (?_ : Go _ _ 29 _ _ _ _)⟩
      · have h := h.1 c9
        refine Go.aload_n 0 dX5_ifTurn_32 rfl rfl (?_ : Go _ _ 33 _ _ _ _)
        refine Go.getR fk_X5_16 shq_0 frq_0_1 dX5_ifTurn_33 (?_ : Go _ _ 36 _ _ _ _)
        refine Go.aload_n 0 dX5_ifTurn_36 rfl rfl (?_ : Go _ _ 37 _ _ _ _)
        refine Go.getR fk_X5_12 shq_0 frq_0_0 dX5_ifTurn_37 (?_ : Go _ _ 40 _ _ _ _)
        refine Go.callV (as := [.ref 1]) (st := []) mk_X3_become wl_X5_237 shq_7 rfl rfl (Nat.le_of_ble_eq_true rfl) dX5_ifTurn_40 h ?_
        rintro _ s10 ⟨rfl, h⟩
        show Go _ _ 43 _ [] _ _
        refine Go.aload_n 0 dX5_ifTurn_43 rfl rfl (?_ : Go _ _ 44 _ _ _ _)
        refine Go.getR fk_X5_16 shq_0 frq_0_1 dX5_ifTurn_44 (?_ : Go _ _ 47 _ _ _ _)
        refine Go.iload_n 1 dX5_ifTurn_47 rfl rfl (?_ : Go _ _ 48 _ _ _ _)
        refine Go.callV (as := [.int x1]) (st := []) mk_X3_addTurn wl_X5_96 shq_7 rfl rfl (Nat.le_of_ble_eq_true rfl) dX5_ifTurn_48 h ?_
        rintro _ s11 ⟨rfl, h⟩
        show Go _ _ 51 _ [] _ _
        refine Go.aload_n 0 dX5_ifTurn_51 rfl rfl (?_ : Go _ _ 52 _ _ _ _)
        refine Go.getR fk_X5_50 shq_0 frq_0_7 dX5_ifTurn_52 (?_ : Go _ _ 55 _ _ _ _)
        refine Go.aload_n 0 dX5_ifTurn_55 rfl rfl (?_ : Go _ _ 56 _ _ _ _)
        refine Go.getR fk_X5_16 shq_0 frq_0_1 dX5_ifTurn_56 (?_ : Go _ _ 59 _ _ _ _)
        refine Go.callV (as := [.ref 7]) (st := []) mk_X0_listen wl_X5_163 shq_54 rfl rfl (Nat.le_of_ble_eq_true rfl) dX5_ifTurn_59 h ?_
        rintro _ s12 ⟨rfl, h⟩
        show Go _ _ 62 _ [] _ _
        refine Go.iload_n 2 dX5_ifTurn_62 rfl rfl (?_ : Go _ _ 63 _ _ _ _)
        refine Go.lsw [(0, 88), (1, 96)] 112 dX5_ifTurn_63 (by decide +kernel) (by decide +kernel) (by decide +kernel) ?_
        refine And.intro (fun c13 => ?_) (fun c13 => ?_)
        · have h := h.1 c13
          show Go _ _ 88 _ _ _ _
          refine Go.aload_n 0 dX5_ifTurn_88 rfl rfl (?_ : Go _ _ 89 _ _ _ _)
          refine Go.getR fk_X5_50 shq_0 frq_0_7 dX5_ifTurn_89 (?_ : Go _ _ 92 _ _ _ _)
          refine Go.callV (as := []) (st := []) mk_X0_toldCount wl_X5_231 shq_54 rfl rfl (Nat.le_of_ble_eq_true rfl) dX5_ifTurn_92 h ?_
          rintro _ s14 ⟨r15, rfl, h⟩
          show Go _ _ 95 _ [.int r15] _ _
          exact Go.iret rfl dX5_ifTurn_95 ⟨_, rfl, h⟩
        · have h := h.2 c13
          refine And.intro (fun c16 => ?_) (fun c16 => ?_)
          · have h := h.1 c16
            show Go _ _ 96 _ _ _ _
            refine Go.aload_n 0 dX5_ifTurn_96 rfl rfl (?_ : Go _ _ 97 _ _ _ _)
            refine Go.getR fk_X5_50 shq_0 frq_0_7 dX5_ifTurn_97 (?_ : Go _ _ 100 _ _ _ _)
            refine Go.callV (as := []) (st := []) mk_X0_toldCount wl_X5_231 shq_54 rfl rfl (Nat.le_of_ble_eq_true rfl) dX5_ifTurn_100 h ?_
            rintro _ s17 ⟨r18, rfl, h⟩
            show Go _ _ 103 _ [.int r18] _ _
            refine Go.aload_n 0 dX5_ifTurn_103 rfl rfl (?_ : Go _ _ 104 _ _ _ _)
            refine Go.getR fk_X5_50 shq_0 frq_0_7 dX5_ifTurn_104 (?_ : Go _ _ 107 _ _ _ _)
            refine Go.callV (as := []) (st := [.int r18]) mk_X0_trueCount wl_X5_234 shq_54 rfl rfl (Nat.le_of_ble_eq_true rfl) dX5_ifTurn_107 h ?_
            rintro _ s19 ⟨r20, rfl, h⟩
            show Go _ _ 110 _ [.int r20, .int r18] _ _
            refine Go.isub dX5_ifTurn_110 (?_ : Go _ _ 111 _ _ _ _)
            exact Go.iret rfl dX5_ifTurn_111 ⟨_, rfl, h⟩
          · have h := h.2 c16
            show Go _ _ 112 _ _ _ _
            refine Go.aload_n 0 dX5_ifTurn_112 rfl rfl (?_ : Go _ _ 113 _ _ _ _)
            refine Go.getR fk_X5_50 shq_0 frq_0_7 dX5_ifTurn_113 (?_ : Go _ _ 116 _ _ _ _)
            refine Go.callV (as := []) (st := []) mk_X0_missedCount wl_X5_240 shq_54 rfl rfl (Nat.le_of_ble_eq_true rfl) dX5_ifTurn_116 h ?_
            rintro _ s21 ⟨r22, rfl, h⟩
            show Go _ _ 119 _ [.int r22] _ _
            exact Go.iret rfl dX5_ifTurn_119 ⟨_, rfl, h⟩
      · have h := h.2 c9
        refine Go.bipush dX5_ifTurn_29 k_bi_m3 (?_ : Go _ _ 31 _ _ _ _)
        exact Go.iret rfl dX5_ifTurn_31 ⟨_, rfl, h⟩
    · have h := h.2 c6
      refine Go.iconst dX5_ifTurn_16 k_ic_m1 (?_ : Go _ _ 17 _ _ _ _)
      exact Go.iret rfl dX5_ifTurn_17 ⟨_, rfl, h⟩
theorem cgX5_ifTurn {d : Nat} {σ : St} {x1 : Int32} {x2 : Int32} {K : Int32 → St → Prop} (h : CallI d mX5_isSpacing [.int x1] σ (fun r2 s1 => (r2 = 0 → K (-1) s1) ∧ (¬ r2 = 0 → CallI d mX5_isWithin [.int x2, .int 0, .int 2] s1 (fun r5 s4 => (¬ r5 = 0 → CallI d mX3_turnCount [.ref 1] s4 (fun r8 s7 => (r8 < 4 → CallU d mX3_become [.ref 7, .ref 1] s7 (fun s10 => CallU d mX3_addTurn [.ref 7, .int x1] s10 (fun s11 => CallU d mX0_listen [.ref 54, .ref 7] s11 (fun s12 => (x2 = 0 → CallI d mX0_toldCount [.ref 54] s12 (fun r15 s14 => K r15 s14)) ∧ (¬ x2 = 0 → (x2 = 1 → CallI d mX0_toldCount [.ref 54] s12 (fun r18 s17 => CallI d mX0_trueCount [.ref 54] s17 (fun r20 s19 => K (r18 - r20) s19))) ∧ (¬ x2 = 1 → CallI d mX0_missedCount [.ref 54] s12 (fun r22 s21 => K r22 s21))))))) ∧ (¬ r8 < 4 → K (-3) s7))) ∧ (r5 = 0 → K (-1) s4))))) : CallI (d + 1) mX5_ifTurn [.ref 0, .int x1, .int x2] σ K := Call_of_Go (by decide +kernel) (ls := [.ref 0, .int x1, .int x2]) rfl (Nat.le_of_ble_eq_true rfl) (sgX5_ifTurn_0 h)
set_option maxHeartbeats 4000000 in
set_option maxRecDepth 100000 in
theorem sgX5_ifWall_0 {d : Nat} {σ : St} {x1 : Int32} {x2 : Int32} {x3 : Int32} {K : Int32 → St → Prop} (h : CallI d mX5_isWithin [.int x3, .int 0, .int 1] σ (fun r2 s1 => (¬ r2 = 0 → CallI d mX5_comingError [.ref 0, .int x1, .int x2, .int 0, .int 1] s1 (fun r5 s4 => (r5 = 0 → CallU d mX3_become [.ref 7, .ref 1] s4 (fun s7 => CallI d mX3_join [.ref 7, .int x1, .int x2, .int 0, .int 1] s7 (fun r9 s8 => CallU d mX0_listen [.ref 54, .ref 7] s8 (fun s10 => (¬ x3 = 0 → CallI d mX0_toldCount [.ref 54] s10 (fun r13 s12 => K r13 s12)) ∧ (x3 = 0 → CallI d mX0_ghostCount [.ref 54] s10 (fun r15 s14 => K r15 s14)))))) ∧ (¬ r5 = 0 → K r5 s4))) ∧ (r2 = 0 → K (-1) s1))) : Go mX5_ifWall (d + 1) 0 [.ref 0, .int x1, .int x2, .int x3, .null] [] σ (QI K) := by
  refine Go.iload_n 3 dX5_ifWall_0 rfl rfl (?_ : Go _ _ 1 _ _ _ _)
  refine Go.iconst dX5_ifWall_1 k_ic_0 (?_ : Go _ _ 2 _ _ _ _)
  refine Go.iconst dX5_ifWall_2 k_ic_1 (?_ : Go _ _ 3 _ _ _ _)
  refine Go.callS (as := [.int x3, .int 0, .int 1]) (st := []) mk_X5_isWithin wl_X5_102 rfl rfl (Nat.le_of_ble_eq_true rfl) dX5_ifWall_3 h ?_
  rintro _ s1 ⟨r2, rfl, h⟩
  show Go _ _ 6 _ [.int r2] _ _
  refine Go.if_ne 11 dX5_ifWall_6 rfl ⟨fun c3 => ?_, fun c3 => (?_ : Go _ _ 9 _ _ _ _)⟩
  · have h := h.1 c3
    refine Go.aload_n 0 dX5_ifWall_11 rfl rfl (?_ : Go _ _ 12 _ _ _ _)
    refine Go.iload_n 1 dX5_ifWall_12 rfl rfl (?_ : Go _ _ 13 _ _ _ _)
    refine Go.iload_n 2 dX5_ifWall_13 rfl rfl (?_ : Go _ _ 14 _ _ _ _)
    refine Go.iconst dX5_ifWall_14 k_ic_0 (?_ : Go _ _ 15 _ _ _ _)
    refine Go.iconst dX5_ifWall_15 k_ic_1 (?_ : Go _ _ 16 _ _ _ _)
    refine Go.callV (as := [.int x1, .int x2, .int 0, .int 1]) (st := []) mk_X5_comingError wl_X5_62 shq_0 rfl rfl (Nat.le_of_ble_eq_true rfl) dX5_ifWall_16 h ?_
    rintro _ s4 ⟨r5, rfl, h⟩
    show Go _ _ 19 _ [.int r5] _ _
    refine Go.istore dX5_ifWall_19 (by decide) rfl rfl (?_ : Go _ _ 21 [.ref 0, .int x1, .int x2, .int x3, .int r5] _ _ _)
    refine Go.iload dX5_ifWall_21 rfl (?_ : Go _ _ 23 _ _ _ _)
    refine Go.if_eq 29 dX5_ifWall_23 rfl ⟨fun c6 => ?_, fun c6 => (?_ : Go _ _ 26 _ _ _ _)⟩
    · have h := h.1 c6
      refine Go.aload_n 0 dX5_ifWall_29 rfl rfl (?_ : Go _ _ 30 _ _ _ _)
      refine Go.getR fk_X5_16 shq_0 frq_0_1 dX5_ifWall_30 (?_ : Go _ _ 33 _ _ _ _)
      refine Go.aload_n 0 dX5_ifWall_33 rfl rfl (?_ : Go _ _ 34 _ _ _ _)
      refine Go.getR fk_X5_12 shq_0 frq_0_0 dX5_ifWall_34 (?_ : Go _ _ 37 _ _ _ _)
      refine Go.callV (as := [.ref 1]) (st := []) mk_X3_become wl_X5_237 shq_7 rfl rfl (Nat.le_of_ble_eq_true rfl) dX5_ifWall_37 h ?_
      rintro _ s7 ⟨rfl, h⟩
      show Go _ _ 40 _ [] _ _
      refine Go.aload_n 0 dX5_ifWall_40 rfl rfl (?_ : Go _ _ 41 _ _ _ _)
      refine Go.getR fk_X5_16 shq_0 frq_0_1 dX5_ifWall_41 (?_ : Go _ _ 44 _ _ _ _)
      refine Go.iload_n 1 dX5_ifWall_44 rfl rfl (?_ : Go _ _ 45 _ _ _ _)
      refine Go.iload_n 2 dX5_ifWall_45 rfl rfl (?_ : Go _ _ 46 _ _ _ _)
      refine Go.iconst dX5_ifWall_46 k_ic_0 (?_ : Go _ _ 47 _ _ _ _)
      refine Go.iconst dX5_ifWall_47 k_ic_1 (?_ : Go _ _ 48 _ _ _ _)
      refine Go.callV (as := [.int x1, .int x2, .int 0, .int 1]) (st := []) mk_X3_join wl_X5_69 shq_7 rfl rfl (Nat.le_of_ble_eq_true rfl) dX5_ifWall_48 h ?_
      rintro _ s8 ⟨r9, rfl, h⟩
      show Go _ _ 51 _ [.int r9] _ _
      refine Go.pop dX5_ifWall_51 rfl (?_ : Go _ _ 52 _ _ _ _)
      refine Go.aload_n 0 dX5_ifWall_52 rfl rfl (?_ : Go _ _ 53 _ _ _ _)
      refine Go.getR fk_X5_50 shq_0 frq_0_7 dX5_ifWall_53 (?_ : Go _ _ 56 _ _ _ _)
      refine Go.aload_n 0 dX5_ifWall_56 rfl rfl (?_ : Go _ _ 57 _ _ _ _)
      refine Go.getR fk_X5_16 shq_0 frq_0_1 dX5_ifWall_57 (?_ : Go _ _ 60 _ _ _ _)
      refine Go.callV (as := [.ref 7]) (st := []) mk_X0_listen wl_X5_163 shq_54 rfl rfl (Nat.le_of_ble_eq_true rfl) dX5_ifWall_60 h ?_
      rintro _ s10 ⟨rfl, h⟩
      show Go _ _ 63 _ [] _ _
      refine Go.iload_n 3 dX5_ifWall_63 rfl rfl (?_ : Go _ _ 64 _ _ _ _)
      refine Go.if_ne 77 dX5_ifWall_64 rfl ⟨fun c11 => ?_, fun c11 => (?_ : Go _ _ 67 _ _ _ _)⟩
      · have h := h.1 c11
        refine Go.aload_n 0 dX5_ifWall_77 rfl rfl (?_ : Go _ _ 78 _ _ _ _)
        refine Go.getR fk_X5_50 shq_0 frq_0_7 dX5_ifWall_78 (?_ : Go _ _ 81 _ _ _ _)
        refine Go.callV (as := []) (st := []) mk_X0_toldCount wl_X5_231 shq_54 rfl rfl (Nat.le_of_ble_eq_true rfl) dX5_ifWall_81 h ?_
        rintro _ s12 ⟨r13, rfl, h⟩
        show Go _ _ 84 _ [.int r13] _ _
        exact Go.iret rfl dX5_ifWall_84 ⟨_, rfl, h⟩
      · have h := h.2 c11
        refine Go.aload_n 0 dX5_ifWall_67 rfl rfl (?_ : Go _ _ 68 _ _ _ _)
        refine Go.getR fk_X5_50 shq_0 frq_0_7 dX5_ifWall_68 (?_ : Go _ _ 71 _ _ _ _)
        refine Go.callV (as := []) (st := []) mk_X0_ghostCount wl_X5_166 shq_54 rfl rfl (Nat.le_of_ble_eq_true rfl) dX5_ifWall_71 h ?_
        rintro _ s14 ⟨r15, rfl, h⟩
        show Go _ _ 74 _ [.int r15] _ _
        refine Go.goto 84 dX5_ifWall_74 rfl ?_
        exact Go.iret rfl dX5_ifWall_84 ⟨_, rfl, h⟩
    · have h := h.2 c6
      refine Go.iload dX5_ifWall_26 rfl (?_ : Go _ _ 28 _ _ _ _)
      exact Go.iret rfl dX5_ifWall_28 ⟨_, rfl, h⟩
  · have h := h.2 c3
    refine Go.iconst dX5_ifWall_9 k_ic_m1 (?_ : Go _ _ 10 _ _ _ _)
    exact Go.iret rfl dX5_ifWall_10 ⟨_, rfl, h⟩
theorem cgX5_ifWall {d : Nat} {σ : St} {x1 : Int32} {x2 : Int32} {x3 : Int32} {K : Int32 → St → Prop} (h : CallI d mX5_isWithin [.int x3, .int 0, .int 1] σ (fun r2 s1 => (¬ r2 = 0 → CallI d mX5_comingError [.ref 0, .int x1, .int x2, .int 0, .int 1] s1 (fun r5 s4 => (r5 = 0 → CallU d mX3_become [.ref 7, .ref 1] s4 (fun s7 => CallI d mX3_join [.ref 7, .int x1, .int x2, .int 0, .int 1] s7 (fun r9 s8 => CallU d mX0_listen [.ref 54, .ref 7] s8 (fun s10 => (¬ x3 = 0 → CallI d mX0_toldCount [.ref 54] s10 (fun r13 s12 => K r13 s12)) ∧ (x3 = 0 → CallI d mX0_ghostCount [.ref 54] s10 (fun r15 s14 => K r15 s14)))))) ∧ (¬ r5 = 0 → K r5 s4))) ∧ (r2 = 0 → K (-1) s1))) : CallI (d + 1) mX5_ifWall [.ref 0, .int x1, .int x2, .int x3] σ K := Call_of_Go (by decide +kernel) (ls := [.ref 0, .int x1, .int x2, .int x3, .null]) rfl (Nat.le_of_ble_eq_true rfl) (sgX5_ifWall_0 h)
set_option maxHeartbeats 4000000 in
set_option maxRecDepth 100000 in
theorem sgX5_remember_0 {d : Nat} {σ : St} {K : St → Prop} (h : ((sF σ 0 9) < 4 → ((sF σ 0 9) < 0 → K σ) ∧ (¬ (sF σ 0 9) < 0 → (4 ≤ (sF σ 0 9) → K σ) ∧ (¬ 4 ≤ (sF σ 0 9) → vp_in (sF σ 0 9) 4 ∧ ∀ q4, q4 = sP σ (ix (sF σ 0 9)) → isSc q4 ∧ CallU d mX3_become [.ref q4, .ref 1] σ (fun s5 => ∀ s6, s6 = setF s5 0 9 ((sF s5 0 9) + 1) → K s6)))) ∧ (¬ (sF σ 0 9) < 4 → CallU d mX5_forgetOldest [.ref 0] σ (fun s7 => ((sF s7 0 9) < 0 → K s7) ∧ (¬ (sF s7 0 9) < 0 → (4 ≤ (sF s7 0 9) → K s7) ∧ (¬ 4 ≤ (sF s7 0 9) → vp_in (sF s7 0 9) 4 ∧ ∀ q10, q10 = sP s7 (ix (sF s7 0 9)) → isSc q10 ∧ CallU d mX3_become [.ref q10, .ref 1] s7 (fun s11 => ∀ s12, s12 = setF s11 0 9 ((sF s11 0 9) + 1) → K s12)))))) : Go mX5_remember (d + 1) 0 [.ref 0] [] σ (QU K) := by
  refine Go.aload_n 0 dX5_remember_0 rfl rfl (?_ : Go _ _ 1 _ _ _ _)
  refine Go.getI fk_X5_58 shq_0 frq_0_9 dX5_remember_1 (?_ : Go _ _ 4 _ _ _ _)
  refine Go.iconst dX5_remember_4 k_ic_4 (?_ : Go _ _ 5 _ _ _ _)
  refine Go.icmp_lt 12 dX5_remember_5 rfl ⟨fun c1 => ?_, fun c1 => (?_ : Go _ _ 8 _ _ _ _)⟩
  · have h := h.1 c1
    refine Go.aload_n 0 dX5_remember_12 rfl rfl (?_ : Go _ _ 13 _ _ _ _)
    refine Go.getI fk_X5_58 shq_0 frq_0_9 dX5_remember_13 (?_ : Go _ _ 16 _ _ _ _)
    refine Go.if_lt 57 dX5_remember_16 rfl ⟨fun c2 => ?_, fun c2 => (?_ : Go _ _ 19 _ _ _ _)⟩
    · have h := h.1 c2
      exact Go.vret rfl dX5_remember_57 ⟨rfl, h⟩
    · have h := h.2 c2
      refine Go.aload_n 0 dX5_remember_19 rfl rfl (?_ : Go _ _ 20 _ _ _ _)
      refine Go.getI fk_X5_58 shq_0 frq_0_9 dX5_remember_20 (?_ : Go _ _ 23 _ _ _ _)
      refine Go.aload_n 0 dX5_remember_23 rfl rfl (?_ : Go _ _ 24 _ _ _ _)
      refine Go.getR fk_X5_22 shq_0 frq_0_3 dX5_remember_24 (?_ : Go _ _ 27 _ _ _ _)
      refine Go.alenP k_on_4 dX5_remember_27 (?_ : Go _ _ 28 _ _ _ _)
      refine Go.icmp_ge 57 dX5_remember_28 rfl ⟨fun c3 => ?_, fun c3 => (?_ : Go _ _ 31 _ _ _ _)⟩
      · have h := h.1 c3
        exact Go.vret rfl dX5_remember_57 ⟨rfl, h⟩
      · have h := h.2 c3
        refine Go.aload_n 0 dX5_remember_31 rfl rfl (?_ : Go _ _ 32 _ _ _ _)
        refine Go.getR fk_X5_22 shq_0 frq_0_3 dX5_remember_32 (?_ : Go _ _ 35 _ _ _ _)
        refine Go.aload_n 0 dX5_remember_35 rfl rfl (?_ : Go _ _ 36 _ _ _ _)
        refine Go.getI fk_X5_58 shq_0 frq_0_9 dX5_remember_36 (?_ : Go _ _ 39 _ _ _ _)
        refine Go.aald dX5_remember_39 ⟨h.1, (?_ : Go _ _ 40 _ _ _ _)⟩
        generalize eq4 : sP σ (ix (sF σ 0 9)) = q4
        have h_q4 := (h.2 q4 eq4.symm).1
        have h := (h.2 q4 eq4.symm).2
        refine Go.aload_n 0 dX5_remember_40 rfl rfl (?_ : Go _ _ 41 _ _ _ _)
        refine Go.getR fk_X5_12 shq_0 frq_0_0 dX5_remember_41 (?_ : Go _ _ 44 _ _ _ _)
        refine Go.callV (as := [.ref 1]) (st := []) mk_X3_become wl_X5_237 (sc_0 h_q4) rfl rfl (Nat.le_of_ble_eq_true rfl) dX5_remember_44 h ?_
        rintro _ s5 ⟨rfl, h⟩
        show Go _ _ 47 _ [] _ _
        refine Go.aload_n 0 dX5_remember_47 rfl rfl (?_ : Go _ _ 48 _ _ _ _)
        refine Go.dup dX5_remember_48 rfl (?_ : Go _ _ 49 _ _ _ _)
        refine Go.getI fk_X5_58 shq_0 frq_0_9 dX5_remember_49 (?_ : Go _ _ 52 _ _ _ _)
        refine Go.iconst dX5_remember_52 k_ic_1 (?_ : Go _ _ 53 _ _ _ _)
        refine Go.iadd dX5_remember_53 (?_ : Go _ _ 54 _ _ _ _)
        refine Go.putI fp_X5_58 shq_0 frq_0_9 dX5_remember_54 (?_ : Go _ _ 57 _ _ _ _)
        generalize es6 : setF s5 0 9 ((sF s5 0 9) + 1) = s6
        have h := h s6 es6.symm
        exact Go.vret rfl dX5_remember_57 ⟨rfl, h⟩
  · have h := h.2 c1
    refine Go.aload_n 0 dX5_remember_8 rfl rfl (?_ : Go _ _ 9 _ _ _ _)
    refine Go.callV (as := []) (st := []) mk_X5_forgetOldest wl_X5_246 shq_0 rfl rfl (Nat.le_of_ble_eq_true rfl) dX5_remember_9 h ?_
    rintro _ s7 ⟨rfl, h⟩
    show Go _ _ 12 _ [] _ _
    refine Go.aload_n 0 dX5_remember_12 rfl rfl (?_ : Go _ _ 13 _ _ _ _)
    refine Go.getI fk_X5_58 shq_0 frq_0_9 dX5_remember_13 (?_ : Go _ _ 16 _ _ _ _)
    refine Go.if_lt 57 dX5_remember_16 rfl ⟨fun c8 => ?_, fun c8 => (?_ : Go _ _ 19 _ _ _ _)⟩
    · have h := h.1 c8
      exact Go.vret rfl dX5_remember_57 ⟨rfl, h⟩
    · have h := h.2 c8
      refine Go.aload_n 0 dX5_remember_19 rfl rfl (?_ : Go _ _ 20 _ _ _ _)
      refine Go.getI fk_X5_58 shq_0 frq_0_9 dX5_remember_20 (?_ : Go _ _ 23 _ _ _ _)
      refine Go.aload_n 0 dX5_remember_23 rfl rfl (?_ : Go _ _ 24 _ _ _ _)
      refine Go.getR fk_X5_22 shq_0 frq_0_3 dX5_remember_24 (?_ : Go _ _ 27 _ _ _ _)
      refine Go.alenP k_on_4 dX5_remember_27 (?_ : Go _ _ 28 _ _ _ _)
      refine Go.icmp_ge 57 dX5_remember_28 rfl ⟨fun c9 => ?_, fun c9 => (?_ : Go _ _ 31 _ _ _ _)⟩
      · have h := h.1 c9
        exact Go.vret rfl dX5_remember_57 ⟨rfl, h⟩
      · have h := h.2 c9
        refine Go.aload_n 0 dX5_remember_31 rfl rfl (?_ : Go _ _ 32 _ _ _ _)
        refine Go.getR fk_X5_22 shq_0 frq_0_3 dX5_remember_32 (?_ : Go _ _ 35 _ _ _ _)
        refine Go.aload_n 0 dX5_remember_35 rfl rfl (?_ : Go _ _ 36 _ _ _ _)
        refine Go.getI fk_X5_58 shq_0 frq_0_9 dX5_remember_36 (?_ : Go _ _ 39 _ _ _ _)
        refine Go.aald dX5_remember_39 ⟨h.1, (?_ : Go _ _ 40 _ _ _ _)⟩
        generalize eq10 : sP s7 (ix (sF s7 0 9)) = q10
        have h_q10 := (h.2 q10 eq10.symm).1
        have h := (h.2 q10 eq10.symm).2
        refine Go.aload_n 0 dX5_remember_40 rfl rfl (?_ : Go _ _ 41 _ _ _ _)
        refine Go.getR fk_X5_12 shq_0 frq_0_0 dX5_remember_41 (?_ : Go _ _ 44 _ _ _ _)
        refine Go.callV (as := [.ref 1]) (st := []) mk_X3_become wl_X5_237 (sc_0 h_q10) rfl rfl (Nat.le_of_ble_eq_true rfl) dX5_remember_44 h ?_
        rintro _ s11 ⟨rfl, h⟩
        show Go _ _ 47 _ [] _ _
        refine Go.aload_n 0 dX5_remember_47 rfl rfl (?_ : Go _ _ 48 _ _ _ _)
        refine Go.dup dX5_remember_48 rfl (?_ : Go _ _ 49 _ _ _ _)
        refine Go.getI fk_X5_58 shq_0 frq_0_9 dX5_remember_49 (?_ : Go _ _ 52 _ _ _ _)
        refine Go.iconst dX5_remember_52 k_ic_1 (?_ : Go _ _ 53 _ _ _ _)
        refine Go.iadd dX5_remember_53 (?_ : Go _ _ 54 _ _ _ _)
        refine Go.putI fp_X5_58 shq_0 frq_0_9 dX5_remember_54 (?_ : Go _ _ 57 _ _ _ _)
        generalize es12 : setF s11 0 9 ((sF s11 0 9) + 1) = s12
        have h := h s12 es12.symm
        exact Go.vret rfl dX5_remember_57 ⟨rfl, h⟩
theorem cgX5_remember {d : Nat} {σ : St} {K : St → Prop} (h : ((sF σ 0 9) < 4 → ((sF σ 0 9) < 0 → K σ) ∧ (¬ (sF σ 0 9) < 0 → (4 ≤ (sF σ 0 9) → K σ) ∧ (¬ 4 ≤ (sF σ 0 9) → vp_in (sF σ 0 9) 4 ∧ ∀ q4, q4 = sP σ (ix (sF σ 0 9)) → isSc q4 ∧ CallU d mX3_become [.ref q4, .ref 1] σ (fun s5 => ∀ s6, s6 = setF s5 0 9 ((sF s5 0 9) + 1) → K s6)))) ∧ (¬ (sF σ 0 9) < 4 → CallU d mX5_forgetOldest [.ref 0] σ (fun s7 => ((sF s7 0 9) < 0 → K s7) ∧ (¬ (sF s7 0 9) < 0 → (4 ≤ (sF s7 0 9) → K s7) ∧ (¬ 4 ≤ (sF s7 0 9) → vp_in (sF s7 0 9) 4 ∧ ∀ q10, q10 = sP s7 (ix (sF s7 0 9)) → isSc q10 ∧ CallU d mX3_become [.ref q10, .ref 1] s7 (fun s11 => ∀ s12, s12 = setF s11 0 9 ((sF s11 0 9) + 1) → K s12)))))) : CallU (d + 1) mX5_remember [.ref 0] σ K := Call_of_Go (by decide +kernel) (ls := [.ref 0]) rfl (Nat.le_of_ble_eq_true rfl) (sgX5_remember_0 h)
set_option maxHeartbeats 4000000 in
set_option maxRecDepth 100000 in
theorem sgX5_forgetOldest_0 {d : Nat} {σ : St} {K : St → Prop} (h : Go mX5_forgetOldest (d + 1) 2 [.ref 0, .int 1, .null] [] σ (QU K)) : Go mX5_forgetOldest (d + 1) 0 [.ref 0, .null, .null] [] σ (QU K) := by
  refine Go.iconst dX5_forgetOldest_0 k_ic_1 (?_ : Go _ _ 1 _ _ _ _)
  refine Go.istore_n 1 dX5_forgetOldest_1 rfl (by decide) rfl rfl (?_ : Go _ _ 2 [.ref 0, .int 1, .null] _ _ _)
  exact h
theorem cgX5_forgetOldest {d : Nat} {σ : St} {K : St → Prop} (h : Go mX5_forgetOldest (d + 1) 2 [.ref 0, .int 1, .null] [] σ (QU K)) : CallU (d + 1) mX5_forgetOldest [.ref 0] σ K := Call_of_Go (by decide +kernel) (ls := [.ref 0, .null, .null]) rfl (Nat.le_of_ble_eq_true rfl) (sgX5_forgetOldest_0 h)
set_option maxHeartbeats 4000000 in
set_option maxRecDepth 100000 in
theorem sgX5_forgetOldest_2 {d : Nat} {σ : St} {v1 : Int32} {K : St → Prop} (h : (4 ≤ v1 → ∀ s2, s2 = setF σ 0 9 3 → K s2) ∧ (¬ 4 ≤ v1 → vp_in (v1 - 1) 4 ∧ ∀ q3, q3 = sP σ (ix (v1 - 1)) → isSc q3 ∧ vp_in v1 4 ∧ ∀ q4, q4 = sP σ (ix v1) → isSc q4 ∧ vp_in (v1 - 1) 4 ∧ ∀ s5, s5 = setP σ (ix (v1 - 1)) q4 → vp_in v1 4 ∧ ∀ s6, s6 = setP s5 (ix v1) q3 → Go mX5_forgetOldest (d + 1) 2 [.ref 0, .int (v1 + 1), .null] [] s6 (QU K))) : Go mX5_forgetOldest (d + 1) 2 [.ref 0, .int v1, .null] [] σ (QU K) := by
  refine Go.iload_n 1 dX5_forgetOldest_2 rfl rfl (?_ : Go _ _ 3 _ _ _ _)
  refine Go.aload_n 0 dX5_forgetOldest_3 rfl rfl (?_ : Go _ _ 4 _ _ _ _)
  refine Go.getR fk_X5_22 shq_0 frq_0_3 dX5_forgetOldest_4 (?_ : Go _ _ 7 _ _ _ _)
  refine Go.alenP k_on_4 dX5_forgetOldest_7 (?_ : Go _ _ 8 _ _ _ _)
  refine Go.icmp_ge 47 dX5_forgetOldest_8 rfl ⟨fun c1 => ?_, fun c1 => (?_ : Go _ _ 11 _ _ _ _)⟩
  · have h := h.1 c1
    refine Go.aload_n 0 dX5_forgetOldest_47 rfl rfl (?_ : Go _ _ 48 _ _ _ _)
    refine Go.iconst dX5_forgetOldest_48 k_ic_3 (?_ : Go _ _ 49 _ _ _ _)
    refine Go.putI fp_X5_58 shq_0 frq_0_9 dX5_forgetOldest_49 (?_ : Go _ _ 52 _ _ _ _)
    generalize es2 : setF σ 0 9 3 = s2
    have h := h s2 es2.symm
    exact Go.vret rfl dX5_forgetOldest_52 ⟨rfl, h⟩
  · have h := h.2 c1
    refine Go.aload_n 0 dX5_forgetOldest_11 rfl rfl (?_ : Go _ _ 12 _ _ _ _)
    refine Go.getR fk_X5_22 shq_0 frq_0_3 dX5_forgetOldest_12 (?_ : Go _ _ 15 _ _ _ _)
    refine Go.iload_n 1 dX5_forgetOldest_15 rfl rfl (?_ : Go _ _ 16 _ _ _ _)
    refine Go.iconst dX5_forgetOldest_16 k_ic_1 (?_ : Go _ _ 17 _ _ _ _)
    refine Go.isub dX5_forgetOldest_17 (?_ : Go _ _ 18 _ _ _ _)
    refine Go.aald dX5_forgetOldest_18 ⟨h.1, (?_ : Go _ _ 19 _ _ _ _)⟩
    generalize eq3 : sP σ (ix (v1 - 1)) = q3
    have h_q3 := (h.2 q3 eq3.symm).1
    have h := (h.2 q3 eq3.symm).2
    refine Go.astore_n 2 dX5_forgetOldest_19 rfl (by decide) rfl rfl (?_ : Go _ _ 20 [.ref 0, .int v1, .ref q3] _ _ _)
    refine Go.aload_n 0 dX5_forgetOldest_20 rfl rfl (?_ : Go _ _ 21 _ _ _ _)
    refine Go.getR fk_X5_22 shq_0 frq_0_3 dX5_forgetOldest_21 (?_ : Go _ _ 24 _ _ _ _)
    refine Go.iload_n 1 dX5_forgetOldest_24 rfl rfl (?_ : Go _ _ 25 _ _ _ _)
    refine Go.iconst dX5_forgetOldest_25 k_ic_1 (?_ : Go _ _ 26 _ _ _ _)
    refine Go.isub dX5_forgetOldest_26 (?_ : Go _ _ 27 _ _ _ _)
    refine Go.aload_n 0 dX5_forgetOldest_27 rfl rfl (?_ : Go _ _ 28 _ _ _ _)
    refine Go.getR fk_X5_22 shq_0 frq_0_3 dX5_forgetOldest_28 (?_ : Go _ _ 31 _ _ _ _)
    refine Go.iload_n 1 dX5_forgetOldest_31 rfl rfl (?_ : Go _ _ 32 _ _ _ _)
    refine Go.aald dX5_forgetOldest_32 ⟨h.1, (?_ : Go _ _ 33 _ _ _ _)⟩
    generalize eq4 : sP σ (ix v1) = q4
    have h_q4 := (h.2 q4 eq4.symm).1
    have h := (h.2 q4 eq4.symm).2
    refine Go.aast (sc_0 h_q4) dX5_forgetOldest_33 ⟨h.1, (?_ : Go _ _ 34 _ _ _ _)⟩
    generalize es5 : setP σ (ix (v1 - 1)) q4 = s5
    have h := h.2 s5 es5.symm
    refine Go.aload_n 0 dX5_forgetOldest_34 rfl rfl (?_ : Go _ _ 35 _ _ _ _)
    refine Go.getR fk_X5_22 shq_0 frq_0_3 dX5_forgetOldest_35 (?_ : Go _ _ 38 _ _ _ _)
    refine Go.iload_n 1 dX5_forgetOldest_38 rfl rfl (?_ : Go _ _ 39 _ _ _ _)
    refine Go.aload_n 2 dX5_forgetOldest_39 rfl rfl (?_ : Go _ _ 40 _ _ _ _)
    refine Go.aast (sc_0 h_q3) dX5_forgetOldest_40 ⟨h.1, (?_ : Go _ _ 41 _ _ _ _)⟩
    generalize es6 : setP s5 (ix v1) q3 = s6
    have h := h.2 s6 es6.symm
    refine Go.iinc dX5_forgetOldest_41 rfl (congrArg (fun z => v1 + z) k_ic_1) (by decide) rfl rfl (?_ : Go _ _ 44 [.ref 0, .int (v1 + 1), .ref q3] _ _ _)
    refine Go.goto 2 dX5_forgetOldest_44 rfl ?_
    refine Go.drop (ls' := [.ref 0, .int (v1 + 1), .null]) 2 rfl ?_
    exact h
set_option maxHeartbeats 4000000 in
set_option maxRecDepth 100000 in
theorem sgX5_comingError_0 {d : Nat} {σ : St} {x1 : Int32} {x2 : Int32} {x3 : Int32} {x4 : Int32} {K : Int32 → St → Prop} (h : CallI d mX5_isWithin [.int x1, .int 1, .int 300] σ (fun r2 s1 => (r2 = 0 → K (-1) s1) ∧ (¬ r2 = 0 → CallI d mX5_isWithin [.int x2, .int 1, .int 99] s1 (fun r5 s4 => (r5 = 0 → K (-1) s4) ∧ (¬ r5 = 0 → CallI d mX5_isWithin [.int x3, .int (-5), .int 5] s4 (fun r8 s7 => (r8 = 0 → K (-1) s7) ∧ (¬ r8 = 0 → (x4 = 0 → CallI d mX3_holds [.ref 1, .int x1, .int x3] s7 (fun r12 s11 => (r12 = 0 → CallI d mX3_targetCount [.ref 1] s11 (fun r15 s14 => (r15 < 6 → K 0 s14) ∧ (¬ r15 < 6 → K (-3) s14))) ∧ (¬ r12 = 0 → K (-2) s11))) ∧ (¬ x4 = 0 → (x3 = 0 → CallI d mX3_holds [.ref 1, .int x1, .int x3] s7 (fun r19 s18 => (r19 = 0 → CallI d mX3_targetCount [.ref 1] s18 (fun r22 s21 => (r22 < 6 → K 0 s21) ∧ (¬ r22 < 6 → K (-3) s21))) ∧ (¬ r19 = 0 → K (-2) s18))) ∧ (¬ x3 = 0 → K (-1) s7))))))))) : Go mX5_comingError (d + 1) 0 [.ref 0, .int x1, .int x2, .int x3, .int x4] [] σ (QI K) := by
  refine Go.iload_n 1 dX5_comingError_0 rfl rfl (?_ : Go _ _ 1 _ _ _ _)
  refine Go.iconst dX5_comingError_1 k_ic_1 (?_ : Go _ _ 2 _ _ _ _)
  refine Go.sipush dX5_comingError_2 k_si_300 (?_ : Go _ _ 5 _ _ _ _)
  refine Go.callS (as := [.int x1, .int 1, .int 300]) (st := []) mk_X5_isWithin wl_X5_102 rfl rfl (Nat.le_of_ble_eq_true rfl) dX5_comingError_5 h ?_
  rintro _ s1 ⟨r2, rfl, h⟩
  show Go _ _ 8 _ [.int r2] _ _
  refine Go.if_eq 40 dX5_comingError_8 rfl ⟨fun c3 => ?_, fun c3 => (?_ : Go _ _ 11 _ _ _ _)⟩
  · have h := h.1 c3
    refine Go.iconst dX5_comingError_40 k_ic_m1 (?_ : Go _ _ 41 _ _ _ _)
    exact Go.iret rfl dX5_comingError_41 ⟨_, rfl, h⟩
  · have h := h.2 c3
    refine Go.iload_n 2 dX5_comingError_11 rfl rfl (?_ : Go _ _ 12 _ _ _ _)
    refine Go.iconst dX5_comingError_12 k_ic_1 (?_ : Go _ _ 13 _ _ _ _)
    refine Go.bipush dX5_comingError_13 k_bi_99 (?_ : Go _ _ 15 _ _ _ _)
    refine Go.callS (as := [.int x2, .int 1, .int 99]) (st := []) mk_X5_isWithin wl_X5_102 rfl rfl (Nat.le_of_ble_eq_true rfl) dX5_comingError_15 h ?_
    rintro _ s4 ⟨r5, rfl, h⟩
    show Go _ _ 18 _ [.int r5] _ _
    refine Go.if_eq 40 dX5_comingError_18 rfl ⟨fun c6 => ?_, fun c6 => (?_ : Go _ _ 21 _ _ _ _)⟩
    · have h := h.1 c6
      refine Go.iconst dX5_comingError_40 k_ic_m1 (?_ : Go _ _ 41 _ _ _ _)
      exact Go.iret rfl dX5_comingError_41 ⟨_, rfl, h⟩
    · have h := h.2 c6
      refine Go.iload_n 3 dX5_comingError_21 rfl rfl (?_ : Go _ _ 22 _ _ _ _)
      refine Go.bipush dX5_comingError_22 k_bi_m5 (?_ : Go _ _ 24 _ _ _ _)
      refine Go.iconst dX5_comingError_24 k_ic_5 (?_ : Go _ _ 25 _ _ _ _)
      refine Go.callS (as := [.int x3, .int (-5), .int 5]) (st := []) mk_X5_isWithin wl_X5_102 rfl rfl (Nat.le_of_ble_eq_true rfl) dX5_comingError_25 h ?_
      rintro _ s7 ⟨r8, rfl, h⟩
      show Go _ _ 28 _ [.int r8] _ _
      refine Go.if_eq 40 dX5_comingError_28 rfl ⟨fun c9 => ?_, fun c9 => (?_ : Go _ _ 31 _ _ _ _)⟩
      · have h := h.1 c9
        refine Go.iconst dX5_comingError_40 k_ic_m1 (?_ : Go _ _ 41 _ _ _ _)
        exact Go.iret rfl dX5_comingError_41 ⟨_, rfl, h⟩
      · have h := h.2 c9
        refine Go.iload dX5_comingError_31 rfl (?_ : Go _ _ 33 _ _ _ _)
        refine Go.if_eq 42 dX5_comingError_33 rfl ⟨fun c10 => ?_, fun c10 => (?_ : Go _ _ 36 _ _ _ _)⟩
        · have h := h.1 c10
          refine Go.aload_n 0 dX5_comingError_42 rfl rfl (?_ : Go _ _ 43 _ _ _ _)
          refine Go.getR fk_X5_12 shq_0 frq_0_0 dX5_comingError_43 (?_ : Go _ _ 46 _ _ _ _)
          refine Go.iload_n 1 dX5_comingError_46 rfl rfl (?_ : Go _ _ 47 _ _ _ _)
          refine Go.iload_n 3 dX5_comingError_47 rfl rfl (?_ : Go _ _ 48 _ _ _ _)
          refine Go.callV (as := [.int x1, .int x3]) (st := []) mk_X3_holds wl_X5_249 shq_1 rfl rfl (Nat.le_of_ble_eq_true rfl) dX5_comingError_48 h ?_
          rintro _ s11 ⟨r12, rfl, h⟩
          show Go _ _ 51 _ [.int r12] _ _
          refine Go.if_eq 57 dX5_comingError_51 rfl ⟨fun c13 => ?_, fun c13 => (?_ : Go _ _ 54 _ _ _ _)⟩
          · have h := h.1 c13
            refine Go.aload_n 0 dX5_comingError_57 rfl rfl (?_ : Go _ _ 58 _ _ _ _)
            refine Go.getR fk_X5_12 shq_0 frq_0_0 dX5_comingError_58 (?_ : Go _ _ 61 _ _ _ _)
            refine Go.callV (as := []) (st := []) mk_X3_targetCount wl_X5_80 shq_1 rfl rfl (Nat.le_of_ble_eq_true rfl) dX5_comingError_61 h ?_
            rintro _ s14 ⟨r15, rfl, h⟩
            show Go _ _ 64 _ [.int r15] _ _
            refine Go.bipush dX5_comingError_64 k_bi_6 (?_ : Go _ _ 66 _ _ _ _)
            refine Go.icmp_lt 74 dX5_comingError_66 rfl ⟨fun c16 => ?_, fun c16 => (?_ : Go _ _ 69 _ _ _ _)⟩
            · have h := h.1 c16
              refine Go.iconst dX5_comingError_74 k_ic_0 (?_ : Go _ _ 75 _ _ _ _)
              exact Go.iret rfl dX5_comingError_75 ⟨_, rfl, h⟩
            · have h := h.2 c16
              refine Go.bipush dX5_comingError_69 k_bi_m3 (?_ : Go _ _ 71 _ _ _ _)
              refine Go.goto 75 dX5_comingError_71 rfl ?_
              exact Go.iret rfl dX5_comingError_75 ⟨_, rfl, h⟩
          · have h := h.2 c13
            refine Go.bipush dX5_comingError_54 k_bi_m2 (?_ : Go _ _ 56 _ _ _ _)
            exact Go.iret rfl dX5_comingError_56 ⟨_, rfl, h⟩
        · have h := h.2 c10
          refine Go.iload_n 3 dX5_comingError_36 rfl rfl (?_ : Go _ _ 37 _ _ _ _)
          refine Go.if_eq 42 dX5_comingError_37 rfl ⟨fun c17 => ?_, fun c17 => (?_ : Go _ _ 40 _ _ _ _)⟩
          · have h := h.1 c17
            refine Go.aload_n 0 dX5_comingError_42 rfl rfl (?_ : Go _ _ 43 _ _ _ _)
            refine Go.getR fk_X5_12 shq_0 frq_0_0 dX5_comingError_43 (?_ : Go _ _ 46 _ _ _ _)
            refine Go.iload_n 1 dX5_comingError_46 rfl rfl (?_ : Go _ _ 47 _ _ _ _)
            refine Go.iload_n 3 dX5_comingError_47 rfl rfl (?_ : Go _ _ 48 _ _ _ _)
            refine Go.callV (as := [.int x1, .int x3]) (st := []) mk_X3_holds wl_X5_249 shq_1 rfl rfl (Nat.le_of_ble_eq_true rfl) dX5_comingError_48 h ?_
            rintro _ s18 ⟨r19, rfl, h⟩
            show Go _ _ 51 _ [.int r19] _ _
            refine Go.if_eq 57 dX5_comingError_51 rfl ⟨fun c20 => ?_, fun c20 => (?_ : Go _ _ 54 _ _ _ _)⟩
            · have h := h.1 c20
              refine Go.aload_n 0 dX5_comingError_57 rfl rfl (?_ : Go _ _ 58 _ _ _ _)
              refine Go.getR fk_X5_12 shq_0 frq_0_0 dX5_comingError_58 (?_ : Go _ _ 61 _ _ _ _)
              refine Go.callV (as := []) (st := []) mk_X3_targetCount wl_X5_80 shq_1 rfl rfl (Nat.le_of_ble_eq_true rfl) dX5_comingError_61 h ?_
              rintro _ s21 ⟨r22, rfl, h⟩
              show Go _ _ 64 _ [.int r22] _ _
              refine Go.bipush dX5_comingError_64 k_bi_6 (?_ : Go _ _ 66 _ _ _ _)
              refine Go.icmp_lt 74 dX5_comingError_66 rfl ⟨fun c23 => ?_, fun c23 => (?_ : Go _ _ 69 _ _ _ _)⟩
              · have h := h.1 c23
                refine Go.iconst dX5_comingError_74 k_ic_0 (?_ : Go _ _ 75 _ _ _ _)
                exact Go.iret rfl dX5_comingError_75 ⟨_, rfl, h⟩
              · have h := h.2 c23
                refine Go.bipush dX5_comingError_69 k_bi_m3 (?_ : Go _ _ 71 _ _ _ _)
                refine Go.goto 75 dX5_comingError_71 rfl ?_
                exact Go.iret rfl dX5_comingError_75 ⟨_, rfl, h⟩
            · have h := h.2 c20
              refine Go.bipush dX5_comingError_54 k_bi_m2 (?_ : Go _ _ 56 _ _ _ _)
              exact Go.iret rfl dX5_comingError_56 ⟨_, rfl, h⟩
          · have h := h.2 c17
            refine Go.iconst dX5_comingError_40 k_ic_m1 (?_ : Go _ _ 41 _ _ _ _)
            exact Go.iret rfl dX5_comingError_41 ⟨_, rfl, h⟩
theorem cgX5_comingError {d : Nat} {σ : St} {x1 : Int32} {x2 : Int32} {x3 : Int32} {x4 : Int32} {K : Int32 → St → Prop} (h : CallI d mX5_isWithin [.int x1, .int 1, .int 300] σ (fun r2 s1 => (r2 = 0 → K (-1) s1) ∧ (¬ r2 = 0 → CallI d mX5_isWithin [.int x2, .int 1, .int 99] s1 (fun r5 s4 => (r5 = 0 → K (-1) s4) ∧ (¬ r5 = 0 → CallI d mX5_isWithin [.int x3, .int (-5), .int 5] s4 (fun r8 s7 => (r8 = 0 → K (-1) s7) ∧ (¬ r8 = 0 → (x4 = 0 → CallI d mX3_holds [.ref 1, .int x1, .int x3] s7 (fun r12 s11 => (r12 = 0 → CallI d mX3_targetCount [.ref 1] s11 (fun r15 s14 => (r15 < 6 → K 0 s14) ∧ (¬ r15 < 6 → K (-3) s14))) ∧ (¬ r12 = 0 → K (-2) s11))) ∧ (¬ x4 = 0 → (x3 = 0 → CallI d mX3_holds [.ref 1, .int x1, .int x3] s7 (fun r19 s18 => (r19 = 0 → CallI d mX3_targetCount [.ref 1] s18 (fun r22 s21 => (r22 < 6 → K 0 s21) ∧ (¬ r22 < 6 → K (-3) s21))) ∧ (¬ r19 = 0 → K (-2) s18))) ∧ (¬ x3 = 0 → K (-1) s7))))))))) : CallI (d + 1) mX5_comingError [.ref 0, .int x1, .int x2, .int x3, .int x4] σ K := Call_of_Go (by decide +kernel) (ls := [.ref 0, .int x1, .int x2, .int x3, .int x4]) rfl (Nat.le_of_ble_eq_true rfl) (sgX5_comingError_0 h)
set_option maxHeartbeats 4000000 in
set_option maxRecDepth 100000 in
theorem sgX5_heardOf_0 {d : Nat} {σ : St} {x1 : Int32} {x2 : Int32} {K : Int32 → St → Prop} (h : CallU d mX0_listen [.ref 54, .ref 1] σ (fun s1 => (x2 = 4 → CallI d mX0_isToldSource [.ref 54, .int x1] s1 (fun r4 s3 => CallI d mX5_asNumber [.int r4] s3 (fun r6 s5 => K r6 s5))) ∧ (¬ x2 = 4 → (x2 = 5 → CallI d mX0_lostTurns [.ref 54, .int x1] s1 (fun r9 s8 => K r9 s8)) ∧ (¬ x2 = 5 → CallI d mX0_ghostsOf [.ref 54, .int x1] s1 (fun r11 s10 => K r11 s10))))) : Go mX5_heardOf (d + 1) 0 [.ref 0, .int x1, .int x2] [] σ (QI K) := by
  refine Go.aload_n 0 dX5_heardOf_0 rfl rfl (?_ : Go _ _ 1 _ _ _ _)
  refine Go.getR fk_X5_50 shq_0 frq_0_7 dX5_heardOf_1 (?_ : Go _ _ 4 _ _ _ _)
  refine Go.aload_n 0 dX5_heardOf_4 rfl rfl (?_ : Go _ _ 5 _ _ _ _)
  refine Go.getR fk_X5_12 shq_0 frq_0_0 dX5_heardOf_5 (?_ : Go _ _ 8 _ _ _ _)
  refine Go.callV (as := [.ref 1]) (st := []) mk_X0_listen wl_X5_163 shq_54 rfl rfl (Nat.le_of_ble_eq_true rfl) dX5_heardOf_8 h ?_
  rintro _ s1 ⟨rfl, h⟩
  show Go _ _ 11 _ [] _ _
  refine Go.iload_n 2 dX5_heardOf_11 rfl rfl (?_ : Go _ _ 12 _ _ _ _)
  refine Go.lsw [(4, 40), (5, 52)] 61 dX5_heardOf_12 (by decide +kernel) (by decide +kernel) (by decide +kernel) ?_
  refine And.intro (fun c2 => ?_) (fun c2 => ?_)
  · have h := h.1 c2
    show Go _ _ 40 _ _ _ _
    refine Go.aload_n 0 dX5_heardOf_40 rfl rfl (?_ : Go _ _ 41 _ _ _ _)
    refine Go.getR fk_X5_50 shq_0 frq_0_7 dX5_heardOf_41 (?_ : Go _ _ 44 _ _ _ _)
    refine Go.iload_n 1 dX5_heardOf_44 rfl rfl (?_ : Go _ _ 45 _ _ _ _)
    refine Go.callV (as := [.int x1]) (st := []) mk_X0_isToldSource wl_X5_177 shq_54 rfl rfl (Nat.le_of_ble_eq_true rfl) dX5_heardOf_45 h ?_
    rintro _ s3 ⟨r4, rfl, h⟩
    show Go _ _ 48 _ [.int r4] _ _
    refine Go.callS (as := [.int r4]) (st := []) mk_X5_asNumber wl_X5_155 rfl rfl (Nat.le_of_ble_eq_true rfl) dX5_heardOf_48 h ?_
    rintro _ s5 ⟨r6, rfl, h⟩
    show Go _ _ 51 _ [.int r6] _ _
    exact Go.iret rfl dX5_heardOf_51 ⟨_, rfl, h⟩
  · have h := h.2 c2
    refine And.intro (fun c7 => ?_) (fun c7 => ?_)
    · have h := h.1 c7
      show Go _ _ 52 _ _ _ _
      refine Go.aload_n 0 dX5_heardOf_52 rfl rfl (?_ : Go _ _ 53 _ _ _ _)
      refine Go.getR fk_X5_50 shq_0 frq_0_7 dX5_heardOf_53 (?_ : Go _ _ 56 _ _ _ _)
      refine Go.iload_n 1 dX5_heardOf_56 rfl rfl (?_ : Go _ _ 57 _ _ _ _)
      refine Go.callV (as := [.int x1]) (st := []) mk_X0_lostTurns wl_X5_252 shq_54 rfl rfl (Nat.le_of_ble_eq_true rfl) dX5_heardOf_57 h ?_
      rintro _ s8 ⟨r9, rfl, h⟩
      show Go _ _ 60 _ [.int r9] _ _
      exact Go.iret rfl dX5_heardOf_60 ⟨_, rfl, h⟩
    · have h := h.2 c7
      show Go _ _ 61 _ _ _ _
      refine Go.aload_n 0 dX5_heardOf_61 rfl rfl (?_ : Go _ _ 62 _ _ _ _)
      refine Go.getR fk_X5_50 shq_0 frq_0_7 dX5_heardOf_62 (?_ : Go _ _ 65 _ _ _ _)
      refine Go.iload_n 1 dX5_heardOf_65 rfl rfl (?_ : Go _ _ 66 _ _ _ _)
      refine Go.callV (as := [.int x1]) (st := []) mk_X0_ghostsOf wl_X5_255 shq_54 rfl rfl (Nat.le_of_ble_eq_true rfl) dX5_heardOf_66 h ?_
      rintro _ s10 ⟨r11, rfl, h⟩
      show Go _ _ 69 _ [.int r11] _ _
      exact Go.iret rfl dX5_heardOf_69 ⟨_, rfl, h⟩
theorem cgX5_heardOf {d : Nat} {σ : St} {x1 : Int32} {x2 : Int32} {K : Int32 → St → Prop} (h : CallU d mX0_listen [.ref 54, .ref 1] σ (fun s1 => (x2 = 4 → CallI d mX0_isToldSource [.ref 54, .int x1] s1 (fun r4 s3 => CallI d mX5_asNumber [.int r4] s3 (fun r6 s5 => K r6 s5))) ∧ (¬ x2 = 4 → (x2 = 5 → CallI d mX0_lostTurns [.ref 54, .int x1] s1 (fun r9 s8 => K r9 s8)) ∧ (¬ x2 = 5 → CallI d mX0_ghostsOf [.ref 54, .int x1] s1 (fun r11 s10 => K r11 s10))))) : CallI (d + 1) mX5_heardOf [.ref 0, .int x1, .int x2] σ K := Call_of_Go (by decide +kernel) (ls := [.ref 0, .int x1, .int x2]) rfl (Nat.le_of_ble_eq_true rfl) (sgX5_heardOf_0 h)
set_option maxHeartbeats 4000000 in
set_option maxRecDepth 100000 in
theorem sgX5_countHeard_0 {d : Nat} {σ : St} {x1 : Int32} {K : Int32 → St → Prop} (h : CallU d mX0_listen [.ref 54, .ref 1] σ (fun s1 => (x1 = 2 → CallI d mX0_ghostCount [.ref 54] s1 (fun r4 s3 => K r4 s3)) ∧ (¬ x1 = 2 → (x1 = 3 → CallI d mX0_missedCount [.ref 54] s1 (fun r7 s6 => K r7 s6)) ∧ (¬ x1 = 3 → (x1 = 4 → CallI d mX0_missedCount [.ref 54] s1 (fun r10 s9 => K r10 s9)) ∧ (¬ x1 = 4 → (x1 = 5 → CallI d mX0_missedCount [.ref 54] s1 (fun r13 s12 => K r13 s12)) ∧ (¬ x1 = 5 → (x1 = 6 → CallI d mX0_missedCount [.ref 54] s1 (fun r16 s15 => K r16 s15)) ∧ (¬ x1 = 6 → (x1 = 7 → CallI d mX0_missedCount [.ref 54] s1 (fun r19 s18 => K r19 s18)) ∧ (¬ x1 = 7 → (x1 = 8 → CallI d mX0_echoCount [.ref 54] s1 (fun r22 s21 => K r22 s21)) ∧ (¬ x1 = 8 → (x1 = 9 → CallI d mX0_lostCount [.ref 54] s1 (fun r25 s24 => K r25 s24)) ∧ (¬ x1 = 9 → (x1 = 10 → CallI d mX0_faintCount [.ref 54] s1 (fun r28 s27 => K r28 s27)) ∧ (¬ x1 = 10 → (x1 = 11 → CallI d mX0_toldCount [.ref 54] s1 (fun r31 s30 => K r31 s30)) ∧ (¬ x1 = 11 → (x1 = 12 → CallI d mX0_toldCount [.ref 54] s1 (fun r34 s33 => CallI d mX0_trueCount [.ref 54] s33 (fun r36 s35 => K (r34 - r36) s35))) ∧ (¬ x1 = 12 → CallI d mX0_missedCount [.ref 54] s1 (fun r38 s37 => K r38 s37)))))))))))))) : Go mX5_countHeard (d + 1) 0 [.ref 0, .int x1] [] σ (QI K) := by
  refine Go.aload_n 0 dX5_countHeard_0 rfl rfl (?_ : Go _ _ 1 _ _ _ _)
  refine Go.getR fk_X5_50 shq_0 frq_0_7 dX5_countHeard_1 (?_ : Go _ _ 4 _ _ _ _)
  refine Go.aload_n 0 dX5_countHeard_4 rfl rfl (?_ : Go _ _ 5 _ _ _ _)
  refine Go.getR fk_X5_12 shq_0 frq_0_0 dX5_countHeard_5 (?_ : Go _ _ 8 _ _ _ _)
  refine Go.callV (as := [.ref 1]) (st := []) mk_X0_listen wl_X5_163 shq_54 rfl rfl (Nat.le_of_ble_eq_true rfl) dX5_countHeard_8 h ?_
  rintro _ s1 ⟨rfl, h⟩
  show Go _ _ 11 _ [] _ _
  refine Go.iload_n 1 dX5_countHeard_11 rfl rfl (?_ : Go _ _ 12 _ _ _ _)
  refine Go.tsw [(2, 72), (3, 128), (4, 128), (5, 128), (6, 128), (7, 128), (8, 80), (9, 88), (10, 96), (11, 104), (12, 112)] 128 dX5_countHeard_12 (by decide +kernel) ?_
  refine And.intro (fun c2 => ?_) (fun c2 => ?_)
  · have h := h.1 c2
    show Go _ _ 72 _ _ _ _
    refine Go.aload_n 0 dX5_countHeard_72 rfl rfl (?_ : Go _ _ 73 _ _ _ _)
    refine Go.getR fk_X5_50 shq_0 frq_0_7 dX5_countHeard_73 (?_ : Go _ _ 76 _ _ _ _)
    refine Go.callV (as := []) (st := []) mk_X0_ghostCount wl_X5_166 shq_54 rfl rfl (Nat.le_of_ble_eq_true rfl) dX5_countHeard_76 h ?_
    rintro _ s3 ⟨r4, rfl, h⟩
    show Go _ _ 79 _ [.int r4] _ _
    exact Go.iret rfl dX5_countHeard_79 ⟨_, rfl, h⟩
  · have h := h.2 c2
    refine And.intro (fun c5 => ?_) (fun c5 => ?_)
    · have h := h.1 c5
      show Go _ _ 128 _ _ _ _
      refine Go.aload_n 0 dX5_countHeard_128 rfl rfl (?_ : Go _ _ 129 _ _ _ _)
      refine Go.getR fk_X5_50 shq_0 frq_0_7 dX5_countHeard_129 (?_ : Go _ _ 132 _ _ _ _)
      refine Go.callV (as := []) (st := []) mk_X0_missedCount wl_X5_240 shq_54 rfl rfl (Nat.le_of_ble_eq_true rfl) dX5_countHeard_132 h ?_
      rintro _ s6 ⟨r7, rfl, h⟩
      show Go _ _ 135 _ [.int r7] _ _
      exact Go.iret rfl dX5_countHeard_135 ⟨_, rfl, h⟩
    · have h := h.2 c5
      refine And.intro (fun c8 => ?_) (fun c8 => ?_)
      · have h := h.1 c8
        show Go _ _ 128 _ _ _ _
        refine Go.aload_n 0 dX5_countHeard_128 rfl rfl (?_ : Go _ _ 129 _ _ _ _)
        refine Go.getR fk_X5_50 shq_0 frq_0_7 dX5_countHeard_129 (?_ : Go _ _ 132 _ _ _ _)
        refine Go.callV (as := []) (st := []) mk_X0_missedCount wl_X5_240 shq_54 rfl rfl (Nat.le_of_ble_eq_true rfl) dX5_countHeard_132 h ?_
        rintro _ s9 ⟨r10, rfl, h⟩
        show Go _ _ 135 _ [.int r10] _ _
        exact Go.iret rfl dX5_countHeard_135 ⟨_, rfl, h⟩
      · have h := h.2 c8
        refine And.intro (fun c11 => ?_) (fun c11 => ?_)
        · have h := h.1 c11
          show Go _ _ 128 _ _ _ _
          refine Go.aload_n 0 dX5_countHeard_128 rfl rfl (?_ : Go _ _ 129 _ _ _ _)
          refine Go.getR fk_X5_50 shq_0 frq_0_7 dX5_countHeard_129 (?_ : Go _ _ 132 _ _ _ _)
          refine Go.callV (as := []) (st := []) mk_X0_missedCount wl_X5_240 shq_54 rfl rfl (Nat.le_of_ble_eq_true rfl) dX5_countHeard_132 h ?_
          rintro _ s12 ⟨r13, rfl, h⟩
          show Go _ _ 135 _ [.int r13] _ _
          exact Go.iret rfl dX5_countHeard_135 ⟨_, rfl, h⟩
        · have h := h.2 c11
          refine And.intro (fun c14 => ?_) (fun c14 => ?_)
          · have h := h.1 c14
            show Go _ _ 128 _ _ _ _
            refine Go.aload_n 0 dX5_countHeard_128 rfl rfl (?_ : Go _ _ 129 _ _ _ _)
            refine Go.getR fk_X5_50 shq_0 frq_0_7 dX5_countHeard_129 (?_ : Go _ _ 132 _ _ _ _)
            refine Go.callV (as := []) (st := []) mk_X0_missedCount wl_X5_240 shq_54 rfl rfl (Nat.le_of_ble_eq_true rfl) dX5_countHeard_132 h ?_
            rintro _ s15 ⟨r16, rfl, h⟩
            show Go _ _ 135 _ [.int r16] _ _
            exact Go.iret rfl dX5_countHeard_135 ⟨_, rfl, h⟩
          · have h := h.2 c14
            refine And.intro (fun c17 => ?_) (fun c17 => ?_)
            · have h := h.1 c17
              show Go _ _ 128 _ _ _ _
              refine Go.aload_n 0 dX5_countHeard_128 rfl rfl (?_ : Go _ _ 129 _ _ _ _)
              refine Go.getR fk_X5_50 shq_0 frq_0_7 dX5_countHeard_129 (?_ : Go _ _ 132 _ _ _ _)
              refine Go.callV (as := []) (st := []) mk_X0_missedCount wl_X5_240 shq_54 rfl rfl (Nat.le_of_ble_eq_true rfl) dX5_countHeard_132 h ?_
              rintro _ s18 ⟨r19, rfl, h⟩
              show Go _ _ 135 _ [.int r19] _ _
              exact Go.iret rfl dX5_countHeard_135 ⟨_, rfl, h⟩
            · have h := h.2 c17
              refine And.intro (fun c20 => ?_) (fun c20 => ?_)
              · have h := h.1 c20
                show Go _ _ 80 _ _ _ _
                refine Go.aload_n 0 dX5_countHeard_80 rfl rfl (?_ : Go _ _ 81 _ _ _ _)
                refine Go.getR fk_X5_50 shq_0 frq_0_7 dX5_countHeard_81 (?_ : Go _ _ 84 _ _ _ _)
                refine Go.callV (as := []) (st := []) mk_X0_echoCount wl_X5_258 shq_54 rfl rfl (Nat.le_of_ble_eq_true rfl) dX5_countHeard_84 h ?_
                rintro _ s21 ⟨r22, rfl, h⟩
                show Go _ _ 87 _ [.int r22] _ _
                exact Go.iret rfl dX5_countHeard_87 ⟨_, rfl, h⟩
              · have h := h.2 c20
                refine And.intro (fun c23 => ?_) (fun c23 => ?_)
                · have h := h.1 c23
                  show Go _ _ 88 _ _ _ _
                  refine Go.aload_n 0 dX5_countHeard_88 rfl rfl (?_ : Go _ _ 89 _ _ _ _)
                  refine Go.getR fk_X5_50 shq_0 frq_0_7 dX5_countHeard_89 (?_ : Go _ _ 92 _ _ _ _)
                  refine Go.callV (as := []) (st := []) mk_X0_lostCount wl_X5_261 shq_54 rfl rfl (Nat.le_of_ble_eq_true rfl) dX5_countHeard_92 h ?_
                  rintro _ s24 ⟨r25, rfl, h⟩
                  show Go _ _ 95 _ [.int r25] _ _
                  exact Go.iret rfl dX5_countHeard_95 ⟨_, rfl, h⟩
                · have h := h.2 c23
                  refine And.intro (fun c26 => ?_) (fun c26 => ?_)
                  · have h := h.1 c26
                    show Go _ _ 96 _ _ _ _
                    refine Go.aload_n 0 dX5_countHeard_96 rfl rfl (?_ : Go _ _ 97 _ _ _ _)
                    refine Go.getR fk_X5_50 shq_0 frq_0_7 dX5_countHeard_97 (?_ : Go _ _ 100 _ _ _ _)
                    refine Go.callV (as := []) (st := []) mk_X0_faintCount wl_X5_264 shq_54 rfl rfl (Nat.le_of_ble_eq_true rfl) dX5_countHeard_100 h ?_
                    rintro _ s27 ⟨r28, rfl, h⟩
                    show Go _ _ 103 _ [.int r28] _ _
                    exact Go.iret rfl dX5_countHeard_103 ⟨_, rfl, h⟩
                  · have h := h.2 c26
                    refine And.intro (fun c29 => ?_) (fun c29 => ?_)
                    · have h := h.1 c29
                      show Go _ _ 104 _ _ _ _
                      refine Go.aload_n 0 dX5_countHeard_104 rfl rfl (?_ : Go _ _ 105 _ _ _ _)
                      refine Go.getR fk_X5_50 shq_0 frq_0_7 dX5_countHeard_105 (?_ : Go _ _ 108 _ _ _ _)
                      refine Go.callV (as := []) (st := []) mk_X0_toldCount wl_X5_231 shq_54 rfl rfl (Nat.le_of_ble_eq_true rfl) dX5_countHeard_108 h ?_
                      rintro _ s30 ⟨r31, rfl, h⟩
                      show Go _ _ 111 _ [.int r31] _ _
                      exact Go.iret rfl dX5_countHeard_111 ⟨_, rfl, h⟩
                    · have h := h.2 c29
                      refine And.intro (fun c32 => ?_) (fun c32 => ?_)
                      · have h := h.1 c32
                        show Go _ _ 112 _ _ _ _
                        refine Go.aload_n 0 dX5_countHeard_112 rfl rfl (?_ : Go _ _ 113 _ _ _ _)
                        refine Go.getR fk_X5_50 shq_0 frq_0_7 dX5_countHeard_113 (?_ : Go _ _ 116 _ _ _ _)
                        refine Go.callV (as := []) (st := []) mk_X0_toldCount wl_X5_231 shq_54 rfl rfl (Nat.le_of_ble_eq_true rfl) dX5_countHeard_116 h ?_
                        rintro _ s33 ⟨r34, rfl, h⟩
                        show Go _ _ 119 _ [.int r34] _ _
                        refine Go.aload_n 0 dX5_countHeard_119 rfl rfl (?_ : Go _ _ 120 _ _ _ _)
                        refine Go.getR fk_X5_50 shq_0 frq_0_7 dX5_countHeard_120 (?_ : Go _ _ 123 _ _ _ _)
                        refine Go.callV (as := []) (st := [.int r34]) mk_X0_trueCount wl_X5_234 shq_54 rfl rfl (Nat.le_of_ble_eq_true rfl) dX5_countHeard_123 h ?_
                        rintro _ s35 ⟨r36, rfl, h⟩
                        show Go _ _ 126 _ [.int r36, .int r34] _ _
                        refine Go.isub dX5_countHeard_126 (?_ : Go _ _ 127 _ _ _ _)
                        exact Go.iret rfl dX5_countHeard_127 ⟨_, rfl, h⟩
                      · have h := h.2 c32
                        show Go _ _ 128 _ _ _ _
                        refine Go.aload_n 0 dX5_countHeard_128 rfl rfl (?_ : Go _ _ 129 _ _ _ _)
                        refine Go.getR fk_X5_50 shq_0 frq_0_7 dX5_countHeard_129 (?_ : Go _ _ 132 _ _ _ _)
                        refine Go.callV (as := []) (st := []) mk_X0_missedCount wl_X5_240 shq_54 rfl rfl (Nat.le_of_ble_eq_true rfl) dX5_countHeard_132 h ?_
                        rintro _ s37 ⟨r38, rfl, h⟩
                        show Go _ _ 135 _ [.int r38] _ _
                        exact Go.iret rfl dX5_countHeard_135 ⟨_, rfl, h⟩
theorem cgX5_countHeard {d : Nat} {σ : St} {x1 : Int32} {K : Int32 → St → Prop} (h : CallU d mX0_listen [.ref 54, .ref 1] σ (fun s1 => (x1 = 2 → CallI d mX0_ghostCount [.ref 54] s1 (fun r4 s3 => K r4 s3)) ∧ (¬ x1 = 2 → (x1 = 3 → CallI d mX0_missedCount [.ref 54] s1 (fun r7 s6 => K r7 s6)) ∧ (¬ x1 = 3 → (x1 = 4 → CallI d mX0_missedCount [.ref 54] s1 (fun r10 s9 => K r10 s9)) ∧ (¬ x1 = 4 → (x1 = 5 → CallI d mX0_missedCount [.ref 54] s1 (fun r13 s12 => K r13 s12)) ∧ (¬ x1 = 5 → (x1 = 6 → CallI d mX0_missedCount [.ref 54] s1 (fun r16 s15 => K r16 s15)) ∧ (¬ x1 = 6 → (x1 = 7 → CallI d mX0_missedCount [.ref 54] s1 (fun r19 s18 => K r19 s18)) ∧ (¬ x1 = 7 → (x1 = 8 → CallI d mX0_echoCount [.ref 54] s1 (fun r22 s21 => K r22 s21)) ∧ (¬ x1 = 8 → (x1 = 9 → CallI d mX0_lostCount [.ref 54] s1 (fun r25 s24 => K r25 s24)) ∧ (¬ x1 = 9 → (x1 = 10 → CallI d mX0_faintCount [.ref 54] s1 (fun r28 s27 => K r28 s27)) ∧ (¬ x1 = 10 → (x1 = 11 → CallI d mX0_toldCount [.ref 54] s1 (fun r31 s30 => K r31 s30)) ∧ (¬ x1 = 11 → (x1 = 12 → CallI d mX0_toldCount [.ref 54] s1 (fun r34 s33 => CallI d mX0_trueCount [.ref 54] s33 (fun r36 s35 => K (r34 - r36) s35))) ∧ (¬ x1 = 12 → CallI d mX0_missedCount [.ref 54] s1 (fun r38 s37 => K r38 s37)))))))))))))) : CallI (d + 1) mX5_countHeard [.ref 0, .int x1] σ K := Call_of_Go (by decide +kernel) (ls := [.ref 0, .int x1]) rfl (Nat.le_of_ble_eq_true rfl) (sgX5_countHeard_0 h)
set_option maxHeartbeats 4000000 in
set_option maxRecDepth 100000 in
theorem sgX5_isWithin_0 {d : Nat} {σ : St} {x0 : Int32} {x1 : Int32} {x2 : Int32} {K : Int32 → St → Prop} (h : (x0 < x1 → K 0 σ) ∧ (¬ x0 < x1 → (x2 < x0 → K 0 σ) ∧ (¬ x2 < x0 → K 1 σ))) : Go mX5_isWithin (d + 1) 0 [.int x0, .int x1, .int x2] [] σ (QI K) := by
  refine Go.iload_n 0 dX5_isWithin_0 rfl rfl (?_ : Go _ _ 1 _ _ _ _)
  refine Go.iload_n 1 dX5_isWithin_1 rfl rfl (?_ : Go _ _ 2 _ _ _ _)
  refine Go.icmp_lt 14 dX5_isWithin_2 rfl ⟨fun c1 => ?_, fun c1 => (?_ : Go _ _ 5 _ _ _ _)⟩
  · have h := h.1 c1
    refine Go.iconst dX5_isWithin_14 k_ic_0 (?_ : Go _ _ 15 _ _ _ _)
    exact Go.zret rfl rfl dX5_isWithin_15 ⟨_, rfl, h⟩
  · have h := h.2 c1
    refine Go.iload_n 0 dX5_isWithin_5 rfl rfl (?_ : Go _ _ 6 _ _ _ _)
    refine Go.iload_n 2 dX5_isWithin_6 rfl rfl (?_ : Go _ _ 7 _ _ _ _)
    refine Go.icmp_gt 14 dX5_isWithin_7 rfl ⟨fun c2 => ?_, fun c2 => (?_ : Go _ _ 10 _ _ _ _)⟩
    · have h := h.1 c2
      refine Go.iconst dX5_isWithin_14 k_ic_0 (?_ : Go _ _ 15 _ _ _ _)
      exact Go.zret rfl rfl dX5_isWithin_15 ⟨_, rfl, h⟩
    · have h := h.2 c2
      refine Go.iconst dX5_isWithin_10 k_ic_1 (?_ : Go _ _ 11 _ _ _ _)
      refine Go.goto 15 dX5_isWithin_11 rfl ?_
      exact Go.zret rfl rfl dX5_isWithin_15 ⟨_, rfl, h⟩
theorem cgX5_isWithin {d : Nat} {σ : St} {x0 : Int32} {x1 : Int32} {x2 : Int32} {K : Int32 → St → Prop} (h : (x0 < x1 → K 0 σ) ∧ (¬ x0 < x1 → (x2 < x0 → K 0 σ) ∧ (¬ x2 < x0 → K 1 σ))) : CallI (d + 1) mX5_isWithin [.int x0, .int x1, .int x2] σ K := Call_of_Go (by decide +kernel) (ls := [.int x0, .int x1, .int x2]) rfl (Nat.le_of_ble_eq_true rfl) (sgX5_isWithin_0 h)
set_option maxHeartbeats 4000000 in
set_option maxRecDepth 100000 in
theorem sgX5_isSpacing_0 {d : Nat} {σ : St} {x0 : Int32} {K : Int32 → St → Prop} (h : CallI d mX5_isWithin [.int x0, .int 10, .int 50] σ (fun r2 s1 => (narrow .boolean (.int r2) = .int r2) ∧ K r2 s1)) : Go mX5_isSpacing (d + 1) 0 [.int x0] [] σ (QI K) := by
  refine Go.iload_n 0 dX5_isSpacing_0 rfl rfl (?_ : Go _ _ 1 _ _ _ _)
  refine Go.bipush dX5_isSpacing_1 k_bi_10 (?_ : Go _ _ 3 _ _ _ _)
  refine Go.bipush dX5_isSpacing_3 k_bi_50 (?_ : Go _ _ 5 _ _ _ _)
  refine Go.callS (as := [.int x0, .int 10, .int 50]) (st := []) mk_X5_isWithin wl_X5_102 rfl rfl (Nat.le_of_ble_eq_true rfl) dX5_isSpacing_5 h ?_
  rintro _ s1 ⟨r2, rfl, h⟩
  show Go _ _ 8 _ [.int r2] _ _
  exact Go.zret rfl h.1 dX5_isSpacing_8 ⟨_, rfl, h.2⟩
theorem cgX5_isSpacing {d : Nat} {σ : St} {x0 : Int32} {K : Int32 → St → Prop} (h : CallI d mX5_isWithin [.int x0, .int 10, .int 50] σ (fun r2 s1 => (narrow .boolean (.int r2) = .int r2) ∧ K r2 s1)) : CallI (d + 1) mX5_isSpacing [.int x0] σ K := Call_of_Go (by decide +kernel) (ls := [.int x0]) rfl (Nat.le_of_ble_eq_true rfl) (sgX5_isSpacing_0 h)
set_option maxHeartbeats 4000000 in
set_option maxRecDepth 100000 in
theorem sgX5_isSpacingOrNone_0 {d : Nat} {σ : St} {x0 : Int32} {K : Int32 → St → Prop} (h : (x0 = 0 → K 1 σ) ∧ (¬ x0 = 0 → CallI d mX5_isSpacing [.int x0] σ (fun r3 s2 => (r3 = 0 → K 0 s2) ∧ (¬ r3 = 0 → K 1 s2)))) : Go mX5_isSpacingOrNone (d + 1) 0 [.int x0] [] σ (QI K) := by
  refine Go.iload_n 0 dX5_isSpacingOrNone_0 rfl rfl (?_ : Go _ _ 1 _ _ _ _)
  refine Go.if_eq 11 dX5_isSpacingOrNone_1 rfl ⟨fun c1 => ?_, fun c1 => (?_ : Go _ _ 4 _ _ _ _)⟩
  · have h := h.1 c1
    refine Go.iconst dX5_isSpacingOrNone_11 k_ic_1 (?_ : Go _ _ 12 _ _ _ _)
    refine Go.goto 16 dX5_isSpacingOrNone_12 rfl ?_
    exact Go.zret rfl rfl dX5_isSpacingOrNone_16 ⟨_, rfl, h⟩
  · have h := h.2 c1
    refine Go.iload_n 0 dX5_isSpacingOrNone_4 rfl rfl (?_ : Go _ _ 5 _ _ _ _)
    refine Go.callS (as := [.int x0]) (st := []) mk_X5_isSpacing wl_X5_87 rfl rfl (Nat.le_of_ble_eq_true rfl) dX5_isSpacingOrNone_5 h ?_
    rintro _ s2 ⟨r3, rfl, h⟩
    show Go _ _ 8 _ [.int r3] _ _
    refine Go.if_eq 15 dX5_isSpacingOrNone_8 rfl ⟨fun c4 => ?_, fun c4 => (?_ : Go _ _ 11 _ _ _ _)⟩
    · have h := h.1 c4
      refine Go.iconst dX5_isSpacingOrNone_15 k_ic_0 (?_ : Go _ _ 16 _ _ _ _)
      exact Go.zret rfl rfl dX5_isSpacingOrNone_16 ⟨_, rfl, h⟩
    · have h := h.2 c4
      refine Go.iconst dX5_isSpacingOrNone_11 k_ic_1 (?_ : Go _ _ 12 _ _ _ _)
      refine Go.goto 16 dX5_isSpacingOrNone_12 rfl ?_
      exact Go.zret rfl rfl dX5_isSpacingOrNone_16 ⟨_, rfl, h⟩
theorem cgX5_isSpacingOrNone {d : Nat} {σ : St} {x0 : Int32} {K : Int32 → St → Prop} (h : (x0 = 0 → K 1 σ) ∧ (¬ x0 = 0 → CallI d mX5_isSpacing [.int x0] σ (fun r3 s2 => (r3 = 0 → K 0 s2) ∧ (¬ r3 = 0 → K 1 s2)))) : CallI (d + 1) mX5_isSpacingOrNone [.int x0] σ K := Call_of_Go (by decide +kernel) (ls := [.int x0]) rfl (Nat.le_of_ble_eq_true rfl) (sgX5_isSpacingOrNone_0 h)
set_option maxHeartbeats 4000000 in
set_option maxRecDepth 100000 in
theorem sgX5_asNumber_0 {d : Nat} {σ : St} {x0 : Int32} {K : Int32 → St → Prop} (h : (x0 = 0 → K 0 σ) ∧ (¬ x0 = 0 → K 1 σ)) : Go mX5_asNumber (d + 1) 0 [.int x0] [] σ (QI K) := by
  refine Go.iload_n 0 dX5_asNumber_0 rfl rfl (?_ : Go _ _ 1 _ _ _ _)
  refine Go.if_eq 8 dX5_asNumber_1 rfl ⟨fun c1 => ?_, fun c1 => (?_ : Go _ _ 4 _ _ _ _)⟩
  · have h := h.1 c1
    refine Go.iconst dX5_asNumber_8 k_ic_0 (?_ : Go _ _ 9 _ _ _ _)
    exact Go.iret rfl dX5_asNumber_9 ⟨_, rfl, h⟩
  · have h := h.2 c1
    refine Go.iconst dX5_asNumber_4 k_ic_1 (?_ : Go _ _ 5 _ _ _ _)
    refine Go.goto 9 dX5_asNumber_5 rfl ?_
    exact Go.iret rfl dX5_asNumber_9 ⟨_, rfl, h⟩
theorem cgX5_asNumber {d : Nat} {σ : St} {x0 : Int32} {K : Int32 → St → Prop} (h : (x0 = 0 → K 0 σ) ∧ (¬ x0 = 0 → K 1 σ)) : CallI (d + 1) mX5_asNumber [.int x0] σ K := Call_of_Go (by decide +kernel) (ls := [.int x0]) rfl (Nat.le_of_ble_eq_true rfl) (sgX5_asNumber_0 h)
set_option maxHeartbeats 4000000 in
set_option maxRecDepth 100000 in
theorem sgX5_remainder_0 {d : Nat} {σ : St} {x0 : Int32} {x1 : Int32} {K : Int32 → St → Prop} (h : (x1 ≤ 0 → K 0 σ) ∧ (¬ x1 ≤ 0 → (¬ x1 = 0) ∧ K (irem x0 x1) σ)) : Go mX5_remainder (d + 1) 0 [.int x0, .int x1] [] σ (QI K) := by
  refine Go.iload_n 1 dX5_remainder_0 rfl rfl (?_ : Go _ _ 1 _ _ _ _)
  refine Go.if_le 10 dX5_remainder_1 rfl ⟨fun c1 => ?_, fun c1 => (?_ : Go _ _ 4 _ _ _ _)⟩
  · have h := h.1 c1
    refine Go.iconst dX5_remainder_10 k_ic_0 (?_ : Go _ _ 11 _ _ _ _)
    exact Go.iret rfl dX5_remainder_11 ⟨_, rfl, h⟩
  · have h := h.2 c1
    refine Go.iload_n 0 dX5_remainder_4 rfl rfl (?_ : Go _ _ 5 _ _ _ _)
    refine Go.iload_n 1 dX5_remainder_5 rfl rfl (?_ : Go _ _ 6 _ _ _ _)
    refine Go.irem dX5_remainder_6 h.1 (?_ : Go _ _ 7 _ _ _ _)
    have h := h.2
    refine Go.goto 11 dX5_remainder_7 rfl ?_
    exact Go.iret rfl dX5_remainder_11 ⟨_, rfl, h⟩
theorem cgX5_remainder {d : Nat} {σ : St} {x0 : Int32} {x1 : Int32} {K : Int32 → St → Prop} (h : (x1 ≤ 0 → K 0 σ) ∧ (¬ x1 ≤ 0 → (¬ x1 = 0) ∧ K (irem x0 x1) σ)) : CallI (d + 1) mX5_remainder [.int x0, .int x1] σ K := Call_of_Go (by decide +kernel) (ls := [.int x0, .int x1]) rfl (Nat.le_of_ble_eq_true rfl) (sgX5_remainder_0 h)
set_option maxHeartbeats 4000000 in
set_option maxRecDepth 100000 in
theorem sgX5_firstCommonMultiple_0 {d : Nat} {σ : St} {x0 : Int32} {x1 : Int32} {K : Int32 → St → Prop} (h : Go mX5_firstCommonMultiple (d + 1) 4 [.int x0, .int x1, .int x0, .int 1] [] σ (QI K)) : Go mX5_firstCommonMultiple (d + 1) 0 [.int x0, .int x1, .null, .null] [] σ (QI K) := by
  refine Go.iload_n 0 dX5_firstCommonMultiple_0 rfl rfl (?_ : Go _ _ 1 _ _ _ _)
  refine Go.istore_n 2 dX5_firstCommonMultiple_1 rfl (by decide) rfl rfl (?_ : Go _ _ 2 [.int x0, .int x1, .int x0, .null] _ _ _)
  refine Go.iconst dX5_firstCommonMultiple_2 k_ic_1 (?_ : Go _ _ 3 _ _ _ _)
  refine Go.istore_n 3 dX5_firstCommonMultiple_3 rfl (by decide) rfl rfl (?_ : Go _ _ 4 [.int x0, .int x1, .int x0, .int 1] _ _ _)
  exact h
theorem cgX5_firstCommonMultiple {d : Nat} {σ : St} {x0 : Int32} {x1 : Int32} {K : Int32 → St → Prop} (h : Go mX5_firstCommonMultiple (d + 1) 4 [.int x0, .int x1, .int x0, .int 1] [] σ (QI K)) : CallI (d + 1) mX5_firstCommonMultiple [.int x0, .int x1] σ K := Call_of_Go (by decide +kernel) (ls := [.int x0, .int x1, .null, .null]) rfl (Nat.le_of_ble_eq_true rfl) (sgX5_firstCommonMultiple_0 h)
set_option maxHeartbeats 4000000 in
set_option maxRecDepth 100000 in
theorem sgX5_firstCommonMultiple_4 {d : Nat} {σ : St} {v0 : Int32} {v1 : Int32} {v2 : Int32} {v3 : Int32} {K : Int32 → St → Prop} (h : (v1 ≤ v3 → K v2 σ) ∧ (¬ v1 ≤ v3 → CallI d mX5_remainder [.int v2, .int v1] σ (fun r3 s2 => (r3 = 0 → K v2 s2) ∧ (¬ r3 = 0 → Go mX5_firstCommonMultiple (d + 1) 4 [.int v0, .int v1, .int (v2 + v0), .int (v3 + 1)] [] s2 (QI K))))) : Go mX5_firstCommonMultiple (d + 1) 4 [.int v0, .int v1, .int v2, .int v3] [] σ (QI K) := by
  refine Go.iload_n 3 dX5_firstCommonMultiple_4 rfl rfl (?_ : Go _ _ 5 _ _ _ _)
  refine Go.iload_n 1 dX5_firstCommonMultiple_5 rfl rfl (?_ : Go _ _ 6 _ _ _ _)
  refine Go.icmp_ge 27 dX5_firstCommonMultiple_6 rfl ⟨fun c1 => ?_, fun c1 => (?_ : Go _ _ 9 _ _ _ _)⟩
  · have h := h.1 c1
    refine Go.iload_n 2 dX5_firstCommonMultiple_27 rfl rfl (?_ : Go _ _ 28 _ _ _ _)
    exact Go.iret rfl dX5_firstCommonMultiple_28 ⟨_, rfl, h⟩
  · have h := h.2 c1
    refine Go.iload_n 2 dX5_firstCommonMultiple_9 rfl rfl (?_ : Go _ _ 10 _ _ _ _)
    refine Go.iload_n 1 dX5_firstCommonMultiple_10 rfl rfl (?_ : Go _ _ 11 _ _ _ _)
    refine Go.callS (as := [.int v2, .int v1]) (st := []) mk_X5_remainder wl_X5_267 rfl rfl (Nat.le_of_ble_eq_true rfl) dX5_firstCommonMultiple_11 h ?_
    rintro _ s2 ⟨r3, rfl, h⟩
    show Go _ _ 14 _ [.int r3] _ _
    refine Go.if_eq 27 dX5_firstCommonMultiple_14 rfl ⟨fun c4 => ?_, fun c4 => (?_ : Go _ _ 17 _ _ _ _)⟩
    · have h := h.1 c4
      refine Go.iload_n 2 dX5_firstCommonMultiple_27 rfl rfl (?_ : Go _ _ 28 _ _ _ _)
      exact Go.iret rfl dX5_firstCommonMultiple_28 ⟨_, rfl, h⟩
    · have h := h.2 c4
      refine Go.iload_n 2 dX5_firstCommonMultiple_17 rfl rfl (?_ : Go _ _ 18 _ _ _ _)
      refine Go.iload_n 0 dX5_firstCommonMultiple_18 rfl rfl (?_ : Go _ _ 19 _ _ _ _)
      refine Go.iadd dX5_firstCommonMultiple_19 (?_ : Go _ _ 20 _ _ _ _)
      refine Go.istore_n 2 dX5_firstCommonMultiple_20 rfl (by decide) rfl rfl (?_ : Go _ _ 21 [.int v0, .int v1, .int (v2 + v0), .int v3] _ _ _)
      refine Go.iinc dX5_firstCommonMultiple_21 rfl (congrArg (fun z => v3 + z) k_ic_1) (by decide) rfl rfl (?_ : Go _ _ 24 [.int v0, .int v1, .int (v2 + v0), .int (v3 + 1)] _ _ _)
      refine Go.goto 4 dX5_firstCommonMultiple_24 rfl ?_
      exact h
set_option maxHeartbeats 4000000 in
set_option maxRecDepth 100000 in
theorem sgX5_commonMultiple_0 {d : Nat} {σ : St} {x0 : Int32} {x1 : Int32} {K : Int32 → St → Prop} (h : CallI d mX5_commonDivisor [.int x0, .int x1] σ (fun r2 s1 => (r2 ≤ 0 → K 0 s1) ∧ (¬ r2 ≤ 0 → (¬ r2 = 0) ∧ K ((x0 / r2) * x1) s1))) : Go mX5_commonMultiple (d + 1) 0 [.int x0, .int x1, .null] [] σ (QI K) := by
  refine Go.iload_n 0 dX5_commonMultiple_0 rfl rfl (?_ : Go _ _ 1 _ _ _ _)
  refine Go.iload_n 1 dX5_commonMultiple_1 rfl rfl (?_ : Go _ _ 2 _ _ _ _)
  refine Go.callS (as := [.int x0, .int x1]) (st := []) mk_X5_commonDivisor wl_X5_270 rfl rfl (Nat.le_of_ble_eq_true rfl) dX5_commonMultiple_2 h ?_
  rintro _ s1 ⟨r2, rfl, h⟩
  show Go _ _ 5 _ [.int r2] _ _
  refine Go.istore_n 2 dX5_commonMultiple_5 rfl (by decide) rfl rfl (?_ : Go _ _ 6 [.int x0, .int x1, .int r2] _ _ _)
  refine Go.iload_n 2 dX5_commonMultiple_6 rfl rfl (?_ : Go _ _ 7 _ _ _ _)
  refine Go.if_le 18 dX5_commonMultiple_7 rfl ⟨fun c3 => ?_, fun c3 => (?_ : Go _ _ 10 _ _ _ _)⟩
  · have h := h.1 c3
    refine Go.iconst dX5_commonMultiple_18 k_ic_0 (?_ : Go _ _ 19 _ _ _ _)
    exact Go.iret rfl dX5_commonMultiple_19 ⟨_, rfl, h⟩
  · have h := h.2 c3
    refine Go.iload_n 0 dX5_commonMultiple_10 rfl rfl (?_ : Go _ _ 11 _ _ _ _)
    refine Go.iload_n 2 dX5_commonMultiple_11 rfl rfl (?_ : Go _ _ 12 _ _ _ _)
    refine Go.idiv dX5_commonMultiple_12 h.1 (?_ : Go _ _ 13 _ _ _ _)
    have h := h.2
    refine Go.iload_n 1 dX5_commonMultiple_13 rfl rfl (?_ : Go _ _ 14 _ _ _ _)
    refine Go.imul dX5_commonMultiple_14 (?_ : Go _ _ 15 _ _ _ _)
    refine Go.goto 19 dX5_commonMultiple_15 rfl ?_
    exact Go.iret rfl dX5_commonMultiple_19 ⟨_, rfl, h⟩
theorem cgX5_commonMultiple {d : Nat} {σ : St} {x0 : Int32} {x1 : Int32} {K : Int32 → St → Prop} (h : CallI d mX5_commonDivisor [.int x0, .int x1] σ (fun r2 s1 => (r2 ≤ 0 → K 0 s1) ∧ (¬ r2 ≤ 0 → (¬ r2 = 0) ∧ K ((x0 / r2) * x1) s1))) : CallI (d + 1) mX5_commonMultiple [.int x0, .int x1] σ K := Call_of_Go (by decide +kernel) (ls := [.int x0, .int x1, .null]) rfl (Nat.le_of_ble_eq_true rfl) (sgX5_commonMultiple_0 h)
set_option maxHeartbeats 4000000 in
set_option maxRecDepth 100000 in
theorem sgX5_commonDivisor_0 {d : Nat} {σ : St} {x0 : Int32} {x1 : Int32} {K : Int32 → St → Prop} (h : Go mX5_commonDivisor (d + 1) 7 [.int x0, .int x1, .int x0, .int x1, .int 0, .null] [] σ (QI K)) : Go mX5_commonDivisor (d + 1) 0 [.int x0, .int x1, .null, .null, .null, .null] [] σ (QI K) := by
  refine Go.iload_n 0 dX5_commonDivisor_0 rfl rfl (?_ : Go _ _ 1 _ _ _ _)
  refine Go.istore_n 2 dX5_commonDivisor_1 rfl (by decide) rfl rfl (?_ : Go _ _ 2 [.int x0, .int x1, .int x0, .null, .null, .null] _ _ _)
  refine Go.iload_n 1 dX5_commonDivisor_2 rfl rfl (?_ : Go _ _ 3 _ _ _ _)
  refine Go.istore_n 3 dX5_commonDivisor_3 rfl (by decide) rfl rfl (?_ : Go _ _ 4 [.int x0, .int x1, .int x0, .int x1, .null, .null] _ _ _)
  refine Go.iconst dX5_commonDivisor_4 k_ic_0 (?_ : Go _ _ 5 _ _ _ _)
  refine Go.istore dX5_commonDivisor_5 (by decide) rfl rfl (?_ : Go _ _ 7 [.int x0, .int x1, .int x0, .int x1, .int 0, .null] _ _ _)
  exact h
theorem cgX5_commonDivisor {d : Nat} {σ : St} {x0 : Int32} {x1 : Int32} {K : Int32 → St → Prop} (h : Go mX5_commonDivisor (d + 1) 7 [.int x0, .int x1, .int x0, .int x1, .int 0, .null] [] σ (QI K)) : CallI (d + 1) mX5_commonDivisor [.int x0, .int x1] σ K := Call_of_Go (by decide +kernel) (ls := [.int x0, .int x1, .null, .null, .null, .null]) rfl (Nat.le_of_ble_eq_true rfl) (sgX5_commonDivisor_0 h)
set_option maxHeartbeats 4000000 in
set_option maxRecDepth 100000 in
theorem sgX5_commonDivisor_7 {d : Nat} {σ : St} {v0 : Int32} {v1 : Int32} {v2 : Int32} {v3 : Int32} {v4 : Int32} {K : Int32 → St → Prop} (h : (50 < v4 → K v2 σ) ∧ (¬ 50 < v4 → (v3 ≤ 0 → K v2 σ) ∧ (¬ v3 ≤ 0 → CallI d mX5_remainder [.int v2, .int v3] σ (fun r4 s3 => Go mX5_commonDivisor (d + 1) 7 [.int v0, .int v1, .int v3, .int r4, .int (v4 + 1), .null] [] s3 (QI K))))) : Go mX5_commonDivisor (d + 1) 7 [.int v0, .int v1, .int v2, .int v3, .int v4, .null] [] σ (QI K) := by
  refine Go.iload dX5_commonDivisor_7 rfl (?_ : Go _ _ 9 _ _ _ _)
  refine Go.bipush dX5_commonDivisor_9 k_bi_50 (?_ : Go _ _ 11 _ _ _ _)
  refine Go.icmp_gt 36 dX5_commonDivisor_11 rfl ⟨fun c1 => ?_, fun c1 => (?_ : Go _ _ 14 _ _ _ _)⟩
  · have h := h.1 c1
    refine Go.iload_n 2 dX5_commonDivisor_36 rfl rfl (?_ : Go _ _ 37 _ _ _ _)
    exact Go.iret rfl dX5_commonDivisor_37 ⟨_, rfl, h⟩
  · have h := h.2 c1
    refine Go.iload_n 3 dX5_commonDivisor_14 rfl rfl (?_ : Go _ _ 15 _ _ _ _)
    refine Go.if_le 36 dX5_commonDivisor_15 rfl ⟨fun c2 => ?_, fun c2 => (?_ : Go _ _ 18 _ _ _ _)⟩
    · have h := h.1 c2
      refine Go.iload_n 2 dX5_commonDivisor_36 rfl rfl (?_ : Go _ _ 37 _ _ _ _)
      exact Go.iret rfl dX5_commonDivisor_37 ⟨_, rfl, h⟩
    · have h := h.2 c2
      refine Go.iload_n 2 dX5_commonDivisor_18 rfl rfl (?_ : Go _ _ 19 _ _ _ _)
      refine Go.iload_n 3 dX5_commonDivisor_19 rfl rfl (?_ : Go _ _ 20 _ _ _ _)
      refine Go.callS (as := [.int v2, .int v3]) (st := []) mk_X5_remainder wl_X5_267 rfl rfl (Nat.le_of_ble_eq_true rfl) dX5_commonDivisor_20 h ?_
      rintro _ s3 ⟨r4, rfl, h⟩
      show Go _ _ 23 _ [.int r4] _ _
      refine Go.istore dX5_commonDivisor_23 (by decide) rfl rfl (?_ : Go _ _ 25 [.int v0, .int v1, .int v2, .int v3, .int v4, .int r4] _ _ _)
      refine Go.iload_n 3 dX5_commonDivisor_25 rfl rfl (?_ : Go _ _ 26 _ _ _ _)
      refine Go.istore_n 2 dX5_commonDivisor_26 rfl (by decide) rfl rfl (?_ : Go _ _ 27 [.int v0, .int v1, .int v3, .int v3, .int v4, .int r4] _ _ _)
      refine Go.iload dX5_commonDivisor_27 rfl (?_ : Go _ _ 29 _ _ _ _)
      refine Go.istore_n 3 dX5_commonDivisor_29 rfl (by decide) rfl rfl (?_ : Go _ _ 30 [.int v0, .int v1, .int v3, .int r4, .int v4, .int r4] _ _ _)
      refine Go.iinc dX5_commonDivisor_30 rfl (congrArg (fun z => v4 + z) k_ic_1) (by decide) rfl rfl (?_ : Go _ _ 33 [.int v0, .int v1, .int v3, .int r4, .int (v4 + 1), .int r4] _ _ _)
      refine Go.goto 7 dX5_commonDivisor_33 rfl ?_
      refine Go.drop (ls' := [.int v0, .int v1, .int v3, .int r4, .int (v4 + 1), .null]) 5 rfl ?_
      exact h
set_option maxHeartbeats 4000000 in
set_option maxRecDepth 100000 in
theorem sgX5_tryDistances_0 {d : Nat} {σ : St} {x0 : Int32} {x1 : Int32} {x2 : Int32} {x3 : Int32} {x4 : Int32} {x5 : Int32} {K : Int32 → St → Prop} (h : (1 ≤ x5 → Go mX5_tryDistances (d + 1) 13 [.int x0, .int x1, .int x2, .int x3, .int x4, .int x5, .int x4] [] σ (QI K)) ∧ (¬ 1 ≤ x5 → K (-4) σ)) : Go mX5_tryDistances (d + 1) 0 [.int x0, .int x1, .int x2, .int x3, .int x4, .int x5, .null] [] σ (QI K) := by
  refine Go.iload dX5_tryDistances_0 rfl (?_ : Go _ _ 2 _ _ _ _)
  refine Go.iconst dX5_tryDistances_2 k_ic_1 (?_ : Go _ _ 3 _ _ _ _)
  refine Go.icmp_ge 9 dX5_tryDistances_3 rfl ⟨fun c1 => ?_, fun c1 => (?_ : Go _ _ 6 _ _ _ _)⟩
  · have h := h.1 c1
    refine Go.iload dX5_tryDistances_9 rfl (?_ : Go _ _ 11 _ _ _ _)
    refine Go.istore dX5_tryDistances_11 (by decide) rfl rfl (?_ : Go _ _ 13 [.int x0, .int x1, .int x2, .int x3, .int x4, .int x5, .int x4] _ _ _)
    exact h
  · have h := h.2 c1
    refine Go.bipush dX5_tryDistances_6 k_bi_m4 (?_ : Go _ _ 8 _ _ _ _)
    exact Go.iret rfl dX5_tryDistances_8 ⟨_, rfl, h⟩
theorem cgX5_tryDistances {d : Nat} {σ : St} {x0 : Int32} {x1 : Int32} {x2 : Int32} {x3 : Int32} {x4 : Int32} {x5 : Int32} {K : Int32 → St → Prop} (h : (1 ≤ x5 → Go mX5_tryDistances (d + 1) 13 [.int x0, .int x1, .int x2, .int x3, .int x4, .int x5, .int x4] [] σ (QI K)) ∧ (¬ 1 ≤ x5 → K (-4) σ)) : CallI (d + 1) mX5_tryDistances [.int x0, .int x1, .int x2, .int x3, .int x4, .int x5] σ K := Call_of_Go (by decide +kernel) (ls := [.int x0, .int x1, .int x2, .int x3, .int x4, .int x5, .null]) rfl (Nat.le_of_ble_eq_true rfl) (sgX5_tryDistances_0 h)
set_option maxHeartbeats 4000000 in
set_option maxRecDepth 100000 in
theorem sgX5_tryDistances_13 {d : Nat} {σ : St} {v0 : Int32} {v1 : Int32} {v2 : Int32} {v3 : Int32} {v4 : Int32} {v5 : Int32} {v6 : Int32} {K : Int32 → St → Prop} (h : ((v1 * v3) ≤ v6 → K (-4) σ) ∧ (¬ (v1 * v3) ≤ v6 → CallI d mX5_remainder [.int v6, .int v1] σ (fun r3 s2 => (¬ r3 = v0 → Go mX5_tryDistances (d + 1) 13 [.int v0, .int v1, .int v2, .int v3, .int v4, .int v5, .int (v6 + v5)] [] s2 (QI K)) ∧ (r3 = v0 → CallI d mX5_remainder [.int v6, .int v3] s2 (fun r6 s5 => (¬ r6 = v2 → Go mX5_tryDistances (d + 1) 13 [.int v0, .int v1, .int v2, .int v3, .int v4, .int v5, .int (v6 + v5)] [] s5 (QI K)) ∧ (r6 = v2 → K v6 s5)))))) : Go mX5_tryDistances (d + 1) 13 [.int v0, .int v1, .int v2, .int v3, .int v4, .int v5, .int v6] [] σ (QI K) := by
  refine Go.iload dX5_tryDistances_13 rfl (?_ : Go _ _ 15 _ _ _ _)
  refine Go.iload_n 1 dX5_tryDistances_15 rfl rfl (?_ : Go _ _ 16 _ _ _ _)
  refine Go.iload_n 3 dX5_tryDistances_16 rfl rfl (?_ : Go _ _ 17 _ _ _ _)
  refine Go.imul dX5_tryDistances_17 (?_ : Go _ _ 18 _ _ _ _)
  refine Go.icmp_ge 54 dX5_tryDistances_18 rfl ⟨fun c1 => ?_, fun c1 => (?_ : Go _ _ 21 _ _ _ _)⟩
  · have h := h.1 c1
    refine Go.bipush dX5_tryDistances_54 k_bi_m4 (?_ : Go _ _ 56 _ _ _ _)
    exact Go.iret rfl dX5_tryDistances_56 ⟨_, rfl, h⟩
  · have h := h.2 c1
    refine Go.iload dX5_tryDistances_21 rfl (?_ : Go _ _ 23 _ _ _ _)
    refine Go.iload_n 1 dX5_tryDistances_23 rfl rfl (?_ : Go _ _ 24 _ _ _ _)
    refine Go.callS (as := [.int v6, .int v1]) (st := []) mk_X5_remainder wl_X5_267 rfl rfl (Nat.le_of_ble_eq_true rfl) dX5_tryDistances_24 h ?_
    rintro _ s2 ⟨r3, rfl, h⟩
    show Go _ _ 27 _ [.int r3] _ _
    refine Go.iload_n 0 dX5_tryDistances_27 rfl rfl (?_ : Go _ _ 28 _ _ _ _)
    refine Go.icmp_ne 44 dX5_tryDistances_28 rfl ⟨fun c4 => ?_, fun c4 => (?_ : Go _ _ 31 _ _ _ _)⟩
    · have h := h.1 c4
      refine Go.iload dX5_tryDistances_44 rfl (?_ : Go _ _ 46 _ _ _ _)
      refine Go.iload dX5_tryDistances_46 rfl (?_ : Go _ _ 48 _ _ _ _)
      refine Go.iadd dX5_tryDistances_48 (?_ : Go _ _ 49 _ _ _ _)
      refine Go.istore dX5_tryDistances_49 (by decide) rfl rfl (?_ : Go _ _ 51 [.int v0, .int v1, .int v2, .int v3, .int v4, .int v5, .int (v6 + v5)] _ _ _)
      refine Go.goto 13 dX5_tryDistances_51 rfl ?_
      exact h
    · have h := h.2 c4
      refine Go.iload dX5_tryDistances_31 rfl (?_ : Go _ _ 33 _ _ _ _)
      refine Go.iload_n 3 dX5_tryDistances_33 rfl rfl (?_ : Go _ _ 34 _ _ _ _)
      refine Go.callS (as := [.int v6, .int v3]) (st := []) mk_X5_remainder wl_X5_267 rfl rfl (Nat.le_of_ble_eq_true rfl) dX5_tryDistances_34 h ?_
      rintro _ s5 ⟨r6, rfl, h⟩
      show Go _ _ 37 _ [.int r6] _ _
      refine Go.iload_n 2 dX5_tryDistances_37 rfl rfl (?_ : Go _ _ 38 _ _ _ _)
      refine Go.icmp_ne 44 dX5_tryDistances_38 rfl ⟨fun c7 => ?_, fun c7 => (?_ : Go _ _ 41 _ _ _ _)⟩
      · have h := h.1 c7
        refine Go.iload dX5_tryDistances_44 rfl (?_ : Go _ _ 46 _ _ _ _)
        refine Go.iload dX5_tryDistances_46 rfl (?_ : Go _ _ 48 _ _ _ _)
        refine Go.iadd dX5_tryDistances_48 (?_ : Go _ _ 49 _ _ _ _)
        refine Go.istore dX5_tryDistances_49 (by decide) rfl rfl (?_ : Go _ _ 51 [.int v0, .int v1, .int v2, .int v3, .int v4, .int v5, .int (v6 + v5)] _ _ _)
        refine Go.goto 13 dX5_tryDistances_51 rfl ?_
        exact h
      · have h := h.2 c7
        refine Go.iload dX5_tryDistances_41 rfl (?_ : Go _ _ 43 _ _ _ _)
        exact Go.iret rfl dX5_tryDistances_43 ⟨_, rfl, h⟩
