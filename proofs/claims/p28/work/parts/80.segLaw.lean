set_option maxHeartbeats 4000000 in
set_option maxRecDepth 100000 in
theorem sgL_law_44 {X : LX} {L : Nat} {xs : Nat → Int32} {σ : St} {v5 : Int32} (F : LF X L xs) (h : (24 ≤ v5 → True) ∧ (¬ 24 ≤ v5 → (¬ v5 < 0) ∧ ∀ r2 : Int32, (¬ (30 + v5) < 0) ∧ ∀ r3 : Int32, CallI 10 mL_low [.int r2, .int 12] σ (fun r5 s4 => (r5 < 6 → LGo X 95 [.ref 67, .ref 0, .ref 64, .ref 65, .ref 66, .int v5, .int r2, .int r3, .int r5, .int 1, .null, .null, .null, .null, .null, .null, .null, .null] [] s4) ∧ (¬ r5 < 6 → (3 ≤ v5 → (¬ r5 = 6 → (¬ r5 = 7 → (10 ≤ r5 → (¬ (r5 - 10) = 0 → CallI 10 mL_low [.int (r2 >>> (12 &&& 31)), .int 3] s4 (fun r13 s12 => (¬ r13 = 0 → LGo X 865 [.ref 67, .ref 0, .ref 64, .ref 65, .ref 66, .int v5, .int r2, .int r3, .int r5, .int 1, .int (r5 - 10), .null, .null, .null, .null, .null, .null, .null] [.int 12, .int (r2 >>> (4 &&& 31)), .int 1] s12) ∧ (r13 = 0 → LGo X 865 [.ref 67, .ref 0, .ref 64, .ref 65, .ref 66, .int v5, .int r2, .int r3, .int r5, .int 1, .int (r5 - 10), .null, .null, .null, .null, .null, .null, .null] [.int 99, .int (r2 >>> (4 &&& 31)), .int 1] s12))) ∧ ((r5 - 10) = 0 → CallI 10 mL_low [.int (r2 >>> (4 &&& 31)), .int 10] s4 (fun r16 s15 => LGo X 869 [.ref 67, .ref 0, .ref 64, .ref 65, .ref 66, .int v5, .int r2, .int r3, .int r5, .int 1, .int (r5 - 10), .null, .null, .null, .null, .null, .null, .null] [.int r16] s15))) ∧ (¬ 10 ≤ r5 → CallI 10 mL_low [.int (r2 >>> (4 &&& 31)), .int 4] s4 (fun r18 s17 => LGo X 729 [.ref 67, .ref 0, .ref 64, .ref 65, .ref 66, .int v5, .int r2, .int r3, .int r5, .int 1, .int (1 + r18), .int 0, .null, .null, .null, .null, .null, .null] [] s17))) ∧ (r5 = 7 → LGo X 558 [.ref 67, .ref 0, .ref 64, .ref 65, .ref 66, .int v5, .int r2, .int r3, .int r5, .int 1, .int 0, .int 0, .null, .null, .null, .null, .null, .null] [] s4)) ∧ (r5 = 6 → CallI 10 mL_low [.int (r2 >>> (4 &&& 31)), .int 6] s4 (fun r20 s19 => ((sA s19 66 6) ≤ r20 → LGo X 458 [.ref 67, .ref 0, .ref 64, .ref 65, .ref 66, .int v5, .int r2, .int r3, .int r5, .int 1, .int r20, .null, .null, .null, .null, .null, .null, .null] [.int 0] s19) ∧ (¬ (sA s19 66 6) ≤ r20 → LGo X 458 [.ref 67, .ref 0, .ref 64, .ref 65, .ref 66, .int v5, .int r2, .int r3, .int r5, .int 1, .int r20, .null, .null, .null, .null, .null, .null, .null] [.int 1] s19)))) ∧ (¬ 3 ≤ v5 → LGo X 95 [.ref 67, .ref 0, .ref 64, .ref 65, .ref 66, .int v5, .int r2, .int r3, .int r5, .int 1, .null, .null, .null, .null, .null, .null, .null, .null] [] s4))))) : LGo X 44 [.ref 67, .ref 0, .ref 64, .ref 65, .ref 66, .int v5, .null, .null, .null, .null, .null, .null, .null, .null, .null, .null, .null, .null] [] σ := by
  refine LGo.iload F dL_law_44 rfl (?_ : LGo _ 46 _ _ _)
  refine LGo.bipush F dL_law_46 k_bi_24 (?_ : LGo _ 48 _ _ _)
  refine LGo.icmp_ge F 1363 dL_law_48 rfl ⟨fun c1 => ?_, fun c1 => (?_ : LGo _ 51 _ _ _)⟩
  · have h := h.1 c1
    refine LGo.iconst F dL_law_1363 k_ic_1 (?_ : LGo _ 1364 _ _ _)
    exact LGo.ret F dL_law_1364
  · have h := h.2 c1
    refine LGo.aload_n F 0 dL_law_51 rfl rfl (?_ : LGo _ 52 _ _ _)
    refine LGo.iload F dL_law_52 rfl (?_ : LGo _ 54 _ _ _)
    refine LGo.cell F (st := []) wl_L_65 h.1 (Nat.le_of_ble_eq_true rfl) dL_law_54 (fun r2 => (?_ : LGo _ 57 _ _ _))
    have h := h.2 r2
    refine LGo.istore F dL_law_57 (by decide) rfl rfl (?_ : LGo _ 59 [.ref 67, .ref 0, .ref 64, .ref 65, .ref 66, .int v5, .int r2, .null, .null, .null, .null, .null, .null, .null, .null, .null, .null, .null] _ _)
    refine LGo.aload_n F 0 dL_law_59 rfl rfl (?_ : LGo _ 60 _ _ _)
    refine LGo.bipush F dL_law_60 k_bi_30 (?_ : LGo _ 62 _ _ _)
    refine LGo.iload F dL_law_62 rfl (?_ : LGo _ 64 _ _ _)
    refine LGo.iadd F dL_law_64 (?_ : LGo _ 65 _ _ _)
    refine LGo.cell F (st := []) wl_L_65 h.1 (Nat.le_of_ble_eq_true rfl) dL_law_65 (fun r3 => (?_ : LGo _ 68 _ _ _))
    have h := h.2 r3
    refine LGo.istore F dL_law_68 (by decide) rfl rfl (?_ : LGo _ 70 [.ref 67, .ref 0, .ref 64, .ref 65, .ref 66, .int v5, .int r2, .int r3, .null, .null, .null, .null, .null, .null, .null, .null, .null, .null] _ _)
    refine LGo.iload F dL_law_70 rfl (?_ : LGo _ 72 _ _ _)
    refine LGo.bipush F dL_law_72 k_bi_12 (?_ : LGo _ 74 _ _ _)
    refine LGo.callS F (as := [.int r2, .int 12]) (st := []) mk_L_low wl_L_55 rfl rfl (Nat.le_of_ble_eq_true rfl) dL_law_74 h ?_
    rintro _ s4 ⟨r5, rfl, h⟩
    show LGo _ 77 _ [.int r5] _
    refine LGo.istore F dL_law_77 (by decide) rfl rfl (?_ : LGo _ 79 [.ref 67, .ref 0, .ref 64, .ref 65, .ref 66, .int v5, .int r2, .int r3, .int r5, .null, .null, .null, .null, .null, .null, .null, .null, .null] _ _)
    refine LGo.iconst F dL_law_79 k_ic_1 (?_ : LGo _ 80 _ _ _)
    refine LGo.istore F dL_law_80 (by decide) rfl rfl (?_ : LGo _ 82 [.ref 67, .ref 0, .ref 64, .ref 65, .ref 66, .int v5, .int r2, .int r3, .int r5, .int 1, .null, .null, .null, .null, .null, .null, .null, .null] _ _)
    refine LGo.iload F dL_law_82 rfl (?_ : LGo _ 84 _ _ _)
    refine LGo.bipush F dL_law_84 k_bi_6 (?_ : LGo _ 86 _ _ _)
    refine LGo.icmp_lt F 95 dL_law_86 rfl ⟨fun c6 => ?_, fun c6 => (?_ : LGo _ 89 _ _ _)⟩
    · have h := h.1 c6
      exact h
    · have h := h.2 c6
      refine LGo.iload F dL_law_89 rfl (?_ : LGo _ 91 _ _ _)
      refine LGo.iconst F dL_law_91 k_ic_3 (?_ : LGo _ 92 _ _ _)
      refine LGo.icmp_ge F 425 dL_law_92 rfl ⟨fun c7 => ?_, fun c7 => (?_ : LGo _ 95 _ _ _)⟩
      · have h := h.1 c7
        refine LGo.iload F dL_law_425 rfl (?_ : LGo _ 427 _ _ _)
        refine LGo.bipush F dL_law_427 k_bi_6 (?_ : LGo _ 429 _ _ _)
        refine LGo.icmp_ne F 545 dL_law_429 rfl ⟨fun c8 => ?_, fun c8 => (?_ : LGo _ 432 _ _ _)⟩
        · have h := h.1 c8
          refine LGo.iload F dL_law_545 rfl (?_ : LGo _ 547 _ _ _)
          refine LGo.bipush F dL_law_547 k_bi_7 (?_ : LGo _ 549 _ _ _)
          refine LGo.icmp_ne F 707 dL_law_549 rfl ⟨fun c9 => ?_, fun c9 => (?_ : LGo _ 552 _ _ _)⟩
          · have h := h.1 c9
            refine LGo.iload F dL_law_707 rfl (?_ : LGo _ 709 _ _ _)
            refine LGo.bipush F dL_law_709 k_bi_10 (?_ : LGo _ 711 _ _ _)
            refine LGo.icmp_ge F 817 dL_law_711 rfl ⟨fun c10 => ?_, fun c10 => (?_ : LGo _ 714 _ _ _)⟩
            · have h := h.1 c10
              refine LGo.iload F dL_law_817 rfl (?_ : LGo _ 819 _ _ _)
              refine LGo.bipush F dL_law_819 k_bi_10 (?_ : LGo _ 821 _ _ _)
              refine LGo.isub F dL_law_821 (?_ : LGo _ 822 _ _ _)
              refine LGo.istore F dL_law_822 (by decide) rfl rfl (?_ : LGo _ 824 [.ref 67, .ref 0, .ref 64, .ref 65, .ref 66, .int v5, .int r2, .int r3, .int r5, .int 1, .int (r5 - 10), .null, .null, .null, .null, .null, .null, .null] _ _)
              refine LGo.iload F dL_law_824 rfl (?_ : LGo _ 826 _ _ _)
              refine LGo.if_ne F 841 dL_law_826 rfl ⟨fun c11 => ?_, fun c11 => (?_ : LGo _ 829 _ _ _)⟩
              · have h := h.1 c11
                refine LGo.iconst F dL_law_841 k_ic_1 (?_ : LGo _ 842 _ _ _)
                refine LGo.iload F dL_law_842 rfl (?_ : LGo _ 844 _ _ _)
                refine LGo.iconst F dL_law_844 k_ic_4 (?_ : LGo _ 845 _ _ _)
                refine LGo.ishr F dL_law_845 (?_ : LGo _ 846 _ _ _)
                refine LGo.iload F dL_law_846 rfl (?_ : LGo _ 848 _ _ _)
                refine LGo.bipush F dL_law_848 k_bi_12 (?_ : LGo _ 850 _ _ _)
                refine LGo.ishr F dL_law_850 (?_ : LGo _ 851 _ _ _)
                refine LGo.iconst F dL_law_851 k_ic_3 (?_ : LGo _ 852 _ _ _)
                refine LGo.callS F (as := [.int (r2 >>> (12 &&& 31)), .int 3]) (st := [.int (r2 >>> (4 &&& 31)), .int 1]) mk_L_low wl_L_55 rfl rfl (Nat.le_of_ble_eq_true rfl) dL_law_852 h ?_
                rintro _ s12 ⟨r13, rfl, h⟩
                show LGo _ 855 _ [.int r13, .int (r2 >>> (4 &&& 31)), .int 1] _
                refine LGo.if_ne F 863 dL_law_855 rfl ⟨fun c14 => ?_, fun c14 => (?_ : LGo _ 858 _ _ _)⟩
                · have h := h.1 c14
                  refine LGo.bipush F dL_law_863 k_bi_12 (?_ : LGo _ 865 _ _ _)
                  exact h
                · have h := h.2 c14
                  refine LGo.bipush F dL_law_858 k_bi_99 (?_ : LGo _ 860 _ _ _)
                  refine LGo.goto F 865 dL_law_860 rfl ?_
                  exact h
              · have h := h.2 c11
                refine LGo.iload F dL_law_829 rfl (?_ : LGo _ 831 _ _ _)
                refine LGo.iconst F dL_law_831 k_ic_4 (?_ : LGo _ 832 _ _ _)
                refine LGo.ishr F dL_law_832 (?_ : LGo _ 833 _ _ _)
                refine LGo.bipush F dL_law_833 k_bi_10 (?_ : LGo _ 835 _ _ _)
                refine LGo.callS F (as := [.int (r2 >>> (4 &&& 31)), .int 10]) (st := []) mk_L_low wl_L_55 rfl rfl (Nat.le_of_ble_eq_true rfl) dL_law_835 h ?_
                rintro _ s15 ⟨r16, rfl, h⟩
                show LGo _ 838 _ [.int r16] _
                refine LGo.goto F 869 dL_law_838 rfl ?_
                exact h
            · have h := h.2 c10
              refine LGo.iconst F dL_law_714 k_ic_1 (?_ : LGo _ 715 _ _ _)
              refine LGo.iload F dL_law_715 rfl (?_ : LGo _ 717 _ _ _)
              refine LGo.iconst F dL_law_717 k_ic_4 (?_ : LGo _ 718 _ _ _)
              refine LGo.ishr F dL_law_718 (?_ : LGo _ 719 _ _ _)
              refine LGo.iconst F dL_law_719 k_ic_4 (?_ : LGo _ 720 _ _ _)
              refine LGo.callS F (as := [.int (r2 >>> (4 &&& 31)), .int 4]) (st := [.int 1]) mk_L_low wl_L_55 rfl rfl (Nat.le_of_ble_eq_true rfl) dL_law_720 h ?_
              rintro _ s17 ⟨r18, rfl, h⟩
              show LGo _ 723 _ [.int r18, .int 1] _
              refine LGo.iadd F dL_law_723 (?_ : LGo _ 724 _ _ _)
              refine LGo.istore F dL_law_724 (by decide) rfl rfl (?_ : LGo _ 726 [.ref 67, .ref 0, .ref 64, .ref 65, .ref 66, .int v5, .int r2, .int r3, .int r5, .int 1, .int (1 + r18), .null, .null, .null, .null, .null, .null, .null] _ _)
              refine LGo.iconst F dL_law_726 k_ic_0 (?_ : LGo _ 727 _ _ _)
              refine LGo.istore F dL_law_727 (by decide) rfl rfl (?_ : LGo _ 729 [.ref 67, .ref 0, .ref 64, .ref 65, .ref 66, .int v5, .int r2, .int r3, .int r5, .int 1, .int (1 + r18), .int 0, .null, .null, .null, .null, .null, .null] _ _)
              exact h
          · have h := h.2 c9
            refine LGo.iconst F dL_law_552 k_ic_0 (?_ : LGo _ 553 _ _ _)
            refine LGo.istore F dL_law_553 (by decide) rfl rfl (?_ : LGo _ 555 [.ref 67, .ref 0, .ref 64, .ref 65, .ref 66, .int v5, .int r2, .int r3, .int r5, .int 1, .int 0, .null, .null, .null, .null, .null, .null, .null] _ _)
            refine LGo.iconst F dL_law_555 k_ic_0 (?_ : LGo _ 556 _ _ _)
            refine LGo.istore F dL_law_556 (by decide) rfl rfl (?_ : LGo _ 558 [.ref 67, .ref 0, .ref 64, .ref 65, .ref 66, .int v5, .int r2, .int r3, .int r5, .int 1, .int 0, .int 0, .null, .null, .null, .null, .null, .null] _ _)
            exact h
        · have h := h.2 c8
          refine LGo.iload F dL_law_432 rfl (?_ : LGo _ 434 _ _ _)
          refine LGo.iconst F dL_law_434 k_ic_4 (?_ : LGo _ 435 _ _ _)
          refine LGo.ishr F dL_law_435 (?_ : LGo _ 436 _ _ _)
          refine LGo.bipush F dL_law_436 k_bi_6 (?_ : LGo _ 438 _ _ _)
          refine LGo.callS F (as := [.int (r2 >>> (4 &&& 31)), .int 6]) (st := []) mk_L_low wl_L_55 rfl rfl (Nat.le_of_ble_eq_true rfl) dL_law_438 h ?_
          rintro _ s19 ⟨r20, rfl, h⟩
          show LGo _ 441 _ [.int r20] _
          refine LGo.istore F dL_law_441 (by decide) rfl rfl (?_ : LGo _ 443 [.ref 67, .ref 0, .ref 64, .ref 65, .ref 66, .int v5, .int r2, .int r3, .int r5, .int 1, .int r20, .null, .null, .null, .null, .null, .null, .null] _ _)
          refine LGo.iload F dL_law_443 rfl (?_ : LGo _ 445 _ _ _)
          refine LGo.aload F dL_law_445 rfl (?_ : LGo _ 447 _ _ _)
          refine LGo.bipush F dL_law_447 k_bi_6 (?_ : LGo _ 449 _ _ _)
          refine LGo.ialdK F ixk_6 vik_6_9 shq_66 dL_law_449 (?_ : LGo _ 450 _ _ _)
          refine LGo.icmp_ge F 457 dL_law_450 rfl ⟨fun c21 => ?_, fun c21 => (?_ : LGo _ 453 _ _ _)⟩
          · have h := h.1 c21
            refine LGo.iconst F dL_law_457 k_ic_0 (?_ : LGo _ 458 _ _ _)
            exact h
          · have h := h.2 c21
            refine LGo.iconst F dL_law_453 k_ic_1 (?_ : LGo _ 454 _ _ _)
            refine LGo.goto F 458 dL_law_454 rfl ?_
            exact h
      · have h := h.2 c7
        exact h
set_option maxHeartbeats 4000000 in
set_option maxRecDepth 100000 in
theorem sgL_law_95 {X : LX} {L : Nat} {xs : Nat → Int32} {σ : St} {v5 : Int32} {v6 : Int32} {v7 : Int32} {v8 : Int32} {v9 : Int32} (F : LF X L xs) (h : CallI 10 mL_low [.int (v6 >>> (25 &&& 31)), .int 2] σ (fun r2 s1 => (¬ r2 = 0 → LGo X 120 [.ref 67, .ref 0, .ref 64, .ref 65, .ref 66, .int v5, .int v6, .int v7, .int v8, .int v9, .null, .null, .null, .null, .null, .null, .null, .null] [.int 60, .int (v6 >>> (4 &&& 31)), .int 1] s1) ∧ (r2 = 0 → LGo X 120 [.ref 67, .ref 0, .ref 64, .ref 65, .ref 66, .int v5, .int v6, .int v7, .int v8, .int v9, .null, .null, .null, .null, .null, .null, .null, .null] [.int 300, .int (v6 >>> (4 &&& 31)), .int 1] s1))) : LGo X 95 [.ref 67, .ref 0, .ref 64, .ref 65, .ref 66, .int v5, .int v6, .int v7, .int v8, .int v9, .null, .null, .null, .null, .null, .null, .null, .null] [] σ := by
  refine LGo.iconst F dL_law_95 k_ic_1 (?_ : LGo _ 96 _ _ _)
  refine LGo.iload F dL_law_96 rfl (?_ : LGo _ 98 _ _ _)
  refine LGo.iconst F dL_law_98 k_ic_4 (?_ : LGo _ 99 _ _ _)
  refine LGo.ishr F dL_law_99 (?_ : LGo _ 100 _ _ _)
  refine LGo.iload F dL_law_100 rfl (?_ : LGo _ 102 _ _ _)
  refine LGo.bipush F dL_law_102 k_bi_25 (?_ : LGo _ 104 _ _ _)
  refine LGo.ishr F dL_law_104 (?_ : LGo _ 105 _ _ _)
  refine LGo.iconst F dL_law_105 k_ic_2 (?_ : LGo _ 106 _ _ _)
  refine LGo.callS F (as := [.int (v6 >>> (25 &&& 31)), .int 2]) (st := [.int (v6 >>> (4 &&& 31)), .int 1]) mk_L_low wl_L_55 rfl rfl (Nat.le_of_ble_eq_true rfl) dL_law_106 h ?_
  rintro _ s1 ⟨r2, rfl, h⟩
  show LGo _ 109 _ [.int r2, .int (v6 >>> (4 &&& 31)), .int 1] _
  refine LGo.if_ne F 118 dL_law_109 rfl ⟨fun c3 => ?_, fun c3 => (?_ : LGo _ 112 _ _ _)⟩
  · have h := h.1 c3
    refine LGo.bipush F dL_law_118 k_bi_60 (?_ : LGo _ 120 _ _ _)
    exact h
  · have h := h.2 c3
    refine LGo.sipush F dL_law_112 k_si_300 (?_ : LGo _ 115 _ _ _)
    refine LGo.goto F 120 dL_law_115 rfl ?_
    exact h
set_option maxHeartbeats 4000000 in
set_option maxRecDepth 100000 in
theorem sgL_law_120 {X : LX} {L : Nat} {xs : Nat → Int32} {σ : St} {v5 : Int32} {v6 : Int32} {v7 : Int32} {v8 : Int32} {v9 : Int32} {w0 : Int32} {w1 : Int32} {w2 : Int32} (F : LF X L xs) (h : CallI 10 mL_low [.int w1, .int w0] σ (fun r2 s1 => CallI 10 mL_low [.int (v6 >>> (13 &&& 31)), .int 99] s1 (fun r4 s3 => CallI 10 mL_low [.int (v6 >>> (20 &&& 31)), .int 3] s3 (fun r6 s5 => (r6 ≤ 0 → LGo X 157 [.ref 67, .ref 0, .ref 64, .ref 65, .ref 66, .int v5, .int v6, .int v7, .int v8, .int v9, .int (w2 + r2), .int (1 + r4), .null, .null, .null, .null, .null, .null] [.int 0] s5) ∧ (¬ r6 ≤ 0 → LGo X 157 [.ref 67, .ref 0, .ref 64, .ref 65, .ref 66, .int v5, .int v6, .int v7, .int v8, .int v9, .int (w2 + r2), .int (1 + r4), .null, .null, .null, .null, .null, .null] [.int 1] s5))))) : LGo X 120 [.ref 67, .ref 0, .ref 64, .ref 65, .ref 66, .int v5, .int v6, .int v7, .int v8, .int v9, .null, .null, .null, .null, .null, .null, .null, .null] [.int w0, .int w1, .int w2] σ := by
  refine LGo.callS F (as := [.int w1, .int w0]) (st := [.int w2]) mk_L_low wl_L_55 rfl rfl (Nat.le_of_ble_eq_true rfl) dL_law_120 h ?_
  rintro _ s1 ⟨r2, rfl, h⟩
  show LGo _ 123 _ [.int r2, .int w2] _
  refine LGo.iadd F dL_law_123 (?_ : LGo _ 124 _ _ _)
  refine LGo.istore F dL_law_124 (by decide) rfl rfl (?_ : LGo _ 126 [.ref 67, .ref 0, .ref 64, .ref 65, .ref 66, .int v5, .int v6, .int v7, .int v8, .int v9, .int (w2 + r2), .null, .null, .null, .null, .null, .null, .null] _ _)
  refine LGo.iconst F dL_law_126 k_ic_1 (?_ : LGo _ 127 _ _ _)
  refine LGo.iload F dL_law_127 rfl (?_ : LGo _ 129 _ _ _)
  refine LGo.bipush F dL_law_129 k_bi_13 (?_ : LGo _ 131 _ _ _)
  refine LGo.ishr F dL_law_131 (?_ : LGo _ 132 _ _ _)
  refine LGo.bipush F dL_law_132 k_bi_99 (?_ : LGo _ 134 _ _ _)
  refine LGo.callS F (as := [.int (v6 >>> (13 &&& 31)), .int 99]) (st := [.int 1]) mk_L_low wl_L_55 rfl rfl (Nat.le_of_ble_eq_true rfl) dL_law_134 h ?_
  rintro _ s3 ⟨r4, rfl, h⟩
  show LGo _ 137 _ [.int r4, .int 1] _
  refine LGo.iadd F dL_law_137 (?_ : LGo _ 138 _ _ _)
  refine LGo.istore F dL_law_138 (by decide) rfl rfl (?_ : LGo _ 140 [.ref 67, .ref 0, .ref 64, .ref 65, .ref 66, .int v5, .int v6, .int v7, .int v8, .int v9, .int (w2 + r2), .int (1 + r4), .null, .null, .null, .null, .null, .null] _ _)
  refine LGo.iload F dL_law_140 rfl (?_ : LGo _ 142 _ _ _)
  refine LGo.bipush F dL_law_142 k_bi_20 (?_ : LGo _ 144 _ _ _)
  refine LGo.ishr F dL_law_144 (?_ : LGo _ 145 _ _ _)
  refine LGo.iconst F dL_law_145 k_ic_3 (?_ : LGo _ 146 _ _ _)
  refine LGo.callS F (as := [.int (v6 >>> (20 &&& 31)), .int 3]) (st := []) mk_L_low wl_L_55 rfl rfl (Nat.le_of_ble_eq_true rfl) dL_law_146 h ?_
  rintro _ s5 ⟨r6, rfl, h⟩
  show LGo _ 149 _ [.int r6] _
  refine LGo.if_le F 156 dL_law_149 rfl ⟨fun c7 => ?_, fun c7 => (?_ : LGo _ 152 _ _ _)⟩
  · have h := h.1 c7
    refine LGo.iconst F dL_law_156 k_ic_0 (?_ : LGo _ 157 _ _ _)
    exact h
  · have h := h.2 c7
    refine LGo.iconst F dL_law_152 k_ic_1 (?_ : LGo _ 153 _ _ _)
    refine LGo.goto F 157 dL_law_153 rfl ?_
    exact h
set_option maxHeartbeats 4000000 in
set_option maxRecDepth 100000 in
theorem sgL_law_157 {X : LX} {L : Nat} {xs : Nat → Int32} {σ : St} {v5 : Int32} {v6 : Int32} {v7 : Int32} {v8 : Int32} {v9 : Int32} {v10 : Int32} {v11 : Int32} {w0 : Int32} (F : LF X L xs) (h : (w0 = 0 → CallI 10 mL_low [.int v7, .int 11] σ (fun r3 s2 => LGo X 177 [.ref 67, .ref 0, .ref 64, .ref 65, .ref 66, .int v5, .int v6, .int v7, .int v8, .int v9, .int v10, .int v11, .int w0, .null, .null, .null, .null, .null] [.int (r3 - 5)] s2)) ∧ (¬ w0 = 0 → LGo X 177 [.ref 67, .ref 0, .ref 64, .ref 65, .ref 66, .int v5, .int v6, .int v7, .int v8, .int v9, .int v10, .int v11, .int w0, .null, .null, .null, .null, .null] [.int 0] σ)) : LGo X 157 [.ref 67, .ref 0, .ref 64, .ref 65, .ref 66, .int v5, .int v6, .int v7, .int v8, .int v9, .int v10, .int v11, .null, .null, .null, .null, .null, .null] [.int w0] σ := by
  refine LGo.istore F dL_law_157 (by decide) rfl rfl (?_ : LGo _ 159 [.ref 67, .ref 0, .ref 64, .ref 65, .ref 66, .int v5, .int v6, .int v7, .int v8, .int v9, .int v10, .int v11, .int w0, .null, .null, .null, .null, .null] _ _)
  refine LGo.iload F dL_law_159 rfl (?_ : LGo _ 161 _ _ _)
  refine LGo.if_eq F 168 dL_law_161 rfl ⟨fun c1 => ?_, fun c1 => (?_ : LGo _ 164 _ _ _)⟩
  · have h := h.1 c1
    refine LGo.iload F dL_law_168 rfl (?_ : LGo _ 170 _ _ _)
    refine LGo.bipush F dL_law_170 k_bi_11 (?_ : LGo _ 172 _ _ _)
    refine LGo.callS F (as := [.int v7, .int 11]) (st := []) mk_L_low wl_L_55 rfl rfl (Nat.le_of_ble_eq_true rfl) dL_law_172 h ?_
    rintro _ s2 ⟨r3, rfl, h⟩
    show LGo _ 175 _ [.int r3] _
    refine LGo.iconst F dL_law_175 k_ic_5 (?_ : LGo _ 176 _ _ _)
    refine LGo.isub F dL_law_176 (?_ : LGo _ 177 _ _ _)
    exact h
  · have h := h.2 c1
    refine LGo.iconst F dL_law_164 k_ic_0 (?_ : LGo _ 165 _ _ _)
    refine LGo.goto F 177 dL_law_165 rfl ?_
    exact h
set_option maxHeartbeats 4000000 in
set_option maxRecDepth 100000 in
theorem sgL_law_177 {X : LX} {L : Nat} {xs : Nat → Int32} {σ : St} {v5 : Int32} {v6 : Int32} {v7 : Int32} {v8 : Int32} {v9 : Int32} {v10 : Int32} {v11 : Int32} {v12 : Int32} {w0 : Int32} (F : LF X L xs) (h : LGo X 185 [.ref 67, .ref 0, .ref 64, .ref 65, .ref 66, .int v5, .int v6, .int v7, .int v8, .int v9, .int v10, .int v11, .int v12, .int w0, .int 0, .int 0, .null, .null] [] σ) : LGo X 177 [.ref 67, .ref 0, .ref 64, .ref 65, .ref 66, .int v5, .int v6, .int v7, .int v8, .int v9, .int v10, .int v11, .int v12, .null, .null, .null, .null, .null] [.int w0] σ := by
  refine LGo.istore F dL_law_177 (by decide) rfl rfl (?_ : LGo _ 179 [.ref 67, .ref 0, .ref 64, .ref 65, .ref 66, .int v5, .int v6, .int v7, .int v8, .int v9, .int v10, .int v11, .int v12, .int w0, .null, .null, .null, .null] _ _)
  refine LGo.iconst F dL_law_179 k_ic_0 (?_ : LGo _ 180 _ _ _)
  refine LGo.istore F dL_law_180 (by decide) rfl rfl (?_ : LGo _ 182 [.ref 67, .ref 0, .ref 64, .ref 65, .ref 66, .int v5, .int v6, .int v7, .int v8, .int v9, .int v10, .int v11, .int v12, .int w0, .int 0, .null, .null, .null] _ _)
  refine LGo.iconst F dL_law_182 k_ic_0 (?_ : LGo _ 183 _ _ _)
  refine LGo.istore F dL_law_183 (by decide) rfl rfl (?_ : LGo _ 185 [.ref 67, .ref 0, .ref 64, .ref 65, .ref 66, .int v5, .int v6, .int v7, .int v8, .int v9, .int v10, .int v11, .int v12, .int w0, .int 0, .int 0, .null, .null] _ _)
  exact h
set_option maxHeartbeats 4000000 in
set_option maxRecDepth 100000 in
theorem sgL_law_185 {X : LX} {L : Nat} {xs : Nat → Int32} {σ : St} {v5 : Int32} {v6 : Int32} {v7 : Int32} {v8 : Int32} {v9 : Int32} {v10 : Int32} {v11 : Int32} {v12 : Int32} {v13 : Int32} {v14 : Int32} {v15 : Int32} (F : LF X L xs) (h : ((sA σ 66 6) ≤ v15 → (¬ v14 = 0 → LGo X 256 [.ref 67, .ref 0, .ref 64, .ref 65, .ref 66, .int v5, .int v6, .int v7, .int v8, .int v9, .int v10, .int v11, .int v12, .int v13, .int v14, .int v15, .null, .null] [] σ) ∧ (v14 = 0 → (6 ≤ (sA σ 66 6) → LGo X 256 [.ref 67, .ref 0, .ref 64, .ref 65, .ref 66, .int v5, .int v6, .int v7, .int v8, .int v9, .int v10, .int v11, .int v12, .int v13, .int v14, .int v15, .null, .null] [] σ) ∧ (¬ 6 ≤ (sA σ 66 6) → LGo X 257 [.ref 67, .ref 0, .ref 64, .ref 65, .ref 66, .int v5, .int v6, .int v7, .int v8, .int v9, .int v10, .int v11, .int v12, .int v13, .int v14, .int v15, .null, .null] [.int 1] σ))) ∧ (¬ (sA σ 66 6) ≤ v15 → (¬ v14 = 0 → LGo X 224 [.ref 67, .ref 0, .ref 64, .ref 65, .ref 66, .int v5, .int v6, .int v7, .int v8, .int v9, .int v10, .int v11, .int v12, .int v13, .int v14, .int v15, .null, .null] [] σ) ∧ (v14 = 0 → vp_in (4 * v15) 24 ∧ (¬ (sA σ 64 (ix (4 * v15))) = v10 → LGo X 228 [.ref 67, .ref 0, .ref 64, .ref 65, .ref 66, .int v5, .int v6, .int v7, .int v8, .int v9, .int v10, .int v11, .int v12, .int v13, .int v14, .int v15, .null, .null] [] σ) ∧ ((sA σ 64 (ix (4 * v15))) = v10 → vp_in ((4 * v15) + 2) 24 ∧ (¬ (sA σ 64 (ix ((4 * v15) + 2))) = v13 → LGo X 228 [.ref 67, .ref 0, .ref 64, .ref 65, .ref 66, .int v5, .int v6, .int v7, .int v8, .int v9, .int v10, .int v11, .int v12, .int v13, .int v14, .int v15, .null, .null] [] σ) ∧ ((sA σ 64 (ix ((4 * v15) + 2))) = v13 → LGo X 224 [.ref 67, .ref 0, .ref 64, .ref 65, .ref 66, .int v5, .int v6, .int v7, .int v8, .int v9, .int v10, .int v11, .int v12, .int v13, .int v14, .int v15, .null, .null] [] σ))))) : LGo X 185 [.ref 67, .ref 0, .ref 64, .ref 65, .ref 66, .int v5, .int v6, .int v7, .int v8, .int v9, .int v10, .int v11, .int v12, .int v13, .int v14, .int v15, .null, .null] [] σ := by
  refine LGo.iload F dL_law_185 rfl (?_ : LGo _ 187 _ _ _)
  refine LGo.aload F dL_law_187 rfl (?_ : LGo _ 189 _ _ _)
  refine LGo.bipush F dL_law_189 k_bi_6 (?_ : LGo _ 191 _ _ _)
  refine LGo.ialdK F ixk_6 vik_6_9 shq_66 dL_law_191 (?_ : LGo _ 192 _ _ _)
  refine LGo.icmp_ge F 237 dL_law_192 rfl ⟨fun c1 => ?_, fun c1 => (?_ : LGo _ 195 _ _ _)⟩
  · have h := h.1 c1
    refine LGo.iload F dL_law_237 rfl (?_ : LGo _ 239 _ _ _)
    refine LGo.if_ne F 256 dL_law_239 rfl ⟨fun c2 => ?_, fun c2 => (?_ : LGo _ 242 _ _ _)⟩
    · have h := h.1 c2
      exact h
    · have h := h.2 c2
      refine LGo.aload F dL_law_242 rfl (?_ : LGo _ 244 _ _ _)
      refine LGo.bipush F dL_law_244 k_bi_6 (?_ : LGo _ 246 _ _ _)
      refine LGo.ialdK F ixk_6 vik_6_9 shq_66 dL_law_246 (?_ : LGo _ 247 _ _ _)
      refine LGo.bipush F dL_law_247 k_bi_6 (?_ : LGo _ 249 _ _ _)
      refine LGo.icmp_ge F 256 dL_law_249 rfl ⟨fun c3 => ?_, fun c3 => (?_ : LGo _ 252 _ _ _)⟩
      · have h := h.1 c3
        exact h
      · have h := h.2 c3
        refine LGo.iconst F dL_law_252 k_ic_1 (?_ : LGo _ 253 _ _ _)
        refine LGo.goto F 257 dL_law_253 rfl ?_
        exact h
  · have h := h.2 c1
    refine LGo.iload F dL_law_195 rfl (?_ : LGo _ 197 _ _ _)
    refine LGo.if_ne F 224 dL_law_197 rfl ⟨fun c4 => ?_, fun c4 => (?_ : LGo _ 200 _ _ _)⟩
    · have h := h.1 c4
      exact h
    · have h := h.2 c4
      refine LGo.aload_n F 2 dL_law_200 rfl rfl (?_ : LGo _ 201 _ _ _)
      refine LGo.iconst F dL_law_201 k_ic_4 (?_ : LGo _ 202 _ _ _)
      refine LGo.iload F dL_law_202 rfl (?_ : LGo _ 204 _ _ _)
      refine LGo.imul F dL_law_204 (?_ : LGo _ 205 _ _ _)
      refine LGo.iald F shq_64 dL_law_205 ⟨h.1, (?_ : LGo _ 206 _ _ _)⟩
      have h := h.2
      refine LGo.iload F dL_law_206 rfl (?_ : LGo _ 208 _ _ _)
      refine LGo.icmp_ne F 228 dL_law_208 rfl ⟨fun c5 => ?_, fun c5 => (?_ : LGo _ 211 _ _ _)⟩
      · have h := h.1 c5
        exact h
      · have h := h.2 c5
        refine LGo.aload_n F 2 dL_law_211 rfl rfl (?_ : LGo _ 212 _ _ _)
        refine LGo.iconst F dL_law_212 k_ic_4 (?_ : LGo _ 213 _ _ _)
        refine LGo.iload F dL_law_213 rfl (?_ : LGo _ 215 _ _ _)
        refine LGo.imul F dL_law_215 (?_ : LGo _ 216 _ _ _)
        refine LGo.iconst F dL_law_216 k_ic_2 (?_ : LGo _ 217 _ _ _)
        refine LGo.iadd F dL_law_217 (?_ : LGo _ 218 _ _ _)
        refine LGo.iald F shq_64 dL_law_218 ⟨h.1, (?_ : LGo _ 219 _ _ _)⟩
        have h := h.2
        refine LGo.iload F dL_law_219 rfl (?_ : LGo _ 221 _ _ _)
        refine LGo.icmp_ne F 228 dL_law_221 rfl ⟨fun c6 => ?_, fun c6 => (?_ : LGo _ 224 _ _ _)⟩
        · have h := h.1 c6
          exact h
        · have h := h.2 c6
          exact h
set_option maxHeartbeats 4000000 in
set_option maxRecDepth 100000 in
theorem sgL_law_224 {X : LX} {L : Nat} {xs : Nat → Int32} {σ : St} {v5 : Int32} {v6 : Int32} {v7 : Int32} {v8 : Int32} {v9 : Int32} {v10 : Int32} {v11 : Int32} {v12 : Int32} {v13 : Int32} {v14 : Int32} {v15 : Int32} (F : LF X L xs) (h : LGo X 229 [.ref 67, .ref 0, .ref 64, .ref 65, .ref 66, .int v5, .int v6, .int v7, .int v8, .int v9, .int v10, .int v11, .int v12, .int v13, .int v14, .int v15, .null, .null] [.int 1] σ) : LGo X 224 [.ref 67, .ref 0, .ref 64, .ref 65, .ref 66, .int v5, .int v6, .int v7, .int v8, .int v9, .int v10, .int v11, .int v12, .int v13, .int v14, .int v15, .null, .null] [] σ := by
  refine LGo.iconst F dL_law_224 k_ic_1 (?_ : LGo _ 225 _ _ _)
  refine LGo.goto F 229 dL_law_225 rfl ?_
  exact h
set_option maxHeartbeats 4000000 in
set_option maxRecDepth 100000 in
theorem sgL_law_228 {X : LX} {L : Nat} {xs : Nat → Int32} {σ : St} {v5 : Int32} {v6 : Int32} {v7 : Int32} {v8 : Int32} {v9 : Int32} {v10 : Int32} {v11 : Int32} {v12 : Int32} {v13 : Int32} {v14 : Int32} {v15 : Int32} (F : LF X L xs) (h : LGo X 229 [.ref 67, .ref 0, .ref 64, .ref 65, .ref 66, .int v5, .int v6, .int v7, .int v8, .int v9, .int v10, .int v11, .int v12, .int v13, .int v14, .int v15, .null, .null] [.int 0] σ) : LGo X 228 [.ref 67, .ref 0, .ref 64, .ref 65, .ref 66, .int v5, .int v6, .int v7, .int v8, .int v9, .int v10, .int v11, .int v12, .int v13, .int v14, .int v15, .null, .null] [] σ := by
  refine LGo.iconst F dL_law_228 k_ic_0 (?_ : LGo _ 229 _ _ _)
  exact h
set_option maxHeartbeats 4000000 in
set_option maxRecDepth 100000 in
theorem sgL_law_229 {X : LX} {L : Nat} {xs : Nat → Int32} {σ : St} {v5 : Int32} {v6 : Int32} {v7 : Int32} {v8 : Int32} {v9 : Int32} {v10 : Int32} {v11 : Int32} {v12 : Int32} {v13 : Int32} {v14 : Int32} {v15 : Int32} {w0 : Int32} (F : LF X L xs) (h : LGo X 185 [.ref 67, .ref 0, .ref 64, .ref 65, .ref 66, .int v5, .int v6, .int v7, .int v8, .int v9, .int v10, .int v11, .int v12, .int v13, .int w0, .int (v15 + 1), .null, .null] [] σ) : LGo X 229 [.ref 67, .ref 0, .ref 64, .ref 65, .ref 66, .int v5, .int v6, .int v7, .int v8, .int v9, .int v10, .int v11, .int v12, .int v13, .int v14, .int v15, .null, .null] [.int w0] σ := by
  refine LGo.istore F dL_law_229 (by decide) rfl rfl (?_ : LGo _ 231 [.ref 67, .ref 0, .ref 64, .ref 65, .ref 66, .int v5, .int v6, .int v7, .int v8, .int v9, .int v10, .int v11, .int v12, .int v13, .int w0, .int v15, .null, .null] _ _)
  refine LGo.iinc F dL_law_231 rfl (congrArg (fun z => v15 + z) k_ic_1) (by decide) rfl rfl (?_ : LGo _ 234 [.ref 67, .ref 0, .ref 64, .ref 65, .ref 66, .int v5, .int v6, .int v7, .int v8, .int v9, .int v10, .int v11, .int v12, .int v13, .int w0, .int (v15 + 1), .null, .null] _ _)
  refine LGo.goto F 185 dL_law_234 rfl ?_
  exact h
set_option maxHeartbeats 4000000 in
set_option maxRecDepth 100000 in
theorem sgL_law_256 {X : LX} {L : Nat} {xs : Nat → Int32} {σ : St} {v5 : Int32} {v6 : Int32} {v7 : Int32} {v8 : Int32} {v9 : Int32} {v10 : Int32} {v11 : Int32} {v12 : Int32} {v13 : Int32} {v14 : Int32} {v15 : Int32} (F : LF X L xs) (h : LGo X 257 [.ref 67, .ref 0, .ref 64, .ref 65, .ref 66, .int v5, .int v6, .int v7, .int v8, .int v9, .int v10, .int v11, .int v12, .int v13, .int v14, .int v15, .null, .null] [.int 0] σ) : LGo X 256 [.ref 67, .ref 0, .ref 64, .ref 65, .ref 66, .int v5, .int v6, .int v7, .int v8, .int v9, .int v10, .int v11, .int v12, .int v13, .int v14, .int v15, .null, .null] [] σ := by
  refine LGo.iconst F dL_law_256 k_ic_0 (?_ : LGo _ 257 _ _ _)
  exact h
set_option maxHeartbeats 4000000 in
set_option maxRecDepth 100000 in
theorem sgL_law_257 {X : LX} {L : Nat} {xs : Nat → Int32} {σ : St} {v5 : Int32} {v6 : Int32} {v7 : Int32} {v8 : Int32} {v9 : Int32} {v10 : Int32} {v11 : Int32} {v12 : Int32} {v13 : Int32} {v14 : Int32} {v15 : Int32} {w0 : Int32} (F : LF X L xs) (h : (v12 = 0 → LGo X 277 [.ref 67, .ref 0, .ref 64, .ref 65, .ref 66, .int v5, .int v6, .int v7, .int v8, .int v9, .int v10, .int v11, .int v12, .int v13, .int v14, .int w0, .null, .null] [.int 0] σ) ∧ (¬ v12 = 0 → CallI 9 mX5_ifWall [.ref 0, .int v10, .int v11, .int 0] σ (fun r3 s2 => LGo X 277 [.ref 67, .ref 0, .ref 64, .ref 65, .ref 66, .int v5, .int v6, .int v7, .int v8, .int v9, .int v10, .int v11, .int v12, .int v13, .int v14, .int w0, .null, .null] [.int r3] s2))) : LGo X 257 [.ref 67, .ref 0, .ref 64, .ref 65, .ref 66, .int v5, .int v6, .int v7, .int v8, .int v9, .int v10, .int v11, .int v12, .int v13, .int v14, .int v15, .null, .null] [.int w0] σ := by
  refine LGo.istore F dL_law_257 (by decide) rfl rfl (?_ : LGo _ 259 [.ref 67, .ref 0, .ref 64, .ref 65, .ref 66, .int v5, .int v6, .int v7, .int v8, .int v9, .int v10, .int v11, .int v12, .int v13, .int v14, .int w0, .null, .null] _ _)
  refine LGo.iload F dL_law_259 rfl (?_ : LGo _ 261 _ _ _)
  refine LGo.if_eq F 276 dL_law_261 rfl ⟨fun c1 => ?_, fun c1 => (?_ : LGo _ 264 _ _ _)⟩
  · have h := h.1 c1
    refine LGo.iconst F dL_law_276 k_ic_0 (?_ : LGo _ 277 _ _ _)
    exact h
  · have h := h.2 c1
    refine LGo.aload_n F 1 dL_law_264 rfl rfl (?_ : LGo _ 265 _ _ _)
    refine LGo.iload F dL_law_265 rfl (?_ : LGo _ 267 _ _ _)
    refine LGo.iload F dL_law_267 rfl (?_ : LGo _ 269 _ _ _)
    refine LGo.iconst F dL_law_269 k_ic_0 (?_ : LGo _ 270 _ _ _)
    refine LGo.callV F (as := [.int v10, .int v11, .int 0]) (st := []) mk_X5_ifWall wl_L_69 shq_0 rfl rfl (Nat.le_of_ble_eq_true rfl) dL_law_270 h ?_
    rintro _ s2 ⟨r3, rfl, h⟩
    show LGo _ 273 _ [.int r3] _
    refine LGo.goto F 277 dL_law_273 rfl ?_
    exact h
set_option maxHeartbeats 4000000 in
set_option maxRecDepth 100000 in
theorem sgL_law_277 {X : LX} {L : Nat} {xs : Nat → Int32} {σ : St} {v5 : Int32} {v6 : Int32} {v7 : Int32} {v8 : Int32} {v9 : Int32} {v10 : Int32} {v11 : Int32} {v12 : Int32} {v13 : Int32} {v14 : Int32} {v15 : Int32} {w0 : Int32} (F : LF X L xs) (h : CallI 9 mX5_target [.ref 0, .int v10, .int v11, .int v13, .int v12] σ (fun r2 s1 => (v14 = 0 → (v15 = 0 → LGo X 316 [.ref 67, .ref 0, .ref 64, .ref 65, .ref 66, .int v5, .int v6, .int v7, .int v8, .int v9, .int v10, .int v11, .int v12, .int v13, .int v14, .int v15, .int w0, .null] [.int (-3), .int r2] s1) ∧ (¬ v15 = 0 → LGo X 316 [.ref 67, .ref 0, .ref 64, .ref 65, .ref 66, .int v5, .int v6, .int v7, .int v8, .int v9, .int v10, .int v11, .int v12, .int v13, .int v14, .int v15, .int w0, .null] [.int (sA s1 66 6), .int r2] s1)) ∧ (¬ v14 = 0 → LGo X 316 [.ref 67, .ref 0, .ref 64, .ref 65, .ref 66, .int v5, .int v6, .int v7, .int v8, .int v9, .int v10, .int v11, .int v12, .int v13, .int v14, .int v15, .int w0, .null] [.int (-2), .int r2] s1))) : LGo X 277 [.ref 67, .ref 0, .ref 64, .ref 65, .ref 66, .int v5, .int v6, .int v7, .int v8, .int v9, .int v10, .int v11, .int v12, .int v13, .int v14, .int v15, .null, .null] [.int w0] σ := by
  refine LGo.istore F dL_law_277 (by decide) rfl rfl (?_ : LGo _ 279 [.ref 67, .ref 0, .ref 64, .ref 65, .ref 66, .int v5, .int v6, .int v7, .int v8, .int v9, .int v10, .int v11, .int v12, .int v13, .int v14, .int v15, .int w0, .null] _ _)
  refine LGo.aload_n F 1 dL_law_279 rfl rfl (?_ : LGo _ 280 _ _ _)
  refine LGo.iload F dL_law_280 rfl (?_ : LGo _ 282 _ _ _)
  refine LGo.iload F dL_law_282 rfl (?_ : LGo _ 284 _ _ _)
  refine LGo.iload F dL_law_284 rfl (?_ : LGo _ 286 _ _ _)
  refine LGo.iload F dL_law_286 rfl (?_ : LGo _ 288 _ _ _)
  refine LGo.callV F (as := [.int v10, .int v11, .int v13, .int v12]) (st := []) mk_X5_target wl_L_72 shq_0 rfl rfl (Nat.le_of_ble_eq_true rfl) dL_law_288 h ?_
  rintro _ s1 ⟨r2, rfl, h⟩
  show LGo _ 291 _ [.int r2] _
  refine LGo.iload F dL_law_291 rfl (?_ : LGo _ 293 _ _ _)
  refine LGo.if_eq F 301 dL_law_293 rfl ⟨fun c3 => ?_, fun c3 => (?_ : LGo _ 296 _ _ _)⟩
  · have h := h.1 c3
    refine LGo.iload F dL_law_301 rfl (?_ : LGo _ 303 _ _ _)
    refine LGo.if_eq F 314 dL_law_303 rfl ⟨fun c4 => ?_, fun c4 => (?_ : LGo _ 306 _ _ _)⟩
    · have h := h.1 c4
      refine LGo.bipush F dL_law_314 k_bi_m3 (?_ : LGo _ 316 _ _ _)
      exact h
    · have h := h.2 c4
      refine LGo.aload F dL_law_306 rfl (?_ : LGo _ 308 _ _ _)
      refine LGo.bipush F dL_law_308 k_bi_6 (?_ : LGo _ 310 _ _ _)
      refine LGo.ialdK F ixk_6 vik_6_9 shq_66 dL_law_310 (?_ : LGo _ 311 _ _ _)
      refine LGo.goto F 316 dL_law_311 rfl ?_
      exact h
  · have h := h.2 c3
    refine LGo.bipush F dL_law_296 k_bi_m2 (?_ : LGo _ 298 _ _ _)
    refine LGo.goto F 316 dL_law_298 rfl ?_
    exact h
set_option maxHeartbeats 4000000 in
set_option maxRecDepth 100000 in
theorem sgL_law_316 {X : LX} {L : Nat} {xs : Nat → Int32} {σ : St} {v5 : Int32} {v6 : Int32} {v7 : Int32} {v8 : Int32} {v9 : Int32} {v10 : Int32} {v11 : Int32} {v12 : Int32} {v13 : Int32} {v14 : Int32} {v15 : Int32} {v16 : Int32} {w0 : Int32} {w1 : Int32} (F : LF X L xs) (h : (¬ w1 = w0 → LGo X 358 [.ref 67, .ref 0, .ref 64, .ref 65, .ref 66, .int v5, .int v6, .int v7, .int v8, .int v9, .int v10, .int v11, .int v12, .int v13, .int v14, .int v15, .int v16, .null] [] σ) ∧ (w1 = w0 → (v12 = 0 → LGo X 354 [.ref 67, .ref 0, .ref 64, .ref 65, .ref 66, .int v5, .int v6, .int v7, .int v8, .int v9, .int v10, .int v11, .int v12, .int v13, .int v14, .int v15, .int v16, .null] [] σ) ∧ (¬ v12 = 0 → (v14 = 0 → (v15 = 0 → LGo X 351 [.ref 67, .ref 0, .ref 64, .ref 65, .ref 66, .int v5, .int v6, .int v7, .int v8, .int v9, .int v10, .int v11, .int v12, .int v13, .int v14, .int v15, .int v16, .null] [.int (-3), .int v16] σ) ∧ (¬ v15 = 0 → CallI 9 mX5_count [.ref 0, .int 2] σ (fun r6 s5 => LGo X 351 [.ref 67, .ref 0, .ref 64, .ref 65, .ref 66, .int v5, .int v6, .int v7, .int v8, .int v9, .int v10, .int v11, .int v12, .int v13, .int v14, .int v15, .int v16, .null] [.int r6, .int v16] s5))) ∧ (¬ v14 = 0 → LGo X 351 [.ref 67, .ref 0, .ref 64, .ref 65, .ref 66, .int v5, .int v6, .int v7, .int v8, .int v9, .int v10, .int v11, .int v12, .int v13, .int v14, .int v15, .int v16, .null] [.int (-2), .int v16] σ)))) : LGo X 316 [.ref 67, .ref 0, .ref 64, .ref 65, .ref 66, .int v5, .int v6, .int v7, .int v8, .int v9, .int v10, .int v11, .int v12, .int v13, .int v14, .int v15, .int v16, .null] [.int w0, .int w1] σ := by
  refine LGo.icmp_ne F 358 dL_law_316 rfl ⟨fun c1 => ?_, fun c1 => (?_ : LGo _ 319 _ _ _)⟩
  · have h := h.1 c1
    exact h
  · have h := h.2 c1
    refine LGo.iload F dL_law_319 rfl (?_ : LGo _ 321 _ _ _)
    refine LGo.if_eq F 354 dL_law_321 rfl ⟨fun c2 => ?_, fun c2 => (?_ : LGo _ 324 _ _ _)⟩
    · have h := h.1 c2
      exact h
    · have h := h.2 c2
      refine LGo.iload F dL_law_324 rfl (?_ : LGo _ 326 _ _ _)
      refine LGo.iload F dL_law_326 rfl (?_ : LGo _ 328 _ _ _)
      refine LGo.if_eq F 336 dL_law_328 rfl ⟨fun c3 => ?_, fun c3 => (?_ : LGo _ 331 _ _ _)⟩
      · have h := h.1 c3
        refine LGo.iload F dL_law_336 rfl (?_ : LGo _ 338 _ _ _)
        refine LGo.if_eq F 349 dL_law_338 rfl ⟨fun c4 => ?_, fun c4 => (?_ : LGo _ 341 _ _ _)⟩
        · have h := h.1 c4
          refine LGo.bipush F dL_law_349 k_bi_m3 (?_ : LGo _ 351 _ _ _)
          exact h
        · have h := h.2 c4
          refine LGo.aload_n F 1 dL_law_341 rfl rfl (?_ : LGo _ 342 _ _ _)
          refine LGo.iconst F dL_law_342 k_ic_2 (?_ : LGo _ 343 _ _ _)
          refine LGo.callV F (as := [.int 2]) (st := [.int v16]) mk_X5_count wl_L_37 shq_0 rfl rfl (Nat.le_of_ble_eq_true rfl) dL_law_343 h ?_
          rintro _ s5 ⟨r6, rfl, h⟩
          show LGo _ 346 _ [.int r6, .int v16] _
          refine LGo.goto F 351 dL_law_346 rfl ?_
          exact h
      · have h := h.2 c3
        refine LGo.bipush F dL_law_331 k_bi_m2 (?_ : LGo _ 333 _ _ _)
        refine LGo.goto F 351 dL_law_333 rfl ?_
        exact h
set_option maxHeartbeats 4000000 in
set_option maxRecDepth 100000 in
theorem sgL_law_351 {X : LX} {L : Nat} {xs : Nat → Int32} {σ : St} {v5 : Int32} {v6 : Int32} {v7 : Int32} {v8 : Int32} {v9 : Int32} {v10 : Int32} {v11 : Int32} {v12 : Int32} {v13 : Int32} {v14 : Int32} {v15 : Int32} {v16 : Int32} {w0 : Int32} {w1 : Int32} (F : LF X L xs) (h : (¬ w1 = w0 → LGo X 358 [.ref 67, .ref 0, .ref 64, .ref 65, .ref 66, .int v5, .int v6, .int v7, .int v8, .int v9, .int v10, .int v11, .int v12, .int v13, .int v14, .int v15, .int v16, .null] [] σ) ∧ (w1 = w0 → LGo X 354 [.ref 67, .ref 0, .ref 64, .ref 65, .ref 66, .int v5, .int v6, .int v7, .int v8, .int v9, .int v10, .int v11, .int v12, .int v13, .int v14, .int v15, .int v16, .null] [] σ)) : LGo X 351 [.ref 67, .ref 0, .ref 64, .ref 65, .ref 66, .int v5, .int v6, .int v7, .int v8, .int v9, .int v10, .int v11, .int v12, .int v13, .int v14, .int v15, .int v16, .null] [.int w0, .int w1] σ := by
  refine LGo.icmp_ne F 358 dL_law_351 rfl ⟨fun c1 => ?_, fun c1 => (?_ : LGo _ 354 _ _ _)⟩
  · have h := h.1 c1
    exact h
  · have h := h.2 c1
    exact h
set_option maxHeartbeats 4000000 in
set_option maxRecDepth 100000 in
theorem sgL_law_354 {X : LX} {L : Nat} {xs : Nat → Int32} {σ : St} {v5 : Int32} {v6 : Int32} {v7 : Int32} {v8 : Int32} {v9 : Int32} {v10 : Int32} {v11 : Int32} {v12 : Int32} {v13 : Int32} {v14 : Int32} {v15 : Int32} {v16 : Int32} (F : LF X L xs) (h : LGo X 359 [.ref 67, .ref 0, .ref 64, .ref 65, .ref 66, .int v5, .int v6, .int v7, .int v8, .int v9, .int v10, .int v11, .int v12, .int v13, .int v14, .int v15, .int v16, .null] [.int 1] σ) : LGo X 354 [.ref 67, .ref 0, .ref 64, .ref 65, .ref 66, .int v5, .int v6, .int v7, .int v8, .int v9, .int v10, .int v11, .int v12, .int v13, .int v14, .int v15, .int v16, .null] [] σ := by
  refine LGo.iconst F dL_law_354 k_ic_1 (?_ : LGo _ 355 _ _ _)
  refine LGo.goto F 359 dL_law_355 rfl ?_
  exact h
set_option maxHeartbeats 4000000 in
set_option maxRecDepth 100000 in
theorem sgL_law_358 {X : LX} {L : Nat} {xs : Nat → Int32} {σ : St} {v5 : Int32} {v6 : Int32} {v7 : Int32} {v8 : Int32} {v9 : Int32} {v10 : Int32} {v11 : Int32} {v12 : Int32} {v13 : Int32} {v14 : Int32} {v15 : Int32} {v16 : Int32} (F : LF X L xs) (h : LGo X 359 [.ref 67, .ref 0, .ref 64, .ref 65, .ref 66, .int v5, .int v6, .int v7, .int v8, .int v9, .int v10, .int v11, .int v12, .int v13, .int v14, .int v15, .int v16, .null] [.int 0] σ) : LGo X 358 [.ref 67, .ref 0, .ref 64, .ref 65, .ref 66, .int v5, .int v6, .int v7, .int v8, .int v9, .int v10, .int v11, .int v12, .int v13, .int v14, .int v15, .int v16, .null] [] σ := by
  refine LGo.iconst F dL_law_358 k_ic_0 (?_ : LGo _ 359 _ _ _)
  exact h
set_option maxHeartbeats 4000000 in
set_option maxRecDepth 100000 in
theorem sgL_law_359 {X : LX} {L : Nat} {xs : Nat → Int32} {σ : St} {v5 : Int32} {v6 : Int32} {v7 : Int32} {v8 : Int32} {v9 : Int32} {v10 : Int32} {v11 : Int32} {v12 : Int32} {v13 : Int32} {v14 : Int32} {v15 : Int32} {v16 : Int32} {w0 : Int32} (F : LF X L xs) (h : (v15 = 0 → LGo X 422 [.ref 67, .ref 0, .ref 64, .ref 65, .ref 66, .int v5, .int v6, .int v7, .int v8, .int w0, .int v10, .int v11, .int v12, .int v13, .int v14, .int v15, .int v16, .null] [] σ) ∧ (¬ v15 = 0 → vp_in (4 * (sA σ 66 6)) 24 ∧ ∀ s2, s2 = setA σ 64 (ix (4 * (sA σ 66 6))) v10 → vp_in ((4 * (sA σ 66 6)) + 1) 24 ∧ ∀ s3, s3 = setA s2 64 (ix ((4 * (sA σ 66 6)) + 1)) v11 → vp_in ((4 * (sA σ 66 6)) + 2) 24 ∧ ∀ s4, s4 = setA s3 64 (ix ((4 * (sA σ 66 6)) + 2)) v13 → (v12 = 0 → LGo X 412 [.ref 67, .ref 0, .ref 64, .ref 65, .ref 66, .int v5, .int v6, .int v7, .int v8, .int w0, .int v10, .int v11, .int v12, .int v13, .int v14, .int v15, .int v16, .int (4 * (sA σ 66 6))] [.int 0, .int ((4 * (sA σ 66 6)) + 3), .ref 64] s4) ∧ (¬ v12 = 0 → LGo X 412 [.ref 67, .ref 0, .ref 64, .ref 65, .ref 66, .int v5, .int v6, .int v7, .int v8, .int w0, .int v10, .int v11, .int v12, .int v13, .int v14, .int v15, .int v16, .int (4 * (sA σ 66 6))] [.int 1, .int ((4 * (sA σ 66 6)) + 3), .ref 64] s4))) : LGo X 359 [.ref 67, .ref 0, .ref 64, .ref 65, .ref 66, .int v5, .int v6, .int v7, .int v8, .int v9, .int v10, .int v11, .int v12, .int v13, .int v14, .int v15, .int v16, .null] [.int w0] σ := by
  refine LGo.istore F dL_law_359 (by decide) rfl rfl (?_ : LGo _ 361 [.ref 67, .ref 0, .ref 64, .ref 65, .ref 66, .int v5, .int v6, .int v7, .int v8, .int w0, .int v10, .int v11, .int v12, .int v13, .int v14, .int v15, .int v16, .null] _ _)
  refine LGo.iload F dL_law_361 rfl (?_ : LGo _ 363 _ _ _)
  refine LGo.if_eq F 422 dL_law_363 rfl ⟨fun c1 => ?_, fun c1 => (?_ : LGo _ 366 _ _ _)⟩
  · have h := h.1 c1
    exact h
  · have h := h.2 c1
    refine LGo.iconst F dL_law_366 k_ic_4 (?_ : LGo _ 367 _ _ _)
    refine LGo.aload F dL_law_367 rfl (?_ : LGo _ 369 _ _ _)
    refine LGo.bipush F dL_law_369 k_bi_6 (?_ : LGo _ 371 _ _ _)
    refine LGo.ialdK F ixk_6 vik_6_9 shq_66 dL_law_371 (?_ : LGo _ 372 _ _ _)
    refine LGo.imul F dL_law_372 (?_ : LGo _ 373 _ _ _)
    refine LGo.istore F dL_law_373 (by decide) rfl rfl (?_ : LGo _ 375 [.ref 67, .ref 0, .ref 64, .ref 65, .ref 66, .int v5, .int v6, .int v7, .int v8, .int w0, .int v10, .int v11, .int v12, .int v13, .int v14, .int v15, .int v16, .int (4 * (sA σ 66 6))] _ _)
    refine LGo.aload_n F 2 dL_law_375 rfl rfl (?_ : LGo _ 376 _ _ _)
    refine LGo.iload F dL_law_376 rfl (?_ : LGo _ 378 _ _ _)
    refine LGo.iload F dL_law_378 rfl (?_ : LGo _ 380 _ _ _)
    refine LGo.iast F shq_64 dL_law_380 ⟨h.1, (?_ : LGo _ 381 _ _ _)⟩
    generalize es2 : setA σ 64 (ix (4 * (sA σ 66 6))) v10 = s2
    have h := h.2 s2 es2.symm
    refine LGo.aload_n F 2 dL_law_381 rfl rfl (?_ : LGo _ 382 _ _ _)
    refine LGo.iload F dL_law_382 rfl (?_ : LGo _ 384 _ _ _)
    refine LGo.iconst F dL_law_384 k_ic_1 (?_ : LGo _ 385 _ _ _)
    refine LGo.iadd F dL_law_385 (?_ : LGo _ 386 _ _ _)
    refine LGo.iload F dL_law_386 rfl (?_ : LGo _ 388 _ _ _)
    refine LGo.iast F shq_64 dL_law_388 ⟨h.1, (?_ : LGo _ 389 _ _ _)⟩
    generalize es3 : setA s2 64 (ix ((4 * (sA σ 66 6)) + 1)) v11 = s3
    have h := h.2 s3 es3.symm
    refine LGo.aload_n F 2 dL_law_389 rfl rfl (?_ : LGo _ 390 _ _ _)
    refine LGo.iload F dL_law_390 rfl (?_ : LGo _ 392 _ _ _)
    refine LGo.iconst F dL_law_392 k_ic_2 (?_ : LGo _ 393 _ _ _)
    refine LGo.iadd F dL_law_393 (?_ : LGo _ 394 _ _ _)
    refine LGo.iload F dL_law_394 rfl (?_ : LGo _ 396 _ _ _)
    refine LGo.iast F shq_64 dL_law_396 ⟨h.1, (?_ : LGo _ 397 _ _ _)⟩
    generalize es4 : setA s3 64 (ix ((4 * (sA σ 66 6)) + 2)) v13 = s4
    have h := h.2 s4 es4.symm
    refine LGo.aload_n F 2 dL_law_397 rfl rfl (?_ : LGo _ 398 _ _ _)
    refine LGo.iload F dL_law_398 rfl (?_ : LGo _ 400 _ _ _)
    refine LGo.iconst F dL_law_400 k_ic_3 (?_ : LGo _ 401 _ _ _)
    refine LGo.iadd F dL_law_401 (?_ : LGo _ 402 _ _ _)
    refine LGo.iload F dL_law_402 rfl (?_ : LGo _ 404 _ _ _)
    refine LGo.if_eq F 411 dL_law_404 rfl ⟨fun c5 => ?_, fun c5 => (?_ : LGo _ 407 _ _ _)⟩
    · have h := h.1 c5
      refine LGo.iconst F dL_law_411 k_ic_0 (?_ : LGo _ 412 _ _ _)
      exact h
    · have h := h.2 c5
      refine LGo.iconst F dL_law_407 k_ic_1 (?_ : LGo _ 408 _ _ _)
      refine LGo.goto F 412 dL_law_408 rfl ?_
      exact h
set_option maxHeartbeats 4000000 in
set_option maxRecDepth 100000 in
theorem sgL_law_412 {X : LX} {L : Nat} {xs : Nat → Int32} {σ : St} {v5 : Int32} {v6 : Int32} {v7 : Int32} {v8 : Int32} {v9 : Int32} {v10 : Int32} {v11 : Int32} {v12 : Int32} {v13 : Int32} {v14 : Int32} {v15 : Int32} {v16 : Int32} {v17 : Int32} {w0 : Int32} {w1 : Int32} (F : LF X L xs) (h : vp_in w1 24 ∧ ∀ s1, s1 = setA σ 64 (ix w1) w0 → ∀ s2, s2 = setA s1 66 6 ((sA s1 66 6) + 1) → LGo X 422 [.ref 67, .ref 0, .ref 64, .ref 65, .ref 66, .int v5, .int v6, .int v7, .int v8, .int v9, .int v10, .int v11, .int v12, .int v13, .int v14, .int v15, .int v16, .null] [] s2) : LGo X 412 [.ref 67, .ref 0, .ref 64, .ref 65, .ref 66, .int v5, .int v6, .int v7, .int v8, .int v9, .int v10, .int v11, .int v12, .int v13, .int v14, .int v15, .int v16, .int v17] [.int w0, .int w1, .ref 64] σ := by
  refine LGo.iast F shq_64 dL_law_412 ⟨h.1, (?_ : LGo _ 413 _ _ _)⟩
  generalize es1 : setA σ 64 (ix w1) w0 = s1
  have h := h.2 s1 es1.symm
  refine LGo.aload F dL_law_413 rfl (?_ : LGo _ 415 _ _ _)
  refine LGo.bipush F dL_law_415 k_bi_6 (?_ : LGo _ 417 _ _ _)
  refine LGo.dup2 F dL_law_417 rfl rfl (?_ : LGo _ 418 _ _ _)
  refine LGo.ialdK F ixk_6 vik_6_9 shq_66 dL_law_418 (?_ : LGo _ 419 _ _ _)
  refine LGo.iconst F dL_law_419 k_ic_1 (?_ : LGo _ 420 _ _ _)
  refine LGo.iadd F dL_law_420 (?_ : LGo _ 421 _ _ _)
  refine LGo.iastK F ixk_6 vik_6_9 shq_66 dL_law_421 (?_ : LGo _ 422 _ _ _)
  generalize es2 : setA s1 66 6 ((sA s1 66 6) + 1) = s2
  have h := h s2 es2.symm
  refine LGo.drop F (ls' := [.ref 67, .ref 0, .ref 64, .ref 65, .ref 66, .int v5, .int v6, .int v7, .int v8, .int v9, .int v10, .int v11, .int v12, .int v13, .int v14, .int v15, .int v16, .null]) 17 rfl ?_
  exact h
set_option maxHeartbeats 4000000 in
set_option maxRecDepth 100000 in
theorem sgL_law_422 {X : LX} {L : Nat} {xs : Nat → Int32} {σ : St} {v5 : Int32} {v6 : Int32} {v7 : Int32} {v8 : Int32} {v9 : Int32} {v10 : Int32} {v11 : Int32} {v12 : Int32} {v13 : Int32} {v14 : Int32} {v15 : Int32} {v16 : Int32} (F : LF X L xs) (h : LGo X 905 [.ref 67, .ref 0, .ref 64, .ref 65, .ref 66, .int v5, .int v6, .int v7, .int v8, .int v9, .int v10, .int v11, .null, .null, .null, .null, .null, .null] [] σ) : LGo X 422 [.ref 67, .ref 0, .ref 64, .ref 65, .ref 66, .int v5, .int v6, .int v7, .int v8, .int v9, .int v10, .int v11, .int v12, .int v13, .int v14, .int v15, .int v16, .null] [] σ := by
  refine LGo.goto F 905 dL_law_422 rfl ?_
  refine LGo.drop F (ls' := [.ref 67, .ref 0, .ref 64, .ref 65, .ref 66, .int v5, .int v6, .int v7, .int v8, .int v9, .int v10, .int v11, .null, .int v13, .int v14, .int v15, .int v16, .null]) 12 rfl ?_
  refine LGo.drop F (ls' := [.ref 67, .ref 0, .ref 64, .ref 65, .ref 66, .int v5, .int v6, .int v7, .int v8, .int v9, .int v10, .int v11, .null, .null, .int v14, .int v15, .int v16, .null]) 13 rfl ?_
  refine LGo.drop F (ls' := [.ref 67, .ref 0, .ref 64, .ref 65, .ref 66, .int v5, .int v6, .int v7, .int v8, .int v9, .int v10, .int v11, .null, .null, .null, .int v15, .int v16, .null]) 14 rfl ?_
  refine LGo.drop F (ls' := [.ref 67, .ref 0, .ref 64, .ref 65, .ref 66, .int v5, .int v6, .int v7, .int v8, .int v9, .int v10, .int v11, .null, .null, .null, .null, .int v16, .null]) 15 rfl ?_
  refine LGo.drop F (ls' := [.ref 67, .ref 0, .ref 64, .ref 65, .ref 66, .int v5, .int v6, .int v7, .int v8, .int v9, .int v10, .int v11, .null, .null, .null, .null, .null, .null]) 16 rfl ?_
  exact h
set_option maxHeartbeats 4000000 in
set_option maxRecDepth 100000 in
theorem sgL_law_458 {X : LX} {L : Nat} {xs : Nat → Int32} {σ : St} {v5 : Int32} {v6 : Int32} {v7 : Int32} {v8 : Int32} {v9 : Int32} {v10 : Int32} {w0 : Int32} (F : LF X L xs) (h : LGo X 466 [.ref 67, .ref 0, .ref 64, .ref 65, .ref 66, .int v5, .int v6, .int v7, .int v8, .int v9, .int v10, .int w0, .int (4 * v10), .null, .null, .null, .null, .null] [] σ) : LGo X 458 [.ref 67, .ref 0, .ref 64, .ref 65, .ref 66, .int v5, .int v6, .int v7, .int v8, .int v9, .int v10, .null, .null, .null, .null, .null, .null, .null] [.int w0] σ := by
  refine LGo.istore F dL_law_458 (by decide) rfl rfl (?_ : LGo _ 460 [.ref 67, .ref 0, .ref 64, .ref 65, .ref 66, .int v5, .int v6, .int v7, .int v8, .int v9, .int v10, .int w0, .null, .null, .null, .null, .null, .null] _ _)
  refine LGo.iconst F dL_law_460 k_ic_4 (?_ : LGo _ 461 _ _ _)
  refine LGo.iload F dL_law_461 rfl (?_ : LGo _ 463 _ _ _)
  refine LGo.imul F dL_law_463 (?_ : LGo _ 464 _ _ _)
  refine LGo.istore F dL_law_464 (by decide) rfl rfl (?_ : LGo _ 466 [.ref 67, .ref 0, .ref 64, .ref 65, .ref 66, .int v5, .int v6, .int v7, .int v8, .int v9, .int v10, .int w0, .int (4 * v10), .null, .null, .null, .null, .null] _ _)
  exact h
set_option maxHeartbeats 4000000 in
set_option maxRecDepth 100000 in
theorem sgL_law_466 {X : LX} {L : Nat} {xs : Nat → Int32} {σ : St} {v5 : Int32} {v6 : Int32} {v7 : Int32} {v8 : Int32} {v9 : Int32} {v10 : Int32} {v11 : Int32} {v12 : Int32} (F : LF X L xs) (h : (20 ≤ v12 → LGo X 494 [.ref 67, .ref 0, .ref 64, .ref 65, .ref 66, .int v5, .int v6, .int v7, .int v8, .int v9, .int v10, .int v11, .int v12, .null, .null, .null, .null, .null] [] σ) ∧ (¬ 20 ≤ v12 → (v11 = 0 → LGo X 494 [.ref 67, .ref 0, .ref 64, .ref 65, .ref 66, .int v5, .int v6, .int v7, .int v8, .int v9, .int v10, .int v11, .int v12, .null, .null, .null, .null, .null] [] σ) ∧ (¬ v11 = 0 → vp_in (v12 + 4) 24 ∧ vp_in v12 24 ∧ ∀ s3, s3 = setA σ 64 (ix v12) (sA σ 64 (ix (v12 + 4))) → LGo X 466 [.ref 67, .ref 0, .ref 64, .ref 65, .ref 66, .int v5, .int v6, .int v7, .int v8, .int v9, .int v10, .int v11, .int (v12 + 1), .null, .null, .null, .null, .null] [] s3))) : LGo X 466 [.ref 67, .ref 0, .ref 64, .ref 65, .ref 66, .int v5, .int v6, .int v7, .int v8, .int v9, .int v10, .int v11, .int v12, .null, .null, .null, .null, .null] [] σ := by
  refine LGo.iload F dL_law_466 rfl (?_ : LGo _ 468 _ _ _)
  refine LGo.bipush F dL_law_468 k_bi_20 (?_ : LGo _ 470 _ _ _)
  refine LGo.icmp_ge F 494 dL_law_470 rfl ⟨fun c1 => ?_, fun c1 => (?_ : LGo _ 473 _ _ _)⟩
  · have h := h.1 c1
    exact h
  · have h := h.2 c1
    refine LGo.iload F dL_law_473 rfl (?_ : LGo _ 475 _ _ _)
    refine LGo.if_eq F 494 dL_law_475 rfl ⟨fun c2 => ?_, fun c2 => (?_ : LGo _ 478 _ _ _)⟩
    · have h := h.1 c2
      exact h
    · have h := h.2 c2
      refine LGo.aload_n F 2 dL_law_478 rfl rfl (?_ : LGo _ 479 _ _ _)
      refine LGo.iload F dL_law_479 rfl (?_ : LGo _ 481 _ _ _)
      refine LGo.aload_n F 2 dL_law_481 rfl rfl (?_ : LGo _ 482 _ _ _)
      refine LGo.iload F dL_law_482 rfl (?_ : LGo _ 484 _ _ _)
      refine LGo.iconst F dL_law_484 k_ic_4 (?_ : LGo _ 485 _ _ _)
      refine LGo.iadd F dL_law_485 (?_ : LGo _ 486 _ _ _)
      refine LGo.iald F shq_64 dL_law_486 ⟨h.1, (?_ : LGo _ 487 _ _ _)⟩
      have h := h.2
      refine LGo.iast F shq_64 dL_law_487 ⟨h.1, (?_ : LGo _ 488 _ _ _)⟩
      generalize es3 : setA σ 64 (ix v12) (sA σ 64 (ix (v12 + 4))) = s3
      have h := h.2 s3 es3.symm
      refine LGo.iinc F dL_law_488 rfl (congrArg (fun z => v12 + z) k_ic_1) (by decide) rfl rfl (?_ : LGo _ 491 [.ref 67, .ref 0, .ref 64, .ref 65, .ref 66, .int v5, .int v6, .int v7, .int v8, .int v9, .int v10, .int v11, .int (v12 + 1), .null, .null, .null, .null, .null] _ _)
      refine LGo.goto F 466 dL_law_491 rfl ?_
      exact h
set_option maxHeartbeats 4000000 in
set_option maxRecDepth 100000 in
theorem sgL_law_494 {X : LX} {L : Nat} {xs : Nat → Int32} {σ : St} {v5 : Int32} {v6 : Int32} {v7 : Int32} {v8 : Int32} {v9 : Int32} {v10 : Int32} {v11 : Int32} {v12 : Int32} (F : LF X L xs) (h : (v11 = 0 → LGo X 510 [.ref 67, .ref 0, .ref 64, .ref 65, .ref 66, .int v5, .int v6, .int v7, .int v8, .int v9, .int v10, .int v11, .int v12, .null, .null, .null, .null, .null] [.int 0, .int (sA σ 66 6), .int 6, .ref 66] σ) ∧ (¬ v11 = 0 → LGo X 510 [.ref 67, .ref 0, .ref 64, .ref 65, .ref 66, .int v5, .int v6, .int v7, .int v8, .int v9, .int v10, .int v11, .int v12, .null, .null, .null, .null, .null] [.int 1, .int (sA σ 66 6), .int 6, .ref 66] σ)) : LGo X 494 [.ref 67, .ref 0, .ref 64, .ref 65, .ref 66, .int v5, .int v6, .int v7, .int v8, .int v9, .int v10, .int v11, .int v12, .null, .null, .null, .null, .null] [] σ := by
  refine LGo.aload F dL_law_494 rfl (?_ : LGo _ 496 _ _ _)
  refine LGo.bipush F dL_law_496 k_bi_6 (?_ : LGo _ 498 _ _ _)
  refine LGo.dup2 F dL_law_498 rfl rfl (?_ : LGo _ 499 _ _ _)
  refine LGo.ialdK F ixk_6 vik_6_9 shq_66 dL_law_499 (?_ : LGo _ 500 _ _ _)
  refine LGo.iload F dL_law_500 rfl (?_ : LGo _ 502 _ _ _)
  refine LGo.if_eq F 509 dL_law_502 rfl ⟨fun c1 => ?_, fun c1 => (?_ : LGo _ 505 _ _ _)⟩
  · have h := h.1 c1
    refine LGo.iconst F dL_law_509 k_ic_0 (?_ : LGo _ 510 _ _ _)
    exact h
  · have h := h.2 c1
    refine LGo.iconst F dL_law_505 k_ic_1 (?_ : LGo _ 506 _ _ _)
    refine LGo.goto F 510 dL_law_506 rfl ?_
    exact h
set_option maxHeartbeats 4000000 in
set_option maxRecDepth 100000 in
theorem sgL_law_510 {X : LX} {L : Nat} {xs : Nat → Int32} {σ : St} {v5 : Int32} {v6 : Int32} {v7 : Int32} {v8 : Int32} {v9 : Int32} {v10 : Int32} {v11 : Int32} {v12 : Int32} {w0 : Int32} {w1 : Int32} {w2 : Int32} (F : LF X L xs) (h : vp_in w2 9 ∧ ∀ s1, s1 = setA σ 66 (ix w2) (w1 - w0) → CallI 9 mX5_drop [.ref 0, .int v10] s1 (fun r3 s2 => (v11 = 0 → LGo X 532 [.ref 67, .ref 0, .ref 64, .ref 65, .ref 66, .int v5, .int v6, .int v7, .int v8, .int v9, .int v10, .int v11, .int v12, .null, .null, .null, .null, .null] [.int (-1), .int r3] s2) ∧ (¬ v11 = 0 → LGo X 532 [.ref 67, .ref 0, .ref 64, .ref 65, .ref 66, .int v5, .int v6, .int v7, .int v8, .int v9, .int v10, .int v11, .int v12, .null, .null, .null, .null, .null] [.int (sA s2 66 6), .int r3] s2))) : LGo X 510 [.ref 67, .ref 0, .ref 64, .ref 65, .ref 66, .int v5, .int v6, .int v7, .int v8, .int v9, .int v10, .int v11, .int v12, .null, .null, .null, .null, .null] [.int w0, .int w1, .int w2, .ref 66] σ := by
  refine LGo.isub F dL_law_510 (?_ : LGo _ 511 _ _ _)
  refine LGo.iast F shq_66 dL_law_511 ⟨h.1, (?_ : LGo _ 512 _ _ _)⟩
  generalize es1 : setA σ 66 (ix w2) (w1 - w0) = s1
  have h := h.2 s1 es1.symm
  refine LGo.aload_n F 1 dL_law_512 rfl rfl (?_ : LGo _ 513 _ _ _)
  refine LGo.iload F dL_law_513 rfl (?_ : LGo _ 515 _ _ _)
  refine LGo.callV F (as := [.int v10]) (st := []) mk_X5_drop wl_L_76 shq_0 rfl rfl (Nat.le_of_ble_eq_true rfl) dL_law_515 h ?_
  rintro _ s2 ⟨r3, rfl, h⟩
  show LGo _ 518 _ [.int r3] _
  refine LGo.iload F dL_law_518 rfl (?_ : LGo _ 520 _ _ _)
  refine LGo.if_eq F 531 dL_law_520 rfl ⟨fun c4 => ?_, fun c4 => (?_ : LGo _ 523 _ _ _)⟩
  · have h := h.1 c4
    refine LGo.iconst F dL_law_531 k_ic_m1 (?_ : LGo _ 532 _ _ _)
    exact h
  · have h := h.2 c4
    refine LGo.aload F dL_law_523 rfl (?_ : LGo _ 525 _ _ _)
    refine LGo.bipush F dL_law_525 k_bi_6 (?_ : LGo _ 527 _ _ _)
    refine LGo.ialdK F ixk_6 vik_6_9 shq_66 dL_law_527 (?_ : LGo _ 528 _ _ _)
    refine LGo.goto F 532 dL_law_528 rfl ?_
    exact h
set_option maxHeartbeats 4000000 in
set_option maxRecDepth 100000 in
theorem sgL_law_532 {X : LX} {L : Nat} {xs : Nat → Int32} {σ : St} {v5 : Int32} {v6 : Int32} {v7 : Int32} {v8 : Int32} {v9 : Int32} {v10 : Int32} {v11 : Int32} {v12 : Int32} {w0 : Int32} {w1 : Int32} (F : LF X L xs) (h : (¬ w1 = w0 → LGo X 540 [.ref 67, .ref 0, .ref 64, .ref 65, .ref 66, .int v5, .int v6, .int v7, .int v8, .int v9, .int v10, .int v11, .int v12, .null, .null, .null, .null, .null] [.int 0] σ) ∧ (w1 = w0 → LGo X 540 [.ref 67, .ref 0, .ref 64, .ref 65, .ref 66, .int v5, .int v6, .int v7, .int v8, .int v9, .int v10, .int v11, .int v12, .null, .null, .null, .null, .null] [.int 1] σ)) : LGo X 532 [.ref 67, .ref 0, .ref 64, .ref 65, .ref 66, .int v5, .int v6, .int v7, .int v8, .int v9, .int v10, .int v11, .int v12, .null, .null, .null, .null, .null] [.int w0, .int w1] σ := by
  refine LGo.icmp_ne F 539 dL_law_532 rfl ⟨fun c1 => ?_, fun c1 => (?_ : LGo _ 535 _ _ _)⟩
  · have h := h.1 c1
    refine LGo.iconst F dL_law_539 k_ic_0 (?_ : LGo _ 540 _ _ _)
    exact h
  · have h := h.2 c1
    refine LGo.iconst F dL_law_535 k_ic_1 (?_ : LGo _ 536 _ _ _)
    refine LGo.goto F 540 dL_law_536 rfl ?_
    exact h
set_option maxHeartbeats 4000000 in
set_option maxRecDepth 100000 in
theorem sgL_law_540 {X : LX} {L : Nat} {xs : Nat → Int32} {σ : St} {v5 : Int32} {v6 : Int32} {v7 : Int32} {v8 : Int32} {v9 : Int32} {v10 : Int32} {v11 : Int32} {v12 : Int32} {w0 : Int32} (F : LF X L xs) (h : LGo X 905 [.ref 67, .ref 0, .ref 64, .ref 65, .ref 66, .int v5, .int v6, .int v7, .int v8, .int w0, .int v10, .int v11, .null, .null, .null, .null, .null, .null] [] σ) : LGo X 540 [.ref 67, .ref 0, .ref 64, .ref 65, .ref 66, .int v5, .int v6, .int v7, .int v8, .int v9, .int v10, .int v11, .int v12, .null, .null, .null, .null, .null] [.int w0] σ := by
  refine LGo.istore F dL_law_540 (by decide) rfl rfl (?_ : LGo _ 542 [.ref 67, .ref 0, .ref 64, .ref 65, .ref 66, .int v5, .int v6, .int v7, .int v8, .int w0, .int v10, .int v11, .int v12, .null, .null, .null, .null, .null] _ _)
  refine LGo.goto F 905 dL_law_542 rfl ?_
  refine LGo.drop F (ls' := [.ref 67, .ref 0, .ref 64, .ref 65, .ref 66, .int v5, .int v6, .int v7, .int v8, .int w0, .int v10, .int v11, .null, .null, .null, .null, .null, .null]) 12 rfl ?_
  exact h
set_option maxHeartbeats 4000000 in
set_option maxRecDepth 100000 in
theorem sgL_law_558 {X : LX} {L : Nat} {xs : Nat → Int32} {σ : St} {v5 : Int32} {v6 : Int32} {v7 : Int32} {v8 : Int32} {v9 : Int32} {v10 : Int32} {v11 : Int32} (F : LF X L xs) (h : ((sA σ 66 6) ≤ v11 → ∀ s2, s2 = setA σ 66 6 v10 → CallI 9 mX5_go [.ref 0] s2 (fun r4 s3 => (¬ r4 = v10 → LGo X 702 [.ref 67, .ref 0, .ref 64, .ref 65, .ref 66, .int v5, .int v6, .int v7, .int v8, .int v9, .int v10, .int v11, .null, .null, .null, .null, .null, .null] [.int 0] s3) ∧ (r4 = v10 → LGo X 702 [.ref 67, .ref 0, .ref 64, .ref 65, .ref 66, .int v5, .int v6, .int v7, .int v8, .int v9, .int v10, .int v11, .null, .null, .null, .null, .null, .null] [.int 1] s3))) ∧ (¬ (sA σ 66 6) ≤ v11 → vp_in (4 * v11) 24 ∧ vp_in ((4 * v11) + 2) 24 ∧ vp_in ((4 * v11) + 2) 24 ∧ vp_in ((4 * v11) + 1) 24 ∧ vp_in ((4 * v11) + 3) 24 ∧ (((sA σ 64 (ix (4 * v11))) + ((sA σ 66 7) * (sA σ 64 (ix ((4 * v11) + 2))))) ≤ 0 → LGo X 675 [.ref 67, .ref 0, .ref 64, .ref 65, .ref 66, .int v5, .int v6, .int v7, .int v8, .int v9, .int v10, .int v11, .int ((sA σ 64 (ix (4 * v11))) + ((sA σ 66 7) * (sA σ 64 (ix ((4 * v11) + 2))))), .int (sA σ 64 (ix ((4 * v11) + 2))), .int (sA σ 64 (ix ((4 * v11) + 1))), .int (sA σ 64 (ix ((4 * v11) + 3))), .null, .null] [] σ) ∧ (¬ ((sA σ 64 (ix (4 * v11))) + ((sA σ 66 7) * (sA σ 64 (ix ((4 * v11) + 2))))) ≤ 0 → (301 ≤ ((sA σ 64 (ix (4 * v11))) + ((sA σ 66 7) * (sA σ 64 (ix ((4 * v11) + 2))))) → LGo X 675 [.ref 67, .ref 0, .ref 64, .ref 65, .ref 66, .int v5, .int v6, .int v7, .int v8, .int v9, .int v10, .int v11, .int ((sA σ 64 (ix (4 * v11))) + ((sA σ 66 7) * (sA σ 64 (ix ((4 * v11) + 2))))), .int (sA σ 64 (ix ((4 * v11) + 2))), .int (sA σ 64 (ix ((4 * v11) + 1))), .int (sA σ 64 (ix ((4 * v11) + 3))), .null, .null] [] σ) ∧ (¬ 301 ≤ ((sA σ 64 (ix (4 * v11))) + ((sA σ 66 7) * (sA σ 64 (ix ((4 * v11) + 2))))) → vp_in (4 * v10) 24 ∧ ∀ s8, s8 = setA σ 64 (ix (4 * v10)) ((sA σ 64 (ix (4 * v11))) + ((sA σ 66 7) * (sA σ 64 (ix ((4 * v11) + 2))))) → vp_in ((4 * v10) + 1) 24 ∧ ∀ s9, s9 = setA s8 64 (ix ((4 * v10) + 1)) (sA σ 64 (ix ((4 * v11) + 1))) → vp_in ((4 * v10) + 2) 24 ∧ ∀ s10, s10 = setA s9 64 (ix ((4 * v10) + 2)) (sA σ 64 (ix ((4 * v11) + 2))) → vp_in ((4 * v10) + 3) 24 ∧ ∀ s11, s11 = setA s10 64 (ix ((4 * v10) + 3)) (sA σ 64 (ix ((4 * v11) + 3))) → LGo X 675 [.ref 67, .ref 0, .ref 64, .ref 65, .ref 66, .int v5, .int v6, .int v7, .int v8, .int v9, .int (v10 + 1), .int v11, .int ((sA σ 64 (ix (4 * v11))) + ((sA σ 66 7) * (sA σ 64 (ix ((4 * v11) + 2))))), .int (sA σ 64 (ix ((4 * v11) + 2))), .int (sA σ 64 (ix ((4 * v11) + 1))), .int (sA σ 64 (ix ((4 * v11) + 3))), .null, .null] [] s11)))) : LGo X 558 [.ref 67, .ref 0, .ref 64, .ref 65, .ref 66, .int v5, .int v6, .int v7, .int v8, .int v9, .int v10, .int v11, .null, .null, .null, .null, .null, .null] [] σ := by
  refine LGo.iload F dL_law_558 rfl (?_ : LGo _ 560 _ _ _)
  refine LGo.aload F dL_law_560 rfl (?_ : LGo _ 562 _ _ _)
  refine LGo.bipush F dL_law_562 k_bi_6 (?_ : LGo _ 564 _ _ _)
  refine LGo.ialdK F ixk_6 vik_6_9 shq_66 dL_law_564 (?_ : LGo _ 565 _ _ _)
  refine LGo.icmp_ge F 681 dL_law_565 rfl ⟨fun c1 => ?_, fun c1 => (?_ : LGo _ 568 _ _ _)⟩
  · have h := h.1 c1
    refine LGo.aload F dL_law_681 rfl (?_ : LGo _ 683 _ _ _)
    refine LGo.bipush F dL_law_683 k_bi_6 (?_ : LGo _ 685 _ _ _)
    refine LGo.iload F dL_law_685 rfl (?_ : LGo _ 687 _ _ _)
    refine LGo.iastK F ixk_6 vik_6_9 shq_66 dL_law_687 (?_ : LGo _ 688 _ _ _)
    generalize es2 : setA σ 66 6 v10 = s2
    have h := h s2 es2.symm
    refine LGo.aload_n F 1 dL_law_688 rfl rfl (?_ : LGo _ 689 _ _ _)
    refine LGo.callV F (as := []) (st := []) mk_X5_go wl_L_79 shq_0 rfl rfl (Nat.le_of_ble_eq_true rfl) dL_law_689 h ?_
    rintro _ s3 ⟨r4, rfl, h⟩
    show LGo _ 692 _ [.int r4] _
    refine LGo.iload F dL_law_692 rfl (?_ : LGo _ 694 _ _ _)
    refine LGo.icmp_ne F 701 dL_law_694 rfl ⟨fun c5 => ?_, fun c5 => (?_ : LGo _ 697 _ _ _)⟩
    · have h := h.1 c5
      refine LGo.iconst F dL_law_701 k_ic_0 (?_ : LGo _ 702 _ _ _)
      exact h
    · have h := h.2 c5
      refine LGo.iconst F dL_law_697 k_ic_1 (?_ : LGo _ 698 _ _ _)
      refine LGo.goto F 702 dL_law_698 rfl ?_
      exact h
  · have h := h.2 c1
    refine LGo.aload_n F 2 dL_law_568 rfl rfl (?_ : LGo _ 569 _ _ _)
    refine LGo.iconst F dL_law_569 k_ic_4 (?_ : LGo _ 570 _ _ _)
    refine LGo.iload F dL_law_570 rfl (?_ : LGo _ 572 _ _ _)
    refine LGo.imul F dL_law_572 (?_ : LGo _ 573 _ _ _)
    refine LGo.iald F shq_64 dL_law_573 ⟨h.1, (?_ : LGo _ 574 _ _ _)⟩
    have h := h.2
    refine LGo.aload F dL_law_574 rfl (?_ : LGo _ 576 _ _ _)
    refine LGo.bipush F dL_law_576 k_bi_7 (?_ : LGo _ 578 _ _ _)
    refine LGo.ialdK F ixk_7 vik_7_9 shq_66 dL_law_578 (?_ : LGo _ 579 _ _ _)
    refine LGo.aload_n F 2 dL_law_579 rfl rfl (?_ : LGo _ 580 _ _ _)
    refine LGo.iconst F dL_law_580 k_ic_4 (?_ : LGo _ 581 _ _ _)
    refine LGo.iload F dL_law_581 rfl (?_ : LGo _ 583 _ _ _)
    refine LGo.imul F dL_law_583 (?_ : LGo _ 584 _ _ _)
    refine LGo.iconst F dL_law_584 k_ic_2 (?_ : LGo _ 585 _ _ _)
    refine LGo.iadd F dL_law_585 (?_ : LGo _ 586 _ _ _)
    refine LGo.iald F shq_64 dL_law_586 ⟨h.1, (?_ : LGo _ 587 _ _ _)⟩
    have h := h.2
    refine LGo.imul F dL_law_587 (?_ : LGo _ 588 _ _ _)
    refine LGo.iadd F dL_law_588 (?_ : LGo _ 589 _ _ _)
    refine LGo.istore F dL_law_589 (by decide) rfl rfl (?_ : LGo _ 591 [.ref 67, .ref 0, .ref 64, .ref 65, .ref 66, .int v5, .int v6, .int v7, .int v8, .int v9, .int v10, .int v11, .int ((sA σ 64 (ix (4 * v11))) + ((sA σ 66 7) * (sA σ 64 (ix ((4 * v11) + 2))))), .null, .null, .null, .null, .null] _ _)
    refine LGo.aload_n F 2 dL_law_591 rfl rfl (?_ : LGo _ 592 _ _ _)
    refine LGo.iconst F dL_law_592 k_ic_4 (?_ : LGo _ 593 _ _ _)
    refine LGo.iload F dL_law_593 rfl (?_ : LGo _ 595 _ _ _)
    refine LGo.imul F dL_law_595 (?_ : LGo _ 596 _ _ _)
    refine LGo.iconst F dL_law_596 k_ic_2 (?_ : LGo _ 597 _ _ _)
    refine LGo.iadd F dL_law_597 (?_ : LGo _ 598 _ _ _)
    refine LGo.iald F shq_64 dL_law_598 ⟨h.1, (?_ : LGo _ 599 _ _ _)⟩
    have h := h.2
    refine LGo.istore F dL_law_599 (by decide) rfl rfl (?_ : LGo _ 601 [.ref 67, .ref 0, .ref 64, .ref 65, .ref 66, .int v5, .int v6, .int v7, .int v8, .int v9, .int v10, .int v11, .int ((sA σ 64 (ix (4 * v11))) + ((sA σ 66 7) * (sA σ 64 (ix ((4 * v11) + 2))))), .int (sA σ 64 (ix ((4 * v11) + 2))), .null, .null, .null, .null] _ _)
    refine LGo.aload_n F 2 dL_law_601 rfl rfl (?_ : LGo _ 602 _ _ _)
    refine LGo.iconst F dL_law_602 k_ic_4 (?_ : LGo _ 603 _ _ _)
    refine LGo.iload F dL_law_603 rfl (?_ : LGo _ 605 _ _ _)
    refine LGo.imul F dL_law_605 (?_ : LGo _ 606 _ _ _)
    refine LGo.iconst F dL_law_606 k_ic_1 (?_ : LGo _ 607 _ _ _)
    refine LGo.iadd F dL_law_607 (?_ : LGo _ 608 _ _ _)
    refine LGo.iald F shq_64 dL_law_608 ⟨h.1, (?_ : LGo _ 609 _ _ _)⟩
    have h := h.2
    refine LGo.istore F dL_law_609 (by decide) rfl rfl (?_ : LGo _ 611 [.ref 67, .ref 0, .ref 64, .ref 65, .ref 66, .int v5, .int v6, .int v7, .int v8, .int v9, .int v10, .int v11, .int ((sA σ 64 (ix (4 * v11))) + ((sA σ 66 7) * (sA σ 64 (ix ((4 * v11) + 2))))), .int (sA σ 64 (ix ((4 * v11) + 2))), .int (sA σ 64 (ix ((4 * v11) + 1))), .null, .null, .null] _ _)
    refine LGo.aload_n F 2 dL_law_611 rfl rfl (?_ : LGo _ 612 _ _ _)
    refine LGo.iconst F dL_law_612 k_ic_4 (?_ : LGo _ 613 _ _ _)
    refine LGo.iload F dL_law_613 rfl (?_ : LGo _ 615 _ _ _)
    refine LGo.imul F dL_law_615 (?_ : LGo _ 616 _ _ _)
    refine LGo.iconst F dL_law_616 k_ic_3 (?_ : LGo _ 617 _ _ _)
    refine LGo.iadd F dL_law_617 (?_ : LGo _ 618 _ _ _)
    refine LGo.iald F shq_64 dL_law_618 ⟨h.1, (?_ : LGo _ 619 _ _ _)⟩
    have h := h.2
    refine LGo.istore F dL_law_619 (by decide) rfl rfl (?_ : LGo _ 621 [.ref 67, .ref 0, .ref 64, .ref 65, .ref 66, .int v5, .int v6, .int v7, .int v8, .int v9, .int v10, .int v11, .int ((sA σ 64 (ix (4 * v11))) + ((sA σ 66 7) * (sA σ 64 (ix ((4 * v11) + 2))))), .int (sA σ 64 (ix ((4 * v11) + 2))), .int (sA σ 64 (ix ((4 * v11) + 1))), .int (sA σ 64 (ix ((4 * v11) + 3))), .null, .null] _ _)
    refine LGo.iload F dL_law_621 rfl (?_ : LGo _ 623 _ _ _)
    refine LGo.if_le F 675 dL_law_623 rfl ⟨fun c6 => ?_, fun c6 => (?_ : LGo _ 626 _ _ _)⟩
    · have h := h.1 c6
      exact h
    · have h := h.2 c6
      refine LGo.iload F dL_law_626 rfl (?_ : LGo _ 628 _ _ _)
      refine LGo.sipush F dL_law_628 k_si_301 (?_ : LGo _ 631 _ _ _)
      refine LGo.icmp_ge F 675 dL_law_631 rfl ⟨fun c7 => ?_, fun c7 => (?_ : LGo _ 634 _ _ _)⟩
      · have h := h.1 c7
        exact h
      · have h := h.2 c7
        refine LGo.aload_n F 2 dL_law_634 rfl rfl (?_ : LGo _ 635 _ _ _)
        refine LGo.iconst F dL_law_635 k_ic_4 (?_ : LGo _ 636 _ _ _)
        refine LGo.iload F dL_law_636 rfl (?_ : LGo _ 638 _ _ _)
        refine LGo.imul F dL_law_638 (?_ : LGo _ 639 _ _ _)
        refine LGo.iload F dL_law_639 rfl (?_ : LGo _ 641 _ _ _)
        refine LGo.iast F shq_64 dL_law_641 ⟨h.1, (?_ : LGo _ 642 _ _ _)⟩
        generalize es8 : setA σ 64 (ix (4 * v10)) ((sA σ 64 (ix (4 * v11))) + ((sA σ 66 7) * (sA σ 64 (ix ((4 * v11) + 2))))) = s8
        have h := h.2 s8 es8.symm
        refine LGo.aload_n F 2 dL_law_642 rfl rfl (?_ : LGo _ 643 _ _ _)
        refine LGo.iconst F dL_law_643 k_ic_4 (?_ : LGo _ 644 _ _ _)
        refine LGo.iload F dL_law_644 rfl (?_ : LGo _ 646 _ _ _)
        refine LGo.imul F dL_law_646 (?_ : LGo _ 647 _ _ _)
        refine LGo.iconst F dL_law_647 k_ic_1 (?_ : LGo _ 648 _ _ _)
        refine LGo.iadd F dL_law_648 (?_ : LGo _ 649 _ _ _)
        refine LGo.iload F dL_law_649 rfl (?_ : LGo _ 651 _ _ _)
        refine LGo.iast F shq_64 dL_law_651 ⟨h.1, (?_ : LGo _ 652 _ _ _)⟩
        generalize es9 : setA s8 64 (ix ((4 * v10) + 1)) (sA σ 64 (ix ((4 * v11) + 1))) = s9
        have h := h.2 s9 es9.symm
        refine LGo.aload_n F 2 dL_law_652 rfl rfl (?_ : LGo _ 653 _ _ _)
        refine LGo.iconst F dL_law_653 k_ic_4 (?_ : LGo _ 654 _ _ _)
        refine LGo.iload F dL_law_654 rfl (?_ : LGo _ 656 _ _ _)
        refine LGo.imul F dL_law_656 (?_ : LGo _ 657 _ _ _)
        refine LGo.iconst F dL_law_657 k_ic_2 (?_ : LGo _ 658 _ _ _)
        refine LGo.iadd F dL_law_658 (?_ : LGo _ 659 _ _ _)
        refine LGo.iload F dL_law_659 rfl (?_ : LGo _ 661 _ _ _)
        refine LGo.iast F shq_64 dL_law_661 ⟨h.1, (?_ : LGo _ 662 _ _ _)⟩
        generalize es10 : setA s9 64 (ix ((4 * v10) + 2)) (sA σ 64 (ix ((4 * v11) + 2))) = s10
        have h := h.2 s10 es10.symm
        refine LGo.aload_n F 2 dL_law_662 rfl rfl (?_ : LGo _ 663 _ _ _)
        refine LGo.iconst F dL_law_663 k_ic_4 (?_ : LGo _ 664 _ _ _)
        refine LGo.iload F dL_law_664 rfl (?_ : LGo _ 666 _ _ _)
        refine LGo.imul F dL_law_666 (?_ : LGo _ 667 _ _ _)
        refine LGo.iconst F dL_law_667 k_ic_3 (?_ : LGo _ 668 _ _ _)
        refine LGo.iadd F dL_law_668 (?_ : LGo _ 669 _ _ _)
        refine LGo.iload F dL_law_669 rfl (?_ : LGo _ 671 _ _ _)
        refine LGo.iast F shq_64 dL_law_671 ⟨h.1, (?_ : LGo _ 672 _ _ _)⟩
        generalize es11 : setA s10 64 (ix ((4 * v10) + 3)) (sA σ 64 (ix ((4 * v11) + 3))) = s11
        have h := h.2 s11 es11.symm
        refine LGo.iinc F dL_law_672 rfl (congrArg (fun z => v10 + z) k_ic_1) (by decide) rfl rfl (?_ : LGo _ 675 [.ref 67, .ref 0, .ref 64, .ref 65, .ref 66, .int v5, .int v6, .int v7, .int v8, .int v9, .int (v10 + 1), .int v11, .int ((sA σ 64 (ix (4 * v11))) + ((sA σ 66 7) * (sA σ 64 (ix ((4 * v11) + 2))))), .int (sA σ 64 (ix ((4 * v11) + 2))), .int (sA σ 64 (ix ((4 * v11) + 1))), .int (sA σ 64 (ix ((4 * v11) + 3))), .null, .null] _ _)
        exact h
set_option maxHeartbeats 4000000 in
set_option maxRecDepth 100000 in
theorem sgL_law_675 {X : LX} {L : Nat} {xs : Nat → Int32} {σ : St} {v5 : Int32} {v6 : Int32} {v7 : Int32} {v8 : Int32} {v9 : Int32} {v10 : Int32} {v11 : Int32} {v12 : Int32} {v13 : Int32} {v14 : Int32} {v15 : Int32} (F : LF X L xs) (h : LGo X 558 [.ref 67, .ref 0, .ref 64, .ref 65, .ref 66, .int v5, .int v6, .int v7, .int v8, .int v9, .int v10, .int (v11 + 1), .null, .null, .null, .null, .null, .null] [] σ) : LGo X 675 [.ref 67, .ref 0, .ref 64, .ref 65, .ref 66, .int v5, .int v6, .int v7, .int v8, .int v9, .int v10, .int v11, .int v12, .int v13, .int v14, .int v15, .null, .null] [] σ := by
  refine LGo.iinc F dL_law_675 rfl (congrArg (fun z => v11 + z) k_ic_1) (by decide) rfl rfl (?_ : LGo _ 678 [.ref 67, .ref 0, .ref 64, .ref 65, .ref 66, .int v5, .int v6, .int v7, .int v8, .int v9, .int v10, .int (v11 + 1), .int v12, .int v13, .int v14, .int v15, .null, .null] _ _)
  refine LGo.goto F 558 dL_law_678 rfl ?_
  refine LGo.drop F (ls' := [.ref 67, .ref 0, .ref 64, .ref 65, .ref 66, .int v5, .int v6, .int v7, .int v8, .int v9, .int v10, .int (v11 + 1), .null, .int v13, .int v14, .int v15, .null, .null]) 12 rfl ?_
  refine LGo.drop F (ls' := [.ref 67, .ref 0, .ref 64, .ref 65, .ref 66, .int v5, .int v6, .int v7, .int v8, .int v9, .int v10, .int (v11 + 1), .null, .null, .int v14, .int v15, .null, .null]) 13 rfl ?_
  refine LGo.drop F (ls' := [.ref 67, .ref 0, .ref 64, .ref 65, .ref 66, .int v5, .int v6, .int v7, .int v8, .int v9, .int v10, .int (v11 + 1), .null, .null, .null, .int v15, .null, .null]) 14 rfl ?_
  refine LGo.drop F (ls' := [.ref 67, .ref 0, .ref 64, .ref 65, .ref 66, .int v5, .int v6, .int v7, .int v8, .int v9, .int v10, .int (v11 + 1), .null, .null, .null, .null, .null, .null]) 15 rfl ?_
  exact h
set_option maxHeartbeats 4000000 in
set_option maxRecDepth 100000 in
theorem sgL_law_702 {X : LX} {L : Nat} {xs : Nat → Int32} {σ : St} {v5 : Int32} {v6 : Int32} {v7 : Int32} {v8 : Int32} {v9 : Int32} {v10 : Int32} {v11 : Int32} {w0 : Int32} (F : LF X L xs) (h : LGo X 905 [.ref 67, .ref 0, .ref 64, .ref 65, .ref 66, .int v5, .int v6, .int v7, .int v8, .int w0, .int v10, .int v11, .null, .null, .null, .null, .null, .null] [] σ) : LGo X 702 [.ref 67, .ref 0, .ref 64, .ref 65, .ref 66, .int v5, .int v6, .int v7, .int v8, .int v9, .int v10, .int v11, .null, .null, .null, .null, .null, .null] [.int w0] σ := by
  refine LGo.istore F dL_law_702 (by decide) rfl rfl (?_ : LGo _ 704 [.ref 67, .ref 0, .ref 64, .ref 65, .ref 66, .int v5, .int v6, .int v7, .int v8, .int w0, .int v10, .int v11, .null, .null, .null, .null, .null, .null] _ _)
  refine LGo.goto F 905 dL_law_704 rfl ?_
  exact h
set_option maxHeartbeats 4000000 in
set_option maxRecDepth 100000 in
theorem sgL_law_729 {X : LX} {L : Nat} {xs : Nat → Int32} {σ : St} {v5 : Int32} {v6 : Int32} {v7 : Int32} {v8 : Int32} {v9 : Int32} {v10 : Int32} {v11 : Int32} (F : LF X L xs) (h : (4 ≤ v11 → ∀ s2, s2 = setA σ 66 7 v10 → CallI 9 mX5_spacings [.ref 0, .int (sA s2 66 0), .int (sA s2 66 1), .int (sA s2 66 2), .int (sA s2 66 3)] s2 (fun r4 s3 => (¬ r4 = v10 → LGo X 812 [.ref 67, .ref 0, .ref 64, .ref 65, .ref 66, .int v5, .int v6, .int v7, .int v8, .int v9, .int v10, .int v11, .null, .null, .null, .null, .null, .null] [.int 0] s3) ∧ (r4 = v10 → LGo X 812 [.ref 67, .ref 0, .ref 64, .ref 65, .ref 66, .int v5, .int v6, .int v7, .int v8, .int v9, .int v10, .int v11, .null, .null, .null, .null, .null, .null] [.int 1] s3))) ∧ (¬ 4 ≤ v11 → (v10 ≤ v11 → LGo X 768 [.ref 67, .ref 0, .ref 64, .ref 65, .ref 66, .int v5, .int v6, .int v7, .int v8, .int v9, .int v10, .int v11, .null, .null, .null, .null, .null, .null] [.int 0, .int v11, .ref 66] σ) ∧ (¬ v10 ≤ v11 → CallI 10 mL_low [.int (v6 >>> ((6 + (4 * v11)) &&& 31)), .int 41] σ (fun r8 s7 => LGo X 768 [.ref 67, .ref 0, .ref 64, .ref 65, .ref 66, .int v5, .int v6, .int v7, .int v8, .int v9, .int v10, .int v11, .null, .null, .null, .null, .null, .null] [.int (10 + r8), .int v11, .ref 66] s7)))) : LGo X 729 [.ref 67, .ref 0, .ref 64, .ref 65, .ref 66, .int v5, .int v6, .int v7, .int v8, .int v9, .int v10, .int v11, .null, .null, .null, .null, .null, .null] [] σ := by
  refine LGo.iload F dL_law_729 rfl (?_ : LGo _ 731 _ _ _)
  refine LGo.iconst F dL_law_731 k_ic_4 (?_ : LGo _ 732 _ _ _)
  refine LGo.icmp_ge F 775 dL_law_732 rfl ⟨fun c1 => ?_, fun c1 => (?_ : LGo _ 735 _ _ _)⟩
  · have h := h.1 c1
    refine LGo.aload F dL_law_775 rfl (?_ : LGo _ 777 _ _ _)
    refine LGo.bipush F dL_law_777 k_bi_7 (?_ : LGo _ 779 _ _ _)
    refine LGo.iload F dL_law_779 rfl (?_ : LGo _ 781 _ _ _)
    refine LGo.iastK F ixk_7 vik_7_9 shq_66 dL_law_781 (?_ : LGo _ 782 _ _ _)
    generalize es2 : setA σ 66 7 v10 = s2
    have h := h s2 es2.symm
    refine LGo.aload_n F 1 dL_law_782 rfl rfl (?_ : LGo _ 783 _ _ _)
    refine LGo.aload F dL_law_783 rfl (?_ : LGo _ 785 _ _ _)
    refine LGo.iconst F dL_law_785 k_ic_0 (?_ : LGo _ 786 _ _ _)
    refine LGo.ialdK F ixk_0 vik_0_9 shq_66 dL_law_786 (?_ : LGo _ 787 _ _ _)
    refine LGo.aload F dL_law_787 rfl (?_ : LGo _ 789 _ _ _)
    refine LGo.iconst F dL_law_789 k_ic_1 (?_ : LGo _ 790 _ _ _)
    refine LGo.ialdK F ixk_1 vik_1_9 shq_66 dL_law_790 (?_ : LGo _ 791 _ _ _)
    refine LGo.aload F dL_law_791 rfl (?_ : LGo _ 793 _ _ _)
    refine LGo.iconst F dL_law_793 k_ic_2 (?_ : LGo _ 794 _ _ _)
    refine LGo.ialdK F ixk_2 vik_2_9 shq_66 dL_law_794 (?_ : LGo _ 795 _ _ _)
    refine LGo.aload F dL_law_795 rfl (?_ : LGo _ 797 _ _ _)
    refine LGo.iconst F dL_law_797 k_ic_3 (?_ : LGo _ 798 _ _ _)
    refine LGo.ialdK F ixk_3 vik_3_9 shq_66 dL_law_798 (?_ : LGo _ 799 _ _ _)
    refine LGo.callV F (as := [.int (sA s2 66 0), .int (sA s2 66 1), .int (sA s2 66 2), .int (sA s2 66 3)]) (st := []) mk_X5_spacings wl_L_83 shq_0 rfl rfl (Nat.le_of_ble_eq_true rfl) dL_law_799 h ?_
    rintro _ s3 ⟨r4, rfl, h⟩
    show LGo _ 802 _ [.int r4] _
    refine LGo.iload F dL_law_802 rfl (?_ : LGo _ 804 _ _ _)
    refine LGo.icmp_ne F 811 dL_law_804 rfl ⟨fun c5 => ?_, fun c5 => (?_ : LGo _ 807 _ _ _)⟩
    · have h := h.1 c5
      refine LGo.iconst F dL_law_811 k_ic_0 (?_ : LGo _ 812 _ _ _)
      exact h
    · have h := h.2 c5
      refine LGo.iconst F dL_law_807 k_ic_1 (?_ : LGo _ 808 _ _ _)
      refine LGo.goto F 812 dL_law_808 rfl ?_
      exact h
  · have h := h.2 c1
    refine LGo.aload F dL_law_735 rfl (?_ : LGo _ 737 _ _ _)
    refine LGo.iload F dL_law_737 rfl (?_ : LGo _ 739 _ _ _)
    refine LGo.iload F dL_law_739 rfl (?_ : LGo _ 741 _ _ _)
    refine LGo.iload F dL_law_741 rfl (?_ : LGo _ 743 _ _ _)
    refine LGo.icmp_ge F 767 dL_law_743 rfl ⟨fun c6 => ?_, fun c6 => (?_ : LGo _ 746 _ _ _)⟩
    · have h := h.1 c6
      refine LGo.iconst F dL_law_767 k_ic_0 (?_ : LGo _ 768 _ _ _)
      exact h
    · have h := h.2 c6
      refine LGo.bipush F dL_law_746 k_bi_10 (?_ : LGo _ 748 _ _ _)
      refine LGo.iload F dL_law_748 rfl (?_ : LGo _ 750 _ _ _)
      refine LGo.bipush F dL_law_750 k_bi_6 (?_ : LGo _ 752 _ _ _)
      refine LGo.iconst F dL_law_752 k_ic_4 (?_ : LGo _ 753 _ _ _)
      refine LGo.iload F dL_law_753 rfl (?_ : LGo _ 755 _ _ _)
      refine LGo.imul F dL_law_755 (?_ : LGo _ 756 _ _ _)
      refine LGo.iadd F dL_law_756 (?_ : LGo _ 757 _ _ _)
      refine LGo.ishr F dL_law_757 (?_ : LGo _ 758 _ _ _)
      refine LGo.bipush F dL_law_758 k_bi_41 (?_ : LGo _ 760 _ _ _)
      refine LGo.callS F (as := [.int (v6 >>> ((6 + (4 * v11)) &&& 31)), .int 41]) (st := [.int 10, .int v11, .ref 66]) mk_L_low wl_L_55 rfl rfl (Nat.le_of_ble_eq_true rfl) dL_law_760 h ?_
      rintro _ s7 ⟨r8, rfl, h⟩
      show LGo _ 763 _ [.int r8, .int 10, .int v11, .ref 66] _
      refine LGo.iadd F dL_law_763 (?_ : LGo _ 764 _ _ _)
      refine LGo.goto F 768 dL_law_764 rfl ?_
      exact h
set_option maxHeartbeats 4000000 in
set_option maxRecDepth 100000 in
theorem sgL_law_768 {X : LX} {L : Nat} {xs : Nat → Int32} {σ : St} {v5 : Int32} {v6 : Int32} {v7 : Int32} {v8 : Int32} {v9 : Int32} {v10 : Int32} {v11 : Int32} {w0 : Int32} {w1 : Int32} (F : LF X L xs) (h : vp_in w1 9 ∧ ∀ s1, s1 = setA σ 66 (ix w1) w0 → LGo X 729 [.ref 67, .ref 0, .ref 64, .ref 65, .ref 66, .int v5, .int v6, .int v7, .int v8, .int v9, .int v10, .int (v11 + 1), .null, .null, .null, .null, .null, .null] [] s1) : LGo X 768 [.ref 67, .ref 0, .ref 64, .ref 65, .ref 66, .int v5, .int v6, .int v7, .int v8, .int v9, .int v10, .int v11, .null, .null, .null, .null, .null, .null] [.int w0, .int w1, .ref 66] σ := by
  refine LGo.iast F shq_66 dL_law_768 ⟨h.1, (?_ : LGo _ 769 _ _ _)⟩
  generalize es1 : setA σ 66 (ix w1) w0 = s1
  have h := h.2 s1 es1.symm
  refine LGo.iinc F dL_law_769 rfl (congrArg (fun z => v11 + z) k_ic_1) (by decide) rfl rfl (?_ : LGo _ 772 [.ref 67, .ref 0, .ref 64, .ref 65, .ref 66, .int v5, .int v6, .int v7, .int v8, .int v9, .int v10, .int (v11 + 1), .null, .null, .null, .null, .null, .null] _ _)
  refine LGo.goto F 729 dL_law_772 rfl ?_
  exact h
set_option maxHeartbeats 4000000 in
set_option maxRecDepth 100000 in
theorem sgL_law_812 {X : LX} {L : Nat} {xs : Nat → Int32} {σ : St} {v5 : Int32} {v6 : Int32} {v7 : Int32} {v8 : Int32} {v9 : Int32} {v10 : Int32} {v11 : Int32} {w0 : Int32} (F : LF X L xs) (h : LGo X 905 [.ref 67, .ref 0, .ref 64, .ref 65, .ref 66, .int v5, .int v6, .int v7, .int v8, .int w0, .int v10, .int v11, .null, .null, .null, .null, .null, .null] [] σ) : LGo X 812 [.ref 67, .ref 0, .ref 64, .ref 65, .ref 66, .int v5, .int v6, .int v7, .int v8, .int v9, .int v10, .int v11, .null, .null, .null, .null, .null, .null] [.int w0] σ := by
  refine LGo.istore F dL_law_812 (by decide) rfl rfl (?_ : LGo _ 814 [.ref 67, .ref 0, .ref 64, .ref 65, .ref 66, .int v5, .int v6, .int v7, .int v8, .int w0, .int v10, .int v11, .null, .null, .null, .null, .null, .null] _ _)
  refine LGo.goto F 905 dL_law_814 rfl ?_
  exact h
set_option maxHeartbeats 4000000 in
set_option maxRecDepth 100000 in
theorem sgL_law_865 {X : LX} {L : Nat} {xs : Nat → Int32} {σ : St} {v5 : Int32} {v6 : Int32} {v7 : Int32} {v8 : Int32} {v9 : Int32} {v10 : Int32} {w0 : Int32} {w1 : Int32} {w2 : Int32} (F : LF X L xs) (h : CallI 10 mL_low [.int w1, .int w0] σ (fun r2 s1 => LGo X 869 [.ref 67, .ref 0, .ref 64, .ref 65, .ref 66, .int v5, .int v6, .int v7, .int v8, .int v9, .int v10, .null, .null, .null, .null, .null, .null, .null] [.int (w2 + r2)] s1)) : LGo X 865 [.ref 67, .ref 0, .ref 64, .ref 65, .ref 66, .int v5, .int v6, .int v7, .int v8, .int v9, .int v10, .null, .null, .null, .null, .null, .null, .null] [.int w0, .int w1, .int w2] σ := by
  refine LGo.callS F (as := [.int w1, .int w0]) (st := [.int w2]) mk_L_low wl_L_55 rfl rfl (Nat.le_of_ble_eq_true rfl) dL_law_865 h ?_
  rintro _ s1 ⟨r2, rfl, h⟩
  show LGo _ 868 _ [.int r2, .int w2] _
  refine LGo.iadd F dL_law_868 (?_ : LGo _ 869 _ _ _)
  exact h
set_option maxHeartbeats 4000000 in
set_option maxRecDepth 100000 in
theorem sgL_law_869 {X : LX} {L : Nat} {xs : Nat → Int32} {σ : St} {v5 : Int32} {v6 : Int32} {v7 : Int32} {v8 : Int32} {v9 : Int32} {v10 : Int32} {w0 : Int32} (F : LF X L xs) (h : CallI 9 mX5_set [.ref 0, .int v10, .int w0] σ (fun r2 s1 => vp_in (4 + v10) 9 ∧ (¬ r2 = (sA s1 66 (ix (4 + v10))) → LGo X 894 [.ref 67, .ref 0, .ref 64, .ref 65, .ref 66, .int v5, .int v6, .int v7, .int v8, .int v9, .int v10, .int w0, .null, .null, .null, .null, .null, .null] [.int 0] s1) ∧ (r2 = (sA s1 66 (ix (4 + v10))) → LGo X 894 [.ref 67, .ref 0, .ref 64, .ref 65, .ref 66, .int v5, .int v6, .int v7, .int v8, .int v9, .int v10, .int w0, .null, .null, .null, .null, .null, .null] [.int 1] s1))) : LGo X 869 [.ref 67, .ref 0, .ref 64, .ref 65, .ref 66, .int v5, .int v6, .int v7, .int v8, .int v9, .int v10, .null, .null, .null, .null, .null, .null, .null] [.int w0] σ := by
  refine LGo.istore F dL_law_869 (by decide) rfl rfl (?_ : LGo _ 871 [.ref 67, .ref 0, .ref 64, .ref 65, .ref 66, .int v5, .int v6, .int v7, .int v8, .int v9, .int v10, .int w0, .null, .null, .null, .null, .null, .null] _ _)
  refine LGo.aload_n F 1 dL_law_871 rfl rfl (?_ : LGo _ 872 _ _ _)
  refine LGo.iload F dL_law_872 rfl (?_ : LGo _ 874 _ _ _)
  refine LGo.iload F dL_law_874 rfl (?_ : LGo _ 876 _ _ _)
  refine LGo.callV F (as := [.int v10, .int w0]) (st := []) mk_X5_set wl_L_87 shq_0 rfl rfl (Nat.le_of_ble_eq_true rfl) dL_law_876 h ?_
  rintro _ s1 ⟨r2, rfl, h⟩
  show LGo _ 879 _ [.int r2] _
  refine LGo.aload F dL_law_879 rfl (?_ : LGo _ 881 _ _ _)
  refine LGo.iconst F dL_law_881 k_ic_4 (?_ : LGo _ 882 _ _ _)
  refine LGo.iload F dL_law_882 rfl (?_ : LGo _ 884 _ _ _)
  refine LGo.iadd F dL_law_884 (?_ : LGo _ 885 _ _ _)
  refine LGo.iald F shq_66 dL_law_885 ⟨h.1, (?_ : LGo _ 886 _ _ _)⟩
  have h := h.2
  refine LGo.icmp_ne F 893 dL_law_886 rfl ⟨fun c3 => ?_, fun c3 => (?_ : LGo _ 889 _ _ _)⟩
  · have h := h.1 c3
    refine LGo.iconst F dL_law_893 k_ic_0 (?_ : LGo _ 894 _ _ _)
    exact h
  · have h := h.2 c3
    refine LGo.iconst F dL_law_889 k_ic_1 (?_ : LGo _ 890 _ _ _)
    refine LGo.goto F 894 dL_law_890 rfl ?_
    exact h
set_option maxHeartbeats 4000000 in
set_option maxRecDepth 100000 in
theorem sgL_law_894 {X : LX} {L : Nat} {xs : Nat → Int32} {σ : St} {v5 : Int32} {v6 : Int32} {v7 : Int32} {v8 : Int32} {v9 : Int32} {v10 : Int32} {v11 : Int32} {w0 : Int32} (F : LF X L xs) (h : vp_in (4 + v10) 9 ∧ ∀ s1, s1 = setA σ 66 (ix (4 + v10)) v11 → LGo X 905 [.ref 67, .ref 0, .ref 64, .ref 65, .ref 66, .int v5, .int v6, .int v7, .int v8, .int w0, .int v10, .int v11, .null, .null, .null, .null, .null, .null] [] s1) : LGo X 894 [.ref 67, .ref 0, .ref 64, .ref 65, .ref 66, .int v5, .int v6, .int v7, .int v8, .int v9, .int v10, .int v11, .null, .null, .null, .null, .null, .null] [.int w0] σ := by
  refine LGo.istore F dL_law_894 (by decide) rfl rfl (?_ : LGo _ 896 [.ref 67, .ref 0, .ref 64, .ref 65, .ref 66, .int v5, .int v6, .int v7, .int v8, .int w0, .int v10, .int v11, .null, .null, .null, .null, .null, .null] _ _)
  refine LGo.aload F dL_law_896 rfl (?_ : LGo _ 898 _ _ _)
  refine LGo.iconst F dL_law_898 k_ic_4 (?_ : LGo _ 899 _ _ _)
  refine LGo.iload F dL_law_899 rfl (?_ : LGo _ 901 _ _ _)
  refine LGo.iadd F dL_law_901 (?_ : LGo _ 902 _ _ _)
  refine LGo.iload F dL_law_902 rfl (?_ : LGo _ 904 _ _ _)
  refine LGo.iast F shq_66 dL_law_904 ⟨h.1, (?_ : LGo _ 905 _ _ _)⟩
  generalize es1 : setA σ 66 (ix (4 + v10)) v11 = s1
  have h := h.2 s1 es1.symm
  exact h
set_option maxHeartbeats 4000000 in
set_option maxRecDepth 100000 in
theorem sgL_law_905 {X : LX} {L : Nat} {xs : Nat → Int32} {σ : St} {v5 : Int32} {v6 : Int32} {v7 : Int32} {v8 : Int32} {v9 : Int32} {v10 : Int32} {v11 : Int32} (F : LF X L xs) (h : CallU 10 mL_bodies [.ref 64, .ref 65, .ref 66] σ (fun s1 => (v9 = 0 → LGo X 952 [.ref 67, .ref 0, .ref 64, .ref 65, .ref 66, .int v5, .int v6, .int v7, .int v8, .int v9, .int v10, .int v11, .null, .null, .null, .null, .null, .null] [] s1) ∧ (¬ v9 = 0 → CallI 10 mL_targets [.ref 0, .ref 64, .ref 65, .ref 66] s1 (fun r4 s3 => (r4 = 0 → LGo X 952 [.ref 67, .ref 0, .ref 64, .ref 65, .ref 66, .int v5, .int v6, .int v7, .int v8, .int v9, .int v10, .int v11, .null, .null, .null, .null, .null, .null] [] s3) ∧ (¬ r4 = 0 → CallI 10 mL_echoes [.ref 0, .ref 65, .ref 66] s3 (fun r7 s6 => (r7 = 0 → LGo X 952 [.ref 67, .ref 0, .ref 64, .ref 65, .ref 66, .int v5, .int v6, .int v7, .int v8, .int v9, .int v10, .int v11, .null, .null, .null, .null, .null, .null] [] s6) ∧ (¬ r7 = 0 → CallI 10 mL_numbers [.ref 0, .ref 66, .int (v7 >>> (8 &&& 31))] s6 (fun r10 s9 => (¬ r10 = 0 → LGo X 957 [.ref 67, .ref 0, .ref 64, .ref 65, .ref 66, .int v5, .int v6, .int v7, .int v8, .int v9, .int 0, .int v11, .null, .null, .null, .null, .null, .null] [] s9) ∧ (r10 = 0 → LGo X 952 [.ref 67, .ref 0, .ref 64, .ref 65, .ref 66, .int v5, .int v6, .int v7, .int v8, .int v9, .int v10, .int v11, .null, .null, .null, .null, .null, .null] [] s9))))))))) : LGo X 905 [.ref 67, .ref 0, .ref 64, .ref 65, .ref 66, .int v5, .int v6, .int v7, .int v8, .int v9, .int v10, .int v11, .null, .null, .null, .null, .null, .null] [] σ := by
  refine LGo.aload_n F 2 dL_law_905 rfl rfl (?_ : LGo _ 906 _ _ _)
  refine LGo.aload_n F 3 dL_law_906 rfl rfl (?_ : LGo _ 907 _ _ _)
  refine LGo.aload F dL_law_907 rfl (?_ : LGo _ 909 _ _ _)
  refine LGo.callS F (as := [.ref 64, .ref 65, .ref 66]) (st := []) mk_L_bodies wl_L_90 rfl rfl (Nat.le_of_ble_eq_true rfl) dL_law_909 h ?_
  rintro _ s1 ⟨rfl, h⟩
  show LGo _ 912 _ [] _
  refine LGo.iload F dL_law_912 rfl (?_ : LGo _ 914 _ _ _)
  refine LGo.if_eq F 952 dL_law_914 rfl ⟨fun c2 => ?_, fun c2 => (?_ : LGo _ 917 _ _ _)⟩
  · have h := h.1 c2
    exact h
  · have h := h.2 c2
    refine LGo.aload_n F 1 dL_law_917 rfl rfl (?_ : LGo _ 918 _ _ _)
    refine LGo.aload_n F 2 dL_law_918 rfl rfl (?_ : LGo _ 919 _ _ _)
    refine LGo.aload_n F 3 dL_law_919 rfl rfl (?_ : LGo _ 920 _ _ _)
    refine LGo.aload F dL_law_920 rfl (?_ : LGo _ 922 _ _ _)
    refine LGo.callS F (as := [.ref 0, .ref 64, .ref 65, .ref 66]) (st := []) mk_L_targets wl_L_94 rfl rfl (Nat.le_of_ble_eq_true rfl) dL_law_922 h ?_
    rintro _ s3 ⟨r4, rfl, h⟩
    show LGo _ 925 _ [.int r4] _
    refine LGo.if_eq F 952 dL_law_925 rfl ⟨fun c5 => ?_, fun c5 => (?_ : LGo _ 928 _ _ _)⟩
    · have h := h.1 c5
      exact h
    · have h := h.2 c5
      refine LGo.aload_n F 1 dL_law_928 rfl rfl (?_ : LGo _ 929 _ _ _)
      refine LGo.aload_n F 3 dL_law_929 rfl rfl (?_ : LGo _ 930 _ _ _)
      refine LGo.aload F dL_law_930 rfl (?_ : LGo _ 932 _ _ _)
      refine LGo.callS F (as := [.ref 0, .ref 65, .ref 66]) (st := []) mk_L_echoes wl_L_98 rfl rfl (Nat.le_of_ble_eq_true rfl) dL_law_932 h ?_
      rintro _ s6 ⟨r7, rfl, h⟩
      show LGo _ 935 _ [.int r7] _
      refine LGo.if_eq F 952 dL_law_935 rfl ⟨fun c8 => ?_, fun c8 => (?_ : LGo _ 938 _ _ _)⟩
      · have h := h.1 c8
        exact h
      · have h := h.2 c8
        refine LGo.aload_n F 1 dL_law_938 rfl rfl (?_ : LGo _ 939 _ _ _)
        refine LGo.aload F dL_law_939 rfl (?_ : LGo _ 941 _ _ _)
        refine LGo.iload F dL_law_941 rfl (?_ : LGo _ 943 _ _ _)
        refine LGo.bipush F dL_law_943 k_bi_8 (?_ : LGo _ 945 _ _ _)
        refine LGo.ishr F dL_law_945 (?_ : LGo _ 946 _ _ _)
        refine LGo.callS F (as := [.ref 0, .ref 66, .int (v7 >>> (8 &&& 31))]) (st := []) mk_L_numbers wl_L_102 rfl rfl (Nat.le_of_ble_eq_true rfl) dL_law_946 h ?_
        rintro _ s9 ⟨r10, rfl, h⟩
        show LGo _ 949 _ [.int r10] _
        refine LGo.if_ne F 954 dL_law_949 rfl ⟨fun c11 => ?_, fun c11 => (?_ : LGo _ 952 _ _ _)⟩
        · have h := h.1 c11
          refine LGo.iconst F dL_law_954 k_ic_0 (?_ : LGo _ 955 _ _ _)
          refine LGo.istore F dL_law_955 (by decide) rfl rfl (?_ : LGo _ 957 [.ref 67, .ref 0, .ref 64, .ref 65, .ref 66, .int v5, .int v6, .int v7, .int v8, .int v9, .int 0, .int v11, .null, .null, .null, .null, .null, .null] _ _)
          exact h
        · have h := h.2 c11
          exact h
set_option maxHeartbeats 4000000 in
set_option maxRecDepth 100000 in
theorem sgL_law_952 {X : LX} {L : Nat} {xs : Nat → Int32} {σ : St} {v5 : Int32} {v6 : Int32} {v7 : Int32} {v8 : Int32} {v9 : Int32} {v10 : Int32} {v11 : Int32} (F : LF X L xs) (h : False) : LGo X 952 [.ref 67, .ref 0, .ref 64, .ref 65, .ref 66, .int v5, .int v6, .int v7, .int v8, .int v9, .int v10, .int v11, .null, .null, .null, .null, .null, .null] [] σ := by
  refine LGo.iconst F dL_law_952 k_ic_0 (?_ : LGo _ 953 _ _ _)
  exact h.elim
set_option maxHeartbeats 4000000 in
set_option maxRecDepth 100000 in
theorem sgL_law_957 {X : LX} {L : Nat} {xs : Nat → Int32} {σ : St} {v5 : Int32} {v6 : Int32} {v7 : Int32} {v8 : Int32} {v9 : Int32} {v10 : Int32} {v11 : Int32} (F : LF X L xs) (h : (4 ≤ v10 → (¬ (irem v5 6) = 5 → LGo X 1090 [.ref 67, .ref 0, .ref 64, .ref 65, .ref 66, .int v5, .int v6, .int v7, .int v8, .int v9, .int v10, .int v11, .null, .null, .null, .null, .null, .null] [] σ) ∧ ((irem v5 6) = 5 → CallI 10 mL_distances [.ref 0, .ref 65, .ref 66] σ (fun r4 s3 => (¬ r4 = 0 → LGo X 1090 [.ref 67, .ref 0, .ref 64, .ref 65, .ref 66, .int v5, .int v6, .int v7, .int v8, .int v9, .int v10, .int v11, .null, .null, .null, .null, .null, .null] [] s3) ∧ (r4 = 0 → False)))) ∧ (¬ 4 ≤ v10 → (¬ ((60 + (4 * v5)) + v10) < 0) ∧ ∀ r6 : Int32, CallI 10 mL_low [.int r6, .int 600] σ (fun r8 s7 => CallI 10 mL_low [.int (r6 >>> (10 &&& 31)), .int 2] s7 (fun r10 s9 => (¬ r10 = 0 → CallI 10 mL_low [.int (r6 >>> (11 &&& 31)), .int 11] s9 (fun r13 s12 => LGo X 1019 [.ref 67, .ref 0, .ref 64, .ref 65, .ref 66, .int v5, .int v6, .int v7, .int v8, .int v9, .int v10, .int r6, .int (1 + r8), .null, .null, .null, .null, .null] [.int (r13 - 5)] s12)) ∧ (r10 = 0 → LGo X 1019 [.ref 67, .ref 0, .ref 64, .ref 65, .ref 66, .int v5, .int v6, .int v7, .int v8, .int v9, .int v10, .int r6, .int (1 + r8), .null, .null, .null, .null, .null] [.int 0] s9))))) : LGo X 957 [.ref 67, .ref 0, .ref 64, .ref 65, .ref 66, .int v5, .int v6, .int v7, .int v8, .int v9, .int v10, .int v11, .null, .null, .null, .null, .null, .null] [] σ := by
  refine LGo.iload F dL_law_957 rfl (?_ : LGo _ 959 _ _ _)
  refine LGo.iconst F dL_law_959 k_ic_4 (?_ : LGo _ 960 _ _ _)
  refine LGo.icmp_ge F 1069 dL_law_960 rfl ⟨fun c1 => ?_, fun c1 => (?_ : LGo _ 963 _ _ _)⟩
  · have h := h.1 c1
    refine LGo.iload F dL_law_1069 rfl (?_ : LGo _ 1071 _ _ _)
    refine LGo.bipush F dL_law_1071 k_bi_6 (?_ : LGo _ 1073 _ _ _)
    refine LGo.irem F dL_law_1073 (by decide) (?_ : LGo _ 1074 _ _ _)
    refine LGo.iconst F dL_law_1074 k_ic_5 (?_ : LGo _ 1075 _ _ _)
    refine LGo.icmp_ne F 1090 dL_law_1075 rfl ⟨fun c2 => ?_, fun c2 => (?_ : LGo _ 1078 _ _ _)⟩
    · have h := h.1 c2
      exact h
    · have h := h.2 c2
      refine LGo.aload_n F 1 dL_law_1078 rfl rfl (?_ : LGo _ 1079 _ _ _)
      refine LGo.aload_n F 3 dL_law_1079 rfl rfl (?_ : LGo _ 1080 _ _ _)
      refine LGo.aload F dL_law_1080 rfl (?_ : LGo _ 1082 _ _ _)
      refine LGo.callS F (as := [.ref 0, .ref 65, .ref 66]) (st := []) mk_L_distances wl_L_109 rfl rfl (Nat.le_of_ble_eq_true rfl) dL_law_1082 h ?_
      rintro _ s3 ⟨r4, rfl, h⟩
      show LGo _ 1085 _ [.int r4] _
      refine LGo.if_ne F 1090 dL_law_1085 rfl ⟨fun c5 => ?_, fun c5 => (?_ : LGo _ 1088 _ _ _)⟩
      · have h := h.1 c5
        exact h
      · have h := h.2 c5
        refine LGo.iconst F dL_law_1088 k_ic_0 (?_ : LGo _ 1089 _ _ _)
        exact h.elim
  · have h := h.2 c1
    refine LGo.aload_n F 0 dL_law_963 rfl rfl (?_ : LGo _ 964 _ _ _)
    refine LGo.bipush F dL_law_964 k_bi_60 (?_ : LGo _ 966 _ _ _)
    refine LGo.iconst F dL_law_966 k_ic_4 (?_ : LGo _ 967 _ _ _)
    refine LGo.iload F dL_law_967 rfl (?_ : LGo _ 969 _ _ _)
    refine LGo.imul F dL_law_969 (?_ : LGo _ 970 _ _ _)
    refine LGo.iadd F dL_law_970 (?_ : LGo _ 971 _ _ _)
    refine LGo.iload F dL_law_971 rfl (?_ : LGo _ 973 _ _ _)
    refine LGo.iadd F dL_law_973 (?_ : LGo _ 974 _ _ _)
    refine LGo.cell F (st := []) wl_L_65 h.1 (Nat.le_of_ble_eq_true rfl) dL_law_974 (fun r6 => (?_ : LGo _ 977 _ _ _))
    have h := h.2 r6
    refine LGo.istore F dL_law_977 (by decide) rfl rfl (?_ : LGo _ 979 [.ref 67, .ref 0, .ref 64, .ref 65, .ref 66, .int v5, .int v6, .int v7, .int v8, .int v9, .int v10, .int r6, .null, .null, .null, .null, .null, .null] _ _)
    refine LGo.iconst F dL_law_979 k_ic_1 (?_ : LGo _ 980 _ _ _)
    refine LGo.iload F dL_law_980 rfl (?_ : LGo _ 982 _ _ _)
    refine LGo.sipush F dL_law_982 k_si_600 (?_ : LGo _ 985 _ _ _)
    refine LGo.callS F (as := [.int r6, .int 600]) (st := [.int 1]) mk_L_low wl_L_55 rfl rfl (Nat.le_of_ble_eq_true rfl) dL_law_985 h ?_
    rintro _ s7 ⟨r8, rfl, h⟩
    show LGo _ 988 _ [.int r8, .int 1] _
    refine LGo.iadd F dL_law_988 (?_ : LGo _ 989 _ _ _)
    refine LGo.istore F dL_law_989 (by decide) rfl rfl (?_ : LGo _ 991 [.ref 67, .ref 0, .ref 64, .ref 65, .ref 66, .int v5, .int v6, .int v7, .int v8, .int v9, .int v10, .int r6, .int (1 + r8), .null, .null, .null, .null, .null] _ _)
    refine LGo.iload F dL_law_991 rfl (?_ : LGo _ 993 _ _ _)
    refine LGo.bipush F dL_law_993 k_bi_10 (?_ : LGo _ 995 _ _ _)
    refine LGo.ishr F dL_law_995 (?_ : LGo _ 996 _ _ _)
    refine LGo.iconst F dL_law_996 k_ic_2 (?_ : LGo _ 997 _ _ _)
    refine LGo.callS F (as := [.int (r6 >>> (10 &&& 31)), .int 2]) (st := []) mk_L_low wl_L_55 rfl rfl (Nat.le_of_ble_eq_true rfl) dL_law_997 h ?_
    rintro _ s9 ⟨r10, rfl, h⟩
    show LGo _ 1000 _ [.int r10] _
    refine LGo.if_ne F 1007 dL_law_1000 rfl ⟨fun c11 => ?_, fun c11 => (?_ : LGo _ 1003 _ _ _)⟩
    · have h := h.1 c11
      refine LGo.iload F dL_law_1007 rfl (?_ : LGo _ 1009 _ _ _)
      refine LGo.bipush F dL_law_1009 k_bi_11 (?_ : LGo _ 1011 _ _ _)
      refine LGo.ishr F dL_law_1011 (?_ : LGo _ 1012 _ _ _)
      refine LGo.bipush F dL_law_1012 k_bi_11 (?_ : LGo _ 1014 _ _ _)
      refine LGo.callS F (as := [.int (r6 >>> (11 &&& 31)), .int 11]) (st := []) mk_L_low wl_L_55 rfl rfl (Nat.le_of_ble_eq_true rfl) dL_law_1014 h ?_
      rintro _ s12 ⟨r13, rfl, h⟩
      show LGo _ 1017 _ [.int r13] _
      refine LGo.iconst F dL_law_1017 k_ic_5 (?_ : LGo _ 1018 _ _ _)
      refine LGo.isub F dL_law_1018 (?_ : LGo _ 1019 _ _ _)
      exact h
    · have h := h.2 c11
      refine LGo.iconst F dL_law_1003 k_ic_0 (?_ : LGo _ 1004 _ _ _)
      refine LGo.goto F 1019 dL_law_1004 rfl ?_
      exact h
set_option maxHeartbeats 4000000 in
set_option maxRecDepth 100000 in
theorem sgL_law_1019 {X : LX} {L : Nat} {xs : Nat → Int32} {σ : St} {v5 : Int32} {v6 : Int32} {v7 : Int32} {v8 : Int32} {v9 : Int32} {v10 : Int32} {v11 : Int32} {v12 : Int32} {w0 : Int32} (F : LF X L xs) (h : CallI 10 mL_low [.int (v11 >>> (16 &&& 31)), .int (sA σ 66 7)] σ (fun r2 s1 => CallI 9 mX5_fits [.ref 0, .int v12, .int w0, .int r2] s1 (fun r4 s3 => CallI 10 mL_fit [.ref 65, .ref 66, .int v12, .int w0, .int r2] s3 (fun r6 s5 => (r4 = r6 → LGo X 957 [.ref 67, .ref 0, .ref 64, .ref 65, .ref 66, .int v5, .int v6, .int v7, .int v8, .int v9, .int (v10 + 1), .int v11, .null, .null, .null, .null, .null, .null] [] s5) ∧ (¬ r4 = r6 → False))))) : LGo X 1019 [.ref 67, .ref 0, .ref 64, .ref 65, .ref 66, .int v5, .int v6, .int v7, .int v8, .int v9, .int v10, .int v11, .int v12, .null, .null, .null, .null, .null] [.int w0] σ := by
  refine LGo.istore F dL_law_1019 (by decide) rfl rfl (?_ : LGo _ 1021 [.ref 67, .ref 0, .ref 64, .ref 65, .ref 66, .int v5, .int v6, .int v7, .int v8, .int v9, .int v10, .int v11, .int v12, .int w0, .null, .null, .null, .null] _ _)
  refine LGo.iload F dL_law_1021 rfl (?_ : LGo _ 1023 _ _ _)
  refine LGo.bipush F dL_law_1023 k_bi_16 (?_ : LGo _ 1025 _ _ _)
  refine LGo.ishr F dL_law_1025 (?_ : LGo _ 1026 _ _ _)
  refine LGo.aload F dL_law_1026 rfl (?_ : LGo _ 1028 _ _ _)
  refine LGo.bipush F dL_law_1028 k_bi_7 (?_ : LGo _ 1030 _ _ _)
  refine LGo.ialdK F ixk_7 vik_7_9 shq_66 dL_law_1030 (?_ : LGo _ 1031 _ _ _)
  refine LGo.callS F (as := [.int (v11 >>> (16 &&& 31)), .int (sA σ 66 7)]) (st := []) mk_L_low wl_L_55 rfl rfl (Nat.le_of_ble_eq_true rfl) dL_law_1031 h ?_
  rintro _ s1 ⟨r2, rfl, h⟩
  show LGo _ 1034 _ [.int r2] _
  refine LGo.istore F dL_law_1034 (by decide) rfl rfl (?_ : LGo _ 1036 [.ref 67, .ref 0, .ref 64, .ref 65, .ref 66, .int v5, .int v6, .int v7, .int v8, .int v9, .int v10, .int v11, .int v12, .int w0, .int r2, .null, .null, .null] _ _)
  refine LGo.aload_n F 1 dL_law_1036 rfl rfl (?_ : LGo _ 1037 _ _ _)
  refine LGo.iload F dL_law_1037 rfl (?_ : LGo _ 1039 _ _ _)
  refine LGo.iload F dL_law_1039 rfl (?_ : LGo _ 1041 _ _ _)
  refine LGo.iload F dL_law_1041 rfl (?_ : LGo _ 1043 _ _ _)
  refine LGo.callV F (as := [.int v12, .int w0, .int r2]) (st := []) mk_X5_fits wl_L_106 shq_0 rfl rfl (Nat.le_of_ble_eq_true rfl) dL_law_1043 h ?_
  rintro _ s3 ⟨r4, rfl, h⟩
  show LGo _ 1046 _ [.int r4] _
  refine LGo.aload_n F 3 dL_law_1046 rfl rfl (?_ : LGo _ 1047 _ _ _)
  refine LGo.aload F dL_law_1047 rfl (?_ : LGo _ 1049 _ _ _)
  refine LGo.iload F dL_law_1049 rfl (?_ : LGo _ 1051 _ _ _)
  refine LGo.iload F dL_law_1051 rfl (?_ : LGo _ 1053 _ _ _)
  refine LGo.iload F dL_law_1053 rfl (?_ : LGo _ 1055 _ _ _)
  refine LGo.callS F (as := [.ref 65, .ref 66, .int v12, .int w0, .int r2]) (st := [.int r4]) mk_L_fit wl_L_20 rfl rfl (Nat.le_of_ble_eq_true rfl) dL_law_1055 h ?_
  rintro _ s5 ⟨r6, rfl, h⟩
  show LGo _ 1058 _ [.int r6, .int r4] _
  refine LGo.icmp_eq F 1063 dL_law_1058 rfl ⟨fun c7 => ?_, fun c7 => (?_ : LGo _ 1061 _ _ _)⟩
  · have h := h.1 c7
    refine LGo.iinc F dL_law_1063 rfl (congrArg (fun z => v10 + z) k_ic_1) (by decide) rfl rfl (?_ : LGo _ 1066 [.ref 67, .ref 0, .ref 64, .ref 65, .ref 66, .int v5, .int v6, .int v7, .int v8, .int v9, .int (v10 + 1), .int v11, .int v12, .int w0, .int r2, .null, .null, .null] _ _)
    refine LGo.goto F 957 dL_law_1066 rfl ?_
    refine LGo.drop F (ls' := [.ref 67, .ref 0, .ref 64, .ref 65, .ref 66, .int v5, .int v6, .int v7, .int v8, .int v9, .int (v10 + 1), .int v11, .null, .int w0, .int r2, .null, .null, .null]) 12 rfl ?_
    refine LGo.drop F (ls' := [.ref 67, .ref 0, .ref 64, .ref 65, .ref 66, .int v5, .int v6, .int v7, .int v8, .int v9, .int (v10 + 1), .int v11, .null, .null, .int r2, .null, .null, .null]) 13 rfl ?_
    refine LGo.drop F (ls' := [.ref 67, .ref 0, .ref 64, .ref 65, .ref 66, .int v5, .int v6, .int v7, .int v8, .int v9, .int (v10 + 1), .int v11, .null, .null, .null, .null, .null, .null]) 14 rfl ?_
    exact h
  · have h := h.2 c7
    refine LGo.iconst F dL_law_1061 k_ic_0 (?_ : LGo _ 1062 _ _ _)
    exact h.elim
set_option maxHeartbeats 4000000 in
set_option maxRecDepth 100000 in
theorem sgL_law_1090 {X : LX} {L : Nat} {xs : Nat → Int32} {σ : St} {v5 : Int32} {v6 : Int32} {v7 : Int32} {v8 : Int32} {v9 : Int32} {v10 : Int32} {v11 : Int32} (F : LF X L xs) (h : (¬ (irem v5 8) = 7 → LGo X 1357 [.ref 67, .ref 0, .ref 64, .ref 65, .ref 66, .int v5, .int v6, .int v7, .int v8, .int v9, .int v10, .int v11, .null, .null, .null, .null, .null, .null] [] σ) ∧ ((irem v5 8) = 7 → (4 ≤ (sA σ 66 7) → LGo X 1357 [.ref 67, .ref 0, .ref 64, .ref 65, .ref 66, .int v5, .int v6, .int v7, .int v8, .int v9, .int v10, .int v11, .null, .null, .null, .null, .null, .null] [] σ) ∧ (¬ 4 ≤ (sA σ 66 7) → CallI 10 mL_low [.int v7, .int 41] σ (fun r4 s3 => vp_in (sA s3 66 7) 9 ∧ ∀ s5, s5 = setA s3 66 (ix (sA s3 66 7)) (10 + r4) → ∀ s6, s6 = setA s5 66 7 ((sA s5 66 7) + 1) → LGo X 1152 [.ref 67, .ref 0, .ref 64, .ref 65, .ref 66, .int v5, .int v6, .int v7, .int v8, .int v9, .int (10 + r4), .int 0, .int 0, .int 0, .int 0, .null, .null, .null] [] s6)))) : LGo X 1090 [.ref 67, .ref 0, .ref 64, .ref 65, .ref 66, .int v5, .int v6, .int v7, .int v8, .int v9, .int v10, .int v11, .null, .null, .null, .null, .null, .null] [] σ := by
  refine LGo.iload F dL_law_1090 rfl (?_ : LGo _ 1092 _ _ _)
  refine LGo.bipush F dL_law_1092 k_bi_8 (?_ : LGo _ 1094 _ _ _)
  refine LGo.irem F dL_law_1094 (by decide) (?_ : LGo _ 1095 _ _ _)
  refine LGo.bipush F dL_law_1095 k_bi_7 (?_ : LGo _ 1097 _ _ _)
  refine LGo.icmp_ne F 1357 dL_law_1097 rfl ⟨fun c1 => ?_, fun c1 => (?_ : LGo _ 1100 _ _ _)⟩
  · have h := h.1 c1
    exact h
  · have h := h.2 c1
    refine LGo.aload F dL_law_1100 rfl (?_ : LGo _ 1102 _ _ _)
    refine LGo.bipush F dL_law_1102 k_bi_7 (?_ : LGo _ 1104 _ _ _)
    refine LGo.ialdK F ixk_7 vik_7_9 shq_66 dL_law_1104 (?_ : LGo _ 1105 _ _ _)
    refine LGo.iconst F dL_law_1105 k_ic_4 (?_ : LGo _ 1106 _ _ _)
    refine LGo.icmp_ge F 1357 dL_law_1106 rfl ⟨fun c2 => ?_, fun c2 => (?_ : LGo _ 1109 _ _ _)⟩
    · have h := h.1 c2
      exact h
    · have h := h.2 c2
      refine LGo.bipush F dL_law_1109 k_bi_10 (?_ : LGo _ 1111 _ _ _)
      refine LGo.iload F dL_law_1111 rfl (?_ : LGo _ 1113 _ _ _)
      refine LGo.bipush F dL_law_1113 k_bi_41 (?_ : LGo _ 1115 _ _ _)
      refine LGo.callS F (as := [.int v7, .int 41]) (st := [.int 10]) mk_L_low wl_L_55 rfl rfl (Nat.le_of_ble_eq_true rfl) dL_law_1115 h ?_
      rintro _ s3 ⟨r4, rfl, h⟩
      show LGo _ 1118 _ [.int r4, .int 10] _
      refine LGo.iadd F dL_law_1118 (?_ : LGo _ 1119 _ _ _)
      refine LGo.istore F dL_law_1119 (by decide) rfl rfl (?_ : LGo _ 1121 [.ref 67, .ref 0, .ref 64, .ref 65, .ref 66, .int v5, .int v6, .int v7, .int v8, .int v9, .int (10 + r4), .int v11, .null, .null, .null, .null, .null, .null] _ _)
      refine LGo.aload F dL_law_1121 rfl (?_ : LGo _ 1123 _ _ _)
      refine LGo.aload F dL_law_1123 rfl (?_ : LGo _ 1125 _ _ _)
      refine LGo.bipush F dL_law_1125 k_bi_7 (?_ : LGo _ 1127 _ _ _)
      refine LGo.ialdK F ixk_7 vik_7_9 shq_66 dL_law_1127 (?_ : LGo _ 1128 _ _ _)
      refine LGo.iload F dL_law_1128 rfl (?_ : LGo _ 1130 _ _ _)
      refine LGo.iast F shq_66 dL_law_1130 ⟨h.1, (?_ : LGo _ 1131 _ _ _)⟩
      generalize es5 : setA s3 66 (ix (sA s3 66 7)) (10 + r4) = s5
      have h := h.2 s5 es5.symm
      refine LGo.aload F dL_law_1131 rfl (?_ : LGo _ 1133 _ _ _)
      refine LGo.bipush F dL_law_1133 k_bi_7 (?_ : LGo _ 1135 _ _ _)
      refine LGo.dup2 F dL_law_1135 rfl rfl (?_ : LGo _ 1136 _ _ _)
      refine LGo.ialdK F ixk_7 vik_7_9 shq_66 dL_law_1136 (?_ : LGo _ 1137 _ _ _)
      refine LGo.iconst F dL_law_1137 k_ic_1 (?_ : LGo _ 1138 _ _ _)
      refine LGo.iadd F dL_law_1138 (?_ : LGo _ 1139 _ _ _)
      refine LGo.iastK F ixk_7 vik_7_9 shq_66 dL_law_1139 (?_ : LGo _ 1140 _ _ _)
      generalize es6 : setA s5 66 7 ((sA s5 66 7) + 1) = s6
      have h := h s6 es6.symm
      refine LGo.iconst F dL_law_1140 k_ic_0 (?_ : LGo _ 1141 _ _ _)
      refine LGo.istore F dL_law_1141 (by decide) rfl rfl (?_ : LGo _ 1143 [.ref 67, .ref 0, .ref 64, .ref 65, .ref 66, .int v5, .int v6, .int v7, .int v8, .int v9, .int (10 + r4), .int 0, .null, .null, .null, .null, .null, .null] _ _)
      refine LGo.iconst F dL_law_1143 k_ic_0 (?_ : LGo _ 1144 _ _ _)
      refine LGo.istore F dL_law_1144 (by decide) rfl rfl (?_ : LGo _ 1146 [.ref 67, .ref 0, .ref 64, .ref 65, .ref 66, .int v5, .int v6, .int v7, .int v8, .int v9, .int (10 + r4), .int 0, .int 0, .null, .null, .null, .null, .null] _ _)
      refine LGo.iconst F dL_law_1146 k_ic_0 (?_ : LGo _ 1147 _ _ _)
      refine LGo.istore F dL_law_1147 (by decide) rfl rfl (?_ : LGo _ 1149 [.ref 67, .ref 0, .ref 64, .ref 65, .ref 66, .int v5, .int v6, .int v7, .int v8, .int v9, .int (10 + r4), .int 0, .int 0, .int 0, .null, .null, .null, .null] _ _)
      refine LGo.iconst F dL_law_1149 k_ic_0 (?_ : LGo _ 1150 _ _ _)
      refine LGo.istore F dL_law_1150 (by decide) rfl rfl (?_ : LGo _ 1152 [.ref 67, .ref 0, .ref 64, .ref 65, .ref 66, .int v5, .int v6, .int v7, .int v8, .int v9, .int (10 + r4), .int 0, .int 0, .int 0, .int 0, .null, .null, .null] _ _)
      exact h
set_option maxHeartbeats 4000000 in
set_option maxRecDepth 100000 in
theorem sgL_law_1152 {X : LX} {L : Nat} {xs : Nat → Int32} {σ : St} {v5 : Int32} {v6 : Int32} {v7 : Int32} {v8 : Int32} {v9 : Int32} {v10 : Int32} {v11 : Int32} {v12 : Int32} {v13 : Int32} {v14 : Int32} (F : LF X L xs) (h : (6600 ≤ v14 → LGo X 1252 [.ref 67, .ref 0, .ref 64, .ref 65, .ref 66, .int v5, .int v6, .int v7, .int v8, .int v9, .int v10, .int v11, .int v12, .int v13, .int 0, .null, .null, .null] [] σ) ∧ (¬ 6600 ≤ v14 → CallI 10 mL_told [.ref 65, .ref 66, .int (1 + (v14 / 11)), .int ((irem v14 11) - 5)] σ (fun r3 s2 => (r3 ≤ 0 → LGo X 1188 [.ref 67, .ref 0, .ref 64, .ref 65, .ref 66, .int v5, .int v6, .int v7, .int v8, .int v9, .int v10, .int v11, .int v12, .int v13, .int v14, .null, .null, .null] [.int 0] s2) ∧ (¬ r3 ≤ 0 → LGo X 1188 [.ref 67, .ref 0, .ref 64, .ref 65, .ref 66, .int v5, .int v6, .int v7, .int v8, .int v9, .int v10, .int v11, .int v12, .int v13, .int v14, .null, .null, .null] [.int 1] s2)))) : LGo X 1152 [.ref 67, .ref 0, .ref 64, .ref 65, .ref 66, .int v5, .int v6, .int v7, .int v8, .int v9, .int v10, .int v11, .int v12, .int v13, .int v14, .null, .null, .null] [] σ := by
  refine LGo.iload F dL_law_1152 rfl (?_ : LGo _ 1154 _ _ _)
  refine LGo.sipush F dL_law_1154 k_si_6600 (?_ : LGo _ 1157 _ _ _)
  refine LGo.icmp_ge F 1249 dL_law_1157 rfl ⟨fun c1 => ?_, fun c1 => (?_ : LGo _ 1160 _ _ _)⟩
  · have h := h.1 c1
    refine LGo.iconst F dL_law_1249 k_ic_0 (?_ : LGo _ 1250 _ _ _)
    refine LGo.istore F dL_law_1250 (by decide) rfl rfl (?_ : LGo _ 1252 [.ref 67, .ref 0, .ref 64, .ref 65, .ref 66, .int v5, .int v6, .int v7, .int v8, .int v9, .int v10, .int v11, .int v12, .int v13, .int 0, .null, .null, .null] _ _)
    exact h
  · have h := h.2 c1
    refine LGo.aload_n F 3 dL_law_1160 rfl rfl (?_ : LGo _ 1161 _ _ _)
    refine LGo.aload F dL_law_1161 rfl (?_ : LGo _ 1163 _ _ _)
    refine LGo.iconst F dL_law_1163 k_ic_1 (?_ : LGo _ 1164 _ _ _)
    refine LGo.iload F dL_law_1164 rfl (?_ : LGo _ 1166 _ _ _)
    refine LGo.bipush F dL_law_1166 k_bi_11 (?_ : LGo _ 1168 _ _ _)
    refine LGo.idiv F dL_law_1168 (by decide) (?_ : LGo _ 1169 _ _ _)
    refine LGo.iadd F dL_law_1169 (?_ : LGo _ 1170 _ _ _)
    refine LGo.iload F dL_law_1170 rfl (?_ : LGo _ 1172 _ _ _)
    refine LGo.bipush F dL_law_1172 k_bi_11 (?_ : LGo _ 1174 _ _ _)
    refine LGo.irem F dL_law_1174 (by decide) (?_ : LGo _ 1175 _ _ _)
    refine LGo.iconst F dL_law_1175 k_ic_5 (?_ : LGo _ 1176 _ _ _)
    refine LGo.isub F dL_law_1176 (?_ : LGo _ 1177 _ _ _)
    refine LGo.callS F (as := [.ref 65, .ref 66, .int (1 + (v14 / 11)), .int ((irem v14 11) - 5)]) (st := []) mk_L_told wl_L_33 rfl rfl (Nat.le_of_ble_eq_true rfl) dL_law_1177 h ?_
    rintro _ s2 ⟨r3, rfl, h⟩
    show LGo _ 1180 _ [.int r3] _
    refine LGo.if_le F 1187 dL_law_1180 rfl ⟨fun c4 => ?_, fun c4 => (?_ : LGo _ 1183 _ _ _)⟩
    · have h := h.1 c4
      refine LGo.iconst F dL_law_1187 k_ic_0 (?_ : LGo _ 1188 _ _ _)
      exact h
    · have h := h.2 c4
      refine LGo.iconst F dL_law_1183 k_ic_1 (?_ : LGo _ 1184 _ _ _)
      refine LGo.goto F 1188 dL_law_1184 rfl ?_
      exact h
set_option maxHeartbeats 4000000 in
set_option maxRecDepth 100000 in
theorem sgL_law_1188 {X : LX} {L : Nat} {xs : Nat → Int32} {σ : St} {v5 : Int32} {v6 : Int32} {v7 : Int32} {v8 : Int32} {v9 : Int32} {v10 : Int32} {v11 : Int32} {v12 : Int32} {v13 : Int32} {v14 : Int32} {w0 : Int32} (F : LF X L xs) (h : (w0 = 0 → LGo X 1202 [.ref 67, .ref 0, .ref 64, .ref 65, .ref 66, .int v5, .int v6, .int v7, .int v8, .int v9, .int v10, .int v11, .int v12, .int v13, .int v14, .int w0, .null, .null] [.int 0, .int v11] σ) ∧ (¬ w0 = 0 → LGo X 1202 [.ref 67, .ref 0, .ref 64, .ref 65, .ref 66, .int v5, .int v6, .int v7, .int v8, .int v9, .int v10, .int v11, .int v12, .int v13, .int v14, .int w0, .null, .null] [.int 1, .int v11] σ)) : LGo X 1188 [.ref 67, .ref 0, .ref 64, .ref 65, .ref 66, .int v5, .int v6, .int v7, .int v8, .int v9, .int v10, .int v11, .int v12, .int v13, .int v14, .null, .null, .null] [.int w0] σ := by
  refine LGo.istore F dL_law_1188 (by decide) rfl rfl (?_ : LGo _ 1190 [.ref 67, .ref 0, .ref 64, .ref 65, .ref 66, .int v5, .int v6, .int v7, .int v8, .int v9, .int v10, .int v11, .int v12, .int v13, .int v14, .int w0, .null, .null] _ _)
  refine LGo.iload F dL_law_1190 rfl (?_ : LGo _ 1192 _ _ _)
  refine LGo.iload F dL_law_1192 rfl (?_ : LGo _ 1194 _ _ _)
  refine LGo.if_eq F 1201 dL_law_1194 rfl ⟨fun c1 => ?_, fun c1 => (?_ : LGo _ 1197 _ _ _)⟩
  · have h := h.1 c1
    refine LGo.iconst F dL_law_1201 k_ic_0 (?_ : LGo _ 1202 _ _ _)
    exact h
  · have h := h.2 c1
    refine LGo.iconst F dL_law_1197 k_ic_1 (?_ : LGo _ 1198 _ _ _)
    refine LGo.goto F 1202 dL_law_1198 rfl ?_
    exact h
set_option maxHeartbeats 4000000 in
set_option maxRecDepth 100000 in
theorem sgL_law_1202 {X : LX} {L : Nat} {xs : Nat → Int32} {σ : St} {v5 : Int32} {v6 : Int32} {v7 : Int32} {v8 : Int32} {v9 : Int32} {v10 : Int32} {v11 : Int32} {v12 : Int32} {v13 : Int32} {v14 : Int32} {v15 : Int32} {w0 : Int32} {w1 : Int32} (F : LF X L xs) (h : (v15 = 0 → LGo X 1239 [.ref 67, .ref 0, .ref 64, .ref 65, .ref 66, .int v5, .int v6, .int v7, .int v8, .int v9, .int v10, .int (w1 + w0), .int v12, .int v13, .int v14, .int v15, .null, .null] [.int v12] σ) ∧ (¬ v15 = 0 → CallI 10 mL_isTrue [.ref 65, .ref 66, .int (1 + (v14 / 11)), .int ((irem v14 11) - 5)] σ (fun r3 s2 => (¬ r3 = 0 → LGo X 1239 [.ref 67, .ref 0, .ref 64, .ref 65, .ref 66, .int v5, .int v6, .int v7, .int v8, .int v9, .int v10, .int (w1 + w0), .int v12, .int v13, .int v14, .int v15, .null, .null] [.int v12] s2) ∧ (r3 = 0 → LGo X 1240 [.ref 67, .ref 0, .ref 64, .ref 65, .ref 66, .int v5, .int v6, .int v7, .int v8, .int v9, .int v10, .int (w1 + w0), .int v12, .int v13, .int v14, .int v15, .null, .null] [.int 1, .int v12] s2)))) : LGo X 1202 [.ref 67, .ref 0, .ref 64, .ref 65, .ref 66, .int v5, .int v6, .int v7, .int v8, .int v9, .int v10, .int v11, .int v12, .int v13, .int v14, .int v15, .null, .null] [.int w0, .int w1] σ := by
  refine LGo.iadd F dL_law_1202 (?_ : LGo _ 1203 _ _ _)
  refine LGo.istore F dL_law_1203 (by decide) rfl rfl (?_ : LGo _ 1205 [.ref 67, .ref 0, .ref 64, .ref 65, .ref 66, .int v5, .int v6, .int v7, .int v8, .int v9, .int v10, .int (w1 + w0), .int v12, .int v13, .int v14, .int v15, .null, .null] _ _)
  refine LGo.iload F dL_law_1205 rfl (?_ : LGo _ 1207 _ _ _)
  refine LGo.iload F dL_law_1207 rfl (?_ : LGo _ 1209 _ _ _)
  refine LGo.if_eq F 1239 dL_law_1209 rfl ⟨fun c1 => ?_, fun c1 => (?_ : LGo _ 1212 _ _ _)⟩
  · have h := h.1 c1
    exact h
  · have h := h.2 c1
    refine LGo.aload_n F 3 dL_law_1212 rfl rfl (?_ : LGo _ 1213 _ _ _)
    refine LGo.aload F dL_law_1213 rfl (?_ : LGo _ 1215 _ _ _)
    refine LGo.iconst F dL_law_1215 k_ic_1 (?_ : LGo _ 1216 _ _ _)
    refine LGo.iload F dL_law_1216 rfl (?_ : LGo _ 1218 _ _ _)
    refine LGo.bipush F dL_law_1218 k_bi_11 (?_ : LGo _ 1220 _ _ _)
    refine LGo.idiv F dL_law_1220 (by decide) (?_ : LGo _ 1221 _ _ _)
    refine LGo.iadd F dL_law_1221 (?_ : LGo _ 1222 _ _ _)
    refine LGo.iload F dL_law_1222 rfl (?_ : LGo _ 1224 _ _ _)
    refine LGo.bipush F dL_law_1224 k_bi_11 (?_ : LGo _ 1226 _ _ _)
    refine LGo.irem F dL_law_1226 (by decide) (?_ : LGo _ 1227 _ _ _)
    refine LGo.iconst F dL_law_1227 k_ic_5 (?_ : LGo _ 1228 _ _ _)
    refine LGo.isub F dL_law_1228 (?_ : LGo _ 1229 _ _ _)
    refine LGo.callS F (as := [.ref 65, .ref 66, .int (1 + (v14 / 11)), .int ((irem v14 11) - 5)]) (st := [.int v12]) mk_L_isTrue wl_L_45 rfl rfl (Nat.le_of_ble_eq_true rfl) dL_law_1229 h ?_
    rintro _ s2 ⟨r3, rfl, h⟩
    show LGo _ 1232 _ [.int r3, .int v12] _
    refine LGo.if_ne F 1239 dL_law_1232 rfl ⟨fun c4 => ?_, fun c4 => (?_ : LGo _ 1235 _ _ _)⟩
    · have h := h.1 c4
      exact h
    · have h := h.2 c4
      refine LGo.iconst F dL_law_1235 k_ic_1 (?_ : LGo _ 1236 _ _ _)
      refine LGo.goto F 1240 dL_law_1236 rfl ?_
      exact h
set_option maxHeartbeats 4000000 in
set_option maxRecDepth 100000 in
theorem sgL_law_1239 {X : LX} {L : Nat} {xs : Nat → Int32} {σ : St} {v5 : Int32} {v6 : Int32} {v7 : Int32} {v8 : Int32} {v9 : Int32} {v10 : Int32} {v11 : Int32} {v12 : Int32} {v13 : Int32} {v14 : Int32} {v15 : Int32} {w0 : Int32} (F : LF X L xs) (h : LGo X 1240 [.ref 67, .ref 0, .ref 64, .ref 65, .ref 66, .int v5, .int v6, .int v7, .int v8, .int v9, .int v10, .int v11, .int v12, .int v13, .int v14, .int v15, .null, .null] [.int 0, .int w0] σ) : LGo X 1239 [.ref 67, .ref 0, .ref 64, .ref 65, .ref 66, .int v5, .int v6, .int v7, .int v8, .int v9, .int v10, .int v11, .int v12, .int v13, .int v14, .int v15, .null, .null] [.int w0] σ := by
  refine LGo.iconst F dL_law_1239 k_ic_0 (?_ : LGo _ 1240 _ _ _)
  exact h
set_option maxHeartbeats 4000000 in
set_option maxRecDepth 100000 in
theorem sgL_law_1240 {X : LX} {L : Nat} {xs : Nat → Int32} {σ : St} {v5 : Int32} {v6 : Int32} {v7 : Int32} {v8 : Int32} {v9 : Int32} {v10 : Int32} {v11 : Int32} {v12 : Int32} {v13 : Int32} {v14 : Int32} {v15 : Int32} {w0 : Int32} {w1 : Int32} (F : LF X L xs) (h : LGo X 1152 [.ref 67, .ref 0, .ref 64, .ref 65, .ref 66, .int v5, .int v6, .int v7, .int v8, .int v9, .int v10, .int v11, .int (w1 + w0), .int v13, .int (v14 + 1), .null, .null, .null] [] σ) : LGo X 1240 [.ref 67, .ref 0, .ref 64, .ref 65, .ref 66, .int v5, .int v6, .int v7, .int v8, .int v9, .int v10, .int v11, .int v12, .int v13, .int v14, .int v15, .null, .null] [.int w0, .int w1] σ := by
  refine LGo.iadd F dL_law_1240 (?_ : LGo _ 1241 _ _ _)
  refine LGo.istore F dL_law_1241 (by decide) rfl rfl (?_ : LGo _ 1243 [.ref 67, .ref 0, .ref 64, .ref 65, .ref 66, .int v5, .int v6, .int v7, .int v8, .int v9, .int v10, .int v11, .int (w1 + w0), .int v13, .int v14, .int v15, .null, .null] _ _)
  refine LGo.iinc F dL_law_1243 rfl (congrArg (fun z => v14 + z) k_ic_1) (by decide) rfl rfl (?_ : LGo _ 1246 [.ref 67, .ref 0, .ref 64, .ref 65, .ref 66, .int v5, .int v6, .int v7, .int v8, .int v9, .int v10, .int v11, .int (w1 + w0), .int v13, .int (v14 + 1), .int v15, .null, .null] _ _)
  refine LGo.goto F 1152 dL_law_1246 rfl ?_
  refine LGo.drop F (ls' := [.ref 67, .ref 0, .ref 64, .ref 65, .ref 66, .int v5, .int v6, .int v7, .int v8, .int v9, .int v10, .int v11, .int (w1 + w0), .int v13, .int (v14 + 1), .null, .null, .null]) 15 rfl ?_
  exact h
set_option maxHeartbeats 4000000 in
set_option maxRecDepth 100000 in
theorem sgL_law_1252 {X : LX} {L : Nat} {xs : Nat → Int32} {σ : St} {v5 : Int32} {v6 : Int32} {v7 : Int32} {v8 : Int32} {v9 : Int32} {v10 : Int32} {v11 : Int32} {v12 : Int32} {v13 : Int32} {v14 : Int32} (F : LF X L xs) (h : ((sA σ 66 8) ≤ v14 → ∀ s2, s2 = setA σ 66 7 ((sA σ 66 7) - 1) → vp_in (sA s2 66 7) 9 ∧ ∀ s3, s3 = setA s2 66 (ix (sA s2 66 7)) 0 → CallI 9 mX5_ifTurn [.ref 0, .int v10, .int 0] s3 (fun r5 s4 => (¬ r5 = v11 → LGo X 1355 [.ref 67, .ref 0, .ref 64, .ref 65, .ref 66, .int v5, .int v6, .int v7, .int v8, .int v9, .int v10, .int v11, .int v12, .int v13, .int v14, .null, .null, .null] [] s4) ∧ (r5 = v11 → CallI 9 mX5_ifTurn [.ref 0, .int v10, .int 1] s4 (fun r8 s7 => (¬ r8 = v12 → LGo X 1355 [.ref 67, .ref 0, .ref 64, .ref 65, .ref 66, .int v5, .int v6, .int v7, .int v8, .int v9, .int v10, .int v11, .int v12, .int v13, .int v14, .null, .null, .null] [] s7) ∧ (r8 = v12 → CallI 9 mX5_ifTurn [.ref 0, .int v10, .int 2] s7 (fun r11 s10 => (r11 = v13 → LGo X 1357 [.ref 67, .ref 0, .ref 64, .ref 65, .ref 66, .int v5, .int v6, .int v7, .int v8, .int v9, .int v10, .int v11, .null, .null, .null, .null, .null, .null] [] s10) ∧ (¬ r11 = v13 → LGo X 1355 [.ref 67, .ref 0, .ref 64, .ref 65, .ref 66, .int v5, .int v6, .int v7, .int v8, .int v9, .int v10, .int v11, .int v12, .int v13, .int v14, .null, .null, .null] [] s10))))))) ∧ (¬ (sA σ 66 8) ≤ v14 → vp_in (3 * v14) 63 ∧ vp_in ((3 * v14) + 2) 63 ∧ CallI 10 mL_told [.ref 65, .ref 66, .int (sA σ 65 (ix (3 * v14))), .int (sA σ 65 (ix ((3 * v14) + 2)))] σ (fun r14 s13 => (r14 ≤ 0 → LGo X 1292 [.ref 67, .ref 0, .ref 64, .ref 65, .ref 66, .int v5, .int v6, .int v7, .int v8, .int v9, .int v10, .int v11, .int v12, .int v13, .int v14, .null, .null, .null] [.int 1, .int v13] s13) ∧ (¬ r14 ≤ 0 → LGo X 1292 [.ref 67, .ref 0, .ref 64, .ref 65, .ref 66, .int v5, .int v6, .int v7, .int v8, .int v9, .int v10, .int v11, .int v12, .int v13, .int v14, .null, .null, .null] [.int 0, .int v13] s13)))) : LGo X 1252 [.ref 67, .ref 0, .ref 64, .ref 65, .ref 66, .int v5, .int v6, .int v7, .int v8, .int v9, .int v10, .int v11, .int v12, .int v13, .int v14, .null, .null, .null] [] σ := by
  refine LGo.iload F dL_law_1252 rfl (?_ : LGo _ 1254 _ _ _)
  refine LGo.aload F dL_law_1254 rfl (?_ : LGo _ 1256 _ _ _)
  refine LGo.bipush F dL_law_1256 k_bi_8 (?_ : LGo _ 1258 _ _ _)
  refine LGo.ialdK F ixk_8 vik_8_9 shq_66 dL_law_1258 (?_ : LGo _ 1259 _ _ _)
  refine LGo.icmp_ge F 1301 dL_law_1259 rfl ⟨fun c1 => ?_, fun c1 => (?_ : LGo _ 1262 _ _ _)⟩
  · have h := h.1 c1
    refine LGo.aload F dL_law_1301 rfl (?_ : LGo _ 1303 _ _ _)
    refine LGo.bipush F dL_law_1303 k_bi_7 (?_ : LGo _ 1305 _ _ _)
    refine LGo.dup2 F dL_law_1305 rfl rfl (?_ : LGo _ 1306 _ _ _)
    refine LGo.ialdK F ixk_7 vik_7_9 shq_66 dL_law_1306 (?_ : LGo _ 1307 _ _ _)
    refine LGo.iconst F dL_law_1307 k_ic_1 (?_ : LGo _ 1308 _ _ _)
    refine LGo.isub F dL_law_1308 (?_ : LGo _ 1309 _ _ _)
    refine LGo.iastK F ixk_7 vik_7_9 shq_66 dL_law_1309 (?_ : LGo _ 1310 _ _ _)
    generalize es2 : setA σ 66 7 ((sA σ 66 7) - 1) = s2
    have h := h s2 es2.symm
    refine LGo.aload F dL_law_1310 rfl (?_ : LGo _ 1312 _ _ _)
    refine LGo.aload F dL_law_1312 rfl (?_ : LGo _ 1314 _ _ _)
    refine LGo.bipush F dL_law_1314 k_bi_7 (?_ : LGo _ 1316 _ _ _)
    refine LGo.ialdK F ixk_7 vik_7_9 shq_66 dL_law_1316 (?_ : LGo _ 1317 _ _ _)
    refine LGo.iconst F dL_law_1317 k_ic_0 (?_ : LGo _ 1318 _ _ _)
    refine LGo.iast F shq_66 dL_law_1318 ⟨h.1, (?_ : LGo _ 1319 _ _ _)⟩
    generalize es3 : setA s2 66 (ix (sA s2 66 7)) 0 = s3
    have h := h.2 s3 es3.symm
    refine LGo.aload_n F 1 dL_law_1319 rfl rfl (?_ : LGo _ 1320 _ _ _)
    refine LGo.iload F dL_law_1320 rfl (?_ : LGo _ 1322 _ _ _)
    refine LGo.iconst F dL_law_1322 k_ic_0 (?_ : LGo _ 1323 _ _ _)
    refine LGo.callV F (as := [.int v10, .int 0]) (st := []) mk_X5_ifTurn wl_L_112 shq_0 rfl rfl (Nat.le_of_ble_eq_true rfl) dL_law_1323 h ?_
    rintro _ s4 ⟨r5, rfl, h⟩
    show LGo _ 1326 _ [.int r5] _
    refine LGo.iload F dL_law_1326 rfl (?_ : LGo _ 1328 _ _ _)
    refine LGo.icmp_ne F 1355 dL_law_1328 rfl ⟨fun c6 => ?_, fun c6 => (?_ : LGo _ 1331 _ _ _)⟩
    · have h := h.1 c6
      exact h
    · have h := h.2 c6
      refine LGo.aload_n F 1 dL_law_1331 rfl rfl (?_ : LGo _ 1332 _ _ _)
      refine LGo.iload F dL_law_1332 rfl (?_ : LGo _ 1334 _ _ _)
      refine LGo.iconst F dL_law_1334 k_ic_1 (?_ : LGo _ 1335 _ _ _)
      refine LGo.callV F (as := [.int v10, .int 1]) (st := []) mk_X5_ifTurn wl_L_112 shq_0 rfl rfl (Nat.le_of_ble_eq_true rfl) dL_law_1335 h ?_
      rintro _ s7 ⟨r8, rfl, h⟩
      show LGo _ 1338 _ [.int r8] _
      refine LGo.iload F dL_law_1338 rfl (?_ : LGo _ 1340 _ _ _)
      refine LGo.icmp_ne F 1355 dL_law_1340 rfl ⟨fun c9 => ?_, fun c9 => (?_ : LGo _ 1343 _ _ _)⟩
      · have h := h.1 c9
        exact h
      · have h := h.2 c9
        refine LGo.aload_n F 1 dL_law_1343 rfl rfl (?_ : LGo _ 1344 _ _ _)
        refine LGo.iload F dL_law_1344 rfl (?_ : LGo _ 1346 _ _ _)
        refine LGo.iconst F dL_law_1346 k_ic_2 (?_ : LGo _ 1347 _ _ _)
        refine LGo.callV F (as := [.int v10, .int 2]) (st := []) mk_X5_ifTurn wl_L_112 shq_0 rfl rfl (Nat.le_of_ble_eq_true rfl) dL_law_1347 h ?_
        rintro _ s10 ⟨r11, rfl, h⟩
        show LGo _ 1350 _ [.int r11] _
        refine LGo.iload F dL_law_1350 rfl (?_ : LGo _ 1352 _ _ _)
        refine LGo.icmp_eq F 1357 dL_law_1352 rfl ⟨fun c12 => ?_, fun c12 => (?_ : LGo _ 1355 _ _ _)⟩
        · have h := h.1 c12
          refine LGo.drop F (ls' := [.ref 67, .ref 0, .ref 64, .ref 65, .ref 66, .int v5, .int v6, .int v7, .int v8, .int v9, .int v10, .int v11, .null, .int v13, .int v14, .null, .null, .null]) 12 rfl ?_
          refine LGo.drop F (ls' := [.ref 67, .ref 0, .ref 64, .ref 65, .ref 66, .int v5, .int v6, .int v7, .int v8, .int v9, .int v10, .int v11, .null, .null, .int v14, .null, .null, .null]) 13 rfl ?_
          refine LGo.drop F (ls' := [.ref 67, .ref 0, .ref 64, .ref 65, .ref 66, .int v5, .int v6, .int v7, .int v8, .int v9, .int v10, .int v11, .null, .null, .null, .null, .null, .null]) 14 rfl ?_
          exact h
        · have h := h.2 c12
          exact h
  · have h := h.2 c1
    refine LGo.iload F dL_law_1262 rfl (?_ : LGo _ 1264 _ _ _)
    refine LGo.aload_n F 3 dL_law_1264 rfl rfl (?_ : LGo _ 1265 _ _ _)
    refine LGo.aload F dL_law_1265 rfl (?_ : LGo _ 1267 _ _ _)
    refine LGo.aload_n F 3 dL_law_1267 rfl rfl (?_ : LGo _ 1268 _ _ _)
    refine LGo.iconst F dL_law_1268 k_ic_3 (?_ : LGo _ 1269 _ _ _)
    refine LGo.iload F dL_law_1269 rfl (?_ : LGo _ 1271 _ _ _)
    refine LGo.imul F dL_law_1271 (?_ : LGo _ 1272 _ _ _)
    refine LGo.iald F shq_65 dL_law_1272 ⟨h.1, (?_ : LGo _ 1273 _ _ _)⟩
    have h := h.2
    refine LGo.aload_n F 3 dL_law_1273 rfl rfl (?_ : LGo _ 1274 _ _ _)
    refine LGo.iconst F dL_law_1274 k_ic_3 (?_ : LGo _ 1275 _ _ _)
    refine LGo.iload F dL_law_1275 rfl (?_ : LGo _ 1277 _ _ _)
    refine LGo.imul F dL_law_1277 (?_ : LGo _ 1278 _ _ _)
    refine LGo.iconst F dL_law_1278 k_ic_2 (?_ : LGo _ 1279 _ _ _)
    refine LGo.iadd F dL_law_1279 (?_ : LGo _ 1280 _ _ _)
    refine LGo.iald F shq_65 dL_law_1280 ⟨h.1, (?_ : LGo _ 1281 _ _ _)⟩
    have h := h.2
    refine LGo.callS F (as := [.ref 65, .ref 66, .int (sA σ 65 (ix (3 * v14))), .int (sA σ 65 (ix ((3 * v14) + 2)))]) (st := [.int v13]) mk_L_told wl_L_33 rfl rfl (Nat.le_of_ble_eq_true rfl) dL_law_1281 h ?_
    rintro _ s13 ⟨r14, rfl, h⟩
    show LGo _ 1284 _ [.int r14, .int v13] _
    refine LGo.if_le F 1291 dL_law_1284 rfl ⟨fun c15 => ?_, fun c15 => (?_ : LGo _ 1287 _ _ _)⟩
    · have h := h.1 c15
      refine LGo.iconst F dL_law_1291 k_ic_1 (?_ : LGo _ 1292 _ _ _)
      exact h
    · have h := h.2 c15
      refine LGo.iconst F dL_law_1287 k_ic_0 (?_ : LGo _ 1288 _ _ _)
      refine LGo.goto F 1292 dL_law_1288 rfl ?_
      exact h
set_option maxHeartbeats 4000000 in
set_option maxRecDepth 100000 in
theorem sgL_law_1292 {X : LX} {L : Nat} {xs : Nat → Int32} {σ : St} {v5 : Int32} {v6 : Int32} {v7 : Int32} {v8 : Int32} {v9 : Int32} {v10 : Int32} {v11 : Int32} {v12 : Int32} {v13 : Int32} {v14 : Int32} {w0 : Int32} {w1 : Int32} (F : LF X L xs) (h : LGo X 1252 [.ref 67, .ref 0, .ref 64, .ref 65, .ref 66, .int v5, .int v6, .int v7, .int v8, .int v9, .int v10, .int v11, .int v12, .int (w1 + w0), .int (v14 + 1), .null, .null, .null] [] σ) : LGo X 1292 [.ref 67, .ref 0, .ref 64, .ref 65, .ref 66, .int v5, .int v6, .int v7, .int v8, .int v9, .int v10, .int v11, .int v12, .int v13, .int v14, .null, .null, .null] [.int w0, .int w1] σ := by
  refine LGo.iadd F dL_law_1292 (?_ : LGo _ 1293 _ _ _)
  refine LGo.istore F dL_law_1293 (by decide) rfl rfl (?_ : LGo _ 1295 [.ref 67, .ref 0, .ref 64, .ref 65, .ref 66, .int v5, .int v6, .int v7, .int v8, .int v9, .int v10, .int v11, .int v12, .int (w1 + w0), .int v14, .null, .null, .null] _ _)
  refine LGo.iinc F dL_law_1295 rfl (congrArg (fun z => v14 + z) k_ic_1) (by decide) rfl rfl (?_ : LGo _ 1298 [.ref 67, .ref 0, .ref 64, .ref 65, .ref 66, .int v5, .int v6, .int v7, .int v8, .int v9, .int v10, .int v11, .int v12, .int (w1 + w0), .int (v14 + 1), .null, .null, .null] _ _)
  refine LGo.goto F 1252 dL_law_1298 rfl ?_
  exact h
set_option maxHeartbeats 4000000 in
set_option maxRecDepth 100000 in
theorem sgL_law_1355 {X : LX} {L : Nat} {xs : Nat → Int32} {σ : St} {v5 : Int32} {v6 : Int32} {v7 : Int32} {v8 : Int32} {v9 : Int32} {v10 : Int32} {v11 : Int32} {v12 : Int32} {v13 : Int32} {v14 : Int32} (F : LF X L xs) (h : False) : LGo X 1355 [.ref 67, .ref 0, .ref 64, .ref 65, .ref 66, .int v5, .int v6, .int v7, .int v8, .int v9, .int v10, .int v11, .int v12, .int v13, .int v14, .null, .null, .null] [] σ := by
  refine LGo.iconst F dL_law_1355 k_ic_0 (?_ : LGo _ 1356 _ _ _)
  exact h.elim
set_option maxHeartbeats 4000000 in
set_option maxRecDepth 100000 in
theorem sgL_law_1357 {X : LX} {L : Nat} {xs : Nat → Int32} {σ : St} {v5 : Int32} {v6 : Int32} {v7 : Int32} {v8 : Int32} {v9 : Int32} {v10 : Int32} {v11 : Int32} (F : LF X L xs) (h : LGo X 44 [.ref 67, .ref 0, .ref 64, .ref 65, .ref 66, .int (v5 + 1), .null, .null, .null, .null, .null, .null, .null, .null, .null, .null, .null, .null] [] σ) : LGo X 1357 [.ref 67, .ref 0, .ref 64, .ref 65, .ref 66, .int v5, .int v6, .int v7, .int v8, .int v9, .int v10, .int v11, .null, .null, .null, .null, .null, .null] [] σ := by
  refine LGo.iinc F dL_law_1357 rfl (congrArg (fun z => v5 + z) k_ic_1) (by decide) rfl rfl (?_ : LGo _ 1360 [.ref 67, .ref 0, .ref 64, .ref 65, .ref 66, .int (v5 + 1), .int v6, .int v7, .int v8, .int v9, .int v10, .int v11, .null, .null, .null, .null, .null, .null] _ _)
  refine LGo.goto F 44 dL_law_1360 rfl ?_
  refine LGo.drop F (ls' := [.ref 67, .ref 0, .ref 64, .ref 65, .ref 66, .int (v5 + 1), .null, .int v7, .int v8, .int v9, .int v10, .int v11, .null, .null, .null, .null, .null, .null]) 6 rfl ?_
  refine LGo.drop F (ls' := [.ref 67, .ref 0, .ref 64, .ref 65, .ref 66, .int (v5 + 1), .null, .null, .int v8, .int v9, .int v10, .int v11, .null, .null, .null, .null, .null, .null]) 7 rfl ?_
  refine LGo.drop F (ls' := [.ref 67, .ref 0, .ref 64, .ref 65, .ref 66, .int (v5 + 1), .null, .null, .null, .int v9, .int v10, .int v11, .null, .null, .null, .null, .null, .null]) 8 rfl ?_
  refine LGo.drop F (ls' := [.ref 67, .ref 0, .ref 64, .ref 65, .ref 66, .int (v5 + 1), .null, .null, .null, .null, .int v10, .int v11, .null, .null, .null, .null, .null, .null]) 9 rfl ?_
  refine LGo.drop F (ls' := [.ref 67, .ref 0, .ref 64, .ref 65, .ref 66, .int (v5 + 1), .null, .null, .null, .null, .null, .int v11, .null, .null, .null, .null, .null, .null]) 10 rfl ?_
  refine LGo.drop F (ls' := [.ref 67, .ref 0, .ref 64, .ref 65, .ref 66, .int (v5 + 1), .null, .null, .null, .null, .null, .null, .null, .null, .null, .null, .null, .null]) 11 rfl ?_
  exact h
