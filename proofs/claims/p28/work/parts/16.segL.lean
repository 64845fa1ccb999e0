set_option maxHeartbeats 4000000 in
set_option maxRecDepth 100000 in
theorem sgL_low_0 {d : Nat} {σ : St} {x0 : Int32} {x1 : Int32} {K : Int32 → St → Prop} (h : (¬ x1 = 0) ∧ K (irem (x0 &&& 2147483647) x1) σ) : Go mL_low (d + 1) 0 [.int x0, .int x1] [] σ (QI K) := by
  refine Go.iload_n 0 dL_low_0 rfl rfl (?_ : Go _ _ 1 _ _ _ _)
  refine Go.ldc wk_L_9 dL_low_1 (?_ : Go _ _ 3 _ _ _ _)
  refine Go.iand dL_low_3 (?_ : Go _ _ 4 _ _ _ _)
  refine Go.iload_n 1 dL_low_4 rfl rfl (?_ : Go _ _ 5 _ _ _ _)
  refine Go.irem dL_low_5 h.1 (?_ : Go _ _ 6 _ _ _ _)
  have h := h.2
  exact Go.iret rfl dL_low_6 ⟨_, rfl, h⟩
theorem cgL_low {d : Nat} {σ : St} {x0 : Int32} {x1 : Int32} {K : Int32 → St → Prop} (h : (¬ x1 = 0) ∧ K (irem (x0 &&& 2147483647) x1) σ) : CallI (d + 1) mL_low [.int x0, .int x1] σ K := Call_of_Go (by decide +kernel) (ls := [.int x0, .int x1]) rfl (Nat.le_of_ble_eq_true rfl) (sgL_low_0 h)
set_option maxHeartbeats 4000000 in
set_option maxRecDepth 100000 in
theorem sgL_bodies_0 {d : Nat} {σ : St} {K : St → Prop} (h : Go mL_bodies (d + 1) 5 [.ref 64, .ref 65, .ref 66, .int 0, .int 0, .null, .null, .null, .null] [] σ (QU K)) : Go mL_bodies (d + 1) 0 [.ref 64, .ref 65, .ref 66, .null, .null, .null, .null, .null, .null] [] σ (QU K) := by
  refine Go.iconst dL_bodies_0 k_ic_0 (?_ : Go _ _ 1 _ _ _ _)
  refine Go.istore_n 3 dL_bodies_1 rfl (by decide) rfl rfl (?_ : Go _ _ 2 [.ref 64, .ref 65, .ref 66, .int 0, .null, .null, .null, .null, .null] _ _ _)
  refine Go.iconst dL_bodies_2 k_ic_0 (?_ : Go _ _ 3 _ _ _ _)
  refine Go.istore dL_bodies_3 (by decide) rfl rfl (?_ : Go _ _ 5 [.ref 64, .ref 65, .ref 66, .int 0, .int 0, .null, .null, .null, .null] _ _ _)
  exact h
theorem cgL_bodies {d : Nat} {σ : St} {K : St → Prop} (h : Go mL_bodies (d + 1) 5 [.ref 64, .ref 65, .ref 66, .int 0, .int 0, .null, .null, .null, .null] [] σ (QU K)) : CallU (d + 1) mL_bodies [.ref 64, .ref 65, .ref 66] σ K := Call_of_Go (by decide +kernel) (ls := [.ref 64, .ref 65, .ref 66, .null, .null, .null, .null, .null, .null]) rfl (Nat.le_of_ble_eq_true rfl) (sgL_bodies_0 h)
set_option maxHeartbeats 4000000 in
set_option maxRecDepth 100000 in
theorem sgL_bodies_5 {d : Nat} {σ : St} {v3 : Int32} {v4 : Int32} {K : St → Prop} (h : ((sA σ 66 6) ≤ v4 → Go mL_bodies (d + 1) 67 [.ref 64, .ref 65, .ref 66, .int v3, .int 0, .null, .null, .null, .null] [] σ (QU K)) ∧ (¬ (sA σ 66 6) ≤ v4 → vp_in (4 * v4) 24 ∧ vp_in (3 * v3) 63 ∧ ∀ s2, s2 = setA σ 65 (ix (3 * v3)) (sA σ 64 (ix (4 * v4))) → vp_in ((4 * v4) + 1) 24 ∧ vp_in ((3 * v3) + 1) 63 ∧ ∀ s3, s3 = setA s2 65 (ix ((3 * v3) + 1)) (sA s2 64 (ix ((4 * v4) + 1))) → vp_in ((4 * v4) + 2) 24 ∧ vp_in ((3 * v3) + 2) 63 ∧ ∀ s4, s4 = setA s3 65 (ix ((3 * v3) + 2)) (sA s3 64 (ix ((4 * v4) + 2))) → Go mL_bodies (d + 1) 5 [.ref 64, .ref 65, .ref 66, .int (v3 + 1), .int (v4 + 1), .null, .null, .null, .null] [] s4 (QU K))) : Go mL_bodies (d + 1) 5 [.ref 64, .ref 65, .ref 66, .int v3, .int v4, .null, .null, .null, .null] [] σ (QU K) := by
  refine Go.iload dL_bodies_5 rfl (?_ : Go _ _ 7 _ _ _ _)
  refine Go.aload_n 2 dL_bodies_7 rfl rfl (?_ : Go _ _ 8 _ _ _ _)
  refine Go.bipush dL_bodies_8 k_bi_6 (?_ : Go _ _ 10 _ _ _ _)
  refine Go.ialdK ixk_6 vik_6_9 shq_66 dL_bodies_10 (?_ : Go _ _ 11 _ _ _ _)
  refine Go.icmp_ge 64 dL_bodies_11 rfl ⟨fun c1 => ?_, fun c1 => (?_ : Go _ _ 14 _ _ _ _)⟩
  · have h := h.1 c1
    refine Go.iconst dL_bodies_64 k_ic_0 (?_ : Go _ _ 65 _ _ _ _)
    refine Go.istore dL_bodies_65 (by decide) rfl rfl (?_ : Go _ _ 67 [.ref 64, .ref 65, .ref 66, .int v3, .int 0, .null, .null, .null, .null] _ _ _)
    exact h
  · have h := h.2 c1
    refine Go.aload_n 1 dL_bodies_14 rfl rfl (?_ : Go _ _ 15 _ _ _ _)
    refine Go.iconst dL_bodies_15 k_ic_3 (?_ : Go _ _ 16 _ _ _ _)
    refine Go.iload_n 3 dL_bodies_16 rfl rfl (?_ : Go _ _ 17 _ _ _ _)
    refine Go.imul dL_bodies_17 (?_ : Go _ _ 18 _ _ _ _)
    refine Go.aload_n 0 dL_bodies_18 rfl rfl (?_ : Go _ _ 19 _ _ _ _)
    refine Go.iconst dL_bodies_19 k_ic_4 (?_ : Go _ _ 20 _ _ _ _)
    refine Go.iload dL_bodies_20 rfl (?_ : Go _ _ 22 _ _ _ _)
    refine Go.imul dL_bodies_22 (?_ : Go _ _ 23 _ _ _ _)
    refine Go.iald shq_64 dL_bodies_23 ⟨h.1, (?_ : Go _ _ 24 _ _ _ _)⟩
    have h := h.2
    refine Go.iast shq_65 dL_bodies_24 ⟨h.1, (?_ : Go _ _ 25 _ _ _ _)⟩
    generalize es2 : setA σ 65 (ix (3 * v3)) (sA σ 64 (ix (4 * v4))) = s2
    have h := h.2 s2 es2.symm
    refine Go.aload_n 1 dL_bodies_25 rfl rfl (?_ : Go _ _ 26 _ _ _ _)
    refine Go.iconst dL_bodies_26 k_ic_3 (?_ : Go _ _ 27 _ _ _ _)
    refine Go.iload_n 3 dL_bodies_27 rfl rfl (?_ : Go _ _ 28 _ _ _ _)
    refine Go.imul dL_bodies_28 (?_ : Go _ _ 29 _ _ _ _)
    refine Go.iconst dL_bodies_29 k_ic_1 (?_ : Go _ _ 30 _ _ _ _)
    refine Go.iadd dL_bodies_30 (?_ : Go _ _ 31 _ _ _ _)
    refine Go.aload_n 0 dL_bodies_31 rfl rfl (?_ : Go _ _ 32 _ _ _ _)
    refine Go.iconst dL_bodies_32 k_ic_4 (?_ : Go _ _ 33 _ _ _ _)
    refine Go.iload dL_bodies_33 rfl (?_ : Go _ _ 35 _ _ _ _)
    refine Go.imul dL_bodies_35 (?_ : Go _ _ 36 _ _ _ _)
    refine Go.iconst dL_bodies_36 k_ic_1 (?_ : Go _ _ 37 _ _ _ _)
    refine Go.iadd dL_bodies_37 (?_ : Go _ _ 38 _ _ _ _)
    refine Go.iald shq_64 dL_bodies_38 ⟨h.1, (?_ : Go _ _ 39 _ _ _ _)⟩
    have h := h.2
    refine Go.iast shq_65 dL_bodies_39 ⟨h.1, (?_ : Go _ _ 40 _ _ _ _)⟩
    generalize es3 : setA s2 65 (ix ((3 * v3) + 1)) (sA s2 64 (ix ((4 * v4) + 1))) = s3
    have h := h.2 s3 es3.symm
    refine Go.aload_n 1 dL_bodies_40 rfl rfl (?_ : Go _ _ 41 _ _ _ _)
    refine Go.iconst dL_bodies_41 k_ic_3 (?_ : Go _ _ 42 _ _ _ _)
    refine Go.iload_n 3 dL_bodies_42 rfl rfl (?_ : Go _ _ 43 _ _ _ _)
    refine Go.imul dL_bodies_43 (?_ : Go _ _ 44 _ _ _ _)
    refine Go.iconst dL_bodies_44 k_ic_2 (?_ : Go _ _ 45 _ _ _ _)
    refine Go.iadd dL_bodies_45 (?_ : Go _ _ 46 _ _ _ _)
    refine Go.aload_n 0 dL_bodies_46 rfl rfl (?_ : Go _ _ 47 _ _ _ _)
    refine Go.iconst dL_bodies_47 k_ic_4 (?_ : Go _ _ 48 _ _ _ _)
    refine Go.iload dL_bodies_48 rfl (?_ : Go _ _ 50 _ _ _ _)
    refine Go.imul dL_bodies_50 (?_ : Go _ _ 51 _ _ _ _)
    refine Go.iconst dL_bodies_51 k_ic_2 (?_ : Go _ _ 52 _ _ _ _)
    refine Go.iadd dL_bodies_52 (?_ : Go _ _ 53 _ _ _ _)
    refine Go.iald shq_64 dL_bodies_53 ⟨h.1, (?_ : Go _ _ 54 _ _ _ _)⟩
    have h := h.2
    refine Go.iast shq_65 dL_bodies_54 ⟨h.1, (?_ : Go _ _ 55 _ _ _ _)⟩
    generalize es4 : setA s3 65 (ix ((3 * v3) + 2)) (sA s3 64 (ix ((4 * v4) + 2))) = s4
    have h := h.2 s4 es4.symm
    refine Go.iinc dL_bodies_55 rfl (congrArg (fun z => v3 + z) k_ic_1) (by decide) rfl rfl (?_ : Go _ _ 58 [.ref 64, .ref 65, .ref 66, .int (v3 + 1), .int v4, .null, .null, .null, .null] _ _ _)
    refine Go.iinc dL_bodies_58 rfl (congrArg (fun z => v4 + z) k_ic_1) (by decide) rfl rfl (?_ : Go _ _ 61 [.ref 64, .ref 65, .ref 66, .int (v3 + 1), .int (v4 + 1), .null, .null, .null, .null] _ _ _)
    refine Go.goto 5 dL_bodies_61 rfl ?_
    exact h
set_option maxHeartbeats 4000000 in
set_option maxRecDepth 100000 in
theorem sgL_bodies_67 {d : Nat} {σ : St} {v3 : Int32} {v4 : Int32} {K : St → Prop} (h : (36 ≤ v4 → ∀ s2, s2 = setA σ 66 8 v3 → K s2) ∧ (¬ 36 ≤ v4 → ((irem v4 6) ≤ (v4 / 6) → Go mL_bodies (d + 1) 67 [.ref 64, .ref 65, .ref 66, .int v3, .int (v4 + 1), .null, .null, .null, .null] [] σ (QU K)) ∧ (¬ (irem v4 6) ≤ (v4 / 6) → ((sA σ 66 6) ≤ (irem v4 6) → Go mL_bodies (d + 1) 67 [.ref 64, .ref 65, .ref 66, .int v3, .int (v4 + 1), .null, .null, .null, .null] [] σ (QU K)) ∧ (¬ (sA σ 66 6) ≤ (irem v4 6) → vp_in ((4 * (v4 / 6)) + 3) 24 ∧ vp_in ((4 * (irem v4 6)) + 3) 24 ∧ (¬ ((sA σ 64 (ix ((4 * (v4 / 6)) + 3))) + (sA σ 64 (ix ((4 * (irem v4 6)) + 3)))) = 2 → Go mL_bodies (d + 1) 67 [.ref 64, .ref 65, .ref 66, .int v3, .int (v4 + 1), .null, .null, .null, .null] [] σ (QU K)) ∧ (((sA σ 64 (ix ((4 * (v4 / 6)) + 3))) + (sA σ 64 (ix ((4 * (irem v4 6)) + 3)))) = 2 → vp_in ((4 * (v4 / 6)) + 1) 24 ∧ vp_in ((4 * (irem v4 6)) + 1) 24 ∧ (((sA σ 64 (ix ((4 * (v4 / 6)) + 1))) * (sA σ 64 (ix ((4 * (irem v4 6)) + 1)))) < 200 → Go mL_bodies (d + 1) 67 [.ref 64, .ref 65, .ref 66, .int v3, .int (v4 + 1), .null, .null, .null, .null] [] σ (QU K)) ∧ (¬ ((sA σ 64 (ix ((4 * (v4 / 6)) + 1))) * (sA σ 64 (ix ((4 * (irem v4 6)) + 1)))) < 200 → vp_in (4 * (v4 / 6)) 24 ∧ vp_in (4 * (irem v4 6)) 24 ∧ ((sA σ 64 (ix (4 * (irem v4 6)))) ≤ (sA σ 64 (ix (4 * (v4 / 6)))) → vp_in (3 * v3) 63 ∧ ∀ s8, s8 = setA σ 65 (ix (3 * v3)) (((sA σ 64 (ix (4 * (v4 / 6)))) + (sA σ 64 (ix (4 * (v4 / 6))))) - (sA σ 64 (ix (4 * (irem v4 6))))) → vp_in ((4 * (v4 / 6)) + 1) 24 ∧ vp_in ((4 * (irem v4 6)) + 1) 24 ∧ vp_in ((3 * v3) + 1) 63 ∧ ∀ s9, s9 = setA s8 65 (ix ((3 * v3) + 1)) (((sA s8 64 (ix ((4 * (v4 / 6)) + 1))) * (sA s8 64 (ix ((4 * (irem v4 6)) + 1)))) / 200) → vp_in ((3 * v3) + 2) 63 ∧ ∀ s10, s10 = setA s9 65 (ix ((3 * v3) + 2)) 0 → Go mL_bodies (d + 1) 67 [.ref 64, .ref 65, .ref 66, .int (v3 + 1), .int (v4 + 1), .null, .null, .null, .null] [] s10 (QU K)) ∧ (¬ (sA σ 64 (ix (4 * (irem v4 6)))) ≤ (sA σ 64 (ix (4 * (v4 / 6)))) → vp_in (3 * v3) 63 ∧ ∀ s11, s11 = setA σ 65 (ix (3 * v3)) (((sA σ 64 (ix (4 * (irem v4 6)))) + (sA σ 64 (ix (4 * (irem v4 6))))) - (sA σ 64 (ix (4 * (v4 / 6))))) → vp_in ((4 * (v4 / 6)) + 1) 24 ∧ vp_in ((4 * (irem v4 6)) + 1) 24 ∧ vp_in ((3 * v3) + 1) 63 ∧ ∀ s12, s12 = setA s11 65 (ix ((3 * v3) + 1)) (((sA s11 64 (ix ((4 * (v4 / 6)) + 1))) * (sA s11 64 (ix ((4 * (irem v4 6)) + 1)))) / 200) → vp_in ((3 * v3) + 2) 63 ∧ ∀ s13, s13 = setA s12 65 (ix ((3 * v3) + 2)) 0 → Go mL_bodies (d + 1) 67 [.ref 64, .ref 65, .ref 66, .int (v3 + 1), .int (v4 + 1), .null, .null, .null, .null] [] s13 (QU K)))))))) : Go mL_bodies (d + 1) 67 [.ref 64, .ref 65, .ref 66, .int v3, .int v4, .null, .null, .null, .null] [] σ (QU K) := by
  refine Go.iload dL_bodies_67 rfl (?_ : Go _ _ 69 _ _ _ _)
  refine Go.bipush dL_bodies_69 k_bi_36 (?_ : Go _ _ 71 _ _ _ _)
  refine Go.icmp_ge 240 dL_bodies_71 rfl ⟨fun c1 => ?_, fun c1 => (?_ : Go _ _ 74 _ _ _ _)⟩
  · have h := h.1 c1
    refine Go.aload_n 2 dL_bodies_240 rfl rfl (?_ : Go _ _ 241 _ _ _ _)
    refine Go.bipush dL_bodies_241 k_bi_8 (?_ : Go _ _ 243 _ _ _ _)
    refine Go.iload_n 3 dL_bodies_243 rfl rfl (?_ : Go _ _ 244 _ _ _ _)
    refine Go.iastK ixk_8 vik_8_9 shq_66 dL_bodies_244 (?_ : Go _ _ 245 _ _ _ _)
    generalize es2 : setA σ 66 8 v3 = s2
    have h := h s2 es2.symm
    exact Go.vret rfl dL_bodies_245 ⟨rfl, h⟩
  · have h := h.2 c1
    refine Go.iload dL_bodies_74 rfl (?_ : Go _ _ 76 _ _ _ _)
    refine Go.bipush dL_bodies_76 k_bi_6 (?_ : Go _ _ 78 _ _ _ _)
    refine Go.idiv dL_bodies_78 (by decide) (?_ : Go _ _ 79 _ _ _ _)
    refine Go.istore dL_bodies_79 (by decide) rfl rfl (?_ : Go _ _ 81 [.ref 64, .ref 65, .ref 66, .int v3, .int v4, .int (v4 / 6), .null, .null, .null] _ _ _)
    refine Go.iload dL_bodies_81 rfl (?_ : Go _ _ 83 _ _ _ _)
    refine Go.bipush dL_bodies_83 k_bi_6 (?_ : Go _ _ 85 _ _ _ _)
    refine Go.irem dL_bodies_85 (by decide) (?_ : Go _ _ 86 _ _ _ _)
    refine Go.istore dL_bodies_86 (by decide) rfl rfl (?_ : Go _ _ 88 [.ref 64, .ref 65, .ref 66, .int v3, .int v4, .int (v4 / 6), .int (irem v4 6), .null, .null] _ _ _)
    refine Go.iload dL_bodies_88 rfl (?_ : Go _ _ 90 _ _ _ _)
    refine Go.iload dL_bodies_90 rfl (?_ : Go _ _ 92 _ _ _ _)
    refine Go.icmp_ge 234 dL_bodies_92 rfl ⟨fun c3 => ?_, fun c3 => (?_ : Go _ _ 95 _ _ _ _)⟩
    · have h := h.1 c3
      refine Go.iinc dL_bodies_234 rfl (congrArg (fun z => v4 + z) k_ic_1) (by decide) rfl rfl (?_ : Go _ _ 237 [.ref 64, .ref 65, .ref 66, .int v3, .int (v4 + 1), .int (v4 / 6), .int (irem v4 6), .null, .null] _ _ _)
      refine Go.goto 67 dL_bodies_237 rfl ?_
      refine Go.drop (ls' := [.ref 64, .ref 65, .ref 66, .int v3, .int (v4 + 1), .null, .int (irem v4 6), .null, .null]) 5 rfl ?_
      refine Go.drop (ls' := [.ref 64, .ref 65, .ref 66, .int v3, .int (v4 + 1), .null, .null, .null, .null]) 6 rfl ?_
      exact h
    · have h := h.2 c3
      refine Go.iload dL_bodies_95 rfl (?_ : Go _ _ 97 _ _ _ _)
      refine Go.aload_n 2 dL_bodies_97 rfl rfl (?_ : Go _ _ 98 _ _ _ _)
      refine Go.bipush dL_bodies_98 k_bi_6 (?_ : Go _ _ 100 _ _ _ _)
      refine Go.ialdK ixk_6 vik_6_9 shq_66 dL_bodies_100 (?_ : Go _ _ 101 _ _ _ _)
      refine Go.icmp_ge 234 dL_bodies_101 rfl ⟨fun c4 => ?_, fun c4 => (?_ : Go _ _ 104 _ _ _ _)⟩
      · have h := h.1 c4
        refine Go.iinc dL_bodies_234 rfl (congrArg (fun z => v4 + z) k_ic_1) (by decide) rfl rfl (?_ : Go _ _ 237 [.ref 64, .ref 65, .ref 66, .int v3, .int (v4 + 1), .int (v4 / 6), .int (irem v4 6), .null, .null] _ _ _)
        refine Go.goto 67 dL_bodies_237 rfl ?_
        refine Go.drop (ls' := [.ref 64, .ref 65, .ref 66, .int v3, .int (v4 + 1), .null, .int (irem v4 6), .null, .null]) 5 rfl ?_
        refine Go.drop (ls' := [.ref 64, .ref 65, .ref 66, .int v3, .int (v4 + 1), .null, .null, .null, .null]) 6 rfl ?_
        exact h
      · have h := h.2 c4
        refine Go.aload_n 0 dL_bodies_104 rfl rfl (?_ : Go _ _ 105 _ _ _ _)
        refine Go.iconst dL_bodies_105 k_ic_4 (?_ : Go _ _ 106 _ _ _ _)
        refine Go.iload dL_bodies_106 rfl (?_ : Go _ _ 108 _ _ _ _)
        refine Go.imul dL_bodies_108 (?_ : Go _ _ 109 _ _ _ _)
        refine Go.iconst dL_bodies_109 k_ic_3 (?_ : Go _ _ 110 _ _ _ _)
        refine Go.iadd dL_bodies_110 (?_ : Go _ _ 111 _ _ _ _)
        refine Go.iald shq_64 dL_bodies_111 ⟨h.1, (?_ : Go _ _ 112 _ _ _ _)⟩
        have h := h.2
        refine Go.aload_n 0 dL_bodies_112 rfl rfl (?_ : Go _ _ 113 _ _ _ _)
        refine Go.iconst dL_bodies_113 k_ic_4 (?_ : Go _ _ 114 _ _ _ _)
        refine Go.iload dL_bodies_114 rfl (?_ : Go _ _ 116 _ _ _ _)
        refine Go.imul dL_bodies_116 (?_ : Go _ _ 117 _ _ _ _)
        refine Go.iconst dL_bodies_117 k_ic_3 (?_ : Go _ _ 118 _ _ _ _)
        refine Go.iadd dL_bodies_118 (?_ : Go _ _ 119 _ _ _ _)
        refine Go.iald shq_64 dL_bodies_119 ⟨h.1, (?_ : Go _ _ 120 _ _ _ _)⟩
        have h := h.2
        refine Go.iadd dL_bodies_120 (?_ : Go _ _ 121 _ _ _ _)
        refine Go.iconst dL_bodies_121 k_ic_2 (?_ : Go _ _ 122 _ _ _ _)
        refine Go.icmp_ne 234 dL_bodies_122 rfl ⟨fun c5 => ?_, fun c5 => (?_ : Go _ _ 125 _ _ _ _)⟩
        · have h := h.1 c5
          refine Go.iinc dL_bodies_234 rfl (congrArg (fun z => v4 + z) k_ic_1) (by decide) rfl rfl (?_ : Go _ _ 237 [.ref 64, .ref 65, .ref 66, .int v3, .int (v4 + 1), .int (v4 / 6), .int (irem v4 6), .null, .null] _ _ _)
          refine Go.goto 67 dL_bodies_237 rfl ?_
          refine Go.drop (ls' := [.ref 64, .ref 65, .ref 66, .int v3, .int (v4 + 1), .null, .int (irem v4 6), .null, .null]) 5 rfl ?_
          refine Go.drop (ls' := [.ref 64, .ref 65, .ref 66, .int v3, .int (v4 + 1), .null, .null, .null, .null]) 6 rfl ?_
          exact h
        · have h := h.2 c5
          refine Go.aload_n 0 dL_bodies_125 rfl rfl (?_ : Go _ _ 126 _ _ _ _)
          refine Go.iconst dL_bodies_126 k_ic_4 (?_ : Go _ _ 127 _ _ _ _)
          refine Go.iload dL_bodies_127 rfl (?_ : Go _ _ 129 _ _ _ _)
          refine Go.imul dL_bodies_129 (?_ : Go _ _ 130 _ _ _ _)
          refine Go.iconst dL_bodies_130 k_ic_1 (?_ : Go _ _ 131 _ _ _ _)
          refine Go.iadd dL_bodies_131 (?_ : Go _ _ 132 _ _ _ _)
          refine Go.iald shq_64 dL_bodies_132 ⟨h.1, (?_ : Go _ _ 133 _ _ _ _)⟩
          have h := h.2
          refine Go.aload_n 0 dL_bodies_133 rfl rfl (?_ : Go _ _ 134 _ _ _ _)
          refine Go.iconst dL_bodies_134 k_ic_4 (?_ : Go _ _ 135 _ _ _ _)
          refine Go.iload dL_bodies_135 rfl (?_ : Go _ _ 137 _ _ _ _)
          refine Go.imul dL_bodies_137 (?_ : Go _ _ 138 _ _ _ _)
          refine Go.iconst dL_bodies_138 k_ic_1 (?_ : Go _ _ 139 _ _ _ _)
          refine Go.iadd dL_bodies_139 (?_ : Go _ _ 140 _ _ _ _)
          refine Go.iald shq_64 dL_bodies_140 ⟨h.1, (?_ : Go _ _ 141 _ _ _ _)⟩
          have h := h.2
          refine Go.imul dL_bodies_141 (?_ : Go _ _ 142 _ _ _ _)
          refine Go.sipush dL_bodies_142 k_si_200 (?_ : Go _ _ 145 _ _ _ _)
          refine Go.icmp_lt 234 dL_bodies_145 rfl ⟨fun c6 => ?_, fun c6 => (?_ : Go _ _ 148 _ _ _ _)⟩
          · have h := h.1 c6
            refine Go.iinc dL_bodies_234 rfl (congrArg (fun z => v4 + z) k_ic_1) (by decide) rfl rfl (?_ : Go _ _ 237 [.ref 64, .ref 65, .ref 66, .int v3, .int (v4 + 1), .int (v4 / 6), .int (irem v4 6), .null, .null] _ _ _)
            refine Go.goto 67 dL_bodies_237 rfl ?_
            refine Go.drop (ls' := [.ref 64, .ref 65, .ref 66, .int v3, .int (v4 + 1), .null, .int (irem v4 6), .null, .null]) 5 rfl ?_
            refine Go.drop (ls' := [.ref 64, .ref 65, .ref 66, .int v3, .int (v4 + 1), .null, .null, .null, .null]) 6 rfl ?_
            exact h
          · have h := h.2 c6
            refine Go.aload_n 0 dL_bodies_148 rfl rfl (?_ : Go _ _ 149 _ _ _ _)
            refine Go.iconst dL_bodies_149 k_ic_4 (?_ : Go _ _ 150 _ _ _ _)
            refine Go.iload dL_bodies_150 rfl (?_ : Go _ _ 152 _ _ _ _)
            refine Go.imul dL_bodies_152 (?_ : Go _ _ 153 _ _ _ _)
            refine Go.iald shq_64 dL_bodies_153 ⟨h.1, (?_ : Go _ _ 154 _ _ _ _)⟩
            have h := h.2
            refine Go.istore dL_bodies_154 (by decide) rfl rfl (?_ : Go _ _ 156 [.ref 64, .ref 65, .ref 66, .int v3, .int v4, .int (v4 / 6), .int (irem v4 6), .int (sA σ 64 (ix (4 * (v4 / 6)))), .null] _ _ _)
            refine Go.aload_n 0 dL_bodies_156 rfl rfl (?_ : Go _ _ 157 _ _ _ _)
            refine Go.iconst dL_bodies_157 k_ic_4 (?_ : Go _ _ 158 _ _ _ _)
            refine Go.iload dL_bodies_158 rfl (?_ : Go _ _ 160 _ _ _ _)
            refine Go.imul dL_bodies_160 (?_ : Go _ _ 161 _ _ _ _)
            refine Go.iald shq_64 dL_bodies_161 ⟨h.1, (?_ : Go _ _ 162 _ _ _ _)⟩
            have h := h.2
            refine Go.istore dL_bodies_162 (by decide) rfl rfl (?_ : Go _ _ 164 [.ref 64, .ref 65, .ref 66, .int v3, .int v4, .int (v4 / 6), .int (irem v4 6), .int (sA σ 64 (ix (4 * (v4 / 6)))), .int (sA σ 64 (ix (4 * (irem v4 6))))] _ _ _)
            refine Go.aload_n 1 dL_bodies_164 rfl rfl (?_ : Go _ _ 165 _ _ _ _)
            refine Go.iconst dL_bodies_165 k_ic_3 (?_ : Go _ _ 166 _ _ _ _)
            refine Go.iload_n 3 dL_bodies_166 rfl rfl (?_ : Go _ _ 167 _ _ _ _)
            refine Go.imul dL_bodies_167 (?_ : Go _ _ 168 _ _ _ _)
            refine Go.iload dL_bodies_168 rfl (?_ : Go _ _ 170 _ _ _ _)
            refine Go.iload dL_bodies_170 rfl (?_ : Go _ _ 172 _ _ _ _)
            refine Go.icmp_ge 186 dL_bodies_172 rfl ⟨fun c7 => ?_, fun c7 => (?_ : Go _ _ 175 _ _ _ _)⟩
            · have h := h.1 c7
              refine Go.iload dL_bodies_186 rfl (?_ : Go _ _ 188 _ _ _ _)
              refine Go.iload dL_bodies_188 rfl (?_ : Go _ _ 190 _ _ _ _)
              refine Go.iadd dL_bodies_190 (?_ : Go _ _ 191 _ _ _ _)
              refine Go.iload dL_bodies_191 rfl (?_ : Go _ _ 193 _ _ _ _)
              refine Go.isub dL_bodies_193 (?_ : Go _ _ 194 _ _ _ _)
              refine Go.iast shq_65 dL_bodies_194 ⟨h.1, (?_ : Go _ _ 195 _ _ _ _)⟩
              generalize es8 : setA σ 65 (ix (3 * v3)) (((sA σ 64 (ix (4 * (v4 / 6)))) + (sA σ 64 (ix (4 * (v4 / 6))))) - (sA σ 64 (ix (4 * (irem v4 6))))) = s8
              have h := h.2 s8 es8.symm
              refine Go.aload_n 1 dL_bodies_195 rfl rfl (?_ : Go _ _ 196 _ _ _ _)
              refine Go.iconst dL_bodies_196 k_ic_3 (?_ : Go _ _ 197 _ _ _ _)
              refine Go.iload_n 3 dL_bodies_197 rfl rfl (?_ : Go _ _ 198 _ _ _ _)
              refine Go.imul dL_bodies_198 (?_ : Go _ _ 199 _ _ _ _)
              refine Go.iconst dL_bodies_199 k_ic_1 (?_ : Go _ _ 200 _ _ _ _)
              refine Go.iadd dL_bodies_200 (?_ : Go _ _ 201 _ _ _ _)
              refine Go.aload_n 0 dL_bodies_201 rfl rfl (?_ : Go _ _ 202 _ _ _ _)
              refine Go.iconst dL_bodies_202 k_ic_4 (?_ : Go _ _ 203 _ _ _ _)
              refine Go.iload dL_bodies_203 rfl (?_ : Go _ _ 205 _ _ _ _)
              refine Go.imul dL_bodies_205 (?_ : Go _ _ 206 _ _ _ _)
              refine Go.iconst dL_bodies_206 k_ic_1 (?_ : Go _ _ 207 _ _ _ _)
              refine Go.iadd dL_bodies_207 (?_ : Go _ _ 208 _ _ _ _)
              refine Go.iald shq_64 dL_bodies_208 ⟨h.1, (?_ : Go _ _ 209 _ _ _ _)⟩
              have h := h.2
              refine Go.aload_n 0 dL_bodies_209 rfl rfl (?_ : Go _ _ 210 _ _ _ _)
              refine Go.iconst dL_bodies_210 k_ic_4 (?_ : Go _ _ 211 _ _ _ _)
              refine Go.iload dL_bodies_211 rfl (?_ : Go _ _ 213 _ _ _ _)
              refine Go.imul dL_bodies_213 (?_ : Go _ _ 214 _ _ _ _)
              refine Go.iconst dL_bodies_214 k_ic_1 (?_ : Go _ _ 215 _ _ _ _)
              refine Go.iadd dL_bodies_215 (?_ : Go _ _ 216 _ _ _ _)
              refine Go.iald shq_64 dL_bodies_216 ⟨h.1, (?_ : Go _ _ 217 _ _ _ _)⟩
              have h := h.2
              refine Go.imul dL_bodies_217 (?_ : Go _ _ 218 _ _ _ _)
              refine Go.sipush dL_bodies_218 k_si_200 (?_ : Go _ _ 221 _ _ _ _)
              refine Go.idiv dL_bodies_221 (by decide) (?_ : Go _ _ 222 _ _ _ _)
              refine Go.iast shq_65 dL_bodies_222 ⟨h.1, (?_ : Go _ _ 223 _ _ _ _)⟩
              generalize es9 : setA s8 65 (ix ((3 * v3) + 1)) (((sA s8 64 (ix ((4 * (v4 / 6)) + 1))) * (sA s8 64 (ix ((4 * (irem v4 6)) + 1)))) / 200) = s9
              have h := h.2 s9 es9.symm
              refine Go.aload_n 1 dL_bodies_223 rfl rfl (?_ : Go _ _ 224 _ _ _ _)
              refine Go.iconst dL_bodies_224 k_ic_3 (?_ : Go _ _ 225 _ _ _ _)
              refine Go.iload_n 3 dL_bodies_225 rfl rfl (?_ : Go _ _ 226 _ _ _ _)
              refine Go.imul dL_bodies_226 (?_ : Go _ _ 227 _ _ _ _)
              refine Go.iconst dL_bodies_227 k_ic_2 (?_ : Go _ _ 228 _ _ _ _)
              refine Go.iadd dL_bodies_228 (?_ : Go _ _ 229 _ _ _ _)
              refine Go.iconst dL_bodies_229 k_ic_0 (?_ : Go _ _ 230 _ _ _ _)
              refine Go.iast shq_65 dL_bodies_230 ⟨h.1, (?_ : Go _ _ 231 _ _ _ _)⟩
              generalize es10 : setA s9 65 (ix ((3 * v3) + 2)) 0 = s10
              have h := h.2 s10 es10.symm
              refine Go.iinc dL_bodies_231 rfl (congrArg (fun z => v3 + z) k_ic_1) (by decide) rfl rfl (?_ : Go _ _ 234 [.ref 64, .ref 65, .ref 66, .int (v3 + 1), .int v4, .int (v4 / 6), .int (irem v4 6), .int (sA σ 64 (ix (4 * (v4 / 6)))), .int (sA σ 64 (ix (4 * (irem v4 6))))] _ _ _)
              refine Go.iinc dL_bodies_234 rfl (congrArg (fun z => v4 + z) k_ic_1) (by decide) rfl rfl (?_ : Go _ _ 237 [.ref 64, .ref 65, .ref 66, .int (v3 + 1), .int (v4 + 1), .int (v4 / 6), .int (irem v4 6), .int (sA σ 64 (ix (4 * (v4 / 6)))), .int (sA σ 64 (ix (4 * (irem v4 6))))] _ _ _)
              refine Go.goto 67 dL_bodies_237 rfl ?_
              refine Go.drop (ls' := [.ref 64, .ref 65, .ref 66, .int (v3 + 1), .int (v4 + 1), .null, .int (irem v4 6), .int (sA σ 64 (ix (4 * (v4 / 6)))), .int (sA σ 64 (ix (4 * (irem v4 6))))]) 5 rfl ?_
              refine Go.drop (ls' := [.ref 64, .ref 65, .ref 66, .int (v3 + 1), .int (v4 + 1), .null, .null, .int (sA σ 64 (ix (4 * (v4 / 6)))), .int (sA σ 64 (ix (4 * (irem v4 6))))]) 6 rfl ?_
              refine Go.drop (ls' := [.ref 64, .ref 65, .ref 66, .int (v3 + 1), .int (v4 + 1), .null, .null, .null, .int (sA σ 64 (ix (4 * (irem v4 6))))]) 7 rfl ?_
              refine Go.drop (ls' := [.ref 64, .ref 65, .ref 66, .int (v3 + 1), .int (v4 + 1), .null, .null, .null, .null]) 8 rfl ?_
              exact h
            · have h := h.2 c7
              refine Go.iload dL_bodies_175 rfl (?_ : Go _ _ 177 _ _ _ _)
              refine Go.iload dL_bodies_177 rfl (?_ : Go _ _ 179 _ _ _ _)
              refine Go.iadd dL_bodies_179 (?_ : Go _ _ 180 _ _ _ _)
              refine Go.iload dL_bodies_180 rfl (?_ : Go _ _ 182 _ _ _ _)
              refine Go.isub dL_bodies_182 (?_ : Go _ _ 183 _ _ _ _)
              refine Go.goto 194 dL_bodies_183 rfl ?_
              refine Go.iast shq_65 dL_bodies_194 ⟨h.1, (?_ : Go _ _ 195 _ _ _ _)⟩
              generalize es11 : setA σ 65 (ix (3 * v3)) (((sA σ 64 (ix (4 * (irem v4 6)))) + (sA σ 64 (ix (4 * (irem v4 6))))) - (sA σ 64 (ix (4 * (v4 / 6))))) = s11
              have h := h.2 s11 es11.symm
              refine Go.aload_n 1 dL_bodies_195 rfl rfl (?_ : Go _ _ 196 _ _ _ _)
              refine Go.iconst dL_bodies_196 k_ic_3 (?_ : Go _ _ 197 _ _ _ _)
              refine Go.iload_n 3 dL_bodies_197 rfl rfl (?_ : Go _ _ 198 _ _ _ _)
              refine Go.imul dL_bodies_198 (?_ : Go _ _ 199 _ _ _ _)
              refine Go.iconst dL_bodies_199 k_ic_1 (?_ : Go _ _ 200 _ _ _ _)
              refine Go.iadd dL_bodies_200 (?_ : Go _ _ 201 _ _ _ _)
              refine Go.aload_n 0 dL_bodies_201 rfl rfl (?_ : Go _ _ 202 _ _ _ _)
              refine Go.iconst dL_bodies_202 k_ic_4 (?_ : Go _ _ 203 _ _ _ _)
              refine Go.iload dL_bodies_203 rfl (?_ : Go _ _ 205 _ _ _ _)
              refine Go.imul dL_bodies_205 (?_ : Go _ _ 206 _ _ _ _)
              refine Go.iconst dL_bodies_206 k_ic_1 (?_ : Go _ _ 207 _ _ _ _)
              refine Go.iadd dL_bodies_207 (?_ : Go _ _ 208 _ _ _ _)
              refine Go.iald shq_64 dL_bodies_208 ⟨h.1, (?_ : Go _ _ 209 _ _ _ _)⟩
              have h := h.2
              refine Go.aload_n 0 dL_bodies_209 rfl rfl (?_ : Go _ _ 210 _ _ _ _)
              refine Go.iconst dL_bodies_210 k_ic_4 (?_ : Go _ _ 211 _ _ _ _)
              refine Go.iload dL_bodies_211 rfl (?_ : Go _ _ 213 _ _ _ _)
              refine Go.imul dL_bodies_213 (?_ : Go _ _ 214 _ _ _ _)
              refine Go.iconst dL_bodies_214 k_ic_1 (?_ : Go _ _ 215 _ _ _ _)
              refine Go.iadd dL_bodies_215 (?_ : Go _ _ 216 _ _ _ _)
              refine Go.iald shq_64 dL_bodies_216 ⟨h.1, (?_ : Go _ _ 217 _ _ _ _)⟩
              have h := h.2
              refine Go.imul dL_bodies_217 (?_ : Go _ _ 218 _ _ _ _)
              refine Go.sipush dL_bodies_218 k_si_200 (?_ : Go _ _ 221 _ _ _ _)
              refine Go.idiv dL_bodies_221 (by decide) (?_ : Go _ _ 222 _ _ _ _)
              refine Go.iast shq_65 dL_bodies_222 ⟨h.1, (?_ : Go _ _ 223 _ _ _ _)⟩
              generalize es12 : setA s11 65 (ix ((3 * v3) + 1)) (((sA s11 64 (ix ((4 * (v4 / 6)) + 1))) * (sA s11 64 (ix ((4 * (irem v4 6)) + 1)))) / 200) = s12
              have h := h.2 s12 es12.symm
              refine Go.aload_n 1 dL_bodies_223 rfl rfl (?_ : Go _ _ 224 _ _ _ _)
              refine Go.iconst dL_bodies_224 k_ic_3 (?_ : Go _ _ 225 _ _ _ _)
              refine Go.iload_n 3 dL_bodies_225 rfl rfl (?_ : Go _ _ 226 _ _ _ _)
              refine Go.imul dL_bodies_226 (?_ : Go _ _ 227 _ _ _ _)
              refine Go.iconst dL_bodies_227 k_ic_2 (?_ : Go _ _ 228 _ _ _ _)
              refine Go.iadd dL_bodies_228 (?_ : Go _ _ 229 _ _ _ _)
              refine Go.iconst dL_bodies_229 k_ic_0 (?_ : Go _ _ 230 _ _ _ _)
              refine Go.iast shq_65 dL_bodies_230 ⟨h.1, (?_ : Go _ _ 231 _ _ _ _)⟩
              generalize es13 : setA s12 65 (ix ((3 * v3) + 2)) 0 = s13
              have h := h.2 s13 es13.symm
              refine Go.iinc dL_bodies_231 rfl (congrArg (fun z => v3 + z) k_ic_1) (by decide) rfl rfl (?_ : Go _ _ 234 [.ref 64, .ref 65, .ref 66, .int (v3 + 1), .int v4, .int (v4 / 6), .int (irem v4 6), .int (sA σ 64 (ix (4 * (v4 / 6)))), .int (sA σ 64 (ix (4 * (irem v4 6))))] _ _ _)
              refine Go.iinc dL_bodies_234 rfl (congrArg (fun z => v4 + z) k_ic_1) (by decide) rfl rfl (?_ : Go _ _ 237 [.ref 64, .ref 65, .ref 66, .int (v3 + 1), .int (v4 + 1), .int (v4 / 6), .int (irem v4 6), .int (sA σ 64 (ix (4 * (v4 / 6)))), .int (sA σ 64 (ix (4 * (irem v4 6))))] _ _ _)
              refine Go.goto 67 dL_bodies_237 rfl ?_
              refine Go.drop (ls' := [.ref 64, .ref 65, .ref 66, .int (v3 + 1), .int (v4 + 1), .null, .int (irem v4 6), .int (sA σ 64 (ix (4 * (v4 / 6)))), .int (sA σ 64 (ix (4 * (irem v4 6))))]) 5 rfl ?_
              refine Go.drop (ls' := [.ref 64, .ref 65, .ref 66, .int (v3 + 1), .int (v4 + 1), .null, .null, .int (sA σ 64 (ix (4 * (v4 / 6)))), .int (sA σ 64 (ix (4 * (irem v4 6))))]) 6 rfl ?_
              refine Go.drop (ls' := [.ref 64, .ref 65, .ref 66, .int (v3 + 1), .int (v4 + 1), .null, .null, .null, .int (sA σ 64 (ix (4 * (irem v4 6))))]) 7 rfl ?_
              refine Go.drop (ls' := [.ref 64, .ref 65, .ref 66, .int (v3 + 1), .int (v4 + 1), .null, .null, .null, .null]) 8 rfl ?_
              exact h
set_option maxHeartbeats 4000000 in
set_option maxRecDepth 100000 in
theorem sgL_place_0 {d : Nat} {σ : St} {x1 : Int32} {x2 : Int32} {x3 : Int32} {K : Int32 → St → Prop} (h : (0 ≤ (x1 + (x2 * x3)) → vp_in x3 9 ∧ (¬ (sA σ 66 (ix x3)) = 0) ∧ K (irem (x1 + (x2 * x3)) (sA σ 66 (ix x3))) σ) ∧ (¬ 0 ≤ (x1 + (x2 * x3)) → K 0 σ)) : Go mL_place (d + 1) 0 [.ref 66, .int x1, .int x2, .int x3, .null] [] σ (QI K) := by
  refine Go.iload_n 1 dL_place_0 rfl rfl (?_ : Go _ _ 1 _ _ _ _)
  refine Go.iload_n 2 dL_place_1 rfl rfl (?_ : Go _ _ 2 _ _ _ _)
  refine Go.iload_n 3 dL_place_2 rfl rfl (?_ : Go _ _ 3 _ _ _ _)
  refine Go.imul dL_place_3 (?_ : Go _ _ 4 _ _ _ _)
  refine Go.iadd dL_place_4 (?_ : Go _ _ 5 _ _ _ _)
  refine Go.istore dL_place_5 (by decide) rfl rfl (?_ : Go _ _ 7 [.ref 66, .int x1, .int x2, .int x3, .int (x1 + (x2 * x3))] _ _ _)
  refine Go.iload dL_place_7 rfl (?_ : Go _ _ 9 _ _ _ _)
  refine Go.if_ge 16 dL_place_9 rfl ⟨fun c1 => ?_, fun c1 => (?_ : Go _ _ 12 _ _ _ _)⟩
  · have h := h.1 c1
    refine Go.iload dL_place_16 rfl (?_ : Go _ _ 18 _ _ _ _)
    refine Go.aload_n 0 dL_place_18 rfl rfl (?_ : Go _ _ 19 _ _ _ _)
    refine Go.iload_n 3 dL_place_19 rfl rfl (?_ : Go _ _ 20 _ _ _ _)
    refine Go.iald shq_66 dL_place_20 ⟨h.1, (?_ : Go _ _ 21 _ _ _ _)⟩
    have h := h.2
    refine Go.irem dL_place_21 h.1 (?_ : Go _ _ 22 _ _ _ _)
    have h := h.2
    exact Go.iret rfl dL_place_22 ⟨_, rfl, h⟩
  · have h := h.2 c1
    refine Go.iconst dL_place_12 k_ic_0 (?_ : Go _ _ 13 _ _ _ _)
    refine Go.goto 22 dL_place_13 rfl ?_
    exact Go.iret rfl dL_place_22 ⟨_, rfl, h⟩
theorem cgL_place {d : Nat} {σ : St} {x1 : Int32} {x2 : Int32} {x3 : Int32} {K : Int32 → St → Prop} (h : (0 ≤ (x1 + (x2 * x3)) → vp_in x3 9 ∧ (¬ (sA σ 66 (ix x3)) = 0) ∧ K (irem (x1 + (x2 * x3)) (sA σ 66 (ix x3))) σ) ∧ (¬ 0 ≤ (x1 + (x2 * x3)) → K 0 σ)) : CallI (d + 1) mL_place [.ref 66, .int x1, .int x2, .int x3] σ K := Call_of_Go (by decide +kernel) (ls := [.ref 66, .int x1, .int x2, .int x3, .null]) rfl (Nat.le_of_ble_eq_true rfl) (sgL_place_0 h)
set_option maxHeartbeats 4000000 in
set_option maxRecDepth 100000 in
theorem sgL_heard_0 {d : Nat} {σ : St} {x2 : Int32} {x3 : Int32} {x4 : Int32} {x5 : Int32} {K : Int32 → St → Prop} (h : Go mL_heard (d + 1) 6 [.ref 65, .ref 66, .int x2, .int x3, .int x4, .int x5, .int 0, .int 0, .null] [] σ (QI K)) : Go mL_heard (d + 1) 0 [.ref 65, .ref 66, .int x2, .int x3, .int x4, .int x5, .null, .null, .null] [] σ (QI K) := by
  refine Go.iconst dL_heard_0 k_ic_0 (?_ : Go _ _ 1 _ _ _ _)
  refine Go.istore dL_heard_1 (by decide) rfl rfl (?_ : Go _ _ 3 [.ref 65, .ref 66, .int x2, .int x3, .int x4, .int x5, .int 0, .null, .null] _ _ _)
  refine Go.iconst dL_heard_3 k_ic_0 (?_ : Go _ _ 4 _ _ _ _)
  refine Go.istore dL_heard_4 (by decide) rfl rfl (?_ : Go _ _ 6 [.ref 65, .ref 66, .int x2, .int x3, .int x4, .int x5, .int 0, .int 0, .null] _ _ _)
  exact h
theorem cgL_heard {d : Nat} {σ : St} {x2 : Int32} {x3 : Int32} {x4 : Int32} {x5 : Int32} {K : Int32 → St → Prop} (h : Go mL_heard (d + 1) 6 [.ref 65, .ref 66, .int x2, .int x3, .int x4, .int x5, .int 0, .int 0, .null] [] σ (QI K)) : CallI (d + 1) mL_heard [.ref 65, .ref 66, .int x2, .int x3, .int x4, .int x5] σ K := Call_of_Go (by decide +kernel) (ls := [.ref 65, .ref 66, .int x2, .int x3, .int x4, .int x5, .null, .null, .null]) rfl (Nat.le_of_ble_eq_true rfl) (sgL_heard_0 h)
set_option maxHeartbeats 4000000 in
set_option maxRecDepth 100000 in
theorem sgL_heard_6 {d : Nat} {σ : St} {v2 : Int32} {v3 : Int32} {v4 : Int32} {v5 : Int32} {v6 : Int32} {v7 : Int32} {K : Int32 → St → Prop} (h : ((sA σ 66 8) ≤ v7 → K v6 σ) ∧ (¬ (sA σ 66 8) ≤ v7 → (v3 < (sA σ 66 4) → K v6 σ) ∧ (¬ v3 < (sA σ 66 4) → vp_in ((3 * v7) + 2) 63 ∧ (¬ (sA σ 65 (ix ((3 * v7) + 2))) = v4 → Go mL_heard (d + 1) 6 [.ref 65, .ref 66, .int v2, .int v3, .int v4, .int v5, .int (v6 + 0), .int (v7 + 1), .null] [] σ (QI K)) ∧ ((sA σ 65 (ix ((3 * v7) + 2))) = v4 → vp_in ((3 * v7) + 1) 63 ∧ ((sA σ 65 (ix ((3 * v7) + 1))) < (sA σ 66 5) → Go mL_heard (d + 1) 6 [.ref 65, .ref 66, .int v2, .int v3, .int v4, .int v5, .int (v6 + 0), .int (v7 + 1), .null] [] σ (QI K)) ∧ (¬ (sA σ 65 (ix ((3 * v7) + 1))) < (sA σ 66 5) → vp_in (3 * v7) 63 ∧ CallI d mL_place [.ref 66, .int (sA σ 65 (ix (3 * v7))), .int v4, .int v2] σ (fun r6 s5 => (¬ r6 = v3 → Go mL_heard (d + 1) 6 [.ref 65, .ref 66, .int v2, .int v3, .int v4, .int v5, .int (v6 + 0), .int (v7 + 1), .null] [] s5 (QI K)) ∧ (r6 = v3 → (v5 = 0 → vp_in ((3 * v7) + 1) 63 ∧ Go mL_heard (d + 1) 6 [.ref 65, .ref 66, .int v2, .int v3, .int v4, .int v5, .int (v6 + (sA s5 65 (ix ((3 * v7) + 1)))), .int (v7 + 1), .null] [] s5 (QI K)) ∧ (¬ v5 = 0 → Go mL_heard (d + 1) 6 [.ref 65, .ref 66, .int v2, .int v3, .int v4, .int v5, .int (v6 + 1), .int (v7 + 1), .null] [] s5 (QI K))))))))) : Go mL_heard (d + 1) 6 [.ref 65, .ref 66, .int v2, .int v3, .int v4, .int v5, .int v6, .int v7, .null] [] σ (QI K) := by
  refine Go.iload dL_heard_6 rfl (?_ : Go _ _ 8 _ _ _ _)
  refine Go.aload_n 1 dL_heard_8 rfl rfl (?_ : Go _ _ 9 _ _ _ _)
  refine Go.bipush dL_heard_9 k_bi_8 (?_ : Go _ _ 11 _ _ _ _)
  refine Go.ialdK ixk_8 vik_8_9 shq_66 dL_heard_11 (?_ : Go _ _ 12 _ _ _ _)
  refine Go.icmp_ge 110 dL_heard_12 rfl ⟨fun c1 => ?_, fun c1 => (?_ : Go _ _ 15 _ _ _ _)⟩
  · have h := h.1 c1
    refine Go.iload dL_heard_110 rfl (?_ : Go _ _ 112 _ _ _ _)
    exact Go.iret rfl dL_heard_112 ⟨_, rfl, h⟩
  · have h := h.2 c1
    refine Go.iload_n 3 dL_heard_15 rfl rfl (?_ : Go _ _ 16 _ _ _ _)
    refine Go.aload_n 1 dL_heard_16 rfl rfl (?_ : Go _ _ 17 _ _ _ _)
    refine Go.iconst dL_heard_17 k_ic_4 (?_ : Go _ _ 18 _ _ _ _)
    refine Go.ialdK ixk_4 vik_4_9 shq_66 dL_heard_18 (?_ : Go _ _ 19 _ _ _ _)
    refine Go.icmp_lt 110 dL_heard_19 rfl ⟨fun c2 => ?_, fun c2 => (?_ : Go _ _ 22 _ _ _ _)⟩
    · have h := h.1 c2
      refine Go.iload dL_heard_110 rfl (?_ : Go _ _ 112 _ _ _ _)
      exact Go.iret rfl dL_heard_112 ⟨_, rfl, h⟩
    · have h := h.2 c2
      refine Go.aload_n 0 dL_heard_22 rfl rfl (?_ : Go _ _ 23 _ _ _ _)
      refine Go.iconst dL_heard_23 k_ic_3 (?_ : Go _ _ 24 _ _ _ _)
      refine Go.iload dL_heard_24 rfl (?_ : Go _ _ 26 _ _ _ _)
      refine Go.imul dL_heard_26 (?_ : Go _ _ 27 _ _ _ _)
      refine Go.iconst dL_heard_27 k_ic_2 (?_ : Go _ _ 28 _ _ _ _)
      refine Go.iadd dL_heard_28 (?_ : Go _ _ 29 _ _ _ _)
      refine Go.iald shq_65 dL_heard_29 ⟨h.1, (?_ : Go _ _ 30 _ _ _ _)⟩
      have h := h.2
      refine Go.iload dL_heard_30 rfl (?_ : Go _ _ 32 _ _ _ _)
      refine Go.icmp_ne 70 dL_heard_32 rfl ⟨fun c3 => ?_, fun c3 => (?_ : Go _ _ 35 _ _ _ _)⟩
      · have h := h.1 c3
        refine Go.iconst dL_heard_70 k_ic_0 (?_ : Go _ _ 71 _ _ _ _)
        refine Go.istore dL_heard_71 (by decide) rfl rfl (?_ : Go _ _ 73 [.ref 65, .ref 66, .int v2, .int v3, .int v4, .int v5, .int v6, .int v7, .int 0] _ _ _)
        refine Go.iload dL_heard_73 rfl (?_ : Go _ _ 75 _ _ _ _)
        refine Go.iload dL_heard_75 rfl (?_ : Go _ _ 77 _ _ _ _)
        refine Go.if_eq 100 dL_heard_77 rfl ⟨fun _ => ?_, fun c => absurd (by decide) c⟩
        refine Go.iconst dL_heard_100 k_ic_0 (?_ : Go _ _ 101 _ _ _ _)
        refine Go.iadd dL_heard_101 (?_ : Go _ _ 102 _ _ _ _)
        refine Go.istore dL_heard_102 (by decide) rfl rfl (?_ : Go _ _ 104 [.ref 65, .ref 66, .int v2, .int v3, .int v4, .int v5, .int (v6 + 0), .int v7, .int 0] _ _ _)
        refine Go.iinc dL_heard_104 rfl (congrArg (fun z => v7 + z) k_ic_1) (by decide) rfl rfl (?_ : Go _ _ 107 [.ref 65, .ref 66, .int v2, .int v3, .int v4, .int v5, .int (v6 + 0), .int (v7 + 1), .int 0] _ _ _)
        refine Go.goto 6 dL_heard_107 rfl ?_
        refine Go.drop (ls' := [.ref 65, .ref 66, .int v2, .int v3, .int v4, .int v5, .int (v6 + 0), .int (v7 + 1), .null]) 8 rfl ?_
        exact h
      · have h := h.2 c3
        refine Go.aload_n 0 dL_heard_35 rfl rfl (?_ : Go _ _ 36 _ _ _ _)
        refine Go.iconst dL_heard_36 k_ic_3 (?_ : Go _ _ 37 _ _ _ _)
        refine Go.iload dL_heard_37 rfl (?_ : Go _ _ 39 _ _ _ _)
        refine Go.imul dL_heard_39 (?_ : Go _ _ 40 _ _ _ _)
        refine Go.iconst dL_heard_40 k_ic_1 (?_ : Go _ _ 41 _ _ _ _)
        refine Go.iadd dL_heard_41 (?_ : Go _ _ 42 _ _ _ _)
        refine Go.iald shq_65 dL_heard_42 ⟨h.1, (?_ : Go _ _ 43 _ _ _ _)⟩
        have h := h.2
        refine Go.aload_n 1 dL_heard_43 rfl rfl (?_ : Go _ _ 44 _ _ _ _)
        refine Go.iconst dL_heard_44 k_ic_5 (?_ : Go _ _ 45 _ _ _ _)
        refine Go.ialdK ixk_5 vik_5_9 shq_66 dL_heard_45 (?_ : Go _ _ 46 _ _ _ _)
        refine Go.icmp_lt 70 dL_heard_46 rfl ⟨fun c4 => ?_, fun c4 => (?_ : Go _ _ 49 _ _ _ _)⟩
        · have h := h.1 c4
          refine Go.iconst dL_heard_70 k_ic_0 (?_ : Go _ _ 71 _ _ _ _)
          refine Go.istore dL_heard_71 (by decide) rfl rfl (?_ : Go _ _ 73 [.ref 65, .ref 66, .int v2, .int v3, .int v4, .int v5, .int v6, .int v7, .int 0] _ _ _)
          refine Go.iload dL_heard_73 rfl (?_ : Go _ _ 75 _ _ _ _)
          refine Go.iload dL_heard_75 rfl (?_ : Go _ _ 77 _ _ _ _)
          refine Go.if_eq 100 dL_heard_77 rfl ⟨fun _ => ?_, fun c => absurd (by decide) c⟩
          refine Go.iconst dL_heard_100 k_ic_0 (?_ : Go _ _ 101 _ _ _ _)
          refine Go.iadd dL_heard_101 (?_ : Go _ _ 102 _ _ _ _)
          refine Go.istore dL_heard_102 (by decide) rfl rfl (?_ : Go _ _ 104 [.ref 65, .ref 66, .int v2, .int v3, .int v4, .int v5, .int (v6 + 0), .int v7, .int 0] _ _ _)
          refine Go.iinc dL_heard_104 rfl (congrArg (fun z => v7 + z) k_ic_1) (by decide) rfl rfl (?_ : Go _ _ 107 [.ref 65, .ref 66, .int v2, .int v3, .int v4, .int v5, .int (v6 + 0), .int (v7 + 1), .int 0] _ _ _)
          refine Go.goto 6 dL_heard_107 rfl ?_
          refine Go.drop (ls' := [.ref 65, .ref 66, .int v2, .int v3, .int v4, .int v5, .int (v6 + 0), .int (v7 + 1), .null]) 8 rfl ?_
          exact h
        · have h := h.2 c4
          refine Go.aload_n 1 dL_heard_49 rfl rfl (?_ : Go _ _ 50 _ _ _ _)
          refine Go.aload_n 0 dL_heard_50 rfl rfl (?_ : Go _ _ 51 _ _ _ _)
          refine Go.iconst dL_heard_51 k_ic_3 (?_ : Go _ _ 52 _ _ _ _)
          refine Go.iload dL_heard_52 rfl (?_ : Go _ _ 54 _ _ _ _)
          refine Go.imul dL_heard_54 (?_ : Go _ _ 55 _ _ _ _)
          refine Go.iald shq_65 dL_heard_55 ⟨h.1, (?_ : Go _ _ 56 _ _ _ _)⟩
          have h := h.2
          refine Go.iload dL_heard_56 rfl (?_ : Go _ _ 58 _ _ _ _)
          refine Go.iload_n 2 dL_heard_58 rfl rfl (?_ : Go _ _ 59 _ _ _ _)
          refine Go.callS (as := [.ref 66, .int (sA σ 65 (ix (3 * v7))), .int v4, .int v2]) (st := []) mk_L_place wl_L_10 rfl rfl (Nat.le_of_ble_eq_true rfl) dL_heard_59 h ?_
          rintro _ s5 ⟨r6, rfl, h⟩
          show Go _ _ 62 _ [.int r6] _ _
          refine Go.iload_n 3 dL_heard_62 rfl rfl (?_ : Go _ _ 63 _ _ _ _)
          refine Go.icmp_ne 70 dL_heard_63 rfl ⟨fun c7 => ?_, fun c7 => (?_ : Go _ _ 66 _ _ _ _)⟩
          · have h := h.1 c7
            refine Go.iconst dL_heard_70 k_ic_0 (?_ : Go _ _ 71 _ _ _ _)
            refine Go.istore dL_heard_71 (by decide) rfl rfl (?_ : Go _ _ 73 [.ref 65, .ref 66, .int v2, .int v3, .int v4, .int v5, .int v6, .int v7, .int 0] _ _ _)
            refine Go.iload dL_heard_73 rfl (?_ : Go _ _ 75 _ _ _ _)
            refine Go.iload dL_heard_75 rfl (?_ : Go _ _ 77 _ _ _ _)
            refine Go.if_eq 100 dL_heard_77 rfl ⟨fun _ => ?_, fun c => absurd (by decide) c⟩
            refine Go.iconst dL_heard_100 k_ic_0 (?_ : Go _ _ 101 _ _ _ _)
            refine Go.iadd dL_heard_101 (?_ : Go _ _ 102 _ _ _ _)
            refine Go.istore dL_heard_102 (by decide) rfl rfl (?_ : Go _ _ 104 [.ref 65, .ref 66, .int v2, .int v3, .int v4, .int v5, .int (v6 + 0), .int v7, .int 0] _ _ _)
            refine Go.iinc dL_heard_104 rfl (congrArg (fun z => v7 + z) k_ic_1) (by decide) rfl rfl (?_ : Go _ _ 107 [.ref 65, .ref 66, .int v2, .int v3, .int v4, .int v5, .int (v6 + 0), .int (v7 + 1), .int 0] _ _ _)
            refine Go.goto 6 dL_heard_107 rfl ?_
            refine Go.drop (ls' := [.ref 65, .ref 66, .int v2, .int v3, .int v4, .int v5, .int (v6 + 0), .int (v7 + 1), .null]) 8 rfl ?_
            exact h
          · have h := h.2 c7
            refine Go.iconst dL_heard_66 k_ic_1 (?_ : Go _ _ 67 _ _ _ _)
            refine Go.goto 71 dL_heard_67 rfl ?_
            refine Go.istore dL_heard_71 (by decide) rfl rfl (?_ : Go _ _ 73 [.ref 65, .ref 66, .int v2, .int v3, .int v4, .int v5, .int v6, .int v7, .int 1] _ _ _)
            refine Go.iload dL_heard_73 rfl (?_ : Go _ _ 75 _ _ _ _)
            refine Go.iload dL_heard_75 rfl (?_ : Go _ _ 77 _ _ _ _)
            refine Go.if_eq 100 dL_heard_77 rfl ⟨fun c => absurd c (by decide), fun _ => (?_ : Go _ _ 80 _ _ _ _)⟩
            refine Go.iload dL_heard_80 rfl (?_ : Go _ _ 82 _ _ _ _)
            refine Go.if_eq 89 dL_heard_82 rfl ⟨fun c8 => ?_, fun c8 => (?_ : Go _ _ 85 _ _ _ _)⟩
            · have h := h.1 c8
              refine Go.aload_n 0 dL_heard_89 rfl rfl (?_ : Go _ _ 90 _ _ _ _)
              refine Go.iconst dL_heard_90 k_ic_3 (?_ : Go _ _ 91 _ _ _ _)
              refine Go.iload dL_heard_91 rfl (?_ : Go _ _ 93 _ _ _ _)
              refine Go.imul dL_heard_93 (?_ : Go _ _ 94 _ _ _ _)
              refine Go.iconst dL_heard_94 k_ic_1 (?_ : Go _ _ 95 _ _ _ _)
              refine Go.iadd dL_heard_95 (?_ : Go _ _ 96 _ _ _ _)
              refine Go.iald shq_65 dL_heard_96 ⟨h.1, (?_ : Go _ _ 97 _ _ _ _)⟩
              have h := h.2
              refine Go.goto 101 dL_heard_97 rfl ?_
              refine Go.iadd dL_heard_101 (?_ : Go _ _ 102 _ _ _ _)
              refine Go.istore dL_heard_102 (by decide) rfl rfl (?_ : Go _ _ 104 [.ref 65, .ref 66, .int v2, .int v3, .int v4, .int v5, .int (v6 + (sA s5 65 (ix ((3 * v7) + 1)))), .int v7, .int 1] _ _ _)
              refine Go.iinc dL_heard_104 rfl (congrArg (fun z => v7 + z) k_ic_1) (by decide) rfl rfl (?_ : Go _ _ 107 [.ref 65, .ref 66, .int v2, .int v3, .int v4, .int v5, .int (v6 + (sA s5 65 (ix ((3 * v7) + 1)))), .int (v7 + 1), .int 1] _ _ _)
              refine Go.goto 6 dL_heard_107 rfl ?_
              refine Go.drop (ls' := [.ref 65, .ref 66, .int v2, .int v3, .int v4, .int v5, .int (v6 + (sA s5 65 (ix ((3 * v7) + 1)))), .int (v7 + 1), .null]) 8 rfl ?_
              exact h
            · have h := h.2 c8
              refine Go.iconst dL_heard_85 k_ic_1 (?_ : Go _ _ 86 _ _ _ _)
              refine Go.goto 101 dL_heard_86 rfl ?_
              refine Go.iadd dL_heard_101 (?_ : Go _ _ 102 _ _ _ _)
              refine Go.istore dL_heard_102 (by decide) rfl rfl (?_ : Go _ _ 104 [.ref 65, .ref 66, .int v2, .int v3, .int v4, .int v5, .int (v6 + 1), .int v7, .int 1] _ _ _)
              refine Go.iinc dL_heard_104 rfl (congrArg (fun z => v7 + z) k_ic_1) (by decide) rfl rfl (?_ : Go _ _ 107 [.ref 65, .ref 66, .int v2, .int v3, .int v4, .int v5, .int (v6 + 1), .int (v7 + 1), .int 1] _ _ _)
              refine Go.goto 6 dL_heard_107 rfl ?_
              refine Go.drop (ls' := [.ref 65, .ref 66, .int v2, .int v3, .int v4, .int v5, .int (v6 + 1), .int (v7 + 1), .null]) 8 rfl ?_
              exact h
set_option maxHeartbeats 4000000 in
set_option maxRecDepth 100000 in
theorem sgL_fit_0 {d : Nat} {σ : St} {x2 : Int32} {x3 : Int32} {x4 : Int32} {K : Int32 → St → Prop} (h : CallI d mL_place [.ref 66, .int x2, .int x3, .int x4] σ (fun r2 s1 => ((sA s1 66 4) ≤ r2 → CallI d mL_heard [.ref 65, .ref 66, .int x4, .int r2, .int x3, .int 0] s1 (fun r5 s4 => (r5 ≤ 0 → K 0 s4) ∧ (¬ r5 ≤ 0 → K 1 s4))) ∧ (¬ (sA s1 66 4) ≤ r2 → K 2 s1))) : Go mL_fit (d + 1) 0 [.ref 65, .ref 66, .int x2, .int x3, .int x4, .null] [] σ (QI K) := by
  refine Go.aload_n 1 dL_fit_0 rfl rfl (?_ : Go _ _ 1 _ _ _ _)
  refine Go.iload_n 2 dL_fit_1 rfl rfl (?_ : Go _ _ 2 _ _ _ _)
  refine Go.iload_n 3 dL_fit_2 rfl rfl (?_ : Go _ _ 3 _ _ _ _)
  refine Go.iload dL_fit_3 rfl (?_ : Go _ _ 5 _ _ _ _)
  refine Go.callS (as := [.ref 66, .int x2, .int x3, .int x4]) (st := []) mk_L_place wl_L_10 rfl rfl (Nat.le_of_ble_eq_true rfl) dL_fit_5 h ?_
  rintro _ s1 ⟨r2, rfl, h⟩
  show Go _ _ 8 _ [.int r2] _ _
  refine Go.istore dL_fit_8 (by decide) rfl rfl (?_ : Go _ _ 10 [.ref 65, .ref 66, .int x2, .int x3, .int x4, .int r2] _ _ _)
  refine Go.iload dL_fit_10 rfl (?_ : Go _ _ 12 _ _ _ _)
  refine Go.aload_n 1 dL_fit_12 rfl rfl (?_ : Go _ _ 13 _ _ _ _)
  refine Go.iconst dL_fit_13 k_ic_4 (?_ : Go _ _ 14 _ _ _ _)
  refine Go.ialdK ixk_4 vik_4_9 shq_66 dL_fit_14 (?_ : Go _ _ 15 _ _ _ _)
  refine Go.icmp_ge 22 dL_fit_15 rfl ⟨fun c3 => ?_, fun c3 => (?_ : Go _ _ 18 _ _ _ _)⟩
  · have h := h.1 c3
    refine Go.aload_n 0 dL_fit_22 rfl rfl (?_ : Go _ _ 23 _ _ _ _)
    refine Go.aload_n 1 dL_fit_23 rfl rfl (?_ : Go _ _ 24 _ _ _ _)
    refine Go.iload dL_fit_24 rfl (?_ : Go _ _ 26 _ _ _ _)
    refine Go.iload dL_fit_26 rfl (?_ : Go _ _ 28 _ _ _ _)
    refine Go.iload_n 3 dL_fit_28 rfl rfl (?_ : Go _ _ 29 _ _ _ _)
    refine Go.iconst dL_fit_29 k_ic_0 (?_ : Go _ _ 30 _ _ _ _)
    refine Go.callS (as := [.ref 65, .ref 66, .int x4, .int r2, .int x3, .int 0]) (st := []) mk_L_heard wl_L_16 rfl rfl (Nat.le_of_ble_eq_true rfl) dL_fit_30 h ?_
    rintro _ s4 ⟨r5, rfl, h⟩
    show Go _ _ 33 _ [.int r5] _ _
    refine Go.if_le 40 dL_fit_33 rfl ⟨fun c6 => ?_, fun c6 => (?_ : Go _ _ 36 _ _ _ _)⟩
    · have h := h.1 c6
      refine Go.iconst dL_fit_40 k_ic_0 (?_ : Go _ _ 41 _ _ _ _)
      exact Go.iret rfl dL_fit_41 ⟨_, rfl, h⟩
    · have h := h.2 c6
      refine Go.iconst dL_fit_36 k_ic_1 (?_ : Go _ _ 37 _ _ _ _)
      refine Go.goto 41 dL_fit_37 rfl ?_
      exact Go.iret rfl dL_fit_41 ⟨_, rfl, h⟩
  · have h := h.2 c3
    refine Go.iconst dL_fit_18 k_ic_2 (?_ : Go _ _ 19 _ _ _ _)
    refine Go.goto 41 dL_fit_19 rfl ?_
    exact Go.iret rfl dL_fit_41 ⟨_, rfl, h⟩
theorem cgL_fit {d : Nat} {σ : St} {x2 : Int32} {x3 : Int32} {x4 : Int32} {K : Int32 → St → Prop} (h : CallI d mL_place [.ref 66, .int x2, .int x3, .int x4] σ (fun r2 s1 => ((sA s1 66 4) ≤ r2 → CallI d mL_heard [.ref 65, .ref 66, .int x4, .int r2, .int x3, .int 0] s1 (fun r5 s4 => (r5 ≤ 0 → K 0 s4) ∧ (¬ r5 ≤ 0 → K 1 s4))) ∧ (¬ (sA s1 66 4) ≤ r2 → K 2 s1))) : CallI (d + 1) mL_fit [.ref 65, .ref 66, .int x2, .int x3, .int x4] σ K := Call_of_Go (by decide +kernel) (ls := [.ref 65, .ref 66, .int x2, .int x3, .int x4, .null]) rfl (Nat.le_of_ble_eq_true rfl) (sgL_fit_0 h)
set_option maxHeartbeats 4000000 in
set_option maxRecDepth 100000 in
theorem sgL_told_0 {d : Nat} {σ : St} {x2 : Int32} {x3 : Int32} {K : Int32 → St → Prop} (h : Go mL_told (d + 1) 6 [.ref 65, .ref 66, .int x2, .int x3, .int 0, .int 0, .null] [] σ (QI K)) : Go mL_told (d + 1) 0 [.ref 65, .ref 66, .int x2, .int x3, .null, .null, .null] [] σ (QI K) := by
  refine Go.iconst dL_told_0 k_ic_0 (?_ : Go _ _ 1 _ _ _ _)
  refine Go.istore dL_told_1 (by decide) rfl rfl (?_ : Go _ _ 3 [.ref 65, .ref 66, .int x2, .int x3, .int 0, .null, .null] _ _ _)
  refine Go.iconst dL_told_3 k_ic_0 (?_ : Go _ _ 4 _ _ _ _)
  refine Go.istore dL_told_4 (by decide) rfl rfl (?_ : Go _ _ 6 [.ref 65, .ref 66, .int x2, .int x3, .int 0, .int 0, .null] _ _ _)
  exact h
theorem cgL_told {d : Nat} {σ : St} {x2 : Int32} {x3 : Int32} {K : Int32 → St → Prop} (h : Go mL_told (d + 1) 6 [.ref 65, .ref 66, .int x2, .int x3, .int 0, .int 0, .null] [] σ (QI K)) : CallI (d + 1) mL_told [.ref 65, .ref 66, .int x2, .int x3] σ K := Call_of_Go (by decide +kernel) (ls := [.ref 65, .ref 66, .int x2, .int x3, .null, .null, .null]) rfl (Nat.le_of_ble_eq_true rfl) (sgL_told_0 h)
set_option maxHeartbeats 4000000 in
set_option maxRecDepth 100000 in
theorem sgL_told_6 {d : Nat} {σ : St} {v2 : Int32} {v3 : Int32} {v4 : Int32} {v5 : Int32} {K : Int32 → St → Prop} (h : ((sA σ 66 7) ≤ v5 → K v4 σ) ∧ (¬ (sA σ 66 7) ≤ v5 → CallI d mL_fit [.ref 65, .ref 66, .int v2, .int v3, .int v5] σ (fun r3 s2 => (¬ r3 = 0 → (¬ r3 = 1 → Go mL_told (d + 1) 6 [.ref 65, .ref 66, .int v2, .int v3, .int (v4 + 0), .int (v5 + 1), .null] [] s2 (QI K)) ∧ (r3 = 1 → Go mL_told (d + 1) 6 [.ref 65, .ref 66, .int v2, .int v3, .int (v4 + 1), .int (v5 + 1), .null] [] s2 (QI K))) ∧ (r3 = 0 → K 0 s2)))) : Go mL_told (d + 1) 6 [.ref 65, .ref 66, .int v2, .int v3, .int v4, .int v5, .null] [] σ (QI K) := by
  refine Go.iload dL_told_6 rfl (?_ : Go _ _ 8 _ _ _ _)
  refine Go.aload_n 1 dL_told_8 rfl rfl (?_ : Go _ _ 9 _ _ _ _)
  refine Go.bipush dL_told_9 k_bi_7 (?_ : Go _ _ 11 _ _ _ _)
  refine Go.ialdK ixk_7 vik_7_9 shq_66 dL_told_11 (?_ : Go _ _ 12 _ _ _ _)
  refine Go.icmp_ge 55 dL_told_12 rfl ⟨fun c1 => ?_, fun c1 => (?_ : Go _ _ 15 _ _ _ _)⟩
  · have h := h.1 c1
    refine Go.iload dL_told_55 rfl (?_ : Go _ _ 57 _ _ _ _)
    exact Go.iret rfl dL_told_57 ⟨_, rfl, h⟩
  · have h := h.2 c1
    refine Go.aload_n 0 dL_told_15 rfl rfl (?_ : Go _ _ 16 _ _ _ _)
    refine Go.aload_n 1 dL_told_16 rfl rfl (?_ : Go _ _ 17 _ _ _ _)
    refine Go.iload_n 2 dL_told_17 rfl rfl (?_ : Go _ _ 18 _ _ _ _)
    refine Go.iload_n 3 dL_told_18 rfl rfl (?_ : Go _ _ 19 _ _ _ _)
    refine Go.iload dL_told_19 rfl (?_ : Go _ _ 21 _ _ _ _)
    refine Go.callS (as := [.ref 65, .ref 66, .int v2, .int v3, .int v5]) (st := []) mk_L_fit wl_L_20 rfl rfl (Nat.le_of_ble_eq_true rfl) dL_told_21 h ?_
    rintro _ s2 ⟨r3, rfl, h⟩
    show Go _ _ 24 _ [.int r3] _ _
    refine Go.istore dL_told_24 (by decide) rfl rfl (?_ : Go _ _ 26 [.ref 65, .ref 66, .int v2, .int v3, .int v4, .int v5, .int r3] _ _ _)
    refine Go.iload dL_told_26 rfl (?_ : Go _ _ 28 _ _ _ _)
    refine Go.if_ne 33 dL_told_28 rfl ⟨fun c4 => ?_, fun c4 => (?_ : Go _ _ 31 _ _ _ _)⟩
    · have h := h.1 c4
      refine Go.iload dL_told_33 rfl (?_ : Go _ _ 35 _ _ _ _)
      refine Go.iload dL_told_35 rfl (?_ : Go _ _ 37 _ _ _ _)
      refine Go.iconst dL_told_37 k_ic_1 (?_ : Go _ _ 38 _ _ _ _)
      refine Go.icmp_ne 45 dL_told_38 rfl ⟨fun c5 => ?_, fun c5 => (?_ : Go _ _ 41 _ _ _ _)⟩
      · have h := h.1 c5
        refine Go.iconst dL_told_45 k_ic_0 (?_ : Go _ _ 46 _ _ _ _)
        refine Go.iadd dL_told_46 (?_ : Go _ _ 47 _ _ _ _)
        refine Go.istore dL_told_47 (by decide) rfl rfl (?_ : Go _ _ 49 [.ref 65, .ref 66, .int v2, .int v3, .int (v4 + 0), .int v5, .int r3] _ _ _)
        refine Go.iinc dL_told_49 rfl (congrArg (fun z => v5 + z) k_ic_1) (by decide) rfl rfl (?_ : Go _ _ 52 [.ref 65, .ref 66, .int v2, .int v3, .int (v4 + 0), .int (v5 + 1), .int r3] _ _ _)
        refine Go.goto 6 dL_told_52 rfl ?_
        refine Go.drop (ls' := [.ref 65, .ref 66, .int v2, .int v3, .int (v4 + 0), .int (v5 + 1), .null]) 6 rfl ?_
        exact h
      · have h := h.2 c5
        refine Go.iconst dL_told_41 k_ic_1 (?_ : Go _ _ 42 _ _ _ _)
        refine Go.goto 46 dL_told_42 rfl ?_
        refine Go.iadd dL_told_46 (?_ : Go _ _ 47 _ _ _ _)
        refine Go.istore dL_told_47 (by decide) rfl rfl (?_ : Go _ _ 49 [.ref 65, .ref 66, .int v2, .int v3, .int (v4 + 1), .int v5, .int r3] _ _ _)
        refine Go.iinc dL_told_49 rfl (congrArg (fun z => v5 + z) k_ic_1) (by decide) rfl rfl (?_ : Go _ _ 52 [.ref 65, .ref 66, .int v2, .int v3, .int (v4 + 1), .int (v5 + 1), .int r3] _ _ _)
        refine Go.goto 6 dL_told_52 rfl ?_
        refine Go.drop (ls' := [.ref 65, .ref 66, .int v2, .int v3, .int (v4 + 1), .int (v5 + 1), .null]) 6 rfl ?_
        exact h
    · have h := h.2 c4
      refine Go.iconst dL_told_31 k_ic_0 (?_ : Go _ _ 32 _ _ _ _)
      exact Go.iret rfl dL_told_32 ⟨_, rfl, h⟩
set_option maxHeartbeats 4000000 in
set_option maxRecDepth 100000 in
theorem sgL_isTrue_0 {d : Nat} {σ : St} {x2 : Int32} {x3 : Int32} {K : Int32 → St → Prop} (h : Go mL_isTrue (d + 1) 3 [.ref 65, .ref 66, .int x2, .int x3, .int 0] [] σ (QI K)) : Go mL_isTrue (d + 1) 0 [.ref 65, .ref 66, .int x2, .int x3, .null] [] σ (QI K) := by
  refine Go.iconst dL_isTrue_0 k_ic_0 (?_ : Go _ _ 1 _ _ _ _)
  refine Go.istore dL_isTrue_1 (by decide) rfl rfl (?_ : Go _ _ 3 [.ref 65, .ref 66, .int x2, .int x3, .int 0] _ _ _)
  exact h
theorem cgL_isTrue {d : Nat} {σ : St} {x2 : Int32} {x3 : Int32} {K : Int32 → St → Prop} (h : Go mL_isTrue (d + 1) 3 [.ref 65, .ref 66, .int x2, .int x3, .int 0] [] σ (QI K)) : CallI (d + 1) mL_isTrue [.ref 65, .ref 66, .int x2, .int x3] σ K := Call_of_Go (by decide +kernel) (ls := [.ref 65, .ref 66, .int x2, .int x3, .null]) rfl (Nat.le_of_ble_eq_true rfl) (sgL_isTrue_0 h)
set_option maxHeartbeats 4000000 in
set_option maxRecDepth 100000 in
theorem sgL_isTrue_3 {d : Nat} {σ : St} {v2 : Int32} {v3 : Int32} {v4 : Int32} {K : Int32 → St → Prop} (h : ((sA σ 66 8) ≤ v4 → K 0 σ) ∧ (¬ (sA σ 66 8) ≤ v4 → vp_in (3 * v4) 63 ∧ (¬ (sA σ 65 (ix (3 * v4))) = v2 → Go mL_isTrue (d + 1) 3 [.ref 65, .ref 66, .int v2, .int v3, .int (v4 + 1)] [] σ (QI K)) ∧ ((sA σ 65 (ix (3 * v4))) = v2 → vp_in ((3 * v4) + 2) 63 ∧ (¬ (sA σ 65 (ix ((3 * v4) + 2))) = v3 → Go mL_isTrue (d + 1) 3 [.ref 65, .ref 66, .int v2, .int v3, .int (v4 + 1)] [] σ (QI K)) ∧ ((sA σ 65 (ix ((3 * v4) + 2))) = v3 → K 1 σ)))) : Go mL_isTrue (d + 1) 3 [.ref 65, .ref 66, .int v2, .int v3, .int v4] [] σ (QI K) := by
  refine Go.iload dL_isTrue_3 rfl (?_ : Go _ _ 5 _ _ _ _)
  refine Go.aload_n 1 dL_isTrue_5 rfl rfl (?_ : Go _ _ 6 _ _ _ _)
  refine Go.bipush dL_isTrue_6 k_bi_8 (?_ : Go _ _ 8 _ _ _ _)
  refine Go.ialdK ixk_8 vik_8_9 shq_66 dL_isTrue_8 (?_ : Go _ _ 9 _ _ _ _)
  refine Go.icmp_ge 42 dL_isTrue_9 rfl ⟨fun c1 => ?_, fun c1 => (?_ : Go _ _ 12 _ _ _ _)⟩
  · have h := h.1 c1
    refine Go.iconst dL_isTrue_42 k_ic_0 (?_ : Go _ _ 43 _ _ _ _)
    exact Go.zret rfl rfl dL_isTrue_43 ⟨_, rfl, h⟩
  · have h := h.2 c1
    refine Go.aload_n 0 dL_isTrue_12 rfl rfl (?_ : Go _ _ 13 _ _ _ _)
    refine Go.iconst dL_isTrue_13 k_ic_3 (?_ : Go _ _ 14 _ _ _ _)
    refine Go.iload dL_isTrue_14 rfl (?_ : Go _ _ 16 _ _ _ _)
    refine Go.imul dL_isTrue_16 (?_ : Go _ _ 17 _ _ _ _)
    refine Go.iald shq_65 dL_isTrue_17 ⟨h.1, (?_ : Go _ _ 18 _ _ _ _)⟩
    have h := h.2
    refine Go.iload_n 2 dL_isTrue_18 rfl rfl (?_ : Go _ _ 19 _ _ _ _)
    refine Go.icmp_ne 36 dL_isTrue_19 rfl ⟨fun c2 => ?_, fun c2 => (?_ : Go _ _ 22 _ _ _ _)⟩
    · have h := h.1 c2
      refine Go.iinc dL_isTrue_36 rfl (congrArg (fun z => v4 + z) k_ic_1) (by decide) rfl rfl (?_ : Go _ _ 39 [.ref 65, .ref 66, .int v2, .int v3, .int (v4 + 1)] _ _ _)
      refine Go.goto 3 dL_isTrue_39 rfl ?_
      exact h
    · have h := h.2 c2
      refine Go.aload_n 0 dL_isTrue_22 rfl rfl (?_ : Go _ _ 23 _ _ _ _)
      refine Go.iconst dL_isTrue_23 k_ic_3 (?_ : Go _ _ 24 _ _ _ _)
      refine Go.iload dL_isTrue_24 rfl (?_ : Go _ _ 26 _ _ _ _)
      refine Go.imul dL_isTrue_26 (?_ : Go _ _ 27 _ _ _ _)
      refine Go.iconst dL_isTrue_27 k_ic_2 (?_ : Go _ _ 28 _ _ _ _)
      refine Go.iadd dL_isTrue_28 (?_ : Go _ _ 29 _ _ _ _)
      refine Go.iald shq_65 dL_isTrue_29 ⟨h.1, (?_ : Go _ _ 30 _ _ _ _)⟩
      have h := h.2
      refine Go.iload_n 3 dL_isTrue_30 rfl rfl (?_ : Go _ _ 31 _ _ _ _)
      refine Go.icmp_ne 36 dL_isTrue_31 rfl ⟨fun c3 => ?_, fun c3 => (?_ : Go _ _ 34 _ _ _ _)⟩
      · have h := h.1 c3
        refine Go.iinc dL_isTrue_36 rfl (congrArg (fun z => v4 + z) k_ic_1) (by decide) rfl rfl (?_ : Go _ _ 39 [.ref 65, .ref 66, .int v2, .int v3, .int (v4 + 1)] _ _ _)
        refine Go.goto 3 dL_isTrue_39 rfl ?_
        exact h
      · have h := h.2 c3
        refine Go.iconst dL_isTrue_34 k_ic_1 (?_ : Go _ _ 35 _ _ _ _)
        exact Go.zret rfl rfl dL_isTrue_35 ⟨_, rfl, h⟩
set_option maxHeartbeats 4000000 in
set_option maxRecDepth 100000 in
theorem sgL_targets_0 {d : Nat} {σ : St} {K : Int32 → St → Prop} (h : Go mL_targets (d + 1) 17 [.ref 0, .ref 64, .ref 65, .ref 66, .int ((sA σ 66 8) - (sA σ 66 6)), .int 0, .int 0, .null, .null, .null, .null] [] σ (QI K)) : Go mL_targets (d + 1) 0 [.ref 0, .ref 64, .ref 65, .ref 66, .null, .null, .null, .null, .null, .null, .null] [] σ (QI K) := by
  refine Go.aload_n 3 dL_targets_0 rfl rfl (?_ : Go _ _ 1 _ _ _ _)
  refine Go.bipush dL_targets_1 k_bi_8 (?_ : Go _ _ 3 _ _ _ _)
  refine Go.ialdK ixk_8 vik_8_9 shq_66 dL_targets_3 (?_ : Go _ _ 4 _ _ _ _)
  refine Go.aload_n 3 dL_targets_4 rfl rfl (?_ : Go _ _ 5 _ _ _ _)
  refine Go.bipush dL_targets_5 k_bi_6 (?_ : Go _ _ 7 _ _ _ _)
  refine Go.ialdK ixk_6 vik_6_9 shq_66 dL_targets_7 (?_ : Go _ _ 8 _ _ _ _)
  refine Go.isub dL_targets_8 (?_ : Go _ _ 9 _ _ _ _)
  refine Go.istore dL_targets_9 (by decide) rfl rfl (?_ : Go _ _ 11 [.ref 0, .ref 64, .ref 65, .ref 66, .int ((sA σ 66 8) - (sA σ 66 6)), .null, .null, .null, .null, .null, .null] _ _ _)
  refine Go.iconst dL_targets_11 k_ic_0 (?_ : Go _ _ 12 _ _ _ _)
  refine Go.istore dL_targets_12 (by decide) rfl rfl (?_ : Go _ _ 14 [.ref 0, .ref 64, .ref 65, .ref 66, .int ((sA σ 66 8) - (sA σ 66 6)), .int 0, .null, .null, .null, .null, .null] _ _ _)
  refine Go.iconst dL_targets_14 k_ic_0 (?_ : Go _ _ 15 _ _ _ _)
  refine Go.istore dL_targets_15 (by decide) rfl rfl (?_ : Go _ _ 17 [.ref 0, .ref 64, .ref 65, .ref 66, .int ((sA σ 66 8) - (sA σ 66 6)), .int 0, .int 0, .null, .null, .null, .null] _ _ _)
  exact h
theorem cgL_targets {d : Nat} {σ : St} {K : Int32 → St → Prop} (h : Go mL_targets (d + 1) 17 [.ref 0, .ref 64, .ref 65, .ref 66, .int ((sA σ 66 8) - (sA σ 66 6)), .int 0, .int 0, .null, .null, .null, .null] [] σ (QI K)) : CallI (d + 1) mL_targets [.ref 0, .ref 64, .ref 65, .ref 66] σ K := Call_of_Go (by decide +kernel) (ls := [.ref 0, .ref 64, .ref 65, .ref 66, .null, .null, .null, .null, .null, .null, .null]) rfl (Nat.le_of_ble_eq_true rfl) (sgL_targets_0 h)
set_option maxHeartbeats 4000000 in
set_option maxRecDepth 100000 in
theorem sgL_targets_17 {d : Nat} {σ : St} {v4 : Int32} {v5 : Int32} {v6 : Int32} {K : Int32 → St → Prop} (h : ((sA σ 66 6) ≤ v6 → Go mL_targets (d + 1) 311 [.ref 0, .ref 64, .ref 65, .ref 66, .int v4, .int v5, .int (-1), .int 0, .null, .null, .null] [] σ (QI K)) ∧ (¬ (sA σ 66 6) ≤ v6 → vp_in ((4 * v6) + 3) 24 ∧ Go mL_targets (d + 1) 48 [.ref 0, .ref 64, .ref 65, .ref 66, .int v4, .int (v5 + (sA σ 64 (ix ((4 * v6) + 3)))), .int v6, .int 0, .int 0, .int 0, .null] [] σ (QI K))) : Go mL_targets (d + 1) 17 [.ref 0, .ref 64, .ref 65, .ref 66, .int v4, .int v5, .int v6, .null, .null, .null, .null] [] σ (QI K) := by
  refine Go.iload dL_targets_17 rfl (?_ : Go _ _ 19 _ _ _ _)
  refine Go.aload_n 3 dL_targets_19 rfl rfl (?_ : Go _ _ 20 _ _ _ _)
  refine Go.bipush dL_targets_20 k_bi_6 (?_ : Go _ _ 22 _ _ _ _)
  refine Go.ialdK ixk_6 vik_6_9 shq_66 dL_targets_22 (?_ : Go _ _ 23 _ _ _ _)
  refine Go.icmp_ge 305 dL_targets_23 rfl ⟨fun c1 => ?_, fun c1 => (?_ : Go _ _ 26 _ _ _ _)⟩
  · have h := h.1 c1
    refine Go.iconst dL_targets_305 k_ic_m1 (?_ : Go _ _ 306 _ _ _ _)
    refine Go.istore dL_targets_306 (by decide) rfl rfl (?_ : Go _ _ 308 [.ref 0, .ref 64, .ref 65, .ref 66, .int v4, .int v5, .int (-1), .null, .null, .null, .null] _ _ _)
    refine Go.iconst dL_targets_308 k_ic_0 (?_ : Go _ _ 309 _ _ _ _)
    refine Go.istore dL_targets_309 (by decide) rfl rfl (?_ : Go _ _ 311 [.ref 0, .ref 64, .ref 65, .ref 66, .int v4, .int v5, .int (-1), .int 0, .null, .null, .null] _ _ _)
    exact h
  · have h := h.2 c1
    refine Go.iconst dL_targets_26 k_ic_0 (?_ : Go _ _ 27 _ _ _ _)
    refine Go.istore dL_targets_27 (by decide) rfl rfl (?_ : Go _ _ 29 [.ref 0, .ref 64, .ref 65, .ref 66, .int v4, .int v5, .int v6, .int 0, .null, .null, .null] _ _ _)
    refine Go.iconst dL_targets_29 k_ic_0 (?_ : Go _ _ 30 _ _ _ _)
    refine Go.istore dL_targets_30 (by decide) rfl rfl (?_ : Go _ _ 32 [.ref 0, .ref 64, .ref 65, .ref 66, .int v4, .int v5, .int v6, .int 0, .int 0, .null, .null] _ _ _)
    refine Go.iload dL_targets_32 rfl (?_ : Go _ _ 34 _ _ _ _)
    refine Go.aload_n 1 dL_targets_34 rfl rfl (?_ : Go _ _ 35 _ _ _ _)
    refine Go.iconst dL_targets_35 k_ic_4 (?_ : Go _ _ 36 _ _ _ _)
    refine Go.iload dL_targets_36 rfl (?_ : Go _ _ 38 _ _ _ _)
    refine Go.imul dL_targets_38 (?_ : Go _ _ 39 _ _ _ _)
    refine Go.iconst dL_targets_39 k_ic_3 (?_ : Go _ _ 40 _ _ _ _)
    refine Go.iadd dL_targets_40 (?_ : Go _ _ 41 _ _ _ _)
    refine Go.iald shq_64 dL_targets_41 ⟨h.1, (?_ : Go _ _ 42 _ _ _ _)⟩
    have h := h.2
    refine Go.iadd dL_targets_42 (?_ : Go _ _ 43 _ _ _ _)
    refine Go.istore dL_targets_43 (by decide) rfl rfl (?_ : Go _ _ 45 [.ref 0, .ref 64, .ref 65, .ref 66, .int v4, .int (v5 + (sA σ 64 (ix ((4 * v6) + 3)))), .int v6, .int 0, .int 0, .null, .null] _ _ _)
    refine Go.iconst dL_targets_45 k_ic_0 (?_ : Go _ _ 46 _ _ _ _)
    refine Go.istore dL_targets_46 (by decide) rfl rfl (?_ : Go _ _ 48 [.ref 0, .ref 64, .ref 65, .ref 66, .int v4, .int (v5 + (sA σ 64 (ix ((4 * v6) + 3)))), .int v6, .int 0, .int 0, .int 0, .null] _ _ _)
    exact h
set_option maxHeartbeats 4000000 in
set_option maxRecDepth 100000 in
theorem sgL_targets_48 {d : Nat} {σ : St} {v4 : Int32} {v5 : Int32} {v6 : Int32} {v7 : Int32} {v8 : Int32} {v9 : Int32} {K : Int32 → St → Prop} (h : ((sA σ 66 7) ≤ v9 → Go mL_targets (d + 1) 116 [.ref 0, .ref 64, .ref 65, .ref 66, .int v4, .int v5, .int v6, .int v7, .int v8, .int 0, .null] [] σ (QI K)) ∧ (¬ (sA σ 66 7) ≤ v9 → vp_in ((4 * v6) + 1) 24 ∧ ((sA σ 64 (ix ((4 * v6) + 1))) < (sA σ 66 5) → Go mL_targets (d + 1) 48 [.ref 0, .ref 64, .ref 65, .ref 66, .int v4, .int v5, .int v6, .int (v7 + 0), .int v8, .int (v9 + 1), .null] [] σ (QI K)) ∧ (¬ (sA σ 64 (ix ((4 * v6) + 1))) < (sA σ 66 5) → vp_in (4 * v6) 24 ∧ vp_in ((4 * v6) + 2) 24 ∧ CallI d mL_place [.ref 66, .int (sA σ 64 (ix (4 * v6))), .int (sA σ 64 (ix ((4 * v6) + 2))), .int v9] σ (fun r4 s3 => ((sA s3 66 4) ≤ r4 → Go mL_targets (d + 1) 48 [.ref 0, .ref 64, .ref 65, .ref 66, .int v4, .int v5, .int v6, .int (v7 + 0), .int v8, .int (v9 + 1), .null] [] s3 (QI K)) ∧ (¬ (sA s3 66 4) ≤ r4 → Go mL_targets (d + 1) 48 [.ref 0, .ref 64, .ref 65, .ref 66, .int v4, .int v5, .int v6, .int (v7 + 1), .int v8, .int (v9 + 1), .null] [] s3 (QI K)))))) : Go mL_targets (d + 1) 48 [.ref 0, .ref 64, .ref 65, .ref 66, .int v4, .int v5, .int v6, .int v7, .int v8, .int v9, .null] [] σ (QI K) := by
  refine Go.iload dL_targets_48 rfl (?_ : Go _ _ 50 _ _ _ _)
  refine Go.aload_n 3 dL_targets_50 rfl rfl (?_ : Go _ _ 51 _ _ _ _)
  refine Go.bipush dL_targets_51 k_bi_7 (?_ : Go _ _ 53 _ _ _ _)
  refine Go.ialdK ixk_7 vik_7_9 shq_66 dL_targets_53 (?_ : Go _ _ 54 _ _ _ _)
  refine Go.icmp_ge 113 dL_targets_54 rfl ⟨fun c1 => ?_, fun c1 => (?_ : Go _ _ 57 _ _ _ _)⟩
  · have h := h.1 c1
    refine Go.iconst dL_targets_113 k_ic_0 (?_ : Go _ _ 114 _ _ _ _)
    refine Go.istore dL_targets_114 (by decide) rfl rfl (?_ : Go _ _ 116 [.ref 0, .ref 64, .ref 65, .ref 66, .int v4, .int v5, .int v6, .int v7, .int v8, .int 0, .null] _ _ _)
    exact h
  · have h := h.2 c1
    refine Go.iload dL_targets_57 rfl (?_ : Go _ _ 59 _ _ _ _)
    refine Go.aload_n 1 dL_targets_59 rfl rfl (?_ : Go _ _ 60 _ _ _ _)
    refine Go.iconst dL_targets_60 k_ic_4 (?_ : Go _ _ 61 _ _ _ _)
    refine Go.iload dL_targets_61 rfl (?_ : Go _ _ 63 _ _ _ _)
    refine Go.imul dL_targets_63 (?_ : Go _ _ 64 _ _ _ _)
    refine Go.iconst dL_targets_64 k_ic_1 (?_ : Go _ _ 65 _ _ _ _)
    refine Go.iadd dL_targets_65 (?_ : Go _ _ 66 _ _ _ _)
    refine Go.iald shq_64 dL_targets_66 ⟨h.1, (?_ : Go _ _ 67 _ _ _ _)⟩
    have h := h.2
    refine Go.aload_n 3 dL_targets_67 rfl rfl (?_ : Go _ _ 68 _ _ _ _)
    refine Go.iconst dL_targets_68 k_ic_5 (?_ : Go _ _ 69 _ _ _ _)
    refine Go.ialdK ixk_5 vik_5_9 shq_66 dL_targets_69 (?_ : Go _ _ 70 _ _ _ _)
    refine Go.icmp_lt 103 dL_targets_70 rfl ⟨fun c2 => ?_, fun c2 => (?_ : Go _ _ 73 _ _ _ _)⟩
    · have h := h.1 c2
      refine Go.iconst dL_targets_103 k_ic_0 (?_ : Go _ _ 104 _ _ _ _)
      refine Go.iadd dL_targets_104 (?_ : Go _ _ 105 _ _ _ _)
      refine Go.istore dL_targets_105 (by decide) rfl rfl (?_ : Go _ _ 107 [.ref 0, .ref 64, .ref 65, .ref 66, .int v4, .int v5, .int v6, .int (v7 + 0), .int v8, .int v9, .null] _ _ _)
      refine Go.iinc dL_targets_107 rfl (congrArg (fun z => v9 + z) k_ic_1) (by decide) rfl rfl (?_ : Go _ _ 110 [.ref 0, .ref 64, .ref 65, .ref 66, .int v4, .int v5, .int v6, .int (v7 + 0), .int v8, .int (v9 + 1), .null] _ _ _)
      refine Go.goto 48 dL_targets_110 rfl ?_
      exact h
    · have h := h.2 c2
      refine Go.aload_n 3 dL_targets_73 rfl rfl (?_ : Go _ _ 74 _ _ _ _)
      refine Go.aload_n 1 dL_targets_74 rfl rfl (?_ : Go _ _ 75 _ _ _ _)
      refine Go.iconst dL_targets_75 k_ic_4 (?_ : Go _ _ 76 _ _ _ _)
      refine Go.iload dL_targets_76 rfl (?_ : Go _ _ 78 _ _ _ _)
      refine Go.imul dL_targets_78 (?_ : Go _ _ 79 _ _ _ _)
      refine Go.iald shq_64 dL_targets_79 ⟨h.1, (?_ : Go _ _ 80 _ _ _ _)⟩
      have h := h.2
      refine Go.aload_n 1 dL_targets_80 rfl rfl (?_ : Go _ _ 81 _ _ _ _)
      refine Go.iconst dL_targets_81 k_ic_4 (?_ : Go _ _ 82 _ _ _ _)
      refine Go.iload dL_targets_82 rfl (?_ : Go _ _ 84 _ _ _ _)
      refine Go.imul dL_targets_84 (?_ : Go _ _ 85 _ _ _ _)
      refine Go.iconst dL_targets_85 k_ic_2 (?_ : Go _ _ 86 _ _ _ _)
      refine Go.iadd dL_targets_86 (?_ : Go _ _ 87 _ _ _ _)
      refine Go.iald shq_64 dL_targets_87 ⟨h.1, (?_ : Go _ _ 88 _ _ _ _)⟩
      have h := h.2
      refine Go.iload dL_targets_88 rfl (?_ : Go _ _ 90 _ _ _ _)
      refine Go.callS (as := [.ref 66, .int (sA σ 64 (ix (4 * v6))), .int (sA σ 64 (ix ((4 * v6) + 2))), .int v9]) (st := [.int v7]) mk_L_place wl_L_10 rfl rfl (Nat.le_of_ble_eq_true rfl) dL_targets_90 h ?_
      rintro _ s3 ⟨r4, rfl, h⟩
      show Go _ _ 93 _ [.int r4, .int v7] _ _
      refine Go.aload_n 3 dL_targets_93 rfl rfl (?_ : Go _ _ 94 _ _ _ _)
      refine Go.iconst dL_targets_94 k_ic_4 (?_ : Go _ _ 95 _ _ _ _)
      refine Go.ialdK ixk_4 vik_4_9 shq_66 dL_targets_95 (?_ : Go _ _ 96 _ _ _ _)
      refine Go.icmp_ge 103 dL_targets_96 rfl ⟨fun c5 => ?_, fun c5 => (?_ : Go _ _ 99 _ _ _ _)⟩
      · have h := h.1 c5
        refine Go.iconst dL_targets_103 k_ic_0 (?_ : Go _ _ 104 _ _ _ _)
        refine Go.iadd dL_targets_104 (?_ : Go _ _ 105 _ _ _ _)
        refine Go.istore dL_targets_105 (by decide) rfl rfl (?_ : Go _ _ 107 [.ref 0, .ref 64, .ref 65, .ref 66, .int v4, .int v5, .int v6, .int (v7 + 0), .int v8, .int v9, .null] _ _ _)
        refine Go.iinc dL_targets_107 rfl (congrArg (fun z => v9 + z) k_ic_1) (by decide) rfl rfl (?_ : Go _ _ 110 [.ref 0, .ref 64, .ref 65, .ref 66, .int v4, .int v5, .int v6, .int (v7 + 0), .int v8, .int (v9 + 1), .null] _ _ _)
        refine Go.goto 48 dL_targets_110 rfl ?_
        exact h
      · have h := h.2 c5
        refine Go.iconst dL_targets_99 k_ic_1 (?_ : Go _ _ 100 _ _ _ _)
        refine Go.goto 104 dL_targets_100 rfl ?_
        refine Go.iadd dL_targets_104 (?_ : Go _ _ 105 _ _ _ _)
        refine Go.istore dL_targets_105 (by decide) rfl rfl (?_ : Go _ _ 107 [.ref 0, .ref 64, .ref 65, .ref 66, .int v4, .int v5, .int v6, .int (v7 + 1), .int v8, .int v9, .null] _ _ _)
        refine Go.iinc dL_targets_107 rfl (congrArg (fun z => v9 + z) k_ic_1) (by decide) rfl rfl (?_ : Go _ _ 110 [.ref 0, .ref 64, .ref 65, .ref 66, .int v4, .int v5, .int v6, .int (v7 + 1), .int v8, .int (v9 + 1), .null] _ _ _)
        refine Go.goto 48 dL_targets_110 rfl ?_
        exact h
set_option maxHeartbeats 4000000 in
set_option maxRecDepth 100000 in
theorem sgL_targets_116 {d : Nat} {σ : St} {v4 : Int32} {v5 : Int32} {v6 : Int32} {v7 : Int32} {v8 : Int32} {v9 : Int32} {K : Int32 → St → Prop} (h : (v4 ≤ v9 → CallI d mX5_targetOf [.ref 0, .int v6, .int 0] σ (fun r3 s2 => vp_in (4 * v6) 24 ∧ (¬ r3 = (sA s2 64 (ix (4 * v6))) → K 0 s2) ∧ (r3 = (sA s2 64 (ix (4 * v6))) → CallI d mX5_targetOf [.ref 0, .int v6, .int 1] s2 (fun r6 s5 => vp_in ((4 * v6) + 1) 24 ∧ (¬ r6 = (sA s5 64 (ix ((4 * v6) + 1))) → K 0 s5) ∧ (r6 = (sA s5 64 (ix ((4 * v6) + 1))) → CallI d mX5_targetOf [.ref 0, .int v6, .int 2] s5 (fun r9 s8 => vp_in ((4 * v6) + 2) 24 ∧ (¬ r9 = ((sA s8 64 (ix ((4 * v6) + 2))) + 5) → K 0 s8) ∧ (r9 = ((sA s8 64 (ix ((4 * v6) + 2))) + 5) → CallI d mX5_targetOf [.ref 0, .int v6, .int 3] s8 (fun r12 s11 => vp_in ((4 * v6) + 3) 24 ∧ (¬ r12 = (sA s11 64 (ix ((4 * v6) + 3))) → K 0 s11) ∧ (r12 = (sA s11 64 (ix ((4 * v6) + 3))) → CallI d mX5_targetOf [.ref 0, .int v6, .int 4] s11 (fun r15 s14 => vp_in (4 * v6) 24 ∧ vp_in ((4 * v6) + 2) 24 ∧ CallI d mL_told [.ref 65, .ref 66, .int (sA s14 64 (ix (4 * v6))), .int (sA s14 64 (ix ((4 * v6) + 2)))] s14 (fun r17 s16 => (r17 ≤ 0 → (¬ r15 = 0 → K 0 s16) ∧ (r15 = 0 → CallI d mX5_targetOf [.ref 0, .int v6, .int 5] s16 (fun r21 s20 => (¬ r21 = v7 → K 0 s20) ∧ (r21 = v7 → CallI d mX5_targetOf [.ref 0, .int v6, .int 6] s20 (fun r24 s23 => (r24 = v8 → Go mL_targets (d + 1) 17 [.ref 0, .ref 64, .ref 65, .ref 66, .int v4, .int v5, .int (v6 + 1), .null, .null, .null, .null] [] s23 (QI K)) ∧ (¬ r24 = v8 → K 0 s23)))))) ∧ (¬ r17 ≤ 0 → (¬ r15 = 1 → K 0 s16) ∧ (r15 = 1 → CallI d mX5_targetOf [.ref 0, .int v6, .int 5] s16 (fun r28 s27 => (¬ r28 = v7 → K 0 s27) ∧ (r28 = v7 → CallI d mX5_targetOf [.ref 0, .int v6, .int 6] s27 (fun r31 s30 => (r31 = v8 → Go mL_targets (d + 1) 17 [.ref 0, .ref 64, .ref 65, .ref 66, .int v4, .int v5, .int (v6 + 1), .null, .null, .null, .null] [] s30 (QI K)) ∧ (¬ r31 = v8 → K 0 s30))))))))))))))))) ∧ (¬ v4 ≤ v9 → CallI d mX5_ghost [.ref 0, .int v9, .int 2] σ (fun r34 s33 => (r34 = v6 → Go mL_targets (d + 1) 116 [.ref 0, .ref 64, .ref 65, .ref 66, .int v4, .int v5, .int v6, .int v7, .int (v8 + 1), .int (v9 + 1), .null] [] s33 (QI K)) ∧ (¬ r34 = v6 → CallI d mX5_ghost [.ref 0, .int v9, .int 3] s33 (fun r37 s36 => (¬ r37 = v6 → Go mL_targets (d + 1) 116 [.ref 0, .ref 64, .ref 65, .ref 66, .int v4, .int v5, .int v6, .int v7, .int (v8 + 0), .int (v9 + 1), .null] [] s36 (QI K)) ∧ (r37 = v6 → Go mL_targets (d + 1) 116 [.ref 0, .ref 64, .ref 65, .ref 66, .int v4, .int v5, .int v6, .int v7, .int (v8 + 1), .int (v9 + 1), .null] [] s36 (QI K))))))) : Go mL_targets (d + 1) 116 [.ref 0, .ref 64, .ref 65, .ref 66, .int v4, .int v5, .int v6, .int v7, .int v8, .int v9, .null] [] σ (QI K) := by
  refine Go.iload dL_targets_116 rfl (?_ : Go _ _ 118 _ _ _ _)
  refine Go.iload dL_targets_118 rfl (?_ : Go _ _ 120 _ _ _ _)
  refine Go.icmp_ge 163 dL_targets_120 rfl ⟨fun c1 => ?_, fun c1 => (?_ : Go _ _ 123 _ _ _ _)⟩
  · have h := h.1 c1
    refine Go.aload_n 0 dL_targets_163 rfl rfl (?_ : Go _ _ 164 _ _ _ _)
    refine Go.iload dL_targets_164 rfl (?_ : Go _ _ 166 _ _ _ _)
    refine Go.iconst dL_targets_166 k_ic_0 (?_ : Go _ _ 167 _ _ _ _)
    refine Go.callV (as := [.int v6, .int 0]) (st := []) mk_X5_targetOf wl_L_30 shq_0 rfl rfl (Nat.le_of_ble_eq_true rfl) dL_targets_167 h ?_
    rintro _ s2 ⟨r3, rfl, h⟩
    show Go _ _ 170 _ [.int r3] _ _
    refine Go.aload_n 1 dL_targets_170 rfl rfl (?_ : Go _ _ 171 _ _ _ _)
    refine Go.iconst dL_targets_171 k_ic_4 (?_ : Go _ _ 172 _ _ _ _)
    refine Go.iload dL_targets_172 rfl (?_ : Go _ _ 174 _ _ _ _)
    refine Go.imul dL_targets_174 (?_ : Go _ _ 175 _ _ _ _)
    refine Go.iald shq_64 dL_targets_175 ⟨h.1, (?_ : Go _ _ 176 _ _ _ _)⟩
    have h := h.2
    refine Go.icmp_ne 297 dL_targets_176 rfl ⟨fun c4 => ?_, fun c4 => (?_ : Go _ _ 179 _ _ _ _)⟩
    · have h := h.1 c4
      refine Go.iconst dL_targets_297 k_ic_0 (?_ : Go _ _ 298 _ _ _ _)
      exact Go.zret rfl rfl dL_targets_298 ⟨_, rfl, h⟩
    · have h := h.2 c4
      refine Go.aload_n 0 dL_targets_179 rfl rfl (?_ : Go _ _ 180 _ _ _ _)
      refine Go.iload dL_targets_180 rfl (?_ : Go _ _ 182 _ _ _ _)
      refine Go.iconst dL_targets_182 k_ic_1 (?_ : Go _ _ 183 _ _ _ _)
      refine Go.callV (as := [.int v6, .int 1]) (st := []) mk_X5_targetOf wl_L_30 shq_0 rfl rfl (Nat.le_of_ble_eq_true rfl) dL_targets_183 h ?_
      rintro _ s5 ⟨r6, rfl, h⟩
      show Go _ _ 186 _ [.int r6] _ _
      refine Go.aload_n 1 dL_targets_186 rfl rfl (?_ : Go _ _ 187 _ _ _ _)
      refine Go.iconst dL_targets_187 k_ic_4 (?_ : Go _ _ 188 _ _ _ _)
      refine Go.iload dL_targets_188 rfl (?_ : Go _ _ 190 _ _ _ _)
      refine Go.imul dL_targets_190 (?_ : Go _ _ 191 _ _ _ _)
      refine Go.iconst dL_targets_191 k_ic_1 (?_ : Go _ _ 192 _ _ _ _)
      refine Go.iadd dL_targets_192 (?_ : Go _ _ 193 _ _ _ _)
      refine Go.iald shq_64 dL_targets_193 ⟨h.1, (?_ : Go _ _ 194 _ _ _ _)⟩
      have h := h.2
      refine Go.icmp_ne 297 dL_targets_194 rfl ⟨fun c7 => ?_, fun c7 => (?_ : Go _ _ 197 _ _ _ _)⟩
      · have h := h.1 c7
        refine Go.iconst dL_targets_297 k_ic_0 (?_ : Go _ _ 298 _ _ _ _)
        exact Go.zret rfl rfl dL_targets_298 ⟨_, rfl, h⟩
      · have h := h.2 c7
        refine Go.aload_n 0 dL_targets_197 rfl rfl (?_ : Go _ _ 198 _ _ _ _)
        refine Go.iload dL_targets_198 rfl (?_ : Go _ _ 200 _ _ _ _)
        refine Go.iconst dL_targets_200 k_ic_2 (?_ : Go _ _ 201 _ _ _ _)
        refine Go.callV (as := [.int v6, .int 2]) (st := []) mk_X5_targetOf wl_L_30 shq_0 rfl rfl (Nat.le_of_ble_eq_true rfl) dL_targets_201 h ?_
        rintro _ s8 ⟨r9, rfl, h⟩
        show Go _ _ 204 _ [.int r9] _ _
        refine Go.aload_n 1 dL_targets_204 rfl rfl (?_ : Go _ _ 205 _ _ _ _)
        refine Go.iconst dL_targets_205 k_ic_4 (?_ : Go _ _ 206 _ _ _ _)
        refine Go.iload dL_targets_206 rfl (?_ : Go _ _ 208 _ _ _ _)
        refine Go.imul dL_targets_208 (?_ : Go _ _ 209 _ _ _ _)
        refine Go.iconst dL_targets_209 k_ic_2 (?_ : Go _ _ 210 _ _ _ _)
        refine Go.iadd dL_targets_210 (?_ : Go _ _ 211 _ _ _ _)
        refine Go.iald shq_64 dL_targets_211 ⟨h.1, (?_ : Go _ _ 212 _ _ _ _)⟩
        have h := h.2
        refine Go.iconst dL_targets_212 k_ic_5 (?_ : Go _ _ 213 _ _ _ _)
        refine Go.iadd dL_targets_213 (?_ : Go _ _ 214 _ _ _ _)
        refine Go.icmp_ne 297 dL_targets_214 rfl ⟨fun c10 => ?_, fun c10 => (?_ : Go _ _ 217 _ _ _ _)⟩
        · have h := h.1 c10
          refine Go.iconst dL_targets_297 k_ic_0 (?_ : Go _ _ 298 _ _ _ _)
          exact Go.zret rfl rfl dL_targets_298 ⟨_, rfl, h⟩
        · have h := h.2 c10
          refine Go.aload_n 0 dL_targets_217 rfl rfl (?_ : Go _ _ 218 _ _ _ _)
          refine Go.iload dL_targets_218 rfl (?_ : Go _ _ 220 _ _ _ _)
          refine Go.iconst dL_targets_220 k_ic_3 (?_ : Go _ _ 221 _ _ _ _)
          refine Go.callV (as := [.int v6, .int 3]) (st := []) mk_X5_targetOf wl_L_30 shq_0 rfl rfl (Nat.le_of_ble_eq_true rfl) dL_targets_221 h ?_
          rintro _ s11 ⟨r12, rfl, h⟩
          show Go _ _ 224 _ [.int r12] _ _
          refine Go.aload_n 1 dL_targets_224 rfl rfl (?_ : Go _ _ 225 _ _ _ _)
          refine Go.iconst dL_targets_225 k_ic_4 (?_ : Go _ _ 226 _ _ _ _)
          refine Go.iload dL_targets_226 rfl (?_ : Go _ _ 228 _ _ _ _)
          refine Go.imul dL_targets_228 (?_ : Go _ _ 229 _ _ _ _)
          refine Go.iconst dL_targets_229 k_ic_3 (?_ : Go _ _ 230 _ _ _ _)
          refine Go.iadd dL_targets_230 (?_ : Go _ _ 231 _ _ _ _)
          refine Go.iald shq_64 dL_targets_231 ⟨h.1, (?_ : Go _ _ 232 _ _ _ _)⟩
          have h := h.2
          refine Go.icmp_ne 297 dL_targets_232 rfl ⟨fun c13 => ?_, fun c13 => (?_ : Go _ _ 235 _ _ _ _)⟩
          · have h := h.1 c13
            refine Go.iconst dL_targets_297 k_ic_0 (?_ : Go _ _ 298 _ _ _ _)
            exact Go.zret rfl rfl dL_targets_298 ⟨_, rfl, h⟩
          · have h := h.2 c13
            refine Go.aload_n 0 dL_targets_235 rfl rfl (?_ : Go _ _ 236 _ _ _ _)
            refine Go.iload dL_targets_236 rfl (?_ : Go _ _ 238 _ _ _ _)
            refine Go.iconst dL_targets_238 k_ic_4 (?_ : Go _ _ 239 _ _ _ _)
            refine Go.callV (as := [.int v6, .int 4]) (st := []) mk_X5_targetOf wl_L_30 shq_0 rfl rfl (Nat.le_of_ble_eq_true rfl) dL_targets_239 h ?_
            rintro _ s14 ⟨r15, rfl, h⟩
            show Go _ _ 242 _ [.int r15] _ _
            refine Go.aload_n 2 dL_targets_242 rfl rfl (?_ : Go _ _ 243 _ _ _ _)
            refine Go.aload_n 3 dL_targets_243 rfl rfl (?_ : Go _ _ 244 _ _ _ _)
            refine Go.aload_n 1 dL_targets_244 rfl rfl (?_ : Go _ _ 245 _ _ _ _)
            refine Go.iconst dL_targets_245 k_ic_4 (?_ : Go _ _ 246 _ _ _ _)
            refine Go.iload dL_targets_246 rfl (?_ : Go _ _ 248 _ _ _ _)
            refine Go.imul dL_targets_248 (?_ : Go _ _ 249 _ _ _ _)
            refine Go.iald shq_64 dL_targets_249 ⟨h.1, (?_ : Go _ _ 250 _ _ _ _)⟩
            have h := h.2
            refine Go.aload_n 1 dL_targets_250 rfl rfl (?_ : Go _ _ 251 _ _ _ _)
            refine Go.iconst dL_targets_251 k_ic_4 (?_ : Go _ _ 252 _ _ _ _)
            refine Go.iload dL_targets_252 rfl (?_ : Go _ _ 254 _ _ _ _)
            refine Go.imul dL_targets_254 (?_ : Go _ _ 255 _ _ _ _)
            refine Go.iconst dL_targets_255 k_ic_2 (?_ : Go _ _ 256 _ _ _ _)
            refine Go.iadd dL_targets_256 (?_ : Go _ _ 257 _ _ _ _)
            refine Go.iald shq_64 dL_targets_257 ⟨h.1, (?_ : Go _ _ 258 _ _ _ _)⟩
            have h := h.2
            refine Go.callS (as := [.ref 65, .ref 66, .int (sA s14 64 (ix (4 * v6))), .int (sA s14 64 (ix ((4 * v6) + 2)))]) (st := [.int r15]) mk_L_told wl_L_33 rfl rfl (Nat.le_of_ble_eq_true rfl) dL_targets_258 h ?_
            rintro _ s16 ⟨r17, rfl, h⟩
            show Go _ _ 261 _ [.int r17, .int r15] _ _
            refine Go.if_le 268 dL_targets_261 rfl ⟨fun c18 => ?_, fun c18 => (?_ : Go _ _ 264 _ _ _ _)⟩
            · have h := h.1 c18
              refine Go.iconst dL_targets_268 k_ic_0 (?_ : Go _ _ 269 _ _ _ _)
              refine Go.icmp_ne 297 dL_targets_269 rfl ⟨fun c19 => ?_, fun c19 => (?_ : Go _ _ 272 _ _ _ _)⟩
              · have h := h.1 c19
                refine Go.iconst dL_targets_297 k_ic_0 (?_ : Go _ _ 298 _ _ _ _)
                exact Go.zret rfl rfl dL_targets_298 ⟨_, rfl, h⟩
              · have h := h.2 c19
                refine Go.aload_n 0 dL_targets_272 rfl rfl (?_ : Go _ _ 273 _ _ _ _)
                refine Go.iload dL_targets_273 rfl (?_ : Go _ _ 275 _ _ _ _)
                refine Go.iconst dL_targets_275 k_ic_5 (?_ : Go _ _ 276 _ _ _ _)
                refine Go.callV (as := [.int v6, .int 5]) (st := []) mk_X5_targetOf wl_L_30 shq_0 rfl rfl (Nat.le_of_ble_eq_true rfl) dL_targets_276 h ?_
                rintro _ s20 ⟨r21, rfl, h⟩
                show Go _ _ 279 _ [.int r21] _ _
                refine Go.iload dL_targets_279 rfl (?_ : Go _ _ 281 _ _ _ _)
                refine Go.icmp_ne 297 dL_targets_281 rfl ⟨fun c22 => ?_, fun c22 => (?_ : Go _ _ 284 _ _ _ _)⟩
                · have h := h.1 c22
                  refine Go.iconst dL_targets_297 k_ic_0 (?_ : Go _ _ 298 _ _ _ _)
                  exact Go.zret rfl rfl dL_targets_298 ⟨_, rfl, h⟩
                · have h := h.2 c22
                  refine Go.aload_n 0 dL_targets_284 rfl rfl (?_ : Go _ _ 285 _ _ _ _)
                  refine Go.iload dL_targets_285 rfl (?_ : Go _ _ 287 _ _ _ _)
                  refine Go.bipush dL_targets_287 k_bi_6 (?_ : Go _ _ 289 _ _ _ _)
                  refine Go.callV (as := [.int v6, .int 6]) (st := []) mk_X5_targetOf wl_L_30 shq_0 rfl rfl (Nat.le_of_ble_eq_true rfl) dL_targets_289 h ?_
                  rintro _ s23 ⟨r24, rfl, h⟩
                  show Go _ _ 292 _ [.int r24] _ _
                  refine Go.iload dL_targets_292 rfl (?_ : Go _ _ 294 _ _ _ _)
                  refine Go.icmp_eq 299 dL_targets_294 rfl ⟨fun c25 => ?_, fun c25 => (?_ : Go _ _ 297 _ _ _ _)⟩
                  · have h := h.1 c25
                    refine Go.iinc dL_targets_299 rfl (congrArg (fun z => v6 + z) k_ic_1) (by decide) rfl rfl (?_ : Go _ _ 302 [.ref 0, .ref 64, .ref 65, .ref 66, .int v4, .int v5, .int (v6 + 1), .int v7, .int v8, .int v9, .null] _ _ _)
                    refine Go.goto 17 dL_targets_302 rfl ?_
                    refine Go.drop (ls' := [.ref 0, .ref 64, .ref 65, .ref 66, .int v4, .int v5, .int (v6 + 1), .null, .int v8, .int v9, .null]) 7 rfl ?_
                    refine Go.drop (ls' := [.ref 0, .ref 64, .ref 65, .ref 66, .int v4, .int v5, .int (v6 + 1), .null, .null, .int v9, .null]) 8 rfl ?_
                    refine Go.drop (ls' := [.ref 0, .ref 64, .ref 65, .ref 66, .int v4, .int v5, .int (v6 + 1), .null, .null, .null, .null]) 9 rfl ?_
                    exact h
                  · have h := h.2 c25
                    refine Go.iconst dL_targets_297 k_ic_0 (?_ : Go _ _ 298 _ _ _ _)
                    exact Go.zret rfl rfl dL_targets_298 ⟨_, rfl, h⟩
            · have h := h.2 c18
              refine Go.iconst dL_targets_264 k_ic_1 (?_ : Go _ _ 265 _ _ _ _)
              refine Go.goto 269 dL_targets_265 rfl ?_
              refine Go.icmp_ne 297 dL_targets_269 rfl ⟨fun c26 => ?_, fun c26 => (?_ : Go _ _ 272 _ _ _ _)⟩
              · have h := h.1 c26
                refine Go.iconst dL_targets_297 k_ic_0 (?_ : Go _ _ 298 _ _ _ _)
                exact Go.zret rfl rfl dL_targets_298 ⟨_, rfl, h⟩
              · have h := h.2 c26
                refine Go.aload_n 0 dL_targets_272 rfl rfl (?_ : Go _ _ 273 _ _ _ _)
                refine Go.iload dL_targets_273 rfl (?_ : Go _ _ 275 _ _ _ _)
                refine Go.iconst dL_targets_275 k_ic_5 (?_ : Go _ _ 276 _ _ _ _)
                refine Go.callV (as := [.int v6, .int 5]) (st := []) mk_X5_targetOf wl_L_30 shq_0 rfl rfl (Nat.le_of_ble_eq_true rfl) dL_targets_276 h ?_
                rintro _ s27 ⟨r28, rfl, h⟩
                show Go _ _ 279 _ [.int r28] _ _
                refine Go.iload dL_targets_279 rfl (?_ : Go _ _ 281 _ _ _ _)
                refine Go.icmp_ne 297 dL_targets_281 rfl ⟨fun c29 => ?_, fun c29 => (?_ : Go _ _ 284 _ _ _ _)⟩
                · have h := h.1 c29
                  refine Go.iconst dL_targets_297 k_ic_0 (?_ : Go _ _ 298 _ _ _ _)
                  exact Go.zret rfl rfl dL_targets_298 ⟨_, rfl, h⟩
                · have h := h.2 c29
                  refine Go.aload_n 0 dL_targets_284 rfl rfl (?_ : Go _ _ 285 _ _ _ _)
                  refine Go.iload dL_targets_285 rfl (?_ : Go _ _ 287 _ _ _ _)
                  refine Go.bipush dL_targets_287 k_bi_6 (?_ : Go _ _ 289 _ _ _ _)
                  refine Go.callV (as := [.int v6, .int 6]) (st := []) mk_X5_targetOf wl_L_30 shq_0 rfl rfl (Nat.le_of_ble_eq_true rfl) dL_targets_289 h ?_
                  rintro _ s30 ⟨r31, rfl, h⟩
                  show Go _ _ 292 _ [.int r31] _ _
                  refine Go.iload dL_targets_292 rfl (?_ : Go _ _ 294 _ _ _ _)
                  refine Go.icmp_eq 299 dL_targets_294 rfl ⟨fun c32 => ?_, fun c32 => (?_ : Go _ _ 297 _ _ _ _)⟩
                  · have h := h.1 c32
                    refine Go.iinc dL_targets_299 rfl (congrArg (fun z => v6 + z) k_ic_1) (by decide) rfl rfl (?_ : Go _ _ 302 [.ref 0, .ref 64, .ref 65, .ref 66, .int v4, .int v5, .int (v6 + 1), .int v7, .int v8, .int v9, .null] _ _ _)
                    refine Go.goto 17 dL_targets_302 rfl ?_
                    refine Go.drop (ls' := [.ref 0, .ref 64, .ref 65, .ref 66, .int v4, .int v5, .int (v6 + 1), .null, .int v8, .int v9, .null]) 7 rfl ?_
                    refine Go.drop (ls' := [.ref 0, .ref 64, .ref 65, .ref 66, .int v4, .int v5, .int (v6 + 1), .null, .null, .int v9, .null]) 8 rfl ?_
                    refine Go.drop (ls' := [.ref 0, .ref 64, .ref 65, .ref 66, .int v4, .int v5, .int (v6 + 1), .null, .null, .null, .null]) 9 rfl ?_
                    exact h
                  · have h := h.2 c32
                    refine Go.iconst dL_targets_297 k_ic_0 (?_ : Go _ _ 298 _ _ _ _)
                    exact Go.zret rfl rfl dL_targets_298 ⟨_, rfl, h⟩
  · have h := h.2 c1
    refine Go.iload dL_targets_123 rfl (?_ : Go _ _ 125 _ _ _ _)
    refine Go.aload_n 0 dL_targets_125 rfl rfl (?_ : Go _ _ 126 _ _ _ _)
    refine Go.iload dL_targets_126 rfl (?_ : Go _ _ 128 _ _ _ _)
    refine Go.iconst dL_targets_128 k_ic_2 (?_ : Go _ _ 129 _ _ _ _)
    refine Go.callV (as := [.int v9, .int 2]) (st := [.int v8]) mk_X5_ghost wl_L_24 shq_0 rfl rfl (Nat.le_of_ble_eq_true rfl) dL_targets_129 h ?_
    rintro _ s33 ⟨r34, rfl, h⟩
    show Go _ _ 132 _ [.int r34, .int v8] _ _
    refine Go.iload dL_targets_132 rfl (?_ : Go _ _ 134 _ _ _ _)
    refine Go.icmp_eq 149 dL_targets_134 rfl ⟨fun c35 => ?_, fun c35 => (?_ : Go _ _ 137 _ _ _ _)⟩
    · have h := h.1 c35
      refine Go.iconst dL_targets_149 k_ic_1 (?_ : Go _ _ 150 _ _ _ _)
      refine Go.goto 154 dL_targets_150 rfl ?_
      refine Go.iadd dL_targets_154 (?_ : Go _ _ 155 _ _ _ _)
      refine Go.istore dL_targets_155 (by decide) rfl rfl (?_ : Go _ _ 157 [.ref 0, .ref 64, .ref 65, .ref 66, .int v4, .int v5, .int v6, .int v7, .int (v8 + 1), .int v9, .null] _ _ _)
      refine Go.iinc dL_targets_157 rfl (congrArg (fun z => v9 + z) k_ic_1) (by decide) rfl rfl (?_ : Go _ _ 160 [.ref 0, .ref 64, .ref 65, .ref 66, .int v4, .int v5, .int v6, .int v7, .int (v8 + 1), .int (v9 + 1), .null] _ _ _)
      refine Go.goto 116 dL_targets_160 rfl ?_
      exact h
    · have h := h.2 c35
      refine Go.aload_n 0 dL_targets_137 rfl rfl (?_ : Go _ _ 138 _ _ _ _)
      refine Go.iload dL_targets_138 rfl (?_ : Go _ _ 140 _ _ _ _)
      refine Go.iconst dL_targets_140 k_ic_3 (?_ : Go _ _ 141 _ _ _ _)
      refine Go.callV (as := [.int v9, .int 3]) (st := [.int v8]) mk_X5_ghost wl_L_24 shq_0 rfl rfl (Nat.le_of_ble_eq_true rfl) dL_targets_141 h ?_
      rintro _ s36 ⟨r37, rfl, h⟩
      show Go _ _ 144 _ [.int r37, .int v8] _ _
      refine Go.iload dL_targets_144 rfl (?_ : Go _ _ 146 _ _ _ _)
      refine Go.icmp_ne 153 dL_targets_146 rfl ⟨fun c38 => ?_, fun c38 => (?_ : Go _ _ 149 _ _ _ _)⟩
      · have h := h.1 c38
        refine Go.iconst dL_targets_153 k_ic_0 (?_ : Go _ _ 154 _ _ _ _)
        refine Go.iadd dL_targets_154 (?_ : Go _ _ 155 _ _ _ _)
        refine Go.istore dL_targets_155 (by decide) rfl rfl (?_ : Go _ _ 157 [.ref 0, .ref 64, .ref 65, .ref 66, .int v4, .int v5, .int v6, .int v7, .int (v8 + 0), .int v9, .null] _ _ _)
        refine Go.iinc dL_targets_157 rfl (congrArg (fun z => v9 + z) k_ic_1) (by decide) rfl rfl (?_ : Go _ _ 160 [.ref 0, .ref 64, .ref 65, .ref 66, .int v4, .int v5, .int v6, .int v7, .int (v8 + 0), .int (v9 + 1), .null] _ _ _)
        refine Go.goto 116 dL_targets_160 rfl ?_
        exact h
      · have h := h.2 c38
        refine Go.iconst dL_targets_149 k_ic_1 (?_ : Go _ _ 150 _ _ _ _)
        refine Go.goto 154 dL_targets_150 rfl ?_
        refine Go.iadd dL_targets_154 (?_ : Go _ _ 155 _ _ _ _)
        refine Go.istore dL_targets_155 (by decide) rfl rfl (?_ : Go _ _ 157 [.ref 0, .ref 64, .ref 65, .ref 66, .int v4, .int v5, .int v6, .int v7, .int (v8 + 1), .int v9, .null] _ _ _)
        refine Go.iinc dL_targets_157 rfl (congrArg (fun z => v9 + z) k_ic_1) (by decide) rfl rfl (?_ : Go _ _ 160 [.ref 0, .ref 64, .ref 65, .ref 66, .int v4, .int v5, .int v6, .int v7, .int (v8 + 1), .int (v9 + 1), .null] _ _ _)
        refine Go.goto 116 dL_targets_160 rfl ?_
        exact h
set_option maxHeartbeats 4000000 in
set_option maxRecDepth 100000 in
theorem sgL_targets_311 {d : Nat} {σ : St} {v4 : Int32} {v5 : Int32} {v6 : Int32} {v7 : Int32} {K : Int32 → St → Prop} (h : (v4 ≤ v7 → CallI d mX5_ghost [.ref 0, .int v4, .int 0] σ (fun r3 s2 => (¬ r3 = (-4) → K 0 s2) ∧ (r3 = (-4) → CallI d mX5_count [.ref 0, .int 0] s2 (fun r6 s5 => (¬ r6 = (sA s5 66 6) → K 0 s5) ∧ (r6 = (sA s5 66 6) → CallI d mX5_count [.ref 0, .int 1] s5 (fun r9 s8 => (¬ r9 = v5 → K 0 s8) ∧ (r9 = v5 → CallI d mX5_count [.ref 0, .int 2] s8 (fun r12 s11 => (¬ r12 = v4 → K 0 s11) ∧ (r12 = v4 → CallI d mX5_count [.ref 0, .int 3] s11 (fun r15 s14 => (¬ r15 = (sA s14 66 7) → K 0 s14) ∧ (r15 = (sA s14 66 7) → CallI d mX5_count [.ref 0, .int 14] s14 (fun r18 s17 => (¬ r18 = (sA s17 66 4) → K 0 s17) ∧ (r18 = (sA s17 66 4) → CallI d mX5_count [.ref 0, .int 15] s17 (fun r21 s20 => (¬ r21 = (sA s20 66 5) → K 0 s20) ∧ (r21 = (sA s20 66 5) → CallI d mX5_targetOf [.ref 0, .int (sA s20 66 6), .int 0] s20 (fun r24 s23 => (¬ r24 = (-1) → K 0 s23) ∧ (r24 = (-1) → K 1 s23))))))))))))))))) ∧ (¬ v4 ≤ v7 → CallI d mX5_ghost [.ref 0, .int v7, .int 2] σ (fun r27 s26 => CallI d mX5_ghost [.ref 0, .int v7, .int 3] s26 (fun r29 s28 => (r27 < 0 → K 0 s28) ∧ (¬ r27 < 0 → ((sA s28 66 6) ≤ r29 → K 0 s28) ∧ (¬ (sA s28 66 6) ≤ r29 → (r29 ≤ r27 → K 0 s28) ∧ (¬ r29 ≤ r27 → (((6 * r27) + r29) ≤ v6 → K 0 s28) ∧ (¬ ((6 * r27) + r29) ≤ v6 → vp_in ((4 * r27) + 3) 24 ∧ vp_in ((4 * r29) + 3) 24 ∧ (¬ ((sA s28 64 (ix ((4 * r27) + 3))) + (sA s28 64 (ix ((4 * r29) + 3)))) = 2 → K 0 s28) ∧ (((sA s28 64 (ix ((4 * r27) + 3))) + (sA s28 64 (ix ((4 * r29) + 3)))) = 2 → CallI d mX5_ghost [.ref 0, .int v7, .int 0] s28 (fun r36 s35 => vp_in (3 * ((sA σ 66 6) + v7)) 63 ∧ (¬ r36 = (sA s35 65 (ix (3 * ((sA σ 66 6) + v7)))) → K 0 s35) ∧ (r36 = (sA s35 65 (ix (3 * ((sA σ 66 6) + v7)))) → CallI d mX5_ghost [.ref 0, .int v7, .int 1] s35 (fun r39 s38 => vp_in ((3 * ((sA σ 66 6) + v7)) + 1) 63 ∧ (¬ r39 = (sA s38 65 (ix ((3 * ((sA σ 66 6) + v7)) + 1))) → K 0 s38) ∧ (r39 = (sA s38 65 (ix ((3 * ((sA σ 66 6) + v7)) + 1))) → CallI d mX5_ghost [.ref 0, .int v7, .int 4] s38 (fun r42 s41 => vp_in (3 * ((sA σ 66 6) + v7)) 63 ∧ CallI d mL_told [.ref 65, .ref 66, .int (sA s41 65 (ix (3 * ((sA σ 66 6) + v7)))), .int 0] s41 (fun r44 s43 => (r44 ≤ 0 → (r42 = 0 → Go mL_targets (d + 1) 311 [.ref 0, .ref 64, .ref 65, .ref 66, .int v4, .int v5, .int ((6 * r27) + r29), .int (v7 + 1), .null, .null, .null] [] s43 (QI K)) ∧ (¬ r42 = 0 → K 0 s43)) ∧ (¬ r44 ≤ 0 → (r42 = 1 → Go mL_targets (d + 1) 311 [.ref 0, .ref 64, .ref 65, .ref 66, .int v4, .int v5, .int ((6 * r27) + r29), .int (v7 + 1), .null, .null, .null] [] s43 (QI K)) ∧ (¬ r42 = 1 → K 0 s43))))))))))))))))) : Go mL_targets (d + 1) 311 [.ref 0, .ref 64, .ref 65, .ref 66, .int v4, .int v5, .int v6, .int v7, .null, .null, .null] [] σ (QI K) := by
  refine Go.iload dL_targets_311 rfl (?_ : Go _ _ 313 _ _ _ _)
  refine Go.iload dL_targets_313 rfl (?_ : Go _ _ 315 _ _ _ _)
  refine Go.icmp_ge 478 dL_targets_315 rfl ⟨fun c1 => ?_, fun c1 => (?_ : Go _ _ 318 _ _ _ _)⟩
  · have h := h.1 c1
    refine Go.aload_n 0 dL_targets_478 rfl rfl (?_ : Go _ _ 479 _ _ _ _)
    refine Go.iload dL_targets_479 rfl (?_ : Go _ _ 481 _ _ _ _)
    refine Go.iconst dL_targets_481 k_ic_0 (?_ : Go _ _ 482 _ _ _ _)
    refine Go.callV (as := [.int v4, .int 0]) (st := []) mk_X5_ghost wl_L_24 shq_0 rfl rfl (Nat.le_of_ble_eq_true rfl) dL_targets_482 h ?_
    rintro _ s2 ⟨r3, rfl, h⟩
    show Go _ _ 485 _ [.int r3] _ _
    refine Go.bipush dL_targets_485 k_bi_m4 (?_ : Go _ _ 487 _ _ _ _)
    refine Go.icmp_ne 575 dL_targets_487 rfl ⟨fun c4 => ?_, fun c4 => (?_ : Go _ _ 490 _ _ _ _)⟩
    · have h := h.1 c4
      refine Go.iconst dL_targets_575 k_ic_0 (?_ : Go _ _ 576 _ _ _ _)
      exact Go.zret rfl rfl dL_targets_576 ⟨_, rfl, h⟩
    · have h := h.2 c4
      refine Go.aload_n 0 dL_targets_490 rfl rfl (?_ : Go _ _ 491 _ _ _ _)
      refine Go.iconst dL_targets_491 k_ic_0 (?_ : Go _ _ 492 _ _ _ _)
      refine Go.callV (as := [.int 0]) (st := []) mk_X5_count wl_L_37 shq_0 rfl rfl (Nat.le_of_ble_eq_true rfl) dL_targets_492 h ?_
      rintro _ s5 ⟨r6, rfl, h⟩
      show Go _ _ 495 _ [.int r6] _ _
      refine Go.aload_n 3 dL_targets_495 rfl rfl (?_ : Go _ _ 496 _ _ _ _)
      refine Go.bipush dL_targets_496 k_bi_6 (?_ : Go _ _ 498 _ _ _ _)
      refine Go.ialdK ixk_6 vik_6_9 shq_66 dL_targets_498 (?_ : Go _ _ 499 _ _ _ _)
      refine Go.icmp_ne 575 dL_targets_499 rfl ⟨fun c7 => ?_, fun c7 => (?_ : Go _ _ 502 _ _ _ _)⟩
      · have h := h.1 c7
        refine Go.iconst dL_targets_575 k_ic_0 (?_ : Go _ _ 576 _ _ _ _)
        exact Go.zret rfl rfl dL_targets_576 ⟨_, rfl, h⟩
      · have h := h.2 c7
        refine Go.aload_n 0 dL_targets_502 rfl rfl (?_ : Go _ _ 503 _ _ _ _)
        refine Go.iconst dL_targets_503 k_ic_1 (?_ : Go _ _ 504 _ _ _ _)
        refine Go.callV (as := [.int 1]) (st := []) mk_X5_count wl_L_37 shq_0 rfl rfl (Nat.le_of_ble_eq_true rfl) dL_targets_504 h ?_
        rintro _ s8 ⟨r9, rfl, h⟩
        show Go _ _ 507 _ [.int r9] _ _
        refine Go.iload dL_targets_507 rfl (?_ : Go _ _ 509 _ _ _ _)
        refine Go.icmp_ne 575 dL_targets_509 rfl ⟨fun c10 => ?_, fun c10 => (?_ : Go _ _ 512 _ _ _ _)⟩
        · have h := h.1 c10
          refine Go.iconst dL_targets_575 k_ic_0 (?_ : Go _ _ 576 _ _ _ _)
          exact Go.zret rfl rfl dL_targets_576 ⟨_, rfl, h⟩
        · have h := h.2 c10
          refine Go.aload_n 0 dL_targets_512 rfl rfl (?_ : Go _ _ 513 _ _ _ _)
          refine Go.iconst dL_targets_513 k_ic_2 (?_ : Go _ _ 514 _ _ _ _)
          refine Go.callV (as := [.int 2]) (st := []) mk_X5_count wl_L_37 shq_0 rfl rfl (Nat.le_of_ble_eq_true rfl) dL_targets_514 h ?_
          rintro _ s11 ⟨r12, rfl, h⟩
          show Go _ _ 517 _ [.int r12] _ _
          refine Go.iload dL_targets_517 rfl (?_ : Go _ _ 519 _ _ _ _)
          refine Go.icmp_ne 575 dL_targets_519 rfl ⟨fun c13 => ?_, fun c13 => (?_ : Go _ _ 522 _ _ _ _)⟩
          · have h := h.1 c13
            refine Go.iconst dL_targets_575 k_ic_0 (?_ : Go _ _ 576 _ _ _ _)
            exact Go.zret rfl rfl dL_targets_576 ⟨_, rfl, h⟩
          · have h := h.2 c13
            refine Go.aload_n 0 dL_targets_522 rfl rfl (?_ : Go _ _ 523 _ _ _ _)
            refine Go.iconst dL_targets_523 k_ic_3 (?_ : Go _ _ 524 _ _ _ _)
            refine Go.callV (as := [.int 3]) (st := []) mk_X5_count wl_L_37 shq_0 rfl rfl (Nat.le_of_ble_eq_true rfl) dL_targets_524 h ?_
            rintro _ s14 ⟨r15, rfl, h⟩
            show Go _ _ 527 _ [.int r15] _ _
            refine Go.aload_n 3 dL_targets_527 rfl rfl (?_ : Go _ _ 528 _ _ _ _)
            refine Go.bipush dL_targets_528 k_bi_7 (?_ : Go _ _ 530 _ _ _ _)
            refine Go.ialdK ixk_7 vik_7_9 shq_66 dL_targets_530 (?_ : Go _ _ 531 _ _ _ _)
            refine Go.icmp_ne 575 dL_targets_531 rfl ⟨fun c16 => ?_, fun c16 => (?_ : Go _ _ 534 _ _ _ _)⟩
            · have h := h.1 c16
              refine Go.iconst dL_targets_575 k_ic_0 (?_ : Go _ _ 576 _ _ _ _)
              exact Go.zret rfl rfl dL_targets_576 ⟨_, rfl, h⟩
            · have h := h.2 c16
              refine Go.aload_n 0 dL_targets_534 rfl rfl (?_ : Go _ _ 535 _ _ _ _)
              refine Go.bipush dL_targets_535 k_bi_14 (?_ : Go _ _ 537 _ _ _ _)
              refine Go.callV (as := [.int 14]) (st := []) mk_X5_count wl_L_37 shq_0 rfl rfl (Nat.le_of_ble_eq_true rfl) dL_targets_537 h ?_
              rintro _ s17 ⟨r18, rfl, h⟩
              show Go _ _ 540 _ [.int r18] _ _
              refine Go.aload_n 3 dL_targets_540 rfl rfl (?_ : Go _ _ 541 _ _ _ _)
              refine Go.iconst dL_targets_541 k_ic_4 (?_ : Go _ _ 542 _ _ _ _)
              refine Go.ialdK ixk_4 vik_4_9 shq_66 dL_targets_542 (?_ : Go _ _ 543 _ _ _ _)
              refine Go.icmp_ne 575 dL_targets_543 rfl ⟨fun c19 => ?_, fun c19 => (?_ : Go _ _ 546 _ _ _ _)⟩
              · have h := h.1 c19
                refine Go.iconst dL_targets_575 k_ic_0 (?_ : Go _ _ 576 _ _ _ _)
                exact Go.zret rfl rfl dL_targets_576 ⟨_, rfl, h⟩
              · have h := h.2 c19
                refine Go.aload_n 0 dL_targets_546 rfl rfl (?_ : Go _ _ 547 _ _ _ _)
                refine Go.bipush dL_targets_547 k_bi_15 (?_ : Go _ _ 549 _ _ _ _)
                refine Go.callV (as := [.int 15]) (st := []) mk_X5_count wl_L_37 shq_0 rfl rfl (Nat.le_of_ble_eq_true rfl) dL_targets_549 h ?_
                rintro _ s20 ⟨r21, rfl, h⟩
                show Go _ _ 552 _ [.int r21] _ _
                refine Go.aload_n 3 dL_targets_552 rfl rfl (?_ : Go _ _ 553 _ _ _ _)
                refine Go.iconst dL_targets_553 k_ic_5 (?_ : Go _ _ 554 _ _ _ _)
                refine Go.ialdK ixk_5 vik_5_9 shq_66 dL_targets_554 (?_ : Go _ _ 555 _ _ _ _)
                refine Go.icmp_ne 575 dL_targets_555 rfl ⟨fun c22 => ?_, fun c22 => (?_ : Go _ _ 558 _ _ _ _)⟩
                · have h := h.1 c22
                  refine Go.iconst dL_targets_575 k_ic_0 (?_ : Go _ _ 576 _ _ _ _)
                  exact Go.zret rfl rfl dL_targets_576 ⟨_, rfl, h⟩
                · have h := h.2 c22
                  refine Go.aload_n 0 dL_targets_558 rfl rfl (?_ : Go _ _ 559 _ _ _ _)
                  refine Go.aload_n 3 dL_targets_559 rfl rfl (?_ : Go _ _ 560 _ _ _ _)
                  refine Go.bipush dL_targets_560 k_bi_6 (?_ : Go _ _ 562 _ _ _ _)
                  refine Go.ialdK ixk_6 vik_6_9 shq_66 dL_targets_562 (?_ : Go _ _ 563 _ _ _ _)
                  refine Go.iconst dL_targets_563 k_ic_0 (?_ : Go _ _ 564 _ _ _ _)
                  refine Go.callV (as := [.int (sA s20 66 6), .int 0]) (st := []) mk_X5_targetOf wl_L_30 shq_0 rfl rfl (Nat.le_of_ble_eq_true rfl) dL_targets_564 h ?_
                  rintro _ s23 ⟨r24, rfl, h⟩
                  show Go _ _ 567 _ [.int r24] _ _
                  refine Go.iconst dL_targets_567 k_ic_m1 (?_ : Go _ _ 568 _ _ _ _)
                  refine Go.icmp_ne 575 dL_targets_568 rfl ⟨fun c25 => ?_, fun c25 => (?_ : Go _ _ 571 _ _ _ _)⟩
                  · have h := h.1 c25
                    refine Go.iconst dL_targets_575 k_ic_0 (?_ : Go _ _ 576 _ _ _ _)
                    exact Go.zret rfl rfl dL_targets_576 ⟨_, rfl, h⟩
                  · have h := h.2 c25
                    refine Go.iconst dL_targets_571 k_ic_1 (?_ : Go _ _ 572 _ _ _ _)
                    refine Go.goto 576 dL_targets_572 rfl ?_
                    exact Go.zret rfl rfl dL_targets_576 ⟨_, rfl, h⟩
  · have h := h.2 c1
    refine Go.iconst dL_targets_318 k_ic_3 (?_ : Go _ _ 319 _ _ _ _)
    refine Go.aload_n 3 dL_targets_319 rfl rfl (?_ : Go _ _ 320 _ _ _ _)
    refine Go.bipush dL_targets_320 k_bi_6 (?_ : Go _ _ 322 _ _ _ _)
    refine Go.ialdK ixk_6 vik_6_9 shq_66 dL_targets_322 (?_ : Go _ _ 323 _ _ _ _)
    refine Go.iload dL_targets_323 rfl (?_ : Go _ _ 325 _ _ _ _)
    refine Go.iadd dL_targets_325 (?_ : Go _ _ 326 _ _ _ _)
    refine Go.imul dL_targets_326 (?_ : Go _ _ 327 _ _ _ _)
    refine Go.istore dL_targets_327 (by decide) rfl rfl (?_ : Go _ _ 329 [.ref 0, .ref 64, .ref 65, .ref 66, .int v4, .int v5, .int v6, .int v7, .int (3 * ((sA σ 66 6) + v7)), .null, .null] _ _ _)
    refine Go.aload_n 0 dL_targets_329 rfl rfl (?_ : Go _ _ 330 _ _ _ _)
    refine Go.iload dL_targets_330 rfl (?_ : Go _ _ 332 _ _ _ _)
    refine Go.iconst dL_targets_332 k_ic_2 (?_ : Go _ _ 333 _ _ _ _)
    refine Go.callV (as := [.int v7, .int 2]) (st := []) mk_X5_ghost wl_L_24 shq_0 rfl rfl (Nat.le_of_ble_eq_true rfl) dL_targets_333 h ?_
    rintro _ s26 ⟨r27, rfl, h⟩
    show Go _ _ 336 _ [.int r27] _ _
    refine Go.istore dL_targets_336 (by decide) rfl rfl (?_ : Go _ _ 338 [.ref 0, .ref 64, .ref 65, .ref 66, .int v4, .int v5, .int v6, .int v7, .int (3 * ((sA σ 66 6) + v7)), .int r27, .null] _ _ _)
    refine Go.aload_n 0 dL_targets_338 rfl rfl (?_ : Go _ _ 339 _ _ _ _)
    refine Go.iload dL_targets_339 rfl (?_ : Go _ _ 341 _ _ _ _)
    refine Go.iconst dL_targets_341 k_ic_3 (?_ : Go _ _ 342 _ _ _ _)
    refine Go.callV (as := [.int v7, .int 3]) (st := []) mk_X5_ghost wl_L_24 shq_0 rfl rfl (Nat.le_of_ble_eq_true rfl) dL_targets_342 h ?_
    rintro _ s28 ⟨r29, rfl, h⟩
    show Go _ _ 345 _ [.int r29] _ _
    refine Go.istore dL_targets_345 (by decide) rfl rfl (?_ : Go _ _ 347 [.ref 0, .ref 64, .ref 65, .ref 66, .int v4, .int v5, .int v6, .int v7, .int (3 * ((sA σ 66 6) + v7)), .int r27, .int r29] _ _ _)
    refine Go.iload dL_targets_347 rfl (?_ : Go _ _ 349 _ _ _ _)
    refine Go.if_lt 460 dL_targets_349 rfl ⟨fun c30 => ?_, fun c30 => (?_ : Go _ _ 352 _ _ _ _)⟩
    · have h := h.1 c30
      refine Go.iconst dL_targets_460 k_ic_0 (?_ : Go _ _ 461 _ _ _ _)
      exact Go.zret rfl rfl dL_targets_461 ⟨_, rfl, h⟩
    · have h := h.2 c30
      refine Go.iload dL_targets_352 rfl (?_ : Go _ _ 354 _ _ _ _)
      refine Go.aload_n 3 dL_targets_354 rfl rfl (?_ : Go _ _ 355 _ _ _ _)
      refine Go.bipush dL_targets_355 k_bi_6 (?_ : Go _ _ 357 _ _ _ _)
      refine Go.ialdK ixk_6 vik_6_9 shq_66 dL_targets_357 (?_ : Go _ _ 358 _ _ _ _)
      refine Go.icmp_ge 460 dL_targets_358 rfl ⟨fun c31 => ?_, fun c31 => (?_ : Go _ _ 361 _ _ _ _)⟩
      · have h := h.1 c31
        refine Go.iconst dL_targets_460 k_ic_0 (?_ : Go _ _ 461 _ _ _ _)
        exact Go.zret rfl rfl dL_targets_461 ⟨_, rfl, h⟩
      · have h := h.2 c31
        refine Go.iload dL_targets_361 rfl (?_ : Go _ _ 363 _ _ _ _)
        refine Go.iload dL_targets_363 rfl (?_ : Go _ _ 365 _ _ _ _)
        refine Go.icmp_ge 460 dL_targets_365 rfl ⟨fun c32 => ?_, fun c32 => (?_ : Go _ _ 368 _ _ _ _)⟩
        · have h := h.1 c32
          refine Go.iconst dL_targets_460 k_ic_0 (?_ : Go _ _ 461 _ _ _ _)
          exact Go.zret rfl rfl dL_targets_461 ⟨_, rfl, h⟩
        · have h := h.2 c32
          refine Go.bipush dL_targets_368 k_bi_6 (?_ : Go _ _ 370 _ _ _ _)
          refine Go.iload dL_targets_370 rfl (?_ : Go _ _ 372 _ _ _ _)
          refine Go.imul dL_targets_372 (?_ : Go _ _ 373 _ _ _ _)
          refine Go.iload dL_targets_373 rfl (?_ : Go _ _ 375 _ _ _ _)
          refine Go.iadd dL_targets_375 (?_ : Go _ _ 376 _ _ _ _)
          refine Go.iload dL_targets_376 rfl (?_ : Go _ _ 378 _ _ _ _)
          refine Go.icmp_le 460 dL_targets_378 rfl ⟨fun c33 => ?_, fun c33 => (?_ : Go _ _ 381 _ _ _ _)⟩
          · have h := h.1 c33
            refine Go.iconst dL_targets_460 k_ic_0 (?_ : Go _ _ 461 _ _ _ _)
            exact Go.zret rfl rfl dL_targets_461 ⟨_, rfl, h⟩
          · have h := h.2 c33
            refine Go.aload_n 1 dL_targets_381 rfl rfl (?_ : Go _ _ 382 _ _ _ _)
            refine Go.iconst dL_targets_382 k_ic_4 (?_ : Go _ _ 383 _ _ _ _)
            refine Go.iload dL_targets_383 rfl (?_ : Go _ _ 385 _ _ _ _)
            refine Go.imul dL_targets_385 (?_ : Go _ _ 386 _ _ _ _)
            refine Go.iconst dL_targets_386 k_ic_3 (?_ : Go _ _ 387 _ _ _ _)
            refine Go.iadd dL_targets_387 (?_ : Go _ _ 388 _ _ _ _)
            refine Go.iald shq_64 dL_targets_388 ⟨h.1, (?_ : Go _ _ 389 _ _ _ _)⟩
            have h := h.2
            refine Go.aload_n 1 dL_targets_389 rfl rfl (?_ : Go _ _ 390 _ _ _ _)
            refine Go.iconst dL_targets_390 k_ic_4 (?_ : Go _ _ 391 _ _ _ _)
            refine Go.iload dL_targets_391 rfl (?_ : Go _ _ 393 _ _ _ _)
            refine Go.imul dL_targets_393 (?_ : Go _ _ 394 _ _ _ _)
            refine Go.iconst dL_targets_394 k_ic_3 (?_ : Go _ _ 395 _ _ _ _)
            refine Go.iadd dL_targets_395 (?_ : Go _ _ 396 _ _ _ _)
            refine Go.iald shq_64 dL_targets_396 ⟨h.1, (?_ : Go _ _ 397 _ _ _ _)⟩
            have h := h.2
            refine Go.iadd dL_targets_397 (?_ : Go _ _ 398 _ _ _ _)
            refine Go.iconst dL_targets_398 k_ic_2 (?_ : Go _ _ 399 _ _ _ _)
            refine Go.icmp_ne 460 dL_targets_399 rfl ⟨fun c34 => ?_, fun c34 => (?_ : Go _ _ 402 _ _ _ _)⟩
            · have h := h.1 c34
              refine Go.iconst dL_targets_460 k_ic_0 (?_ : Go _ _ 461 _ _ _ _)
              exact Go.zret rfl rfl dL_targets_461 ⟨_, rfl, h⟩
            · have h := h.2 c34
              refine Go.aload_n 0 dL_targets_402 rfl rfl (?_ : Go _ _ 403 _ _ _ _)
              refine Go.iload dL_targets_403 rfl (?_ : Go _ _ 405 _ _ _ _)
              refine Go.iconst dL_targets_405 k_ic_0 (?_ : Go _ _ 406 _ _ _ _)
              refine Go.callV (as := [.int v7, .int 0]) (st := []) mk_X5_ghost wl_L_24 shq_0 rfl rfl (Nat.le_of_ble_eq_true rfl) dL_targets_406 h ?_
              rintro _ s35 ⟨r36, rfl, h⟩
              show Go _ _ 409 _ [.int r36] _ _
              refine Go.aload_n 2 dL_targets_409 rfl rfl (?_ : Go _ _ 410 _ _ _ _)
              refine Go.iload dL_targets_410 rfl (?_ : Go _ _ 412 _ _ _ _)
              refine Go.iald shq_65 dL_targets_412 ⟨h.1, (?_ : Go _ _ 413 _ _ _ _)⟩
              have h := h.2
              refine Go.icmp_ne 460 dL_targets_413 rfl ⟨fun c37 => ?_, fun c37 => (?_ : Go _ _ 416 _ _ _ _)⟩
              · have h := h.1 c37
                refine Go.iconst dL_targets_460 k_ic_0 (?_ : Go _ _ 461 _ _ _ _)
                exact Go.zret rfl rfl dL_targets_461 ⟨_, rfl, h⟩
              · have h := h.2 c37
                refine Go.aload_n 0 dL_targets_416 rfl rfl (?_ : Go _ _ 417 _ _ _ _)
                refine Go.iload dL_targets_417 rfl (?_ : Go _ _ 419 _ _ _ _)
                refine Go.iconst dL_targets_419 k_ic_1 (?_ : Go _ _ 420 _ _ _ _)
                refine Go.callV (as := [.int v7, .int 1]) (st := []) mk_X5_ghost wl_L_24 shq_0 rfl rfl (Nat.le_of_ble_eq_true rfl) dL_targets_420 h ?_
                rintro _ s38 ⟨r39, rfl, h⟩
                show Go _ _ 423 _ [.int r39] _ _
                refine Go.aload_n 2 dL_targets_423 rfl rfl (?_ : Go _ _ 424 _ _ _ _)
                refine Go.iload dL_targets_424 rfl (?_ : Go _ _ 426 _ _ _ _)
                refine Go.iconst dL_targets_426 k_ic_1 (?_ : Go _ _ 427 _ _ _ _)
                refine Go.iadd dL_targets_427 (?_ : Go _ _ 428 _ _ _ _)
                refine Go.iald shq_65 dL_targets_428 ⟨h.1, (?_ : Go _ _ 429 _ _ _ _)⟩
                have h := h.2
                refine Go.icmp_ne 460 dL_targets_429 rfl ⟨fun c40 => ?_, fun c40 => (?_ : Go _ _ 432 _ _ _ _)⟩
                · have h := h.1 c40
                  refine Go.iconst dL_targets_460 k_ic_0 (?_ : Go _ _ 461 _ _ _ _)
                  exact Go.zret rfl rfl dL_targets_461 ⟨_, rfl, h⟩
                · have h := h.2 c40
                  refine Go.aload_n 0 dL_targets_432 rfl rfl (?_ : Go _ _ 433 _ _ _ _)
                  refine Go.iload dL_targets_433 rfl (?_ : Go _ _ 435 _ _ _ _)
                  refine Go.iconst dL_targets_435 k_ic_4 (?_ : Go _ _ 436 _ _ _ _)
                  refine Go.callV (as := [.int v7, .int 4]) (st := []) mk_X5_ghost wl_L_24 shq_0 rfl rfl (Nat.le_of_ble_eq_true rfl) dL_targets_436 h ?_
                  rintro _ s41 ⟨r42, rfl, h⟩
                  show Go _ _ 439 _ [.int r42] _ _
                  refine Go.aload_n 2 dL_targets_439 rfl rfl (?_ : Go _ _ 440 _ _ _ _)
                  refine Go.aload_n 3 dL_targets_440 rfl rfl (?_ : Go _ _ 441 _ _ _ _)
                  refine Go.aload_n 2 dL_targets_441 rfl rfl (?_ : Go _ _ 442 _ _ _ _)
                  refine Go.iload dL_targets_442 rfl (?_ : Go _ _ 444 _ _ _ _)
                  refine Go.iald shq_65 dL_targets_444 ⟨h.1, (?_ : Go _ _ 445 _ _ _ _)⟩
                  have h := h.2
                  refine Go.iconst dL_targets_445 k_ic_0 (?_ : Go _ _ 446 _ _ _ _)
                  refine Go.callS (as := [.ref 65, .ref 66, .int (sA s41 65 (ix (3 * ((sA σ 66 6) + v7)))), .int 0]) (st := [.int r42]) mk_L_told wl_L_33 rfl rfl (Nat.le_of_ble_eq_true rfl) dL_targets_446 h ?_
                  rintro _ s43 ⟨r44, rfl, h⟩
                  show Go _ _ 449 _ [.int r44, .int r42] _ _
                  refine Go.if_le 456 dL_targets_449 rfl ⟨fun c45 => ?_, fun c45 => (?_ : Go _ _ 452 _ _ _ _)⟩
                  · have h := h.1 c45
                    refine Go.iconst dL_targets_456 k_ic_0 (?_ : Go _ _ 457 _ _ _ _)
                    refine Go.icmp_eq 462 dL_targets_457 rfl ⟨fun c46 => ?_, fun c46 => (?_ : Go _ _ 460 _ _ _ _)⟩
                    · have h := h.1 c46
                      refine Go.bipush dL_targets_462 k_bi_6 (?_ : Go _ _ 464 _ _ _ _)
                      refine Go.iload dL_targets_464 rfl (?_ : Go _ _ 466 _ _ _ _)
                      refine Go.imul dL_targets_466 (?_ : Go _ _ 467 _ _ _ _)
                      refine Go.iload dL_targets_467 rfl (?_ : Go _ _ 469 _ _ _ _)
                      refine Go.iadd dL_targets_469 (?_ : Go _ _ 470 _ _ _ _)
                      refine Go.istore dL_targets_470 (by decide) rfl rfl (?_ : Go _ _ 472 [.ref 0, .ref 64, .ref 65, .ref 66, .int v4, .int v5, .int ((6 * r27) + r29), .int v7, .int (3 * ((sA σ 66 6) + v7)), .int r27, .int r29] _ _ _)
                      refine Go.iinc dL_targets_472 rfl (congrArg (fun z => v7 + z) k_ic_1) (by decide) rfl rfl (?_ : Go _ _ 475 [.ref 0, .ref 64, .ref 65, .ref 66, .int v4, .int v5, .int ((6 * r27) + r29), .int (v7 + 1), .int (3 * ((sA σ 66 6) + v7)), .int r27, .int r29] _ _ _)
                      refine Go.goto 311 dL_targets_475 rfl ?_
                      refine Go.drop (ls' := [.ref 0, .ref 64, .ref 65, .ref 66, .int v4, .int v5, .int ((6 * r27) + r29), .int (v7 + 1), .null, .int r27, .int r29]) 8 rfl ?_
                      refine Go.drop (ls' := [.ref 0, .ref 64, .ref 65, .ref 66, .int v4, .int v5, .int ((6 * r27) + r29), .int (v7 + 1), .null, .null, .int r29]) 9 rfl ?_
                      refine Go.drop (ls' := [.ref 0, .ref 64, .ref 65, .ref 66, .int v4, .int v5, .int ((6 * r27) + r29), .int (v7 + 1), .null, .null, .null]) 10 rfl ?_
                      exact h
                    · have h := h.2 c46
                      refine Go.iconst dL_targets_460 k_ic_0 (?_ : Go _ _ 461 _ _ _ _)
                      exact Go.zret rfl rfl dL_targets_461 ⟨_, rfl, h⟩
                  · have h := h.2 c45
                    refine Go.iconst dL_targets_452 k_ic_1 (?_ : Go _ _ 453 _ _ _ _)
                    refine Go.goto 457 dL_targets_453 rfl ?_
                    refine Go.icmp_eq 462 dL_targets_457 rfl ⟨fun c47 => ?_, fun c47 => (?_ : Go _ _ 460 _ _ _ _)⟩
                    · have h := h.1 c47
                      refine Go.bipush dL_targets_462 k_bi_6 (?_ : Go _ _ 464 _ _ _ _)
                      refine Go.iload dL_targets_464 rfl (?_ : Go _ _ 466 _ _ _ _)
                      refine Go.imul dL_targets_466 (?_ : Go _ _ 467 _ _ _ _)
                      refine Go.iload dL_targets_467 rfl (?_ : Go _ _ 469 _ _ _ _)
                      refine Go.iadd dL_targets_469 (?_ : Go _ _ 470 _ _ _ _)
                      refine Go.istore dL_targets_470 (by decide) rfl rfl (?_ : Go _ _ 472 [.ref 0, .ref 64, .ref 65, .ref 66, .int v4, .int v5, .int ((6 * r27) + r29), .int v7, .int (3 * ((sA σ 66 6) + v7)), .int r27, .int r29] _ _ _)
                      refine Go.iinc dL_targets_472 rfl (congrArg (fun z => v7 + z) k_ic_1) (by decide) rfl rfl (?_ : Go _ _ 475 [.ref 0, .ref 64, .ref 65, .ref 66, .int v4, .int v5, .int ((6 * r27) + r29), .int (v7 + 1), .int (3 * ((sA σ 66 6) + v7)), .int r27, .int r29] _ _ _)
                      refine Go.goto 311 dL_targets_475 rfl ?_
                      refine Go.drop (ls' := [.ref 0, .ref 64, .ref 65, .ref 66, .int v4, .int v5, .int ((6 * r27) + r29), .int (v7 + 1), .null, .int r27, .int r29]) 8 rfl ?_
                      refine Go.drop (ls' := [.ref 0, .ref 64, .ref 65, .ref 66, .int v4, .int v5, .int ((6 * r27) + r29), .int (v7 + 1), .null, .null, .int r29]) 9 rfl ?_
                      refine Go.drop (ls' := [.ref 0, .ref 64, .ref 65, .ref 66, .int v4, .int v5, .int ((6 * r27) + r29), .int (v7 + 1), .null, .null, .null]) 10 rfl ?_
                      exact h
                    · have h := h.2 c47
                      refine Go.iconst dL_targets_460 k_ic_0 (?_ : Go _ _ 461 _ _ _ _)
                      exact Go.zret rfl rfl dL_targets_461 ⟨_, rfl, h⟩
set_option maxHeartbeats 4000000 in
set_option maxRecDepth 100000 in
theorem sgL_echoes_0 {d : Nat} {σ : St} {K : Int32 → St → Prop} (h : Go mL_echoes (d + 1) 11 [.ref 0, .ref 65, .ref 66, .int 0, .int 0, .int 0, .int 0, .null, .null, .null, .null] [] σ (QI K)) : Go mL_echoes (d + 1) 0 [.ref 0, .ref 65, .ref 66, .null, .null, .null, .null, .null, .null, .null, .null] [] σ (QI K) := by
  refine Go.iconst dL_echoes_0 k_ic_0 (?_ : Go _ _ 1 _ _ _ _)
  refine Go.istore_n 3 dL_echoes_1 rfl (by decide) rfl rfl (?_ : Go _ _ 2 [.ref 0, .ref 65, .ref 66, .int 0, .null, .null, .null, .null, .null, .null, .null] _ _ _)
  refine Go.iconst dL_echoes_2 k_ic_0 (?_ : Go _ _ 3 _ _ _ _)
  refine Go.istore dL_echoes_3 (by decide) rfl rfl (?_ : Go _ _ 5 [.ref 0, .ref 65, .ref 66, .int 0, .int 0, .null, .null, .null, .null, .null, .null] _ _ _)
  refine Go.iconst dL_echoes_5 k_ic_0 (?_ : Go _ _ 6 _ _ _ _)
  refine Go.istore dL_echoes_6 (by decide) rfl rfl (?_ : Go _ _ 8 [.ref 0, .ref 65, .ref 66, .int 0, .int 0, .int 0, .null, .null, .null, .null, .null] _ _ _)
  refine Go.iconst dL_echoes_8 k_ic_0 (?_ : Go _ _ 9 _ _ _ _)
  refine Go.istore dL_echoes_9 (by decide) rfl rfl (?_ : Go _ _ 11 [.ref 0, .ref 65, .ref 66, .int 0, .int 0, .int 0, .int 0, .null, .null, .null, .null] _ _ _)
  exact h
theorem cgL_echoes {d : Nat} {σ : St} {K : Int32 → St → Prop} (h : Go mL_echoes (d + 1) 11 [.ref 0, .ref 65, .ref 66, .int 0, .int 0, .int 0, .int 0, .null, .null, .null, .null] [] σ (QI K)) : CallI (d + 1) mL_echoes [.ref 0, .ref 65, .ref 66] σ K := Call_of_Go (by decide +kernel) (ls := [.ref 0, .ref 65, .ref 66, .null, .null, .null, .null, .null, .null, .null, .null]) rfl (Nat.le_of_ble_eq_true rfl) (sgL_echoes_0 h)
set_option maxHeartbeats 4000000 in
set_option maxRecDepth 100000 in
theorem sgL_echoes_11 {d : Nat} {σ : St} {v3 : Int32} {v4 : Int32} {v5 : Int32} {v6 : Int32} {K : Int32 → St → Prop} (h : ((sA σ 66 7) ≤ v6 → Go mL_echoes (d + 1) 263 [.ref 0, .ref 65, .ref 66, .int v3, .int v4, .int v5, .int 0, .null, .null, .null, .null] [] σ (QI K)) ∧ (¬ (sA σ 66 7) ≤ v6 → Go mL_echoes (d + 1) 26 [.ref 0, .ref 65, .ref 66, .int v3, .int v4, .int v5, .int v6, .int 0, .int 0, .null, .null] [] σ (QI K))) : Go mL_echoes (d + 1) 11 [.ref 0, .ref 65, .ref 66, .int v3, .int v4, .int v5, .int v6, .null, .null, .null, .null] [] σ (QI K) := by
  refine Go.iload dL_echoes_11 rfl (?_ : Go _ _ 13 _ _ _ _)
  refine Go.aload_n 2 dL_echoes_13 rfl rfl (?_ : Go _ _ 14 _ _ _ _)
  refine Go.bipush dL_echoes_14 k_bi_7 (?_ : Go _ _ 16 _ _ _ _)
  refine Go.ialdK ixk_7 vik_7_9 shq_66 dL_echoes_16 (?_ : Go _ _ 17 _ _ _ _)
  refine Go.icmp_ge 260 dL_echoes_17 rfl ⟨fun c1 => ?_, fun c1 => (?_ : Go _ _ 20 _ _ _ _)⟩
  · have h := h.1 c1
    refine Go.iconst dL_echoes_260 k_ic_0 (?_ : Go _ _ 261 _ _ _ _)
    refine Go.istore dL_echoes_261 (by decide) rfl rfl (?_ : Go _ _ 263 [.ref 0, .ref 65, .ref 66, .int v3, .int v4, .int v5, .int 0, .null, .null, .null, .null] _ _ _)
    exact h
  · have h := h.2 c1
    refine Go.iconst dL_echoes_20 k_ic_0 (?_ : Go _ _ 21 _ _ _ _)
    refine Go.istore dL_echoes_21 (by decide) rfl rfl (?_ : Go _ _ 23 [.ref 0, .ref 65, .ref 66, .int v3, .int v4, .int v5, .int v6, .int 0, .null, .null, .null] _ _ _)
    refine Go.iconst dL_echoes_23 k_ic_0 (?_ : Go _ _ 24 _ _ _ _)
    refine Go.istore dL_echoes_24 (by decide) rfl rfl (?_ : Go _ _ 26 [.ref 0, .ref 65, .ref 66, .int v3, .int v4, .int v5, .int v6, .int 0, .int 0, .null, .null] _ _ _)
    exact h
set_option maxHeartbeats 4000000 in
set_option maxRecDepth 100000 in
theorem sgL_echoes_26 {d : Nat} {σ : St} {v3 : Int32} {v4 : Int32} {v5 : Int32} {v6 : Int32} {v7 : Int32} {v8 : Int32} {K : Int32 → St → Prop} (h : vp_in v6 9 ∧ ((sA σ 66 (ix v6)) ≤ v8 → Go mL_echoes (d + 1) 158 [.ref 0, .ref 65, .ref 66, .int (v3 + v7), .int v4, .int v5, .int v6, .int v7, .int 0, .null, .null] [] σ (QI K)) ∧ (¬ (sA σ 66 (ix v6)) ≤ v8 → Go mL_echoes (d + 1) 39 [.ref 0, .ref 65, .ref 66, .int v3, .int v4, .int v5, .int v6, .int v7, .int v8, .int (-5), .null] [] σ (QI K))) : Go mL_echoes (d + 1) 26 [.ref 0, .ref 65, .ref 66, .int v3, .int v4, .int v5, .int v6, .int v7, .int v8, .null, .null] [] σ (QI K) := by
  refine Go.iload dL_echoes_26 rfl (?_ : Go _ _ 28 _ _ _ _)
  refine Go.aload_n 2 dL_echoes_28 rfl rfl (?_ : Go _ _ 29 _ _ _ _)
  refine Go.iload dL_echoes_29 rfl (?_ : Go _ _ 31 _ _ _ _)
  refine Go.iald shq_66 dL_echoes_31 ⟨h.1, (?_ : Go _ _ 32 _ _ _ _)⟩
  have h := h.2
  refine Go.icmp_ge 150 dL_echoes_32 rfl ⟨fun c1 => ?_, fun c1 => (?_ : Go _ _ 35 _ _ _ _)⟩
  · have h := h.1 c1
    refine Go.iload_n 3 dL_echoes_150 rfl rfl (?_ : Go _ _ 151 _ _ _ _)
    refine Go.iload dL_echoes_151 rfl (?_ : Go _ _ 153 _ _ _ _)
    refine Go.iadd dL_echoes_153 (?_ : Go _ _ 154 _ _ _ _)
    refine Go.istore_n 3 dL_echoes_154 rfl (by decide) rfl rfl (?_ : Go _ _ 155 [.ref 0, .ref 65, .ref 66, .int (v3 + v7), .int v4, .int v5, .int v6, .int v7, .int v8, .null, .null] _ _ _)
    refine Go.iconst dL_echoes_155 k_ic_0 (?_ : Go _ _ 156 _ _ _ _)
    refine Go.istore dL_echoes_156 (by decide) rfl rfl (?_ : Go _ _ 158 [.ref 0, .ref 65, .ref 66, .int (v3 + v7), .int v4, .int v5, .int v6, .int v7, .int 0, .null, .null] _ _ _)
    exact h
  · have h := h.2 c1
    refine Go.bipush dL_echoes_35 k_bi_m5 (?_ : Go _ _ 37 _ _ _ _)
    refine Go.istore dL_echoes_37 (by decide) rfl rfl (?_ : Go _ _ 39 [.ref 0, .ref 65, .ref 66, .int v3, .int v4, .int v5, .int v6, .int v7, .int v8, .int (-5), .null] _ _ _)
    exact h
set_option maxHeartbeats 4000000 in
set_option maxRecDepth 100000 in
theorem sgL_echoes_39 {d : Nat} {σ : St} {v3 : Int32} {v4 : Int32} {v5 : Int32} {v6 : Int32} {v7 : Int32} {v8 : Int32} {v9 : Int32} {K : Int32 → St → Prop} (h : (6 ≤ v9 → Go mL_echoes (d + 1) 26 [.ref 0, .ref 65, .ref 66, .int v3, .int v4, .int v5, .int v6, .int v7, .int (v8 + 1), .null, .null] [] σ (QI K)) ∧ (¬ 6 ≤ v9 → CallI d mL_heard [.ref 65, .ref 66, .int v6, .int v8, .int v9, .int 0] σ (fun r3 s2 => (r3 ≤ 0 → Go mL_echoes (d + 1) 39 [.ref 0, .ref 65, .ref 66, .int v3, .int v4, .int v5, .int v6, .int v7, .int v8, .int (v9 + 1), .null] [] s2 (QI K)) ∧ (¬ r3 ≤ 0 → CallI d mX5_echo [.ref 0, .int v6, .int v7, .int 0] s2 (fun r6 s5 => (¬ r6 = v8 → K 0 s5) ∧ (r6 = v8 → CallI d mX5_echo [.ref 0, .int v6, .int v7, .int 1] s5 (fun r9 s8 => (¬ r9 = (v9 + 5) → K 0 s8) ∧ (r9 = (v9 + 5) → CallI d mX5_echo [.ref 0, .int v6, .int v7, .int 2] s8 (fun r12 s11 => (¬ r12 = r3 → K 0 s11) ∧ (r12 = r3 → CallI d mX5_echo [.ref 0, .int v6, .int v7, .int 3] s11 (fun r15 s14 => CallI d mL_heard [.ref 65, .ref 66, .int v6, .int v8, .int v9, .int 1] s14 (fun r17 s16 => (r15 = r17 → Go mL_echoes (d + 1) 39 [.ref 0, .ref 65, .ref 66, .int v3, .int v4, .int v5, .int v6, .int (v7 + 1), .int v8, .int (v9 + 1), .null] [] s16 (QI K)) ∧ (¬ r15 = r17 → K 0 s16))))))))))))) : Go mL_echoes (d + 1) 39 [.ref 0, .ref 65, .ref 66, .int v3, .int v4, .int v5, .int v6, .int v7, .int v8, .int v9, .null] [] σ (QI K) := by
  refine Go.iload dL_echoes_39 rfl (?_ : Go _ _ 41 _ _ _ _)
  refine Go.bipush dL_echoes_41 k_bi_6 (?_ : Go _ _ 43 _ _ _ _)
  refine Go.icmp_ge 144 dL_echoes_43 rfl ⟨fun c1 => ?_, fun c1 => (?_ : Go _ _ 46 _ _ _ _)⟩
  · have h := h.1 c1
    refine Go.iinc dL_echoes_144 rfl (congrArg (fun z => v8 + z) k_ic_1) (by decide) rfl rfl (?_ : Go _ _ 147 [.ref 0, .ref 65, .ref 66, .int v3, .int v4, .int v5, .int v6, .int v7, .int (v8 + 1), .int v9, .null] _ _ _)
    refine Go.goto 26 dL_echoes_147 rfl ?_
    refine Go.drop (ls' := [.ref 0, .ref 65, .ref 66, .int v3, .int v4, .int v5, .int v6, .int v7, .int (v8 + 1), .null, .null]) 9 rfl ?_
    exact h
  · have h := h.2 c1
    refine Go.aload_n 1 dL_echoes_46 rfl rfl (?_ : Go _ _ 47 _ _ _ _)
    refine Go.aload_n 2 dL_echoes_47 rfl rfl (?_ : Go _ _ 48 _ _ _ _)
    refine Go.iload dL_echoes_48 rfl (?_ : Go _ _ 50 _ _ _ _)
    refine Go.iload dL_echoes_50 rfl (?_ : Go _ _ 52 _ _ _ _)
    refine Go.iload dL_echoes_52 rfl (?_ : Go _ _ 54 _ _ _ _)
    refine Go.iconst dL_echoes_54 k_ic_0 (?_ : Go _ _ 55 _ _ _ _)
    refine Go.callS (as := [.ref 65, .ref 66, .int v6, .int v8, .int v9, .int 0]) (st := []) mk_L_heard wl_L_16 rfl rfl (Nat.le_of_ble_eq_true rfl) dL_echoes_55 h ?_
    rintro _ s2 ⟨r3, rfl, h⟩
    show Go _ _ 58 _ [.int r3] _ _
    refine Go.istore dL_echoes_58 (by decide) rfl rfl (?_ : Go _ _ 60 [.ref 0, .ref 65, .ref 66, .int v3, .int v4, .int v5, .int v6, .int v7, .int v8, .int v9, .int r3] _ _ _)
    refine Go.iload dL_echoes_60 rfl (?_ : Go _ _ 62 _ _ _ _)
    refine Go.if_le 138 dL_echoes_62 rfl ⟨fun c4 => ?_, fun c4 => (?_ : Go _ _ 65 _ _ _ _)⟩
    · have h := h.1 c4
      refine Go.iinc dL_echoes_138 rfl (congrArg (fun z => v9 + z) k_ic_1) (by decide) rfl rfl (?_ : Go _ _ 141 [.ref 0, .ref 65, .ref 66, .int v3, .int v4, .int v5, .int v6, .int v7, .int v8, .int (v9 + 1), .int r3] _ _ _)
      refine Go.goto 39 dL_echoes_141 rfl ?_
      refine Go.drop (ls' := [.ref 0, .ref 65, .ref 66, .int v3, .int v4, .int v5, .int v6, .int v7, .int v8, .int (v9 + 1), .null]) 10 rfl ?_
      exact h
    · have h := h.2 c4
      refine Go.aload_n 0 dL_echoes_65 rfl rfl (?_ : Go _ _ 66 _ _ _ _)
      refine Go.iload dL_echoes_66 rfl (?_ : Go _ _ 68 _ _ _ _)
      refine Go.iload dL_echoes_68 rfl (?_ : Go _ _ 70 _ _ _ _)
      refine Go.iconst dL_echoes_70 k_ic_0 (?_ : Go _ _ 71 _ _ _ _)
      refine Go.callV (as := [.int v6, .int v7, .int 0]) (st := []) mk_X5_echo wl_L_41 shq_0 rfl rfl (Nat.le_of_ble_eq_true rfl) dL_echoes_71 h ?_
      rintro _ s5 ⟨r6, rfl, h⟩
      show Go _ _ 74 _ [.int r6] _ _
      refine Go.iload dL_echoes_74 rfl (?_ : Go _ _ 76 _ _ _ _)
      refine Go.icmp_ne 133 dL_echoes_76 rfl ⟨fun c7 => ?_, fun c7 => (?_ : Go _ _ 79 _ _ _ _)⟩
      · have h := h.1 c7
        refine Go.iconst dL_echoes_133 k_ic_0 (?_ : Go _ _ 134 _ _ _ _)
        exact Go.zret rfl rfl dL_echoes_134 ⟨_, rfl, h⟩
      · have h := h.2 c7
        refine Go.aload_n 0 dL_echoes_79 rfl rfl (?_ : Go _ _ 80 _ _ _ _)
        refine Go.iload dL_echoes_80 rfl (?_ : Go _ _ 82 _ _ _ _)
        refine Go.iload dL_echoes_82 rfl (?_ : Go _ _ 84 _ _ _ _)
        refine Go.iconst dL_echoes_84 k_ic_1 (?_ : Go _ _ 85 _ _ _ _)
        refine Go.callV (as := [.int v6, .int v7, .int 1]) (st := []) mk_X5_echo wl_L_41 shq_0 rfl rfl (Nat.le_of_ble_eq_true rfl) dL_echoes_85 h ?_
        rintro _ s8 ⟨r9, rfl, h⟩
        show Go _ _ 88 _ [.int r9] _ _
        refine Go.iload dL_echoes_88 rfl (?_ : Go _ _ 90 _ _ _ _)
        refine Go.iconst dL_echoes_90 k_ic_5 (?_ : Go _ _ 91 _ _ _ _)
        refine Go.iadd dL_echoes_91 (?_ : Go _ _ 92 _ _ _ _)
        refine Go.icmp_ne 133 dL_echoes_92 rfl ⟨fun c10 => ?_, fun c10 => (?_ : Go _ _ 95 _ _ _ _)⟩
        · have h := h.1 c10
          refine Go.iconst dL_echoes_133 k_ic_0 (?_ : Go _ _ 134 _ _ _ _)
          exact Go.zret rfl rfl dL_echoes_134 ⟨_, rfl, h⟩
        · have h := h.2 c10
          refine Go.aload_n 0 dL_echoes_95 rfl rfl (?_ : Go _ _ 96 _ _ _ _)
          refine Go.iload dL_echoes_96 rfl (?_ : Go _ _ 98 _ _ _ _)
          refine Go.iload dL_echoes_98 rfl (?_ : Go _ _ 100 _ _ _ _)
          refine Go.iconst dL_echoes_100 k_ic_2 (?_ : Go _ _ 101 _ _ _ _)
          refine Go.callV (as := [.int v6, .int v7, .int 2]) (st := []) mk_X5_echo wl_L_41 shq_0 rfl rfl (Nat.le_of_ble_eq_true rfl) dL_echoes_101 h ?_
          rintro _ s11 ⟨r12, rfl, h⟩
          show Go _ _ 104 _ [.int r12] _ _
          refine Go.iload dL_echoes_104 rfl (?_ : Go _ _ 106 _ _ _ _)
          refine Go.icmp_ne 133 dL_echoes_106 rfl ⟨fun c13 => ?_, fun c13 => (?_ : Go _ _ 109 _ _ _ _)⟩
          · have h := h.1 c13
            refine Go.iconst dL_echoes_133 k_ic_0 (?_ : Go _ _ 134 _ _ _ _)
            exact Go.zret rfl rfl dL_echoes_134 ⟨_, rfl, h⟩
          · have h := h.2 c13
            refine Go.aload_n 0 dL_echoes_109 rfl rfl (?_ : Go _ _ 110 _ _ _ _)
            refine Go.iload dL_echoes_110 rfl (?_ : Go _ _ 112 _ _ _ _)
            refine Go.iload dL_echoes_112 rfl (?_ : Go _ _ 114 _ _ _ _)
            refine Go.iconst dL_echoes_114 k_ic_3 (?_ : Go _ _ 115 _ _ _ _)
            refine Go.callV (as := [.int v6, .int v7, .int 3]) (st := []) mk_X5_echo wl_L_41 shq_0 rfl rfl (Nat.le_of_ble_eq_true rfl) dL_echoes_115 h ?_
            rintro _ s14 ⟨r15, rfl, h⟩
            show Go _ _ 118 _ [.int r15] _ _
            refine Go.aload_n 1 dL_echoes_118 rfl rfl (?_ : Go _ _ 119 _ _ _ _)
            refine Go.aload_n 2 dL_echoes_119 rfl rfl (?_ : Go _ _ 120 _ _ _ _)
            refine Go.iload dL_echoes_120 rfl (?_ : Go _ _ 122 _ _ _ _)
            refine Go.iload dL_echoes_122 rfl (?_ : Go _ _ 124 _ _ _ _)
            refine Go.iload dL_echoes_124 rfl (?_ : Go _ _ 126 _ _ _ _)
            refine Go.iconst dL_echoes_126 k_ic_1 (?_ : Go _ _ 127 _ _ _ _)
            refine Go.callS (as := [.ref 65, .ref 66, .int v6, .int v8, .int v9, .int 1]) (st := [.int r15]) mk_L_heard wl_L_16 rfl rfl (Nat.le_of_ble_eq_true rfl) dL_echoes_127 h ?_
            rintro _ s16 ⟨r17, rfl, h⟩
            show Go _ _ 130 _ [.int r17, .int r15] _ _
            refine Go.icmp_eq 135 dL_echoes_130 rfl ⟨fun c18 => ?_, fun c18 => (?_ : Go _ _ 133 _ _ _ _)⟩
            · have h := h.1 c18
              refine Go.iinc dL_echoes_135 rfl (congrArg (fun z => v7 + z) k_ic_1) (by decide) rfl rfl (?_ : Go _ _ 138 [.ref 0, .ref 65, .ref 66, .int v3, .int v4, .int v5, .int v6, .int (v7 + 1), .int v8, .int v9, .int r3] _ _ _)
              refine Go.iinc dL_echoes_138 rfl (congrArg (fun z => v9 + z) k_ic_1) (by decide) rfl rfl (?_ : Go _ _ 141 [.ref 0, .ref 65, .ref 66, .int v3, .int v4, .int v5, .int v6, .int (v7 + 1), .int v8, .int (v9 + 1), .int r3] _ _ _)
              refine Go.goto 39 dL_echoes_141 rfl ?_
              refine Go.drop (ls' := [.ref 0, .ref 65, .ref 66, .int v3, .int v4, .int v5, .int v6, .int (v7 + 1), .int v8, .int (v9 + 1), .null]) 10 rfl ?_
              exact h
            · have h := h.2 c18
              refine Go.iconst dL_echoes_133 k_ic_0 (?_ : Go _ _ 134 _ _ _ _)
              exact Go.zret rfl rfl dL_echoes_134 ⟨_, rfl, h⟩
set_option maxHeartbeats 4000000 in
set_option maxRecDepth 100000 in
theorem sgL_echoes_158 {d : Nat} {σ : St} {v3 : Int32} {v4 : Int32} {v5 : Int32} {v6 : Int32} {v7 : Int32} {v8 : Int32} {K : Int32 → St → Prop} (h : ((sA σ 66 8) ≤ v8 → CallI d mX5_echo [.ref 0, .int v6, .int v7, .int 0] σ (fun r3 s2 => (¬ r3 = (-4) → K 0 s2) ∧ (r3 = (-4) → CallI d mX5_count [.ref 0, .int (4 + v6)] s2 (fun r6 s5 => vp_in v6 9 ∧ (r6 = (sA s5 66 (ix v6)) → Go mL_echoes (d + 1) 11 [.ref 0, .ref 65, .ref 66, .int v3, .int v4, .int v5, .int (v6 + 1), .null, .null, .null, .null] [] s5 (QI K)) ∧ (¬ r6 = (sA s5 66 (ix v6)) → K 0 s5))))) ∧ (¬ (sA σ 66 8) ≤ v8 → vp_in ((3 * v8) + 1) 63 ∧ ((sA σ 65 (ix ((3 * v8) + 1))) < (sA σ 66 5) → Go mL_echoes (d + 1) 158 [.ref 0, .ref 65, .ref 66, .int v3, .int (v4 + 0), .int v5, .int v6, .int v7, .int (v8 + 1), .null, .null] [] σ (QI K)) ∧ (¬ (sA σ 65 (ix ((3 * v8) + 1))) < (sA σ 66 5) → vp_in (3 * v8) 63 ∧ vp_in ((3 * v8) + 2) 63 ∧ CallI d mL_place [.ref 66, .int (sA σ 65 (ix (3 * v8))), .int (sA σ 65 (ix ((3 * v8) + 2))), .int v6] σ (fun r10 s9 => ((sA s9 66 4) ≤ r10 → Go mL_echoes (d + 1) 158 [.ref 0, .ref 65, .ref 66, .int v3, .int (v4 + 0), .int v5, .int v6, .int v7, .int (v8 + 1), .null, .null] [] s9 (QI K)) ∧ (¬ (sA s9 66 4) ≤ r10 → Go mL_echoes (d + 1) 158 [.ref 0, .ref 65, .ref 66, .int v3, .int (v4 + 1), .int v5, .int v6, .int v7, .int (v8 + 1), .null, .null] [] s9 (QI K)))))) : Go mL_echoes (d + 1) 158 [.ref 0, .ref 65, .ref 66, .int v3, .int v4, .int v5, .int v6, .int v7, .int v8, .null, .null] [] σ (QI K) := by
  refine Go.iload dL_echoes_158 rfl (?_ : Go _ _ 160 _ _ _ _)
  refine Go.aload_n 2 dL_echoes_160 rfl rfl (?_ : Go _ _ 161 _ _ _ _)
  refine Go.bipush dL_echoes_161 k_bi_8 (?_ : Go _ _ 163 _ _ _ _)
  refine Go.ialdK ixk_8 vik_8_9 shq_66 dL_echoes_163 (?_ : Go _ _ 164 _ _ _ _)
  refine Go.icmp_ge 223 dL_echoes_164 rfl ⟨fun c1 => ?_, fun c1 => (?_ : Go _ _ 167 _ _ _ _)⟩
  · have h := h.1 c1
    refine Go.aload_n 0 dL_echoes_223 rfl rfl (?_ : Go _ _ 224 _ _ _ _)
    refine Go.iload dL_echoes_224 rfl (?_ : Go _ _ 226 _ _ _ _)
    refine Go.iload dL_echoes_226 rfl (?_ : Go _ _ 228 _ _ _ _)
    refine Go.iconst dL_echoes_228 k_ic_0 (?_ : Go _ _ 229 _ _ _ _)
    refine Go.callV (as := [.int v6, .int v7, .int 0]) (st := []) mk_X5_echo wl_L_41 shq_0 rfl rfl (Nat.le_of_ble_eq_true rfl) dL_echoes_229 h ?_
    rintro _ s2 ⟨r3, rfl, h⟩
    show Go _ _ 232 _ [.int r3] _ _
    refine Go.bipush dL_echoes_232 k_bi_m4 (?_ : Go _ _ 234 _ _ _ _)
    refine Go.icmp_ne 252 dL_echoes_234 rfl ⟨fun c4 => ?_, fun c4 => (?_ : Go _ _ 237 _ _ _ _)⟩
    · have h := h.1 c4
      refine Go.iconst dL_echoes_252 k_ic_0 (?_ : Go _ _ 253 _ _ _ _)
      exact Go.zret rfl rfl dL_echoes_253 ⟨_, rfl, h⟩
    · have h := h.2 c4
      refine Go.aload_n 0 dL_echoes_237 rfl rfl (?_ : Go _ _ 238 _ _ _ _)
      refine Go.iconst dL_echoes_238 k_ic_4 (?_ : Go _ _ 239 _ _ _ _)
      refine Go.iload dL_echoes_239 rfl (?_ : Go _ _ 241 _ _ _ _)
      refine Go.iadd dL_echoes_241 (?_ : Go _ _ 242 _ _ _ _)
      refine Go.callV (as := [.int (4 + v6)]) (st := []) mk_X5_count wl_L_37 shq_0 rfl rfl (Nat.le_of_ble_eq_true rfl) dL_echoes_242 h ?_
      rintro _ s5 ⟨r6, rfl, h⟩
      show Go _ _ 245 _ [.int r6] _ _
      refine Go.aload_n 2 dL_echoes_245 rfl rfl (?_ : Go _ _ 246 _ _ _ _)
      refine Go.iload dL_echoes_246 rfl (?_ : Go _ _ 248 _ _ _ _)
      refine Go.iald shq_66 dL_echoes_248 ⟨h.1, (?_ : Go _ _ 249 _ _ _ _)⟩
      have h := h.2
      refine Go.icmp_eq 254 dL_echoes_249 rfl ⟨fun c7 => ?_, fun c7 => (?_ : Go _ _ 252 _ _ _ _)⟩
      · have h := h.1 c7
        refine Go.iinc dL_echoes_254 rfl (congrArg (fun z => v6 + z) k_ic_1) (by decide) rfl rfl (?_ : Go _ _ 257 [.ref 0, .ref 65, .ref 66, .int v3, .int v4, .int v5, .int (v6 + 1), .int v7, .int v8, .null, .null] _ _ _)
        refine Go.goto 11 dL_echoes_257 rfl ?_
        refine Go.drop (ls' := [.ref 0, .ref 65, .ref 66, .int v3, .int v4, .int v5, .int (v6 + 1), .null, .int v8, .null, .null]) 7 rfl ?_
        refine Go.drop (ls' := [.ref 0, .ref 65, .ref 66, .int v3, .int v4, .int v5, .int (v6 + 1), .null, .null, .null, .null]) 8 rfl ?_
        exact h
      · have h := h.2 c7
        refine Go.iconst dL_echoes_252 k_ic_0 (?_ : Go _ _ 253 _ _ _ _)
        exact Go.zret rfl rfl dL_echoes_253 ⟨_, rfl, h⟩
  · have h := h.2 c1
    refine Go.iload dL_echoes_167 rfl (?_ : Go _ _ 169 _ _ _ _)
    refine Go.aload_n 1 dL_echoes_169 rfl rfl (?_ : Go _ _ 170 _ _ _ _)
    refine Go.iconst dL_echoes_170 k_ic_3 (?_ : Go _ _ 171 _ _ _ _)
    refine Go.iload dL_echoes_171 rfl (?_ : Go _ _ 173 _ _ _ _)
    refine Go.imul dL_echoes_173 (?_ : Go _ _ 174 _ _ _ _)
    refine Go.iconst dL_echoes_174 k_ic_1 (?_ : Go _ _ 175 _ _ _ _)
    refine Go.iadd dL_echoes_175 (?_ : Go _ _ 176 _ _ _ _)
    refine Go.iald shq_65 dL_echoes_176 ⟨h.1, (?_ : Go _ _ 177 _ _ _ _)⟩
    have h := h.2
    refine Go.aload_n 2 dL_echoes_177 rfl rfl (?_ : Go _ _ 178 _ _ _ _)
    refine Go.iconst dL_echoes_178 k_ic_5 (?_ : Go _ _ 179 _ _ _ _)
    refine Go.ialdK ixk_5 vik_5_9 shq_66 dL_echoes_179 (?_ : Go _ _ 180 _ _ _ _)
    refine Go.icmp_lt 213 dL_echoes_180 rfl ⟨fun c8 => ?_, fun c8 => (?_ : Go _ _ 183 _ _ _ _)⟩
    · have h := h.1 c8
      refine Go.iconst dL_echoes_213 k_ic_0 (?_ : Go _ _ 214 _ _ _ _)
      refine Go.iadd dL_echoes_214 (?_ : Go _ _ 215 _ _ _ _)
      refine Go.istore dL_echoes_215 (by decide) rfl rfl (?_ : Go _ _ 217 [.ref 0, .ref 65, .ref 66, .int v3, .int (v4 + 0), .int v5, .int v6, .int v7, .int v8, .null, .null] _ _ _)
      refine Go.iinc dL_echoes_217 rfl (congrArg (fun z => v8 + z) k_ic_1) (by decide) rfl rfl (?_ : Go _ _ 220 [.ref 0, .ref 65, .ref 66, .int v3, .int (v4 + 0), .int v5, .int v6, .int v7, .int (v8 + 1), .null, .null] _ _ _)
      refine Go.goto 158 dL_echoes_220 rfl ?_
      exact h
    · have h := h.2 c8
      refine Go.aload_n 2 dL_echoes_183 rfl rfl (?_ : Go _ _ 184 _ _ _ _)
      refine Go.aload_n 1 dL_echoes_184 rfl rfl (?_ : Go _ _ 185 _ _ _ _)
      refine Go.iconst dL_echoes_185 k_ic_3 (?_ : Go _ _ 186 _ _ _ _)
      refine Go.iload dL_echoes_186 rfl (?_ : Go _ _ 188 _ _ _ _)
      refine Go.imul dL_echoes_188 (?_ : Go _ _ 189 _ _ _ _)
      refine Go.iald shq_65 dL_echoes_189 ⟨h.1, (?_ : Go _ _ 190 _ _ _ _)⟩
      have h := h.2
      refine Go.aload_n 1 dL_echoes_190 rfl rfl (?_ : Go _ _ 191 _ _ _ _)
      refine Go.iconst dL_echoes_191 k_ic_3 (?_ : Go _ _ 192 _ _ _ _)
      refine Go.iload dL_echoes_192 rfl (?_ : Go _ _ 194 _ _ _ _)
      refine Go.imul dL_echoes_194 (?_ : Go _ _ 195 _ _ _ _)
      refine Go.iconst dL_echoes_195 k_ic_2 (?_ : Go _ _ 196 _ _ _ _)
      refine Go.iadd dL_echoes_196 (?_ : Go _ _ 197 _ _ _ _)
      refine Go.iald shq_65 dL_echoes_197 ⟨h.1, (?_ : Go _ _ 198 _ _ _ _)⟩
      have h := h.2
      refine Go.iload dL_echoes_198 rfl (?_ : Go _ _ 200 _ _ _ _)
      refine Go.callS (as := [.ref 66, .int (sA σ 65 (ix (3 * v8))), .int (sA σ 65 (ix ((3 * v8) + 2))), .int v6]) (st := [.int v4]) mk_L_place wl_L_10 rfl rfl (Nat.le_of_ble_eq_true rfl) dL_echoes_200 h ?_
      rintro _ s9 ⟨r10, rfl, h⟩
      show Go _ _ 203 _ [.int r10, .int v4] _ _
      refine Go.aload_n 2 dL_echoes_203 rfl rfl (?_ : Go _ _ 204 _ _ _ _)
      refine Go.iconst dL_echoes_204 k_ic_4 (?_ : Go _ _ 205 _ _ _ _)
      refine Go.ialdK ixk_4 vik_4_9 shq_66 dL_echoes_205 (?_ : Go _ _ 206 _ _ _ _)
      refine Go.icmp_ge 213 dL_echoes_206 rfl ⟨fun c11 => ?_, fun c11 => (?_ : Go _ _ 209 _ _ _ _)⟩
      · have h := h.1 c11
        refine Go.iconst dL_echoes_213 k_ic_0 (?_ : Go _ _ 214 _ _ _ _)
        refine Go.iadd dL_echoes_214 (?_ : Go _ _ 215 _ _ _ _)
        refine Go.istore dL_echoes_215 (by decide) rfl rfl (?_ : Go _ _ 217 [.ref 0, .ref 65, .ref 66, .int v3, .int (v4 + 0), .int v5, .int v6, .int v7, .int v8, .null, .null] _ _ _)
        refine Go.iinc dL_echoes_217 rfl (congrArg (fun z => v8 + z) k_ic_1) (by decide) rfl rfl (?_ : Go _ _ 220 [.ref 0, .ref 65, .ref 66, .int v3, .int (v4 + 0), .int v5, .int v6, .int v7, .int (v8 + 1), .null, .null] _ _ _)
        refine Go.goto 158 dL_echoes_220 rfl ?_
        exact h
      · have h := h.2 c11
        refine Go.iconst dL_echoes_209 k_ic_1 (?_ : Go _ _ 210 _ _ _ _)
        refine Go.goto 214 dL_echoes_210 rfl ?_
        refine Go.iadd dL_echoes_214 (?_ : Go _ _ 215 _ _ _ _)
        refine Go.istore dL_echoes_215 (by decide) rfl rfl (?_ : Go _ _ 217 [.ref 0, .ref 65, .ref 66, .int v3, .int (v4 + 1), .int v5, .int v6, .int v7, .int v8, .null, .null] _ _ _)
        refine Go.iinc dL_echoes_217 rfl (congrArg (fun z => v8 + z) k_ic_1) (by decide) rfl rfl (?_ : Go _ _ 220 [.ref 0, .ref 65, .ref 66, .int v3, .int (v4 + 1), .int v5, .int v6, .int v7, .int (v8 + 1), .null, .null] _ _ _)
        refine Go.goto 158 dL_echoes_220 rfl ?_
        exact h
set_option maxHeartbeats 4000000 in
set_option maxRecDepth 100000 in
theorem sgL_echoes_263 {d : Nat} {σ : St} {v3 : Int32} {v4 : Int32} {v5 : Int32} {v6 : Int32} {K : Int32 → St → Prop} (h : ((sA σ 66 8) ≤ v6 → CallI d mX5_count [.ref 0, .int 8] σ (fun r3 s2 => (¬ r3 = v3 → K 0 s2) ∧ (r3 = v3 → CallI d mX5_count [.ref 0, .int 9] s2 (fun r6 s5 => (¬ r6 = v4 → K 0 s5) ∧ (r6 = v4 → CallI d mX5_count [.ref 0, .int 10] s5 (fun r9 s8 => (¬ r9 = v5 → K 0 s8) ∧ (r9 = v5 → ((sA s8 66 7) = 4 → K 1 s8) ∧ (¬ (sA s8 66 7) = 4 → CallI d mX5_count [.ref 0, .int (4 + (sA s8 66 7))] s8 (fun r13 s12 => (¬ r13 = (-4) → K 0 s12) ∧ (r13 = (-4) → K 1 s12)))))))))) ∧ (¬ (sA σ 66 8) ≤ v6 → vp_in ((3 * v6) + 1) 63 ∧ ((sA σ 66 5) ≤ (sA σ 65 (ix ((3 * v6) + 1))) → Go mL_echoes (d + 1) 263 [.ref 0, .ref 65, .ref 66, .int v3, .int v4, .int (v5 + 0), .int (v6 + 1), .null, .null, .null, .null] [] σ (QI K)) ∧ (¬ (sA σ 66 5) ≤ (sA σ 65 (ix ((3 * v6) + 1))) → Go mL_echoes (d + 1) 263 [.ref 0, .ref 65, .ref 66, .int v3, .int v4, .int (v5 + 1), .int (v6 + 1), .null, .null, .null, .null] [] σ (QI K)))) : Go mL_echoes (d + 1) 263 [.ref 0, .ref 65, .ref 66, .int v3, .int v4, .int v5, .int v6, .null, .null, .null, .null] [] σ (QI K) := by
  refine Go.iload dL_echoes_263 rfl (?_ : Go _ _ 265 _ _ _ _)
  refine Go.aload_n 2 dL_echoes_265 rfl rfl (?_ : Go _ _ 266 _ _ _ _)
  refine Go.bipush dL_echoes_266 k_bi_8 (?_ : Go _ _ 268 _ _ _ _)
  refine Go.ialdK ixk_8 vik_8_9 shq_66 dL_echoes_268 (?_ : Go _ _ 269 _ _ _ _)
  refine Go.icmp_ge 302 dL_echoes_269 rfl ⟨fun c1 => ?_, fun c1 => (?_ : Go _ _ 272 _ _ _ _)⟩
  · have h := h.1 c1
    refine Go.aload_n 0 dL_echoes_302 rfl rfl (?_ : Go _ _ 303 _ _ _ _)
    refine Go.bipush dL_echoes_303 k_bi_8 (?_ : Go _ _ 305 _ _ _ _)
    refine Go.callV (as := [.int 8]) (st := []) mk_X5_count wl_L_37 shq_0 rfl rfl (Nat.le_of_ble_eq_true rfl) dL_echoes_305 h ?_
    rintro _ s2 ⟨r3, rfl, h⟩
    show Go _ _ 308 _ [.int r3] _ _
    refine Go.iload_n 3 dL_echoes_308 rfl rfl (?_ : Go _ _ 309 _ _ _ _)
    refine Go.icmp_ne 361 dL_echoes_309 rfl ⟨fun c4 => ?_, fun c4 => (?_ : Go _ _ 312 _ _ _ _)⟩
    · have h := h.1 c4
      refine Go.iconst dL_echoes_361 k_ic_0 (?_ : Go _ _ 362 _ _ _ _)
      exact Go.zret rfl rfl dL_echoes_362 ⟨_, rfl, h⟩
    · have h := h.2 c4
      refine Go.aload_n 0 dL_echoes_312 rfl rfl (?_ : Go _ _ 313 _ _ _ _)
      refine Go.bipush dL_echoes_313 k_bi_9 (?_ : Go _ _ 315 _ _ _ _)
      refine Go.callV (as := [.int 9]) (st := []) mk_X5_count wl_L_37 shq_0 rfl rfl (Nat.le_of_ble_eq_true rfl) dL_echoes_315 h ?_
      rintro _ s5 ⟨r6, rfl, h⟩
      show Go _ _ 318 _ [.int r6] _ _
      refine Go.iload dL_echoes_318 rfl (?_ : Go _ _ 320 _ _ _ _)
      refine Go.icmp_ne 361 dL_echoes_320 rfl ⟨fun c7 => ?_, fun c7 => (?_ : Go _ _ 323 _ _ _ _)⟩
      · have h := h.1 c7
        refine Go.iconst dL_echoes_361 k_ic_0 (?_ : Go _ _ 362 _ _ _ _)
        exact Go.zret rfl rfl dL_echoes_362 ⟨_, rfl, h⟩
      · have h := h.2 c7
        refine Go.aload_n 0 dL_echoes_323 rfl rfl (?_ : Go _ _ 324 _ _ _ _)
        refine Go.bipush dL_echoes_324 k_bi_10 (?_ : Go _ _ 326 _ _ _ _)
        refine Go.callV (as := [.int 10]) (st := []) mk_X5_count wl_L_37 shq_0 rfl rfl (Nat.le_of_ble_eq_true rfl) dL_echoes_326 h ?_
        rintro _ s8 ⟨r9, rfl, h⟩
        show Go _ _ 329 _ [.int r9] _ _
        refine Go.iload dL_echoes_329 rfl (?_ : Go _ _ 331 _ _ _ _)
        refine Go.icmp_ne 361 dL_echoes_331 rfl ⟨fun c10 => ?_, fun c10 => (?_ : Go _ _ 334 _ _ _ _)⟩
        · have h := h.1 c10
          refine Go.iconst dL_echoes_361 k_ic_0 (?_ : Go _ _ 362 _ _ _ _)
          exact Go.zret rfl rfl dL_echoes_362 ⟨_, rfl, h⟩
        · have h := h.2 c10
          refine Go.aload_n 2 dL_echoes_334 rfl rfl (?_ : Go _ _ 335 _ _ _ _)
          refine Go.bipush dL_echoes_335 k_bi_7 (?_ : Go _ _ 337 _ _ _ _)
          refine Go.ialdK ixk_7 vik_7_9 shq_66 dL_echoes_337 (?_ : Go _ _ 338 _ _ _ _)
          refine Go.iconst dL_echoes_338 k_ic_4 (?_ : Go _ _ 339 _ _ _ _)
          refine Go.icmp_eq 357 dL_echoes_339 rfl ⟨fun c11 => ?_, fun c11 => (?_ : Go _ _ 342 _ _ _ _)⟩
          · have h := h.1 c11
            refine Go.iconst dL_echoes_357 k_ic_1 (?_ : Go _ _ 358 _ _ _ _)
            refine Go.goto 362 dL_echoes_358 rfl ?_
            exact Go.zret rfl rfl dL_echoes_362 ⟨_, rfl, h⟩
          · have h := h.2 c11
            refine Go.aload_n 0 dL_echoes_342 rfl rfl (?_ : Go _ _ 343 _ _ _ _)
            refine Go.iconst dL_echoes_343 k_ic_4 (?_ : Go _ _ 344 _ _ _ _)
            refine Go.aload_n 2 dL_echoes_344 rfl rfl (?_ : Go _ _ 345 _ _ _ _)
            refine Go.bipush dL_echoes_345 k_bi_7 (?_ : Go _ _ 347 _ _ _ _)
            refine Go.ialdK ixk_7 vik_7_9 shq_66 dL_echoes_347 (?_ : Go _ _ 348 _ _ _ _)
            refine Go.iadd dL_echoes_348 (?_ : Go _ _ 349 _ _ _ _)
            refine Go.callV (as := [.int (4 + (sA s8 66 7))]) (st := []) mk_X5_count wl_L_37 shq_0 rfl rfl (Nat.le_of_ble_eq_true rfl) dL_echoes_349 h ?_
            rintro _ s12 ⟨r13, rfl, h⟩
            show Go _ _ 352 _ [.int r13] _ _
            refine Go.bipush dL_echoes_352 k_bi_m4 (?_ : Go _ _ 354 _ _ _ _)
            refine Go.icmp_ne 361 dL_echoes_354 rfl ⟨fun c14 => ?_, fun c14 => (?_ : Go _ _ 357 _ _ _ _)⟩
            · have h := h.1 c14
              refine Go.iconst dL_echoes_361 k_ic_0 (?_ : Go _ _ 362 _ _ _ _)
              exact Go.zret rfl rfl dL_echoes_362 ⟨_, rfl, h⟩
            · have h := h.2 c14
              refine Go.iconst dL_echoes_357 k_ic_1 (?_ : Go _ _ 358 _ _ _ _)
              refine Go.goto 362 dL_echoes_358 rfl ?_
              exact Go.zret rfl rfl dL_echoes_362 ⟨_, rfl, h⟩
  · have h := h.2 c1
    refine Go.iload dL_echoes_272 rfl (?_ : Go _ _ 274 _ _ _ _)
    refine Go.aload_n 1 dL_echoes_274 rfl rfl (?_ : Go _ _ 275 _ _ _ _)
    refine Go.iconst dL_echoes_275 k_ic_3 (?_ : Go _ _ 276 _ _ _ _)
    refine Go.iload dL_echoes_276 rfl (?_ : Go _ _ 278 _ _ _ _)
    refine Go.imul dL_echoes_278 (?_ : Go _ _ 279 _ _ _ _)
    refine Go.iconst dL_echoes_279 k_ic_1 (?_ : Go _ _ 280 _ _ _ _)
    refine Go.iadd dL_echoes_280 (?_ : Go _ _ 281 _ _ _ _)
    refine Go.iald shq_65 dL_echoes_281 ⟨h.1, (?_ : Go _ _ 282 _ _ _ _)⟩
    have h := h.2
    refine Go.aload_n 2 dL_echoes_282 rfl rfl (?_ : Go _ _ 283 _ _ _ _)
    refine Go.iconst dL_echoes_283 k_ic_5 (?_ : Go _ _ 284 _ _ _ _)
    refine Go.ialdK ixk_5 vik_5_9 shq_66 dL_echoes_284 (?_ : Go _ _ 285 _ _ _ _)
    refine Go.icmp_ge 292 dL_echoes_285 rfl ⟨fun c15 => ?_, fun c15 => (?_ : Go _ _ 288 _ _ _ _)⟩
    · have h := h.1 c15
      refine Go.iconst dL_echoes_292 k_ic_0 (?_ : Go _ _ 293 _ _ _ _)
      refine Go.iadd dL_echoes_293 (?_ : Go _ _ 294 _ _ _ _)
      refine Go.istore dL_echoes_294 (by decide) rfl rfl (?_ : Go _ _ 296 [.ref 0, .ref 65, .ref 66, .int v3, .int v4, .int (v5 + 0), .int v6, .null, .null, .null, .null] _ _ _)
      refine Go.iinc dL_echoes_296 rfl (congrArg (fun z => v6 + z) k_ic_1) (by decide) rfl rfl (?_ : Go _ _ 299 [.ref 0, .ref 65, .ref 66, .int v3, .int v4, .int (v5 + 0), .int (v6 + 1), .null, .null, .null, .null] _ _ _)
      refine Go.goto 263 dL_echoes_299 rfl ?_
      exact h
    · have h := h.2 c15
      refine Go.iconst dL_echoes_288 k_ic_1 (?_ : Go _ _ 289 _ _ _ _)
      refine Go.goto 293 dL_echoes_289 rfl ?_
      refine Go.iadd dL_echoes_293 (?_ : Go _ _ 294 _ _ _ _)
      refine Go.istore dL_echoes_294 (by decide) rfl rfl (?_ : Go _ _ 296 [.ref 0, .ref 65, .ref 66, .int v3, .int v4, .int (v5 + 1), .int v6, .null, .null, .null, .null] _ _ _)
      refine Go.iinc dL_echoes_296 rfl (congrArg (fun z => v6 + z) k_ic_1) (by decide) rfl rfl (?_ : Go _ _ 299 [.ref 0, .ref 65, .ref 66, .int v3, .int v4, .int (v5 + 1), .int (v6 + 1), .null, .null, .null, .null] _ _ _)
      refine Go.goto 263 dL_echoes_299 rfl ?_
      exact h
set_option maxHeartbeats 4000000 in
set_option maxRecDepth 100000 in
theorem sgL_distances_0 {d : Nat} {σ : St} {K : Int32 → St → Prop} (h : Go mL_distances (d + 1) 11 [.ref 0, .ref 65, .ref 66, .int 0, .int 0, .int 0, .int 1, .null, .null, .null] [] σ (QI K)) : Go mL_distances (d + 1) 0 [.ref 0, .ref 65, .ref 66, .null, .null, .null, .null, .null, .null, .null] [] σ (QI K) := by
  refine Go.iconst dL_distances_0 k_ic_0 (?_ : Go _ _ 1 _ _ _ _)
  refine Go.istore_n 3 dL_distances_1 rfl (by decide) rfl rfl (?_ : Go _ _ 2 [.ref 0, .ref 65, .ref 66, .int 0, .null, .null, .null, .null, .null, .null] _ _ _)
  refine Go.iconst dL_distances_2 k_ic_0 (?_ : Go _ _ 3 _ _ _ _)
  refine Go.istore dL_distances_3 (by decide) rfl rfl (?_ : Go _ _ 5 [.ref 0, .ref 65, .ref 66, .int 0, .int 0, .null, .null, .null, .null, .null] _ _ _)
  refine Go.iconst dL_distances_5 k_ic_0 (?_ : Go _ _ 6 _ _ _ _)
  refine Go.istore dL_distances_6 (by decide) rfl rfl (?_ : Go _ _ 8 [.ref 0, .ref 65, .ref 66, .int 0, .int 0, .int 0, .null, .null, .null, .null] _ _ _)
  refine Go.iconst dL_distances_8 k_ic_1 (?_ : Go _ _ 9 _ _ _ _)
  refine Go.istore dL_distances_9 (by decide) rfl rfl (?_ : Go _ _ 11 [.ref 0, .ref 65, .ref 66, .int 0, .int 0, .int 0, .int 1, .null, .null, .null] _ _ _)
  exact h
theorem cgL_distances {d : Nat} {σ : St} {K : Int32 → St → Prop} (h : Go mL_distances (d + 1) 11 [.ref 0, .ref 65, .ref 66, .int 0, .int 0, .int 0, .int 1, .null, .null, .null] [] σ (QI K)) : CallI (d + 1) mL_distances [.ref 0, .ref 65, .ref 66] σ K := Call_of_Go (by decide +kernel) (ls := [.ref 0, .ref 65, .ref 66, .null, .null, .null, .null, .null, .null, .null]) rfl (Nat.le_of_ble_eq_true rfl) (sgL_distances_0 h)
set_option maxHeartbeats 4000000 in
set_option maxRecDepth 100000 in
theorem sgL_distances_11 {d : Nat} {σ : St} {v3 : Int32} {v4 : Int32} {v5 : Int32} {v6 : Int32} {K : Int32 → St → Prop} (h : (601 ≤ v6 → Go mL_distances (d + 1) 152 [.ref 0, .ref 65, .ref 66, .int v3, .int v4, .int v5, .int 0, .null, .null, .null] [] σ (QI K)) ∧ (¬ 601 ≤ v6 → Go mL_distances (d + 1) 23 [.ref 0, .ref 65, .ref 66, .int v3, .int v4, .int v5, .int v6, .int (-5), .null, .null] [] σ (QI K))) : Go mL_distances (d + 1) 11 [.ref 0, .ref 65, .ref 66, .int v3, .int v4, .int v5, .int v6, .null, .null, .null] [] σ (QI K) := by
  refine Go.iload dL_distances_11 rfl (?_ : Go _ _ 13 _ _ _ _)
  refine Go.sipush dL_distances_13 k_si_601 (?_ : Go _ _ 16 _ _ _ _)
  refine Go.icmp_ge 149 dL_distances_16 rfl ⟨fun c1 => ?_, fun c1 => (?_ : Go _ _ 19 _ _ _ _)⟩
  · have h := h.1 c1
    refine Go.iconst dL_distances_149 k_ic_0 (?_ : Go _ _ 150 _ _ _ _)
    refine Go.istore dL_distances_150 (by decide) rfl rfl (?_ : Go _ _ 152 [.ref 0, .ref 65, .ref 66, .int v3, .int v4, .int v5, .int 0, .null, .null, .null] _ _ _)
    exact h
  · have h := h.2 c1
    refine Go.bipush dL_distances_19 k_bi_m5 (?_ : Go _ _ 21 _ _ _ _)
    refine Go.istore dL_distances_21 (by decide) rfl rfl (?_ : Go _ _ 23 [.ref 0, .ref 65, .ref 66, .int v3, .int v4, .int v5, .int v6, .int (-5), .null, .null] _ _ _)
    exact h
set_option maxHeartbeats 4000000 in
set_option maxRecDepth 100000 in
theorem sgL_distances_23 {d : Nat} {σ : St} {v3 : Int32} {v4 : Int32} {v5 : Int32} {v6 : Int32} {v7 : Int32} {K : Int32 → St → Prop} (h : (6 ≤ v7 → Go mL_distances (d + 1) 11 [.ref 0, .ref 65, .ref 66, .int v3, .int v4, .int v5, .int (v6 + 1), .null, .null, .null] [] σ (QI K)) ∧ (¬ 6 ≤ v7 → CallI d mL_told [.ref 65, .ref 66, .int v6, .int v7] σ (fun r3 s2 => (r3 ≤ 0 → Go mL_distances (d + 1) 23 [.ref 0, .ref 65, .ref 66, .int v3, .int v4, .int v5, .int v6, .int (v7 + 1), .null, .null] [] s2 (QI K)) ∧ (¬ r3 ≤ 0 → CallI d mL_isTrue [.ref 65, .ref 66, .int v6, .int v7] s2 (fun r6 s5 => (40 ≤ v3 → (r6 = 0 → Go mL_distances (d + 1) 23 [.ref 0, .ref 65, .ref 66, .int (v3 + 1), .int (v4 + 1), .int v5, .int v6, .int (v7 + 1), .null, .null] [] s5 (QI K)) ∧ (¬ r6 = 0 → Go mL_distances (d + 1) 23 [.ref 0, .ref 65, .ref 66, .int (v3 + 1), .int (v4 + 0), .int v5, .int v6, .int (v7 + 1), .null, .null] [] s5 (QI K))) ∧ (¬ 40 ≤ v3 → CallI d mX5_told [.ref 0, .int v3, .int 0] s5 (fun r10 s9 => (¬ r10 = v6 → K 0 s9) ∧ (r10 = v6 → CallI d mX5_told [.ref 0, .int v3, .int 1] s9 (fun r13 s12 => (¬ r13 = (v7 + 5) → K 0 s12) ∧ (r13 = (v7 + 5) → CallI d mX5_told [.ref 0, .int v3, .int 2] s12 (fun r16 s15 => (r6 = 0 → (¬ r16 = 0 → K 0 s15) ∧ (r16 = 0 → CallI d mX5_told [.ref 0, .int v3, .int 3] s15 (fun r20 s19 => (r20 = r3 → (r6 = 0 → Go mL_distances (d + 1) 23 [.ref 0, .ref 65, .ref 66, .int (v3 + 1), .int (v4 + 1), .int v5, .int v6, .int (v7 + 1), .null, .null] [] s19 (QI K)) ∧ (¬ r6 = 0 → Go mL_distances (d + 1) 23 [.ref 0, .ref 65, .ref 66, .int (v3 + 1), .int (v4 + 0), .int v5, .int v6, .int (v7 + 1), .null, .null] [] s19 (QI K))) ∧ (¬ r20 = r3 → K 0 s19)))) ∧ (¬ r6 = 0 → (¬ r16 = 1 → K 0 s15) ∧ (r16 = 1 → CallI d mX5_told [.ref 0, .int v3, .int 3] s15 (fun r25 s24 => (r25 = r3 → (r6 = 0 → Go mL_distances (d + 1) 23 [.ref 0, .ref 65, .ref 66, .int (v3 + 1), .int (v4 + 1), .int v5, .int v6, .int (v7 + 1), .null, .null] [] s24 (QI K)) ∧ (¬ r6 = 0 → Go mL_distances (d + 1) 23 [.ref 0, .ref 65, .ref 66, .int (v3 + 1), .int (v4 + 0), .int v5, .int v6, .int (v7 + 1), .null, .null] [] s24 (QI K))) ∧ (¬ r25 = r3 → K 0 s24))))))))))))))) : Go mL_distances (d + 1) 23 [.ref 0, .ref 65, .ref 66, .int v3, .int v4, .int v5, .int v6, .int v7, .null, .null] [] σ (QI K) := by
  refine Go.iload dL_distances_23 rfl (?_ : Go _ _ 25 _ _ _ _)
  refine Go.bipush dL_distances_25 k_bi_6 (?_ : Go _ _ 27 _ _ _ _)
  refine Go.icmp_ge 143 dL_distances_27 rfl ⟨fun c1 => ?_, fun c1 => (?_ : Go _ _ 30 _ _ _ _)⟩
  · have h := h.1 c1
    refine Go.iinc dL_distances_143 rfl (congrArg (fun z => v6 + z) k_ic_1) (by decide) rfl rfl (?_ : Go _ _ 146 [.ref 0, .ref 65, .ref 66, .int v3, .int v4, .int v5, .int (v6 + 1), .int v7, .null, .null] _ _ _)
    refine Go.goto 11 dL_distances_146 rfl ?_
    refine Go.drop (ls' := [.ref 0, .ref 65, .ref 66, .int v3, .int v4, .int v5, .int (v6 + 1), .null, .null, .null]) 7 rfl ?_
    exact h
  · have h := h.2 c1
    refine Go.aload_n 1 dL_distances_30 rfl rfl (?_ : Go _ _ 31 _ _ _ _)
    refine Go.aload_n 2 dL_distances_31 rfl rfl (?_ : Go _ _ 32 _ _ _ _)
    refine Go.iload dL_distances_32 rfl (?_ : Go _ _ 34 _ _ _ _)
    refine Go.iload dL_distances_34 rfl (?_ : Go _ _ 36 _ _ _ _)
    refine Go.callS (as := [.ref 65, .ref 66, .int v6, .int v7]) (st := []) mk_L_told wl_L_33 rfl rfl (Nat.le_of_ble_eq_true rfl) dL_distances_36 h ?_
    rintro _ s2 ⟨r3, rfl, h⟩
    show Go _ _ 39 _ [.int r3] _ _
    refine Go.istore dL_distances_39 (by decide) rfl rfl (?_ : Go _ _ 41 [.ref 0, .ref 65, .ref 66, .int v3, .int v4, .int v5, .int v6, .int v7, .int r3, .null] _ _ _)
    refine Go.iload dL_distances_41 rfl (?_ : Go _ _ 43 _ _ _ _)
    refine Go.if_le 137 dL_distances_43 rfl ⟨fun c4 => ?_, fun c4 => (?_ : Go _ _ 46 _ _ _ _)⟩
    · have h := h.1 c4
      refine Go.iinc dL_distances_137 rfl (congrArg (fun z => v7 + z) k_ic_1) (by decide) rfl rfl (?_ : Go _ _ 140 [.ref 0, .ref 65, .ref 66, .int v3, .int v4, .int v5, .int v6, .int (v7 + 1), .int r3, .null] _ _ _)
      refine Go.goto 23 dL_distances_140 rfl ?_
      refine Go.drop (ls' := [.ref 0, .ref 65, .ref 66, .int v3, .int v4, .int v5, .int v6, .int (v7 + 1), .null, .null]) 8 rfl ?_
      exact h
    · have h := h.2 c4
      refine Go.aload_n 1 dL_distances_46 rfl rfl (?_ : Go _ _ 47 _ _ _ _)
      refine Go.aload_n 2 dL_distances_47 rfl rfl (?_ : Go _ _ 48 _ _ _ _)
      refine Go.iload dL_distances_48 rfl (?_ : Go _ _ 50 _ _ _ _)
      refine Go.iload dL_distances_50 rfl (?_ : Go _ _ 52 _ _ _ _)
      refine Go.callS (as := [.ref 65, .ref 66, .int v6, .int v7]) (st := []) mk_L_isTrue wl_L_45 rfl rfl (Nat.le_of_ble_eq_true rfl) dL_distances_52 h ?_
      rintro _ s5 ⟨r6, rfl, h⟩
      show Go _ _ 55 _ [.int r6] _ _
      refine Go.istore dL_distances_55 (by decide) rfl rfl (?_ : Go _ _ 57 [.ref 0, .ref 65, .ref 66, .int v3, .int v4, .int v5, .int v6, .int v7, .int r3, .int r6] _ _ _)
      refine Go.iload_n 3 dL_distances_57 rfl rfl (?_ : Go _ _ 58 _ _ _ _)
      refine Go.bipush dL_distances_58 k_bi_40 (?_ : Go _ _ 60 _ _ _ _)
      refine Go.icmp_ge 119 dL_distances_60 rfl ⟨fun c7 => ?_, fun c7 => (?_ : Go _ _ 63 _ _ _ _)⟩
      · have h := h.1 c7
        refine Go.iload dL_distances_119 rfl (?_ : Go _ _ 121 _ _ _ _)
        refine Go.iload dL_distances_121 rfl (?_ : Go _ _ 123 _ _ _ _)
        refine Go.if_eq 130 dL_distances_123 rfl ⟨fun c8 => ?_, fun c8 => (?_ : Go _ _ 126 _ _ _ _)⟩
        · have h := h.1 c8
          refine Go.iconst dL_distances_130 k_ic_1 (?_ : Go _ _ 131 _ _ _ _)
          refine Go.iadd dL_distances_131 (?_ : Go _ _ 132 _ _ _ _)
          refine Go.istore dL_distances_132 (by decide) rfl rfl (?_ : Go _ _ 134 [.ref 0, .ref 65, .ref 66, .int v3, .int (v4 + 1), .int v5, .int v6, .int v7, .int r3, .int r6] _ _ _)
          refine Go.iinc dL_distances_134 rfl (congrArg (fun z => v3 + z) k_ic_1) (by decide) rfl rfl (?_ : Go _ _ 137 [.ref 0, .ref 65, .ref 66, .int (v3 + 1), .int (v4 + 1), .int v5, .int v6, .int v7, .int r3, .int r6] _ _ _)
          refine Go.iinc dL_distances_137 rfl (congrArg (fun z => v7 + z) k_ic_1) (by decide) rfl rfl (?_ : Go _ _ 140 [.ref 0, .ref 65, .ref 66, .int (v3 + 1), .int (v4 + 1), .int v5, .int v6, .int (v7 + 1), .int r3, .int r6] _ _ _)
          refine Go.goto 23 dL_distances_140 rfl ?_
          refine Go.drop (ls' := [.ref 0, .ref 65, .ref 66, .int (v3 + 1), .int (v4 + 1), .int v5, .int v6, .int (v7 + 1), .null, .int r6]) 8 rfl ?_
          refine Go.drop (ls' := [.ref 0, .ref 65, .ref 66, .int (v3 + 1), .int (v4 + 1), .int v5, .int v6, .int (v7 + 1), .null, .null]) 9 rfl ?_
          exact h
        · have h := h.2 c8
          refine Go.iconst dL_distances_126 k_ic_0 (?_ : Go _ _ 127 _ _ _ _)
          refine Go.goto 131 dL_distances_127 rfl ?_
          refine Go.iadd dL_distances_131 (?_ : Go _ _ 132 _ _ _ _)
          refine Go.istore dL_distances_132 (by decide) rfl rfl (?_ : Go _ _ 134 [.ref 0, .ref 65, .ref 66, .int v3, .int (v4 + 0), .int v5, .int v6, .int v7, .int r3, .int r6] _ _ _)
          refine Go.iinc dL_distances_134 rfl (congrArg (fun z => v3 + z) k_ic_1) (by decide) rfl rfl (?_ : Go _ _ 137 [.ref 0, .ref 65, .ref 66, .int (v3 + 1), .int (v4 + 0), .int v5, .int v6, .int v7, .int r3, .int r6] _ _ _)
          refine Go.iinc dL_distances_137 rfl (congrArg (fun z => v7 + z) k_ic_1) (by decide) rfl rfl (?_ : Go _ _ 140 [.ref 0, .ref 65, .ref 66, .int (v3 + 1), .int (v4 + 0), .int v5, .int v6, .int (v7 + 1), .int r3, .int r6] _ _ _)
          refine Go.goto 23 dL_distances_140 rfl ?_
          refine Go.drop (ls' := [.ref 0, .ref 65, .ref 66, .int (v3 + 1), .int (v4 + 0), .int v5, .int v6, .int (v7 + 1), .null, .int r6]) 8 rfl ?_
          refine Go.drop (ls' := [.ref 0, .ref 65, .ref 66, .int (v3 + 1), .int (v4 + 0), .int v5, .int v6, .int (v7 + 1), .null, .null]) 9 rfl ?_
          exact h
      · have h := h.2 c7
        refine Go.aload_n 0 dL_distances_63 rfl rfl (?_ : Go _ _ 64 _ _ _ _)
        refine Go.iload_n 3 dL_distances_64 rfl rfl (?_ : Go _ _ 65 _ _ _ _)
        refine Go.iconst dL_distances_65 k_ic_0 (?_ : Go _ _ 66 _ _ _ _)
        refine Go.callV (as := [.int v3, .int 0]) (st := []) mk_X5_told wl_L_49 shq_0 rfl rfl (Nat.le_of_ble_eq_true rfl) dL_distances_66 h ?_
        rintro _ s9 ⟨r10, rfl, h⟩
        show Go _ _ 69 _ [.int r10] _ _
        refine Go.iload dL_distances_69 rfl (?_ : Go _ _ 71 _ _ _ _)
        refine Go.icmp_ne 117 dL_distances_71 rfl ⟨fun c11 => ?_, fun c11 => (?_ : Go _ _ 74 _ _ _ _)⟩
        · have h := h.1 c11
          refine Go.iconst dL_distances_117 k_ic_0 (?_ : Go _ _ 118 _ _ _ _)
          exact Go.zret rfl rfl dL_distances_118 ⟨_, rfl, h⟩
        · have h := h.2 c11
          refine Go.aload_n 0 dL_distances_74 rfl rfl (?_ : Go _ _ 75 _ _ _ _)
          refine Go.iload_n 3 dL_distances_75 rfl rfl (?_ : Go _ _ 76 _ _ _ _)
          refine Go.iconst dL_distances_76 k_ic_1 (?_ : Go _ _ 77 _ _ _ _)
          refine Go.callV (as := [.int v3, .int 1]) (st := []) mk_X5_told wl_L_49 shq_0 rfl rfl (Nat.le_of_ble_eq_true rfl) dL_distances_77 h ?_
          rintro _ s12 ⟨r13, rfl, h⟩
          show Go _ _ 80 _ [.int r13] _ _
          refine Go.iload dL_distances_80 rfl (?_ : Go _ _ 82 _ _ _ _)
          refine Go.iconst dL_distances_82 k_ic_5 (?_ : Go _ _ 83 _ _ _ _)
          refine Go.iadd dL_distances_83 (?_ : Go _ _ 84 _ _ _ _)
          refine Go.icmp_ne 117 dL_distances_84 rfl ⟨fun c14 => ?_, fun c14 => (?_ : Go _ _ 87 _ _ _ _)⟩
          · have h := h.1 c14
            refine Go.iconst dL_distances_117 k_ic_0 (?_ : Go _ _ 118 _ _ _ _)
            exact Go.zret rfl rfl dL_distances_118 ⟨_, rfl, h⟩
          · have h := h.2 c14
            refine Go.aload_n 0 dL_distances_87 rfl rfl (?_ : Go _ _ 88 _ _ _ _)
            refine Go.iload_n 3 dL_distances_88 rfl rfl (?_ : Go _ _ 89 _ _ _ _)
            refine Go.iconst dL_distances_89 k_ic_2 (?_ : Go _ _ 90 _ _ _ _)
            refine Go.callV (as := [.int v3, .int 2]) (st := []) mk_X5_told wl_L_49 shq_0 rfl rfl (Nat.le_of_ble_eq_true rfl) dL_distances_90 h ?_
            rintro _ s15 ⟨r16, rfl, h⟩
            show Go _ _ 93 _ [.int r16] _ _
            refine Go.iload dL_distances_93 rfl (?_ : Go _ _ 95 _ _ _ _)
            refine Go.if_eq 102 dL_distances_95 rfl ⟨fun c17 => ?_, fun c17 => (?_ : Go _ _ 98 _ _ _ _)⟩
            · have h := h.1 c17
              refine Go.iconst dL_distances_102 k_ic_0 (?_ : Go _ _ 103 _ _ _ _)
              refine Go.icmp_ne 117 dL_distances_103 rfl ⟨fun c18 => ?_, fun c18 => (?_ : Go _ _ 106 _ _ _ _)⟩
              · have h := h.1 c18
                refine Go.iconst dL_distances_117 k_ic_0 (?_ : Go _ _ 118 _ _ _ _)
                exact Go.zret rfl rfl dL_distances_118 ⟨_, rfl, h⟩
              · have h := h.2 c18
                refine Go.aload_n 0 dL_distances_106 rfl rfl (?_ : Go _ _ 107 _ _ _ _)
                refine Go.iload_n 3 dL_distances_107 rfl rfl (?_ : Go _ _ 108 _ _ _ _)
                refine Go.iconst dL_distances_108 k_ic_3 (?_ : Go _ _ 109 _ _ _ _)
                refine Go.callV (as := [.int v3, .int 3]) (st := []) mk_X5_told wl_L_49 shq_0 rfl rfl (Nat.le_of_ble_eq_true rfl) dL_distances_109 h ?_
                rintro _ s19 ⟨r20, rfl, h⟩
                show Go _ _ 112 _ [.int r20] _ _
                refine Go.iload dL_distances_112 rfl (?_ : Go _ _ 114 _ _ _ _)
                refine Go.icmp_eq 119 dL_distances_114 rfl ⟨fun c21 => ?_, fun c21 => (?_ : Go _ _ 117 _ _ _ _)⟩
                · have h := h.1 c21
                  refine Go.iload dL_distances_119 rfl (?_ : Go _ _ 121 _ _ _ _)
                  refine Go.iload dL_distances_121 rfl (?_ : Go _ _ 123 _ _ _ _)
                  refine Go.if_eq 130 dL_distances_123 rfl ⟨fun c22 => ?_, fun c22 => (?_ : Go _ _ 126 _ _ _ _)⟩
                  · have h := h.1 c22
                    refine Go.iconst dL_distances_130 k_ic_1 (?_ : Go _ _ 131 _ _ _ _)
                    refine Go.iadd dL_distances_131 (?_ : Go _ _ 132 _ _ _ _)
                    refine Go.istore dL_distances_132 (by decide) rfl rfl (?_ : Go _ _ 134 [.ref 0, .ref 65, .ref 66, .int v3, .int (v4 + 1), .int v5, .int v6, .int v7, .int r3, .int r6] _ _ _)
                    refine Go.iinc dL_distances_134 rfl (congrArg (fun z => v3 + z) k_ic_1) (by decide) rfl rfl (?_ : Go _ _ 137 [.ref 0, .ref 65, .ref 66, .int (v3 + 1), .int (v4 + 1), .int v5, .int v6, .int v7, .int r3, .int r6] _ _ _)
                    refine Go.iinc dL_distances_137 rfl (congrArg (fun z => v7 + z) k_ic_1) (by decide) rfl rfl (?_ : Go _ _ 140 [.ref 0, .ref 65, .ref 66, .int (v3 + 1), .int (v4 + 1), .int v5, .int v6, .int (v7 + 1), .int r3, .int r6] _ _ _)
                    refine Go.goto 23 dL_distances_140 rfl ?_
                    refine Go.drop (ls' := [.ref 0, .ref 65, .ref 66, .int (v3 + 1), .int (v4 + 1), .int v5, .int v6, .int (v7 + 1), .null, .int r6]) 8 rfl ?_
                    refine Go.drop (ls' := [.ref 0, .ref 65, .ref 66, .int (v3 + 1), .int (v4 + 1), .int v5, .int v6, .int (v7 + 1), .null, .null]) 9 rfl ?_
                    exact h
                  · have h := h.2 c22
                    refine Go.iconst dL_distances_126 k_ic_0 (?_ : Go _ _ 127 _ _ _ _)
                    refine Go.goto 131 dL_distances_127 rfl ?_
                    refine Go.iadd dL_distances_131 (?_ : Go _ _ 132 _ _ _ _)
                    refine Go.istore dL_distances_132 (by decide) rfl rfl (?_ : Go _ _ 134 [.ref 0, .ref 65, .ref 66, .int v3, .int (v4 + 0), .int v5, .int v6, .int v7, .int r3, .int r6] _ _ _)
                    refine Go.iinc dL_distances_134 rfl (congrArg (fun z => v3 + z) k_ic_1) (by decide) rfl rfl (?_ : Go _ _ 137 [.ref 0, .ref 65, .ref 66, .int (v3 + 1), .int (v4 + 0), .int v5, .int v6, .int v7, .int r3, .int r6] _ _ _)
                    refine Go.iinc dL_distances_137 rfl (congrArg (fun z => v7 + z) k_ic_1) (by decide) rfl rfl (?_ : Go _ _ 140 [.ref 0, .ref 65, .ref 66, .int (v3 + 1), .int (v4 + 0), .int v5, .int v6, .int (v7 + 1), .int r3, .int r6] _ _ _)
                    refine Go.goto 23 dL_distances_140 rfl ?_
                    refine Go.drop (ls' := [.ref 0, .ref 65, .ref 66, .int (v3 + 1), .int (v4 + 0), .int v5, .int v6, .int (v7 + 1), .null, .int r6]) 8 rfl ?_
                    refine Go.drop (ls' := [.ref 0, .ref 65, .ref 66, .int (v3 + 1), .int (v4 + 0), .int v5, .int v6, .int (v7 + 1), .null, .null]) 9 rfl ?_
                    exact h
                · have h := h.2 c21
                  refine Go.iconst dL_distances_117 k_ic_0 (?_ : Go _ _ 118 _ _ _ _)
                  exact Go.zret rfl rfl dL_distances_118 ⟨_, rfl, h⟩
            · have h := h.2 c17
              refine Go.iconst dL_distances_98 k_ic_1 (?_ : Go _ _ 99 _ _ _ _)
              refine Go.goto 103 dL_distances_99 rfl ?_
              refine Go.icmp_ne 117 dL_distances_103 rfl ⟨fun c23 => ?_, fun c23 => (?_ : Go _ _ 106 _ _ _ _)⟩
              · have h := h.1 c23
                refine Go.iconst dL_distances_117 k_ic_0 (?_ : Go _ _ 118 _ _ _ _)
                exact Go.zret rfl rfl dL_distances_118 ⟨_, rfl, h⟩
              · have h := h.2 c23
                refine Go.aload_n 0 dL_distances_106 rfl rfl (?_ : Go _ _ 107 _ _ _ _)
                refine Go.iload_n 3 dL_distances_107 rfl rfl (?_ : Go _ _ 108 _ _ _ _)
                refine Go.iconst dL_distances_108 k_ic_3 (?_ : Go _ _ 109 _ _ _ _)
                refine Go.callV (as := [.int v3, .int 3]) (st := []) mk_X5_told wl_L_49 shq_0 rfl rfl (Nat.le_of_ble_eq_true rfl) dL_distances_109 h ?_
                rintro _ s24 ⟨r25, rfl, h⟩
                show Go _ _ 112 _ [.int r25] _ _
                refine Go.iload dL_distances_112 rfl (?_ : Go _ _ 114 _ _ _ _)
                refine Go.icmp_eq 119 dL_distances_114 rfl ⟨fun c26 => ?_, fun c26 => (?_ : Go _ _ 117 _ _ _ _)⟩
                · have h := h.1 c26
                  refine Go.iload dL_distances_119 rfl (?_ : Go _ _ 121 _ _ _ _)
                  refine Go.iload dL_distances_121 rfl (?_ : Go _ _ 123 _ _ _ _)
                  refine Go.if_eq 130 dL_distances_123 rfl ⟨fun c27 => ?_, fun c27 => (?_ : Go _ _ 126 _ _ _ _)⟩
                  · have h := h.1 c27
                    refine Go.iconst dL_distances_130 k_ic_1 (?_ : Go _ _ 131 _ _ _ _)
                    refine Go.iadd dL_distances_131 (?_ : Go _ _ 132 _ _ _ _)
                    refine Go.istore dL_distances_132 (by decide) rfl rfl (?_ : Go _ _ 134 [.ref 0, .ref 65, .ref 66, .int v3, .int (v4 + 1), .int v5, .int v6, .int v7, .int r3, .int r6] _ _ _)
                    refine Go.iinc dL_distances_134 rfl (congrArg (fun z => v3 + z) k_ic_1) (by decide) rfl rfl (?_ : Go _ _ 137 [.ref 0, .ref 65, .ref 66, .int (v3 + 1), .int (v4 + 1), .int v5, .int v6, .int v7, .int r3, .int r6] _ _ _)
                    refine Go.iinc dL_distances_137 rfl (congrArg (fun z => v7 + z) k_ic_1) (by decide) rfl rfl (?_ : Go _ _ 140 [.ref 0, .ref 65, .ref 66, .int (v3 + 1), .int (v4 + 1), .int v5, .int v6, .int (v7 + 1), .int r3, .int r6] _ _ _)
                    refine Go.goto 23 dL_distances_140 rfl ?_
                    refine Go.drop (ls' := [.ref 0, .ref 65, .ref 66, .int (v3 + 1), .int (v4 + 1), .int v5, .int v6, .int (v7 + 1), .null, .int r6]) 8 rfl ?_
                    refine Go.drop (ls' := [.ref 0, .ref 65, .ref 66, .int (v3 + 1), .int (v4 + 1), .int v5, .int v6, .int (v7 + 1), .null, .null]) 9 rfl ?_
                    exact h
                  · have h := h.2 c27
                    refine Go.iconst dL_distances_126 k_ic_0 (?_ : Go _ _ 127 _ _ _ _)
                    refine Go.goto 131 dL_distances_127 rfl ?_
                    refine Go.iadd dL_distances_131 (?_ : Go _ _ 132 _ _ _ _)
                    refine Go.istore dL_distances_132 (by decide) rfl rfl (?_ : Go _ _ 134 [.ref 0, .ref 65, .ref 66, .int v3, .int (v4 + 0), .int v5, .int v6, .int v7, .int r3, .int r6] _ _ _)
                    refine Go.iinc dL_distances_134 rfl (congrArg (fun z => v3 + z) k_ic_1) (by decide) rfl rfl (?_ : Go _ _ 137 [.ref 0, .ref 65, .ref 66, .int (v3 + 1), .int (v4 + 0), .int v5, .int v6, .int v7, .int r3, .int r6] _ _ _)
                    refine Go.iinc dL_distances_137 rfl (congrArg (fun z => v7 + z) k_ic_1) (by decide) rfl rfl (?_ : Go _ _ 140 [.ref 0, .ref 65, .ref 66, .int (v3 + 1), .int (v4 + 0), .int v5, .int v6, .int (v7 + 1), .int r3, .int r6] _ _ _)
                    refine Go.goto 23 dL_distances_140 rfl ?_
                    refine Go.drop (ls' := [.ref 0, .ref 65, .ref 66, .int (v3 + 1), .int (v4 + 0), .int v5, .int v6, .int (v7 + 1), .null, .int r6]) 8 rfl ?_
                    refine Go.drop (ls' := [.ref 0, .ref 65, .ref 66, .int (v3 + 1), .int (v4 + 0), .int v5, .int v6, .int (v7 + 1), .null, .null]) 9 rfl ?_
                    exact h
                · have h := h.2 c26
                  refine Go.iconst dL_distances_117 k_ic_0 (?_ : Go _ _ 118 _ _ _ _)
                  exact Go.zret rfl rfl dL_distances_118 ⟨_, rfl, h⟩
set_option maxHeartbeats 4000000 in
set_option maxRecDepth 100000 in
theorem sgL_distances_152 {d : Nat} {σ : St} {v3 : Int32} {v4 : Int32} {v5 : Int32} {v6 : Int32} {K : Int32 → St → Prop} (h : ((sA σ 66 8) ≤ v6 → Go mL_distances (d + 1) 199 [.ref 0, .ref 65, .ref 66, .int v3, .int v4, .int v5, .int v6, .null, .null, .null] [] σ (QI K)) ∧ (¬ (sA σ 66 8) ≤ v6 → vp_in (3 * v6) 63 ∧ vp_in ((3 * v6) + 2) 63 ∧ CallI d mL_told [.ref 65, .ref 66, .int (sA σ 65 (ix (3 * v6))), .int (sA σ 65 (ix ((3 * v6) + 2)))] σ (fun r3 s2 => (r3 ≤ 0 → Go mL_distances (d + 1) 152 [.ref 0, .ref 65, .ref 66, .int v3, .int v4, .int (v5 + 1), .int (v6 + 1), .null, .null, .null] [] s2 (QI K)) ∧ (¬ r3 ≤ 0 → Go mL_distances (d + 1) 152 [.ref 0, .ref 65, .ref 66, .int v3, .int v4, .int (v5 + 0), .int (v6 + 1), .null, .null, .null] [] s2 (QI K))))) : Go mL_distances (d + 1) 152 [.ref 0, .ref 65, .ref 66, .int v3, .int v4, .int v5, .int v6, .null, .null, .null] [] σ (QI K) := by
  refine Go.iload dL_distances_152 rfl (?_ : Go _ _ 154 _ _ _ _)
  refine Go.aload_n 2 dL_distances_154 rfl rfl (?_ : Go _ _ 155 _ _ _ _)
  refine Go.bipush dL_distances_155 k_bi_8 (?_ : Go _ _ 157 _ _ _ _)
  refine Go.ialdK ixk_8 vik_8_9 shq_66 dL_distances_157 (?_ : Go _ _ 158 _ _ _ _)
  refine Go.icmp_ge 199 dL_distances_158 rfl ⟨fun c1 => ?_, fun c1 => (?_ : Go _ _ 161 _ _ _ _)⟩
  · have h := h.1 c1
    exact h
  · have h := h.2 c1
    refine Go.iload dL_distances_161 rfl (?_ : Go _ _ 163 _ _ _ _)
    refine Go.aload_n 1 dL_distances_163 rfl rfl (?_ : Go _ _ 164 _ _ _ _)
    refine Go.aload_n 2 dL_distances_164 rfl rfl (?_ : Go _ _ 165 _ _ _ _)
    refine Go.aload_n 1 dL_distances_165 rfl rfl (?_ : Go _ _ 166 _ _ _ _)
    refine Go.iconst dL_distances_166 k_ic_3 (?_ : Go _ _ 167 _ _ _ _)
    refine Go.iload dL_distances_167 rfl (?_ : Go _ _ 169 _ _ _ _)
    refine Go.imul dL_distances_169 (?_ : Go _ _ 170 _ _ _ _)
    refine Go.iald shq_65 dL_distances_170 ⟨h.1, (?_ : Go _ _ 171 _ _ _ _)⟩
    have h := h.2
    refine Go.aload_n 1 dL_distances_171 rfl rfl (?_ : Go _ _ 172 _ _ _ _)
    refine Go.iconst dL_distances_172 k_ic_3 (?_ : Go _ _ 173 _ _ _ _)
    refine Go.iload dL_distances_173 rfl (?_ : Go _ _ 175 _ _ _ _)
    refine Go.imul dL_distances_175 (?_ : Go _ _ 176 _ _ _ _)
    refine Go.iconst dL_distances_176 k_ic_2 (?_ : Go _ _ 177 _ _ _ _)
    refine Go.iadd dL_distances_177 (?_ : Go _ _ 178 _ _ _ _)
    refine Go.iald shq_65 dL_distances_178 ⟨h.1, (?_ : Go _ _ 179 _ _ _ _)⟩
    have h := h.2
    refine Go.callS (as := [.ref 65, .ref 66, .int (sA σ 65 (ix (3 * v6))), .int (sA σ 65 (ix ((3 * v6) + 2)))]) (st := [.int v5]) mk_L_told wl_L_33 rfl rfl (Nat.le_of_ble_eq_true rfl) dL_distances_179 h ?_
    rintro _ s2 ⟨r3, rfl, h⟩
    show Go _ _ 182 _ [.int r3, .int v5] _ _
    refine Go.if_le 189 dL_distances_182 rfl ⟨fun c4 => ?_, fun c4 => (?_ : Go _ _ 185 _ _ _ _)⟩
    · have h := h.1 c4
      refine Go.iconst dL_distances_189 k_ic_1 (?_ : Go _ _ 190 _ _ _ _)
      refine Go.iadd dL_distances_190 (?_ : Go _ _ 191 _ _ _ _)
      refine Go.istore dL_distances_191 (by decide) rfl rfl (?_ : Go _ _ 193 [.ref 0, .ref 65, .ref 66, .int v3, .int v4, .int (v5 + 1), .int v6, .null, .null, .null] _ _ _)
      refine Go.iinc dL_distances_193 rfl (congrArg (fun z => v6 + z) k_ic_1) (by decide) rfl rfl (?_ : Go _ _ 196 [.ref 0, .ref 65, .ref 66, .int v3, .int v4, .int (v5 + 1), .int (v6 + 1), .null, .null, .null] _ _ _)
      refine Go.goto 152 dL_distances_196 rfl ?_
      exact h
    · have h := h.2 c4
      refine Go.iconst dL_distances_185 k_ic_0 (?_ : Go _ _ 186 _ _ _ _)
      refine Go.goto 190 dL_distances_186 rfl ?_
      refine Go.iadd dL_distances_190 (?_ : Go _ _ 191 _ _ _ _)
      refine Go.istore dL_distances_191 (by decide) rfl rfl (?_ : Go _ _ 193 [.ref 0, .ref 65, .ref 66, .int v3, .int v4, .int (v5 + 0), .int v6, .null, .null, .null] _ _ _)
      refine Go.iinc dL_distances_193 rfl (congrArg (fun z => v6 + z) k_ic_1) (by decide) rfl rfl (?_ : Go _ _ 196 [.ref 0, .ref 65, .ref 66, .int v3, .int v4, .int (v5 + 0), .int (v6 + 1), .null, .null, .null] _ _ _)
      refine Go.goto 152 dL_distances_196 rfl ?_
      exact h
set_option maxHeartbeats 4000000 in
set_option maxRecDepth 100000 in
theorem sgL_numbers_0 {d : Nat} {σ : St} {x2 : Int32} {K : Int32 → St → Prop} (h : Go mL_numbers (d + 1) 5 [.ref 0, .ref 66, .int x2, .int 1, .int 0, .null, .null, .null] [] σ (QI K)) : Go mL_numbers (d + 1) 0 [.ref 0, .ref 66, .int x2, .null, .null, .null, .null, .null] [] σ (QI K) := by
  refine Go.iconst dL_numbers_0 k_ic_1 (?_ : Go _ _ 1 _ _ _ _)
  refine Go.istore_n 3 dL_numbers_1 rfl (by decide) rfl rfl (?_ : Go _ _ 2 [.ref 0, .ref 66, .int x2, .int 1, .null, .null, .null, .null] _ _ _)
  refine Go.iconst dL_numbers_2 k_ic_0 (?_ : Go _ _ 3 _ _ _ _)
  refine Go.istore dL_numbers_3 (by decide) rfl rfl (?_ : Go _ _ 5 [.ref 0, .ref 66, .int x2, .int 1, .int 0, .null, .null, .null] _ _ _)
  exact h
theorem cgL_numbers {d : Nat} {σ : St} {x2 : Int32} {K : Int32 → St → Prop} (h : Go mL_numbers (d + 1) 5 [.ref 0, .ref 66, .int x2, .int 1, .int 0, .null, .null, .null] [] σ (QI K)) : CallI (d + 1) mL_numbers [.ref 0, .ref 66, .int x2] σ K := Call_of_Go (by decide +kernel) (ls := [.ref 0, .ref 66, .int x2, .null, .null, .null, .null, .null]) rfl (Nat.le_of_ble_eq_true rfl) (sgL_numbers_0 h)
set_option maxHeartbeats 4000000 in
set_option maxRecDepth 100000 in
theorem sgL_numbers_5 {d : Nat} {σ : St} {v2 : Int32} {v3 : Int32} {v4 : Int32} {K : Int32 → St → Prop} (h : ((sA σ 66 7) ≤ v4 → CallI d mL_low [.int v2, .int (sA σ 66 0)] σ (fun r3 s2 => ((sA s2 66 7) ≤ 1 → Go mL_numbers (d + 1) 82 [.ref 0, .ref 66, .int v2, .int v3, .int r3, .int 0, .int (-4), .int 2500] [] s2 (QI K)) ∧ (¬ (sA s2 66 7) ≤ 1 → CallI d mL_low [.int (v2 >>> (6 &&& 31)), .int (sA s2 66 1)] s2 (fun r6 s5 => Go mL_numbers (d + 1) 82 [.ref 0, .ref 66, .int v2, .int v3, .int r3, .int r6, .int (-4), .int 2500] [] s5 (QI K))))) ∧ (¬ (sA σ 66 7) ≤ v4 → Go mL_numbers (d + 1) 17 [.ref 0, .ref 66, .int v2, .int v3, .int v4, .int v3, .null, .null] [] σ (QI K))) : Go mL_numbers (d + 1) 5 [.ref 0, .ref 66, .int v2, .int v3, .int v4, .null, .null, .null] [] σ (QI K) := by
  refine Go.iload dL_numbers_5 rfl (?_ : Go _ _ 7 _ _ _ _)
  refine Go.aload_n 1 dL_numbers_7 rfl rfl (?_ : Go _ _ 8 _ _ _ _)
  refine Go.bipush dL_numbers_8 k_bi_7 (?_ : Go _ _ 10 _ _ _ _)
  refine Go.ialdK ixk_7 vik_7_9 shq_66 dL_numbers_10 (?_ : Go _ _ 11 _ _ _ _)
  refine Go.icmp_ge 40 dL_numbers_11 rfl ⟨fun c1 => ?_, fun c1 => (?_ : Go _ _ 14 _ _ _ _)⟩
  · have h := h.1 c1
    refine Go.iload_n 2 dL_numbers_40 rfl rfl (?_ : Go _ _ 41 _ _ _ _)
    refine Go.aload_n 1 dL_numbers_41 rfl rfl (?_ : Go _ _ 42 _ _ _ _)
    refine Go.iconst dL_numbers_42 k_ic_0 (?_ : Go _ _ 43 _ _ _ _)
    refine Go.ialdK ixk_0 vik_0_9 shq_66 dL_numbers_43 (?_ : Go _ _ 44 _ _ _ _)
    refine Go.callS (as := [.int v2, .int (sA σ 66 0)]) (st := []) mk_L_low wl_L_55 rfl rfl (Nat.le_of_ble_eq_true rfl) dL_numbers_44 h ?_
    rintro _ s2 ⟨r3, rfl, h⟩
    show Go _ _ 47 _ [.int r3] _ _
    refine Go.istore dL_numbers_47 (by decide) rfl rfl (?_ : Go _ _ 49 [.ref 0, .ref 66, .int v2, .int v3, .int r3, .null, .null, .null] _ _ _)
    refine Go.aload_n 1 dL_numbers_49 rfl rfl (?_ : Go _ _ 50 _ _ _ _)
    refine Go.bipush dL_numbers_50 k_bi_7 (?_ : Go _ _ 52 _ _ _ _)
    refine Go.ialdK ixk_7 vik_7_9 shq_66 dL_numbers_52 (?_ : Go _ _ 53 _ _ _ _)
    refine Go.iconst dL_numbers_53 k_ic_1 (?_ : Go _ _ 54 _ _ _ _)
    refine Go.icmp_le 70 dL_numbers_54 rfl ⟨fun c4 => ?_, fun c4 => (?_ : Go _ _ 57 _ _ _ _)⟩
    · have h := h.1 c4
      refine Go.iconst dL_numbers_70 k_ic_0 (?_ : Go _ _ 71 _ _ _ _)
      refine Go.istore dL_numbers_71 (by decide) rfl rfl (?_ : Go _ _ 73 [.ref 0, .ref 66, .int v2, .int v3, .int r3, .int 0, .null, .null] _ _ _)
      refine Go.bipush dL_numbers_73 k_bi_m4 (?_ : Go _ _ 75 _ _ _ _)
      refine Go.istore dL_numbers_75 (by decide) rfl rfl (?_ : Go _ _ 77 [.ref 0, .ref 66, .int v2, .int v3, .int r3, .int 0, .int (-4), .null] _ _ _)
      refine Go.sipush dL_numbers_77 k_si_2500 (?_ : Go _ _ 80 _ _ _ _)
      refine Go.istore dL_numbers_80 (by decide) rfl rfl (?_ : Go _ _ 82 [.ref 0, .ref 66, .int v2, .int v3, .int r3, .int 0, .int (-4), .int 2500] _ _ _)
      exact h
    · have h := h.2 c4
      refine Go.iload_n 2 dL_numbers_57 rfl rfl (?_ : Go _ _ 58 _ _ _ _)
      refine Go.bipush dL_numbers_58 k_bi_6 (?_ : Go _ _ 60 _ _ _ _)
      refine Go.ishr dL_numbers_60 (?_ : Go _ _ 61 _ _ _ _)
      refine Go.aload_n 1 dL_numbers_61 rfl rfl (?_ : Go _ _ 62 _ _ _ _)
      refine Go.iconst dL_numbers_62 k_ic_1 (?_ : Go _ _ 63 _ _ _ _)
      refine Go.ialdK ixk_1 vik_1_9 shq_66 dL_numbers_63 (?_ : Go _ _ 64 _ _ _ _)
      refine Go.callS (as := [.int (v2 >>> (6 &&& 31)), .int (sA s2 66 1)]) (st := []) mk_L_low wl_L_55 rfl rfl (Nat.le_of_ble_eq_true rfl) dL_numbers_64 h ?_
      rintro _ s5 ⟨r6, rfl, h⟩
      show Go _ _ 67 _ [.int r6] _ _
      refine Go.goto 71 dL_numbers_67 rfl ?_
      refine Go.istore dL_numbers_71 (by decide) rfl rfl (?_ : Go _ _ 73 [.ref 0, .ref 66, .int v2, .int v3, .int r3, .int r6, .null, .null] _ _ _)
      refine Go.bipush dL_numbers_73 k_bi_m4 (?_ : Go _ _ 75 _ _ _ _)
      refine Go.istore dL_numbers_75 (by decide) rfl rfl (?_ : Go _ _ 77 [.ref 0, .ref 66, .int v2, .int v3, .int r3, .int r6, .int (-4), .null] _ _ _)
      refine Go.sipush dL_numbers_77 k_si_2500 (?_ : Go _ _ 80 _ _ _ _)
      refine Go.istore dL_numbers_80 (by decide) rfl rfl (?_ : Go _ _ 82 [.ref 0, .ref 66, .int v2, .int v3, .int r3, .int r6, .int (-4), .int 2500] _ _ _)
      exact h
  · have h := h.2 c1
    refine Go.iload_n 3 dL_numbers_14 rfl rfl (?_ : Go _ _ 15 _ _ _ _)
    refine Go.istore dL_numbers_15 (by decide) rfl rfl (?_ : Go _ _ 17 [.ref 0, .ref 66, .int v2, .int v3, .int v4, .int v3, .null, .null] _ _ _)
    exact h
set_option maxHeartbeats 4000000 in
set_option maxRecDepth 100000 in
theorem sgL_numbers_17 {d : Nat} {σ : St} {v2 : Int32} {v3 : Int32} {v4 : Int32} {v5 : Int32} {K : Int32 → St → Prop} (h : vp_in v4 9 ∧ (¬ (sA σ 66 (ix v4)) = 0) ∧ ((irem v3 (sA σ 66 (ix v4))) = 0 → Go mL_numbers (d + 1) 5 [.ref 0, .ref 66, .int v2, .int v3, .int (v4 + 1), .null, .null, .null] [] σ (QI K)) ∧ (¬ (irem v3 (sA σ 66 (ix v4))) = 0 → Go mL_numbers (d + 1) 17 [.ref 0, .ref 66, .int v2, .int (v3 + v5), .int v4, .int v5, .null, .null] [] σ (QI K))) : Go mL_numbers (d + 1) 17 [.ref 0, .ref 66, .int v2, .int v3, .int v4, .int v5, .null, .null] [] σ (QI K) := by
  refine Go.iload_n 3 dL_numbers_17 rfl rfl (?_ : Go _ _ 18 _ _ _ _)
  refine Go.aload_n 1 dL_numbers_18 rfl rfl (?_ : Go _ _ 19 _ _ _ _)
  refine Go.iload dL_numbers_19 rfl (?_ : Go _ _ 21 _ _ _ _)
  refine Go.iald shq_66 dL_numbers_21 ⟨h.1, (?_ : Go _ _ 22 _ _ _ _)⟩
  have h := h.2
  refine Go.irem dL_numbers_22 h.1 (?_ : Go _ _ 23 _ _ _ _)
  have h := h.2
  refine Go.if_eq 34 dL_numbers_23 rfl ⟨fun c1 => ?_, fun c1 => (?_ : Go _ _ 26 _ _ _ _)⟩
  · have h := h.1 c1
    refine Go.iinc dL_numbers_34 rfl (congrArg (fun z => v4 + z) k_ic_1) (by decide) rfl rfl (?_ : Go _ _ 37 [.ref 0, .ref 66, .int v2, .int v3, .int (v4 + 1), .int v5, .null, .null] _ _ _)
    refine Go.goto 5 dL_numbers_37 rfl ?_
    refine Go.drop (ls' := [.ref 0, .ref 66, .int v2, .int v3, .int (v4 + 1), .null, .null, .null]) 5 rfl ?_
    exact h
  · have h := h.2 c1
    refine Go.iload_n 3 dL_numbers_26 rfl rfl (?_ : Go _ _ 27 _ _ _ _)
    refine Go.iload dL_numbers_27 rfl (?_ : Go _ _ 29 _ _ _ _)
    refine Go.iadd dL_numbers_29 (?_ : Go _ _ 30 _ _ _ _)
    refine Go.istore_n 3 dL_numbers_30 rfl (by decide) rfl rfl (?_ : Go _ _ 31 [.ref 0, .ref 66, .int v2, .int (v3 + v5), .int v4, .int v5, .null, .null] _ _ _)
    refine Go.goto 17 dL_numbers_31 rfl ?_
    exact h
set_option maxHeartbeats 4000000 in
set_option maxRecDepth 100000 in
theorem sgL_numbers_82 {d : Nat} {σ : St} {v2 : Int32} {v3 : Int32} {v4 : Int32} {v5 : Int32} {v6 : Int32} {v7 : Int32} {K : Int32 → St → Prop} (h : (v7 < 0 → CallI d mX5_alike [.ref 0, .int 0] σ (fun r3 s2 => (¬ r3 = v3 → K 0 s2) ∧ (r3 = v3 → CallI d mX5_alike [.ref 0, .int 1] s2 (fun r6 s5 => (¬ r6 = v3 → K 0 s5) ∧ (r6 = v3 → CallI d mX5_unfold [.ref 0, .int v4, .int v5, .int 0] s5 (fun r9 s8 => (¬ r9 = v6 → K 0 s8) ∧ (r9 = v6 → CallI d mX5_unfold [.ref 0, .int v4, .int v5, .int 1] s8 (fun r12 s11 => (¬ r12 = v6 → K 0 s11) ∧ (r12 = v6 → CallI d mX5_unfold [.ref 0, .int (sA s11 66 0), .int 0, .int 0] s11 (fun r15 s14 => (¬ r15 = (-1) → K 0 s14) ∧ (r15 = (-1) → K 1 s14))))))))))) ∧ (¬ v7 < 0 → (¬ (sA σ 66 0) = 0) ∧ (¬ (irem v7 (sA σ 66 0)) = v4 → Go mL_numbers (d + 1) 82 [.ref 0, .ref 66, .int v2, .int v3, .int v4, .int v5, .int v6, .int (v7 + (-1))] [] σ (QI K)) ∧ ((irem v7 (sA σ 66 0)) = v4 → ((sA σ 66 7) < 2 → Go mL_numbers (d + 1) 82 [.ref 0, .ref 66, .int v2, .int v3, .int v4, .int v5, .int v7, .int (v7 + (-1))] [] σ (QI K)) ∧ (¬ (sA σ 66 7) < 2 → (¬ (sA σ 66 1) = 0) ∧ (¬ (irem v7 (sA σ 66 1)) = v5 → Go mL_numbers (d + 1) 82 [.ref 0, .ref 66, .int v2, .int v3, .int v4, .int v5, .int v6, .int (v7 + (-1))] [] σ (QI K)) ∧ ((irem v7 (sA σ 66 1)) = v5 → Go mL_numbers (d + 1) 82 [.ref 0, .ref 66, .int v2, .int v3, .int v4, .int v5, .int v7, .int (v7 + (-1))] [] σ (QI K)))))) : Go mL_numbers (d + 1) 82 [.ref 0, .ref 66, .int v2, .int v3, .int v4, .int v5, .int v6, .int v7] [] σ (QI K) := by
  refine Go.iload dL_numbers_82 rfl (?_ : Go _ _ 84 _ _ _ _)
  refine Go.if_lt 132 dL_numbers_84 rfl ⟨fun c1 => ?_, fun c1 => (?_ : Go _ _ 87 _ _ _ _)⟩
  · have h := h.1 c1
    refine Go.aload_n 0 dL_numbers_132 rfl rfl (?_ : Go _ _ 133 _ _ _ _)
    refine Go.iconst dL_numbers_133 k_ic_0 (?_ : Go _ _ 134 _ _ _ _)
    refine Go.callV (as := [.int 0]) (st := []) mk_X5_alike wl_L_58 shq_0 rfl rfl (Nat.le_of_ble_eq_true rfl) dL_numbers_134 h ?_
    rintro _ s2 ⟨r3, rfl, h⟩
    show Go _ _ 137 _ [.int r3] _ _
    refine Go.iload_n 3 dL_numbers_137 rfl rfl (?_ : Go _ _ 138 _ _ _ _)
    refine Go.icmp_ne 195 dL_numbers_138 rfl ⟨fun c4 => ?_, fun c4 => (?_ : Go _ _ 141 _ _ _ _)⟩
    · have h := h.1 c4
      refine Go.iconst dL_numbers_195 k_ic_0 (?_ : Go _ _ 196 _ _ _ _)
      exact Go.zret rfl rfl dL_numbers_196 ⟨_, rfl, h⟩
    · have h := h.2 c4
      refine Go.aload_n 0 dL_numbers_141 rfl rfl (?_ : Go _ _ 142 _ _ _ _)
      refine Go.iconst dL_numbers_142 k_ic_1 (?_ : Go _ _ 143 _ _ _ _)
      refine Go.callV (as := [.int 1]) (st := []) mk_X5_alike wl_L_58 shq_0 rfl rfl (Nat.le_of_ble_eq_true rfl) dL_numbers_143 h ?_
      rintro _ s5 ⟨r6, rfl, h⟩
      show Go _ _ 146 _ [.int r6] _ _
      refine Go.iload_n 3 dL_numbers_146 rfl rfl (?_ : Go _ _ 147 _ _ _ _)
      refine Go.icmp_ne 195 dL_numbers_147 rfl ⟨fun c7 => ?_, fun c7 => (?_ : Go _ _ 150 _ _ _ _)⟩
      · have h := h.1 c7
        refine Go.iconst dL_numbers_195 k_ic_0 (?_ : Go _ _ 196 _ _ _ _)
        exact Go.zret rfl rfl dL_numbers_196 ⟨_, rfl, h⟩
      · have h := h.2 c7
        refine Go.aload_n 0 dL_numbers_150 rfl rfl (?_ : Go _ _ 151 _ _ _ _)
        refine Go.iload dL_numbers_151 rfl (?_ : Go _ _ 153 _ _ _ _)
        refine Go.iload dL_numbers_153 rfl (?_ : Go _ _ 155 _ _ _ _)
        refine Go.iconst dL_numbers_155 k_ic_0 (?_ : Go _ _ 156 _ _ _ _)
        refine Go.callV (as := [.int v4, .int v5, .int 0]) (st := []) mk_X5_unfold wl_L_61 shq_0 rfl rfl (Nat.le_of_ble_eq_true rfl) dL_numbers_156 h ?_
        rintro _ s8 ⟨r9, rfl, h⟩
        show Go _ _ 159 _ [.int r9] _ _
        refine Go.iload dL_numbers_159 rfl (?_ : Go _ _ 161 _ _ _ _)
        refine Go.icmp_ne 195 dL_numbers_161 rfl ⟨fun c10 => ?_, fun c10 => (?_ : Go _ _ 164 _ _ _ _)⟩
        · have h := h.1 c10
          refine Go.iconst dL_numbers_195 k_ic_0 (?_ : Go _ _ 196 _ _ _ _)
          exact Go.zret rfl rfl dL_numbers_196 ⟨_, rfl, h⟩
        · have h := h.2 c10
          refine Go.aload_n 0 dL_numbers_164 rfl rfl (?_ : Go _ _ 165 _ _ _ _)
          refine Go.iload dL_numbers_165 rfl (?_ : Go _ _ 167 _ _ _ _)
          refine Go.iload dL_numbers_167 rfl (?_ : Go _ _ 169 _ _ _ _)
          refine Go.iconst dL_numbers_169 k_ic_1 (?_ : Go _ _ 170 _ _ _ _)
          refine Go.callV (as := [.int v4, .int v5, .int 1]) (st := []) mk_X5_unfold wl_L_61 shq_0 rfl rfl (Nat.le_of_ble_eq_true rfl) dL_numbers_170 h ?_
          rintro _ s11 ⟨r12, rfl, h⟩
          show Go _ _ 173 _ [.int r12] _ _
          refine Go.iload dL_numbers_173 rfl (?_ : Go _ _ 175 _ _ _ _)
          refine Go.icmp_ne 195 dL_numbers_175 rfl ⟨fun c13 => ?_, fun c13 => (?_ : Go _ _ 178 _ _ _ _)⟩
          · have h := h.1 c13
            refine Go.iconst dL_numbers_195 k_ic_0 (?_ : Go _ _ 196 _ _ _ _)
            exact Go.zret rfl rfl dL_numbers_196 ⟨_, rfl, h⟩
          · have h := h.2 c13
            refine Go.aload_n 0 dL_numbers_178 rfl rfl (?_ : Go _ _ 179 _ _ _ _)
            refine Go.aload_n 1 dL_numbers_179 rfl rfl (?_ : Go _ _ 180 _ _ _ _)
            refine Go.iconst dL_numbers_180 k_ic_0 (?_ : Go _ _ 181 _ _ _ _)
            refine Go.ialdK ixk_0 vik_0_9 shq_66 dL_numbers_181 (?_ : Go _ _ 182 _ _ _ _)
            refine Go.iconst dL_numbers_182 k_ic_0 (?_ : Go _ _ 183 _ _ _ _)
            refine Go.iconst dL_numbers_183 k_ic_0 (?_ : Go _ _ 184 _ _ _ _)
            refine Go.callV (as := [.int (sA s11 66 0), .int 0, .int 0]) (st := []) mk_X5_unfold wl_L_61 shq_0 rfl rfl (Nat.le_of_ble_eq_true rfl) dL_numbers_184 h ?_
            rintro _ s14 ⟨r15, rfl, h⟩
            show Go _ _ 187 _ [.int r15] _ _
            refine Go.iconst dL_numbers_187 k_ic_m1 (?_ : Go _ _ 188 _ _ _ _)
            refine Go.icmp_ne 195 dL_numbers_188 rfl ⟨fun c16 => ?_, fun c16 => (?_ : Go _ _ 191 _ _ _ _)⟩
            · have h := h.1 c16
              refine Go.iconst dL_numbers_195 k_ic_0 (?_ : Go _ _ 196 _ _ _ _)
              exact Go.zret rfl rfl dL_numbers_196 ⟨_, rfl, h⟩
            · have h := h.2 c16
              refine Go.iconst dL_numbers_191 k_ic_1 (?_ : Go _ _ 192 _ _ _ _)
              refine Go.goto 196 dL_numbers_192 rfl ?_
              exact Go.zret rfl rfl dL_numbers_196 ⟨_, rfl, h⟩
  · have h := h.2 c1
    refine Go.iload dL_numbers_87 rfl (?_ : Go _ _ 89 _ _ _ _)
    refine Go.aload_n 1 dL_numbers_89 rfl rfl (?_ : Go _ _ 90 _ _ _ _)
    refine Go.iconst dL_numbers_90 k_ic_0 (?_ : Go _ _ 91 _ _ _ _)
    refine Go.ialdK ixk_0 vik_0_9 shq_66 dL_numbers_91 (?_ : Go _ _ 92 _ _ _ _)
    refine Go.irem dL_numbers_92 h.1 (?_ : Go _ _ 93 _ _ _ _)
    have h := h.2
    refine Go.iload dL_numbers_93 rfl (?_ : Go _ _ 95 _ _ _ _)
    refine Go.icmp_ne 122 dL_numbers_95 rfl ⟨fun c17 => ?_, fun c17 => (?_ : Go _ _ 98 _ _ _ _)⟩
    · have h := h.1 c17
      refine Go.iload dL_numbers_122 rfl (?_ : Go _ _ 124 _ _ _ _)
      refine Go.istore dL_numbers_124 (by decide) rfl rfl (?_ : Go _ _ 126 [.ref 0, .ref 66, .int v2, .int v3, .int v4, .int v5, .int v6, .int v7] _ _ _)
      refine Go.iinc dL_numbers_126 rfl (congrArg (fun z => v7 + z) k_ic_m1) (by decide) rfl rfl (?_ : Go _ _ 129 [.ref 0, .ref 66, .int v2, .int v3, .int v4, .int v5, .int v6, .int (v7 + (-1))] _ _ _)
      refine Go.goto 82 dL_numbers_129 rfl ?_
      exact h
    · have h := h.2 c17
      refine Go.aload_n 1 dL_numbers_98 rfl rfl (?_ : Go _ _ 99 _ _ _ _)
      refine Go.bipush dL_numbers_99 k_bi_7 (?_ : Go _ _ 101 _ _ _ _)
      refine Go.ialdK ixk_7 vik_7_9 shq_66 dL_numbers_101 (?_ : Go _ _ 102 _ _ _ _)
      refine Go.iconst dL_numbers_102 k_ic_2 (?_ : Go _ _ 103 _ _ _ _)
      refine Go.icmp_lt 117 dL_numbers_103 rfl ⟨fun c18 => ?_, fun c18 => (?_ : Go _ _ 106 _ _ _ _)⟩
      · have h := h.1 c18
        refine Go.iload dL_numbers_117 rfl (?_ : Go _ _ 119 _ _ _ _)
        refine Go.goto 124 dL_numbers_119 rfl ?_
        refine Go.istore dL_numbers_124 (by decide) rfl rfl (?_ : Go _ _ 126 [.ref 0, .ref 66, .int v2, .int v3, .int v4, .int v5, .int v7, .int v7] _ _ _)
        refine Go.iinc dL_numbers_126 rfl (congrArg (fun z => v7 + z) k_ic_m1) (by decide) rfl rfl (?_ : Go _ _ 129 [.ref 0, .ref 66, .int v2, .int v3, .int v4, .int v5, .int v7, .int (v7 + (-1))] _ _ _)
        refine Go.goto 82 dL_numbers_129 rfl ?_
        exact h
      · have h := h.2 c18
        refine Go.iload dL_numbers_106 rfl (?_ : Go _ _ 108 _ _ _ _)
        refine Go.aload_n 1 dL_numbers_108 rfl rfl (?_ : Go _ _ 109 _ _ _ _)
        refine Go.iconst dL_numbers_109 k_ic_1 (?_ : Go _ _ 110 _ _ _ _)
        refine Go.ialdK ixk_1 vik_1_9 shq_66 dL_numbers_110 (?_ : Go _ _ 111 _ _ _ _)
        refine Go.irem dL_numbers_111 h.1 (?_ : Go _ _ 112 _ _ _ _)
        have h := h.2
        refine Go.iload dL_numbers_112 rfl (?_ : Go _ _ 114 _ _ _ _)
        refine Go.icmp_ne 122 dL_numbers_114 rfl ⟨fun c19 => ?_, fun c19 => (?_ : Go _ _ 117 _ _ _ _)⟩
        · have h := h.1 c19
          refine Go.iload dL_numbers_122 rfl (?_ : Go _ _ 124 _ _ _ _)
          refine Go.istore dL_numbers_124 (by decide) rfl rfl (?_ : Go _ _ 126 [.ref 0, .ref 66, .int v2, .int v3, .int v4, .int v5, .int v6, .int v7] _ _ _)
          refine Go.iinc dL_numbers_126 rfl (congrArg (fun z => v7 + z) k_ic_m1) (by decide) rfl rfl (?_ : Go _ _ 129 [.ref 0, .ref 66, .int v2, .int v3, .int v4, .int v5, .int v6, .int (v7 + (-1))] _ _ _)
          refine Go.goto 82 dL_numbers_129 rfl ?_
          exact h
        · have h := h.2 c19
          refine Go.iload dL_numbers_117 rfl (?_ : Go _ _ 119 _ _ _ _)
          refine Go.goto 124 dL_numbers_119 rfl ?_
          refine Go.istore dL_numbers_124 (by decide) rfl rfl (?_ : Go _ _ 126 [.ref 0, .ref 66, .int v2, .int v3, .int v4, .int v5, .int v7, .int v7] _ _ _)
          refine Go.iinc dL_numbers_126 rfl (congrArg (fun z => v7 + z) k_ic_m1) (by decide) rfl rfl (?_ : Go _ _ 129 [.ref 0, .ref 66, .int v2, .int v3, .int v4, .int v5, .int v7, .int (v7 + (-1))] _ _ _)
          refine Go.goto 82 dL_numbers_129 rfl ?_
          exact h
