/-! the cases of the law (made by wip/whole/gen/lawcases.py) -/
theorem dl_18 : decode code 18 = .ok (.iload_n 3, 1) := by decide +kernel
theorem dl_19 : decode code 19 = .ok (.aload_n 0, 1) := by decide +kernel
theorem dl_20 : decode code 20 = .ok (.arraylength, 1) := by decide +kernel
theorem dl_21 : decode code 21 = .ok (.iconst 5, 1) := by decide +kernel
theorem dl_22 : decode code 22 = .ok (.isub, 1) := by decide +kernel
theorem dl_23 : decode code 23 = .ok (.if_icmp .gt 850, 3) := by decide +kernel
theorem dl_26 : decode code 26 = .ok (.aload_n 0, 1) := by decide +kernel
theorem dl_27 : decode code 27 = .ok (.iload_n 3, 1) := by decide +kernel
theorem dl_28 : decode code 28 = .ok (.iaload, 1) := by decide +kernel
theorem dl_29 : decode code 29 = .ok (.bipush 31, 2) := by decide +kernel
theorem dl_31 : decode code 31 = .ok (.iand, 1) := by decide +kernel
theorem dl_32 : decode code 32 = .ok (.tableswitch 835 0 24 #[116, 185, 208, 221, 274, 307, 330, 343, 356, 369, 392, 425, 458, 501, 544, 577, 600, 643, 666, 707, 740, 753, 796, 809, 822], 116) := by decide +kernel
theorem dl_148 : decode code 148 = .ok (.aload_n 1, 1) := by decide +kernel
theorem dl_169 : decode code 169 = .ok (.ifCond .eq 7, 3) := by decide +kernel
theorem dl_172 : decode code 172 = .ok (.iconst 1, 1) := by decide +kernel
theorem dl_173 : decode code 173 = .ok (.goto 4, 3) := by decide +kernel
theorem dl_176 : decode code 176 = .ok (.iconst 0, 1) := by decide +kernel
theorem dl_177 : decode code 177 = .ok (.invokevirtual 13, 3) := by decide +kernel
theorem dl_180 : decode code 180 = .ok (.aload_n 2, 1) := by decide +kernel
theorem dl_201 : decode code 201 = .ok (.ifCond .eq 7, 3) := by decide +kernel
theorem dl_204 : decode code 204 = .ok (.iconst 1, 1) := by decide +kernel
theorem dl_205 : decode code 205 = .ok (.goto 4, 3) := by decide +kernel
theorem dl_208 : decode code 208 = .ok (.iconst 0, 1) := by decide +kernel
theorem dl_209 : decode code 209 = .ok (.invokevirtual 17, 3) := by decide +kernel
theorem dl_212 : decode code 212 = .ok (.if_icmp .eq 655, 3) := by decide +kernel
theorem dl_698 : decode code 698 = .ok (.aload_n 1, 1) := by decide +kernel
theorem dl_699 : decode code 699 = .ok (.invokevirtual 91, 3) := by decide +kernel
theorem dl_702 : decode code 702 = .ok (.dstore 4, 2) := by decide +kernel
theorem dl_704 : decode code 704 = .ok (.aload_n 2, 1) := by decide +kernel
theorem dl_705 : decode code 705 = .ok (.invokevirtual 95, 3) := by decide +kernel
theorem dl_708 : decode code 708 = .ok (.dstore 6, 2) := by decide +kernel
theorem dl_710 : decode code 710 = .ok (.dload 4, 2) := by decide +kernel
theorem dl_712 : decode code 712 = .ok (.dload 6, 2) := by decide +kernel
theorem dl_714 : decode code 714 = .ok (.dcmp .l, 1) := by decide +kernel
theorem dl_715 : decode code 715 = .ok (.ifCond .eq 21, 3) := by decide +kernel
theorem dl_736 : decode code 736 = .ok (.goto 131, 3) := by decide +kernel
theorem dl_867 : decode code 867 = .ok (.iinc 3 5, 3) := by decide +kernel
theorem dl_870 : decode code 870 = .ok (.goto (-852), 3) := by decide +kernel
theorem dl_873 : decode code 873 = .ok (.iconst 1, 1) := by decide +kernel
theorem dl_874 : decode code 874 = .ok (.ireturn, 1) := by decide +kernel
theorem ll_X5_target : Cond.methodLink RL 13 yX5_target ∈ tbg := tbAt (i := 287) (by decide +kernel) (by decide +kernel)
theorem ll_X6_target : Cond.methodLink RL 17 yX6_target ∈ tbg := tbAt (i := 929) (by decide +kernel) (by decide +kernel)
theorem ll_X5_drop : Cond.methodLink RL 18 yX5_drop ∈ tbg := tbAt (i := 341) (by decide +kernel) (by decide +kernel)
theorem ll_X6_drop : Cond.methodLink RL 22 yX6_drop ∈ tbg := tbAt (i := 951) (by decide +kernel) (by decide +kernel)
theorem ll_X5_go : Cond.methodLink RL 23 yX5_go ∈ tbg := tbAt (i := 362) (by decide +kernel) (by decide +kernel)
theorem ll_X6_go : Cond.methodLink RL 27 yX6_go ∈ tbg := tbAt (i := 963) (by decide +kernel) (by decide +kernel)
theorem ll_X5_spacings : Cond.methodLink RL 28 yX5_spacings ∈ tbg := tbAt (i := 371) (by decide +kernel) (by decide +kernel)
theorem ll_X6_spacings : Cond.methodLink RL 32 yX6_spacings ∈ tbg := tbAt (i := 967) (by decide +kernel) (by decide +kernel)
theorem ll_X5_set : Cond.methodLink RL 33 yX5_set ∈ tbg := tbAt (i := 393) (by decide +kernel) (by decide +kernel)
theorem ll_X6_set : Cond.methodLink RL 37 yX6_set ∈ tbg := tbAt (i := 974) (by decide +kernel) (by decide +kernel)
theorem ll_X5_append : Cond.methodLink RL 38 yX5_append ∈ tbg := tbAt (i := 405) (by decide +kernel) (by decide +kernel)
theorem ll_X6_append : Cond.methodLink RL 41 yX6_append ∈ tbg := tbAt (i := 1120) (by decide +kernel) (by decide +kernel)
theorem ll_X5_clear : Cond.methodLink RL 42 yX5_clear ∈ tbg := tbAt (i := 417) (by decide +kernel) (by decide +kernel)
theorem ll_X6_clear : Cond.methodLink RL 45 yX6_clear ∈ tbg := tbAt (i := 1124) (by decide +kernel) (by decide +kernel)
theorem ll_X5_fault : Cond.methodLink RL 46 yX5_fault ∈ tbg := tbAt (i := 425) (by decide +kernel) (by decide +kernel)
theorem ll_X6_fault : Cond.methodLink RL 49 yX6_fault ∈ tbg := tbAt (i := 1128) (by decide +kernel) (by decide +kernel)
theorem ll_X5_load : Cond.methodLink RL 50 yX5_load ∈ tbg := tbAt (i := 487) (by decide +kernel) (by decide +kernel)
theorem ll_X6_load : Cond.methodLink RL 53 yX6_load ∈ tbg := tbAt (i := 1156) (by decide +kernel) (by decide +kernel)
theorem ll_X5_sign : Cond.methodLink RL 54 yX5_sign ∈ tbg := tbAt (i := 510) (by decide +kernel) (by decide +kernel)
theorem ll_X6_sign : Cond.methodLink RL 57 yX6_sign ∈ tbg := tbAt (i := 1116) (by decide +kernel) (by decide +kernel)
theorem ll_X5_targetOf : Cond.methodLink RL 58 yX5_targetOf ∈ tbg := tbAt (i := 555) (by decide +kernel) (by decide +kernel)
theorem ll_X6_targetOf : Cond.methodLink RL 61 yX6_targetOf ∈ tbg := tbAt (i := 978) (by decide +kernel) (by decide +kernel)
theorem ll_X5_ghost : Cond.methodLink RL 62 yX5_ghost ∈ tbg := tbAt (i := 682) (by decide +kernel) (by decide +kernel)
theorem ll_X6_ghost : Cond.methodLink RL 65 yX6_ghost ∈ tbg := tbAt (i := 1021) (by decide +kernel) (by decide +kernel)
theorem ll_X5_echo : Cond.methodLink RL 66 yX5_echo ∈ tbg := tbAt (i := 694) (by decide +kernel) (by decide +kernel)
theorem ll_X6_echo : Cond.methodLink RL 70 yX6_echo ∈ tbg := tbAt (i := 1025) (by decide +kernel) (by decide +kernel)
theorem ll_X5_fits : Cond.methodLink RL 71 yX5_fits ∈ tbg := tbAt (i := 715) (by decide +kernel) (by decide +kernel)
theorem ll_X6_fits : Cond.methodLink RL 74 yX6_fits ∈ tbg := tbAt (i := 1033) (by decide +kernel) (by decide +kernel)
theorem ll_X5_told : Cond.methodLink RL 75 yX5_told ∈ tbg := tbAt (i := 720) (by decide +kernel) (by decide +kernel)
theorem ll_X6_told : Cond.methodLink RL 78 yX6_told ∈ tbg := tbAt (i := 1037) (by decide +kernel) (by decide +kernel)
theorem ll_X5_alike : Cond.methodLink RL 79 yX5_alike ∈ tbg := tbAt (i := 737) (by decide +kernel) (by decide +kernel)
theorem ll_X6_alike : Cond.methodLink RL 82 yX6_alike ∈ tbg := tbAt (i := 1045) (by decide +kernel) (by decide +kernel)
theorem ll_X5_unfold : Cond.methodLink RL 83 yX5_unfold ∈ tbg := tbAt (i := 754) (by decide +kernel) (by decide +kernel)
theorem ll_X6_unfold : Cond.methodLink RL 86 yX6_unfold ∈ tbg := tbAt (i := 1052) (by decide +kernel) (by decide +kernel)
theorem ll_X5_count : Cond.methodLink RL 87 yX5_count ∈ tbg := tbAt (i := 761) (by decide +kernel) (by decide +kernel)
theorem ll_X6_count : Cond.methodLink RL 90 yX6_count ∈ tbg := tbAt (i := 1056) (by decide +kernel) (by decide +kernel)
theorem ll_X5_truth : Cond.methodLink RL 91 yX5_truth ∈ tbg := tbAt (i := 807) (by decide +kernel) (by decide +kernel)
theorem ll_X6_truth : Cond.methodLink RL 95 yX6_truth ∈ tbg := tbAt (i := 1096) (by decide +kernel) (by decide +kernel)
theorem ll_X5_ifTurn : Cond.methodLink RL 96 yX5_ifTurn ∈ tbg := tbAt (i := 811) (by decide +kernel) (by decide +kernel)
theorem ll_X6_ifTurn : Cond.methodLink RL 99 yX6_ifTurn ∈ tbg := tbAt (i := 1100) (by decide +kernel) (by decide +kernel)
theorem ll_X5_bestTurn : Cond.methodLink RL 100 yX5_bestTurn ∈ tbg := tbAt (i := 815) (by decide +kernel) (by decide +kernel)
theorem ll_X6_bestTurn : Cond.methodLink RL 103 yX6_bestTurn ∈ tbg := tbAt (i := 1108) (by decide +kernel) (by decide +kernel)
theorem ll_X5_ifWall : Cond.methodLink RL 104 yX5_ifWall ∈ tbg := tbAt (i := 833) (by decide +kernel) (by decide +kernel)
theorem ll_X6_ifWall : Cond.methodLink RL 107 yX6_ifWall ∈ tbg := tbAt (i := 1112) (by decide +kernel) (by decide +kernel)
theorem ll_X5_undo : Cond.methodLink RL 108 yX5_undo ∈ tbg := tbAt (i := 837) (by decide +kernel) (by decide +kernel)
theorem ll_X6_undo : Cond.methodLink RL 111 yX6_undo ∈ tbg := tbAt (i := 913) (by decide +kernel) (by decide +kernel)
theorem ll_X5_save : Cond.methodLink RL 112 yX5_save ∈ tbg := tbAt (i := 841) (by decide +kernel) (by decide +kernel)
theorem ll_X6_save : Cond.methodLink RL 115 yX6_save ∈ tbg := tbAt (i := 917) (by decide +kernel) (by decide +kernel)
theorem ll_X5_restore : Cond.methodLink RL 116 yX5_restore ∈ tbg := tbAt (i := 845) (by decide +kernel) (by decide +kernel)
theorem ll_X6_restore : Cond.methodLink RL 119 yX6_restore ∈ tbg := tbAt (i := 921) (by decide +kernel) (by decide +kernel)
section CASES
variable {X : LX} {L : Nat} {xs : Nat → Int32} {i : Nat} {σ : St} {A : Ab}
theorem lc_drop (F : LF X L xs) (hi : i + 5 ≤ L) (hA : okA A) (hc : cR σ A) (hm : mR σ A) (kk : ∀ A' σ', okA A' → cR σ' A' → mR σ' A' → LG X [] i 867 [] σ') : LG X [] i 217 [] σ :=
  law_case F hi 1 18 22 (by decide) (show ∀ q ∈ caseD 217 1 18 22, decode code q.1 = .ok q.2 by decide +kernel) (show ∀ k, k < 1 → ∀ q ∈ argD (217 + 1 + 5 * k) k, decode code q.1 = .ok q.2 by decide +kernel) (show ∀ k, k < 1 → ∀ q ∈ argD (217 + 5 + 5 * 1 + 5 * k) k, decode code q.1 = .ok q.2 by decide +kernel) mk_X5_drop mk_X6_drop ll_X5_drop ll_X6_drop (bo_drop (xs (i + 1 + 0)) hA) hc hm kk
theorem lc_go (F : LF X L xs) (hi : i + 5 ≤ L) (hA : okA A) (hc : cR σ A) (hm : mR σ A) (kk : ∀ A' σ', okA A' → cR σ' A' → mR σ' A' → LG X [] i 867 [] σ') : LG X [] i 240 [] σ :=
  law_case F hi 0 23 27 (by decide) (show ∀ q ∈ caseD 240 0 23 27, decode code q.1 = .ok q.2 by decide +kernel) (show ∀ k, k < 0 → ∀ q ∈ argD (240 + 1 + 5 * k) k, decode code q.1 = .ok q.2 by decide +kernel) (show ∀ k, k < 0 → ∀ q ∈ argD (240 + 5 + 5 * 0 + 5 * k) k, decode code q.1 = .ok q.2 by decide +kernel) mk_X5_go mk_X6_go ll_X5_go ll_X6_go (bo_go hA) hc hm kk
theorem lc_spacings (F : LF X L xs) (hi : i + 5 ≤ L) (hA : okA A) (hc : cR σ A) (hm : mR σ A) (kk : ∀ A' σ', okA A' → cR σ' A' → mR σ' A' → LG X [] i 867 [] σ') : LG X [] i 253 [] σ :=
  law_case F hi 4 28 32 (by decide) (show ∀ q ∈ caseD 253 4 28 32, decode code q.1 = .ok q.2 by decide +kernel) (show ∀ k, k < 4 → ∀ q ∈ argD (253 + 1 + 5 * k) k, decode code q.1 = .ok q.2 by decide +kernel) (show ∀ k, k < 4 → ∀ q ∈ argD (253 + 5 + 5 * 4 + 5 * k) k, decode code q.1 = .ok q.2 by decide +kernel) mk_X5_spacings mk_X6_spacings ll_X5_spacings ll_X6_spacings (bo_spacings (xs (i + 1 + 0)) (xs (i + 1 + 1)) (xs (i + 1 + 2)) (xs (i + 1 + 3)) hA) hc hm kk
theorem lc_set (F : LF X L xs) (hi : i + 5 ≤ L) (hA : okA A) (hc : cR σ A) (hm : mR σ A) (kk : ∀ A' σ', okA A' → cR σ' A' → mR σ' A' → LG X [] i 867 [] σ') : LG X [] i 306 [] σ :=
  law_case F hi 2 33 37 (by decide) (show ∀ q ∈ caseD 306 2 33 37, decode code q.1 = .ok q.2 by decide +kernel) (show ∀ k, k < 2 → ∀ q ∈ argD (306 + 1 + 5 * k) k, decode code q.1 = .ok q.2 by decide +kernel) (show ∀ k, k < 2 → ∀ q ∈ argD (306 + 5 + 5 * 2 + 5 * k) k, decode code q.1 = .ok q.2 by decide +kernel) mk_X5_set mk_X6_set ll_X5_set ll_X6_set (bo_set (xs (i + 1 + 0)) (xs (i + 1 + 1)) hA) hc hm kk
theorem lc_append (F : LF X L xs) (hi : i + 5 ≤ L) (hA : okA A) (hc : cR σ A) (hm : mR σ A) (kk : ∀ A' σ', okA A' → cR σ' A' → mR σ' A' → LG X [] i 867 [] σ') : LG X [] i 339 [] σ :=
  law_case F hi 1 38 41 (by decide) (show ∀ q ∈ caseD 339 1 38 41, decode code q.1 = .ok q.2 by decide +kernel) (show ∀ k, k < 1 → ∀ q ∈ argD (339 + 1 + 5 * k) k, decode code q.1 = .ok q.2 by decide +kernel) (show ∀ k, k < 1 → ∀ q ∈ argD (339 + 5 + 5 * 1 + 5 * k) k, decode code q.1 = .ok q.2 by decide +kernel) mk_X5_append mk_X6_append ll_X5_append ll_X6_append (bo_append (xs (i + 1 + 0)) hA) hc hm kk
theorem lc_clear (F : LF X L xs) (hi : i + 5 ≤ L) (hA : okA A) (hc : cR σ A) (hm : mR σ A) (kk : ∀ A' σ', okA A' → cR σ' A' → mR σ' A' → LG X [] i 867 [] σ') : LG X [] i 362 [] σ :=
  law_case F hi 0 42 45 (by decide) (show ∀ q ∈ caseD 362 0 42 45, decode code q.1 = .ok q.2 by decide +kernel) (show ∀ k, k < 0 → ∀ q ∈ argD (362 + 1 + 5 * k) k, decode code q.1 = .ok q.2 by decide +kernel) (show ∀ k, k < 0 → ∀ q ∈ argD (362 + 5 + 5 * 0 + 5 * k) k, decode code q.1 = .ok q.2 by decide +kernel) mk_X5_clear mk_X6_clear ll_X5_clear ll_X6_clear (bo_clear hA) hc hm kk
theorem lc_fault (F : LF X L xs) (hi : i + 5 ≤ L) (hA : okA A) (hc : cR σ A) (hm : mR σ A) (kk : ∀ A' σ', okA A' → cR σ' A' → mR σ' A' → LG X [] i 867 [] σ') : LG X [] i 375 [] σ :=
  law_case F hi 0 46 49 (by decide) (show ∀ q ∈ caseD 375 0 46 49, decode code q.1 = .ok q.2 by decide +kernel) (show ∀ k, k < 0 → ∀ q ∈ argD (375 + 1 + 5 * k) k, decode code q.1 = .ok q.2 by decide +kernel) (show ∀ k, k < 0 → ∀ q ∈ argD (375 + 5 + 5 * 0 + 5 * k) k, decode code q.1 = .ok q.2 by decide +kernel) mk_X5_fault mk_X6_fault ll_X5_fault ll_X6_fault (bo_fault hA) hc hm kk
theorem lc_load (F : LF X L xs) (hi : i + 5 ≤ L) (hA : okA A) (hc : cR σ A) (hm : mR σ A) (kk : ∀ A' σ', okA A' → cR σ' A' → mR σ' A' → LG X [] i 867 [] σ') : LG X [] i 388 [] σ :=
  law_case F hi 0 50 53 (by decide) (show ∀ q ∈ caseD 388 0 50 53, decode code q.1 = .ok q.2 by decide +kernel) (show ∀ k, k < 0 → ∀ q ∈ argD (388 + 1 + 5 * k) k, decode code q.1 = .ok q.2 by decide +kernel) (show ∀ k, k < 0 → ∀ q ∈ argD (388 + 5 + 5 * 0 + 5 * k) k, decode code q.1 = .ok q.2 by decide +kernel) mk_X5_load mk_X6_load ll_X5_load ll_X6_load (bo_load hA) hc hm kk
theorem lc_sign (F : LF X L xs) (hi : i + 5 ≤ L) (hA : okA A) (hc : cR σ A) (hm : mR σ A) (kk : ∀ A' σ', okA A' → cR σ' A' → mR σ' A' → LG X [] i 867 [] σ') : LG X [] i 401 [] σ :=
  law_case F hi 1 54 57 (by decide) (show ∀ q ∈ caseD 401 1 54 57, decode code q.1 = .ok q.2 by decide +kernel) (show ∀ k, k < 1 → ∀ q ∈ argD (401 + 1 + 5 * k) k, decode code q.1 = .ok q.2 by decide +kernel) (show ∀ k, k < 1 → ∀ q ∈ argD (401 + 5 + 5 * 1 + 5 * k) k, decode code q.1 = .ok q.2 by decide +kernel) mk_X5_sign mk_X6_sign ll_X5_sign ll_X6_sign (bo_sign hA (xs (i + 1 + 0))) hc hm kk
theorem lc_targetOf (F : LF X L xs) (hi : i + 5 ≤ L) (hA : okA A) (hc : cR σ A) (hm : mR σ A) (kk : ∀ A' σ', okA A' → cR σ' A' → mR σ' A' → LG X [] i 867 [] σ') : LG X [] i 424 [] σ :=
  law_case F hi 2 58 61 (by decide) (show ∀ q ∈ caseD 424 2 58 61, decode code q.1 = .ok q.2 by decide +kernel) (show ∀ k, k < 2 → ∀ q ∈ argD (424 + 1 + 5 * k) k, decode code q.1 = .ok q.2 by decide +kernel) (show ∀ k, k < 2 → ∀ q ∈ argD (424 + 5 + 5 * 2 + 5 * k) k, decode code q.1 = .ok q.2 by decide +kernel) mk_X5_targetOf mk_X6_targetOf ll_X5_targetOf ll_X6_targetOf (bo_targetOf hA (xs (i + 1 + 0)) (xs (i + 1 + 1))) hc hm kk
theorem lc_ghost (F : LF X L xs) (hi : i + 5 ≤ L) (hA : okA A) (hc : cR σ A) (hm : mR σ A) (kk : ∀ A' σ', okA A' → cR σ' A' → mR σ' A' → LG X [] i 867 [] σ') : LG X [] i 457 [] σ :=
  law_case F hi 2 62 65 (by decide) (show ∀ q ∈ caseD 457 2 62 65, decode code q.1 = .ok q.2 by decide +kernel) (show ∀ k, k < 2 → ∀ q ∈ argD (457 + 1 + 5 * k) k, decode code q.1 = .ok q.2 by decide +kernel) (show ∀ k, k < 2 → ∀ q ∈ argD (457 + 5 + 5 * 2 + 5 * k) k, decode code q.1 = .ok q.2 by decide +kernel) mk_X5_ghost mk_X6_ghost ll_X5_ghost ll_X6_ghost (bo_ghost hA (xs (i + 1 + 0)) (xs (i + 1 + 1))) hc hm kk
theorem lc_echo (F : LF X L xs) (hi : i + 5 ≤ L) (hA : okA A) (hc : cR σ A) (hm : mR σ A) (kk : ∀ A' σ', okA A' → cR σ' A' → mR σ' A' → LG X [] i 867 [] σ') : LG X [] i 490 [] σ :=
  law_case F hi 3 66 70 (by decide) (show ∀ q ∈ caseD 490 3 66 70, decode code q.1 = .ok q.2 by decide +kernel) (show ∀ k, k < 3 → ∀ q ∈ argD (490 + 1 + 5 * k) k, decode code q.1 = .ok q.2 by decide +kernel) (show ∀ k, k < 3 → ∀ q ∈ argD (490 + 5 + 5 * 3 + 5 * k) k, decode code q.1 = .ok q.2 by decide +kernel) mk_X5_echo mk_X6_echo ll_X5_echo ll_X6_echo (bo_echo hA (xs (i + 1 + 0)) (xs (i + 1 + 1)) (xs (i + 1 + 2))) hc hm kk
theorem lc_fits (F : LF X L xs) (hi : i + 5 ≤ L) (hA : okA A) (hc : cR σ A) (hm : mR σ A) (kk : ∀ A' σ', okA A' → cR σ' A' → mR σ' A' → LG X [] i 867 [] σ') : LG X [] i 533 [] σ :=
  law_case F hi 3 71 74 (by decide) (show ∀ q ∈ caseD 533 3 71 74, decode code q.1 = .ok q.2 by decide +kernel) (show ∀ k, k < 3 → ∀ q ∈ argD (533 + 1 + 5 * k) k, decode code q.1 = .ok q.2 by decide +kernel) (show ∀ k, k < 3 → ∀ q ∈ argD (533 + 5 + 5 * 3 + 5 * k) k, decode code q.1 = .ok q.2 by decide +kernel) mk_X5_fits mk_X6_fits ll_X5_fits ll_X6_fits (bo_fits hA (xs (i + 1 + 0)) (xs (i + 1 + 1)) (xs (i + 1 + 2))) hc hm kk
theorem lc_told (F : LF X L xs) (hi : i + 5 ≤ L) (hA : okA A) (hc : cR σ A) (hm : mR σ A) (kk : ∀ A' σ', okA A' → cR σ' A' → mR σ' A' → LG X [] i 867 [] σ') : LG X [] i 576 [] σ :=
  law_case F hi 2 75 78 (by decide) (show ∀ q ∈ caseD 576 2 75 78, decode code q.1 = .ok q.2 by decide +kernel) (show ∀ k, k < 2 → ∀ q ∈ argD (576 + 1 + 5 * k) k, decode code q.1 = .ok q.2 by decide +kernel) (show ∀ k, k < 2 → ∀ q ∈ argD (576 + 5 + 5 * 2 + 5 * k) k, decode code q.1 = .ok q.2 by decide +kernel) mk_X5_told mk_X6_told ll_X5_told ll_X6_told (bo_told hA (xs (i + 1 + 0)) (xs (i + 1 + 1))) hc hm kk
theorem lc_alike (F : LF X L xs) (hi : i + 5 ≤ L) (hA : okA A) (hc : cR σ A) (hm : mR σ A) (kk : ∀ A' σ', okA A' → cR σ' A' → mR σ' A' → LG X [] i 867 [] σ') : LG X [] i 609 [] σ :=
  law_case F hi 1 79 82 (by decide) (show ∀ q ∈ caseD 609 1 79 82, decode code q.1 = .ok q.2 by decide +kernel) (show ∀ k, k < 1 → ∀ q ∈ argD (609 + 1 + 5 * k) k, decode code q.1 = .ok q.2 by decide +kernel) (show ∀ k, k < 1 → ∀ q ∈ argD (609 + 5 + 5 * 1 + 5 * k) k, decode code q.1 = .ok q.2 by decide +kernel) mk_X5_alike mk_X6_alike ll_X5_alike ll_X6_alike (bo_alike hA (xs (i + 1 + 0))) hc hm kk
theorem lc_unfold (F : LF X L xs) (hi : i + 5 ≤ L) (hA : okA A) (hc : cR σ A) (hm : mR σ A) (kk : ∀ A' σ', okA A' → cR σ' A' → mR σ' A' → LG X [] i 867 [] σ') : LG X [] i 632 [] σ :=
  law_case F hi 3 83 86 (by decide) (show ∀ q ∈ caseD 632 3 83 86, decode code q.1 = .ok q.2 by decide +kernel) (show ∀ k, k < 3 → ∀ q ∈ argD (632 + 1 + 5 * k) k, decode code q.1 = .ok q.2 by decide +kernel) (show ∀ k, k < 3 → ∀ q ∈ argD (632 + 5 + 5 * 3 + 5 * k) k, decode code q.1 = .ok q.2 by decide +kernel) mk_X5_unfold mk_X6_unfold ll_X5_unfold ll_X6_unfold (bo_unfold hA (xs (i + 1 + 0)) (xs (i + 1 + 1)) (xs (i + 1 + 2))) hc hm kk
theorem lc_count (F : LF X L xs) (hi : i + 5 ≤ L) (hA : okA A) (hc : cR σ A) (hm : mR σ A) (kk : ∀ A' σ', okA A' → cR σ' A' → mR σ' A' → LG X [] i 867 [] σ') : LG X [] i 675 [] σ :=
  law_case F hi 1 87 90 (by decide) (show ∀ q ∈ caseD 675 1 87 90, decode code q.1 = .ok q.2 by decide +kernel) (show ∀ k, k < 1 → ∀ q ∈ argD (675 + 1 + 5 * k) k, decode code q.1 = .ok q.2 by decide +kernel) (show ∀ k, k < 1 → ∀ q ∈ argD (675 + 5 + 5 * 1 + 5 * k) k, decode code q.1 = .ok q.2 by decide +kernel) mk_X5_count mk_X6_count ll_X5_count ll_X6_count (bo_count hA (xs (i + 1 + 0))) hc hm kk
theorem lc_ifTurn (F : LF X L xs) (hi : i + 5 ≤ L) (hA : okA A) (hc : cR σ A) (hm : mR σ A) (kk : ∀ A' σ', okA A' → cR σ' A' → mR σ' A' → LG X [] i 867 [] σ') : LG X [] i 739 [] σ :=
  law_case F hi 2 96 99 (by decide) (show ∀ q ∈ caseD 739 2 96 99, decode code q.1 = .ok q.2 by decide +kernel) (show ∀ k, k < 2 → ∀ q ∈ argD (739 + 1 + 5 * k) k, decode code q.1 = .ok q.2 by decide +kernel) (show ∀ k, k < 2 → ∀ q ∈ argD (739 + 5 + 5 * 2 + 5 * k) k, decode code q.1 = .ok q.2 by decide +kernel) mk_X5_ifTurn mk_X6_ifTurn ll_X5_ifTurn ll_X6_ifTurn (bo_ifTurn hA (xs (i + 1 + 0)) (xs (i + 1 + 1))) hc hm kk
theorem lc_bestTurn (F : LF X L xs) (hi : i + 5 ≤ L) (hA : okA A) (hc : cR σ A) (hm : mR σ A) (kk : ∀ A' σ', okA A' → cR σ' A' → mR σ' A' → LG X [] i 867 [] σ') : LG X [] i 772 [] σ :=
  law_case F hi 0 100 103 (by decide) (show ∀ q ∈ caseD 772 0 100 103, decode code q.1 = .ok q.2 by decide +kernel) (show ∀ k, k < 0 → ∀ q ∈ argD (772 + 1 + 5 * k) k, decode code q.1 = .ok q.2 by decide +kernel) (show ∀ k, k < 0 → ∀ q ∈ argD (772 + 5 + 5 * 0 + 5 * k) k, decode code q.1 = .ok q.2 by decide +kernel) mk_X5_bestTurn mk_X6_bestTurn ll_X5_bestTurn ll_X6_bestTurn (bo_bestTurn hA) hc hm kk
theorem lc_ifWall (F : LF X L xs) (hi : i + 5 ≤ L) (hA : okA A) (hc : cR σ A) (hm : mR σ A) (kk : ∀ A' σ', okA A' → cR σ' A' → mR σ' A' → LG X [] i 867 [] σ') : LG X [] i 785 [] σ :=
  law_case F hi 3 104 107 (by decide) (show ∀ q ∈ caseD 785 3 104 107, decode code q.1 = .ok q.2 by decide +kernel) (show ∀ k, k < 3 → ∀ q ∈ argD (785 + 1 + 5 * k) k, decode code q.1 = .ok q.2 by decide +kernel) (show ∀ k, k < 3 → ∀ q ∈ argD (785 + 5 + 5 * 3 + 5 * k) k, decode code q.1 = .ok q.2 by decide +kernel) mk_X5_ifWall mk_X6_ifWall ll_X5_ifWall ll_X6_ifWall (bo_ifWall hA (xs (i + 1 + 0)) (xs (i + 1 + 1)) (xs (i + 1 + 2))) hc hm kk
theorem lc_undo (F : LF X L xs) (hi : i + 5 ≤ L) (hA : okA A) (hc : cR σ A) (hm : mR σ A) (kk : ∀ A' σ', okA A' → cR σ' A' → mR σ' A' → LG X [] i 867 [] σ') : LG X [] i 828 [] σ :=
  law_case F hi 0 108 111 (by decide) (show ∀ q ∈ caseD 828 0 108 111, decode code q.1 = .ok q.2 by decide +kernel) (show ∀ k, k < 0 → ∀ q ∈ argD (828 + 1 + 5 * k) k, decode code q.1 = .ok q.2 by decide +kernel) (show ∀ k, k < 0 → ∀ q ∈ argD (828 + 5 + 5 * 0 + 5 * k) k, decode code q.1 = .ok q.2 by decide +kernel) mk_X5_undo mk_X6_undo ll_X5_undo ll_X6_undo (bo_undo hA) hc hm kk
theorem lc_save (F : LF X L xs) (hi : i + 5 ≤ L) (hA : okA A) (hc : cR σ A) (hm : mR σ A) (kk : ∀ A' σ', okA A' → cR σ' A' → mR σ' A' → LG X [] i 867 [] σ') : LG X [] i 841 [] σ :=
  law_case F hi 0 112 115 (by decide) (show ∀ q ∈ caseD 841 0 112 115, decode code q.1 = .ok q.2 by decide +kernel) (show ∀ k, k < 0 → ∀ q ∈ argD (841 + 1 + 5 * k) k, decode code q.1 = .ok q.2 by decide +kernel) (show ∀ k, k < 0 → ∀ q ∈ argD (841 + 5 + 5 * 0 + 5 * k) k, decode code q.1 = .ok q.2 by decide +kernel) mk_X5_save mk_X6_save ll_X5_save ll_X6_save (bo_save hA) hc hm kk
theorem lc_restore (F : LF X L xs) (hi : i + 5 ≤ L) (hA : okA A) (hc : cR σ A) (hm : mR σ A) (kk : ∀ A' σ', okA A' → cR σ' A' → mR σ' A' → LG X [] i 867 [] σ') : LG X [] i 854 [] σ :=
  law_case F hi 0 116 119 (by decide) (show ∀ q ∈ caseD 854 0 116 119, decode code q.1 = .ok q.2 by decide +kernel) (show ∀ k, k < 0 → ∀ q ∈ argD (854 + 1 + 5 * k) k, decode code q.1 = .ok q.2 by decide +kernel) (show ∀ k, k < 0 → ∀ q ∈ argD (854 + 5 + 5 * 0 + 5 * k) k, decode code q.1 = .ok q.2 by decide +kernel) mk_X5_restore mk_X6_restore ll_X5_restore ll_X6_restore (bo_restore hA) hc hm kk
theorem lc_target (F : LF X L xs) (hi : i + 5 ≤ L) (hA : okA A) (hc : cR σ A) (hm : mR σ A) (kk : ∀ A' σ', okA A' → cR σ' A' → mR σ' A' → LG X [] i 867 [] σ') : LG X [] i 148 [] σ := by
  have hw : ∀ w : Int32, w = (if xs (i + 1 + 3) = 0 then 0 else 1) → w = 0 ∨ w = 1 := by
    rintro w rfl
    by_cases h : xs (i + 1 + 3) = 0
    · rw [if_pos h]; exact Or.inl rfl
    · rw [if_neg h]; exact Or.inr rfl
  obtain ⟨w, ew⟩ : ∃ w : Int32, w = (if xs (i + 1 + 3) = 0 then 0 else 1) := ⟨_, rfl⟩
  obtain ⟨r, A', hA', b5, b6⟩ := bo_target (xs (i + 1 + 0)) (xs (i + 1 + 1)) (xs (i + 1 + 2)) w (hw w ew) hA
  have f6 : ∀ s1, FrM σ s1 → cR s1 A' → LG X [] i 209 [.int w, .int (xs (i + 1 + 2)), .int (xs (i + 1 + 1)), .int (xs (i + 1 + 0)), .ref 64, .int r] s1 := fun s1 f1 c1 => by
    refine LG.call F mk_X6_target ll_X6_target shq_64 (as := [.int (xs (i + 1 + 0)), .int (xs (i + 1 + 1)), .int (xs (i + 1 + 2)), .int w]) (st := [.int r]) (Q2 := QI (fun r2 s2 => r2 = r ∧ Fr mod s1 s2 ∧ mR s2 A')) rfl rfl (Nat.le_of_ble_eq_true rfl) dl_209 (b6 s1 _ (hm.keep f1) (fun s2 f c => ⟨rfl, f, c⟩)) ?_
    rintro _ s2 ⟨r2, rfl, hr, f2, c2⟩
    subst hr
    exact LG.same F dl_212 (by decide) (kk A' s2 hA' (c1.keepM hA' f2) c2)
  have f5 : LG X [] i 177 [.int w, .int (xs (i + 1 + 2)), .int (xs (i + 1 + 1)), .int (xs (i + 1 + 0)), .ref 0] σ := by
    refine LG.call F mk_X5_target ll_X5_target shq_0 (as := [.int (xs (i + 1 + 0)), .int (xs (i + 1 + 1)), .int (xs (i + 1 + 2)), .int w]) (st := []) (Q2 := QI (fun r' s1 => r' = r ∧ FrM σ s1 ∧ cR s1 A')) rfl rfl (Nat.le_of_ble_eq_true rfl) dl_177 (b5 σ _ hc (fun s1 f c => ⟨rfl, f, c⟩)) ?_
    rintro _ s1 ⟨r2, rfl, hr, f1, c1⟩
    subst hr
    refine LG.aload2 F dl_180 (LG.args F hi 3 (by decide) (show ∀ k, k < 3 → ∀ q ∈ argD (180 + 1 + 5 * k) k, decode code q.1 = .ok q.2 by decide +kernel) (LG.arg F hi (k := 3) (by decide) (show ∀ q ∈ argD (180 + 1 + 5 * 3) 3, decode code q.1 = .ok q.2 by decide +kernel) ?_))
    refine LG.if_eq 208 F dl_201 rfl ⟨fun c => ?_, fun c => ?_⟩
    · refine LG.iconst (v := w) F dl_208 (by rw [ew, if_pos c]; rfl) (f6 s1 f1 c1)
    · refine LG.iconst (v := w) F dl_204 (by rw [ew, if_neg c]; rfl) (LG.goto 209 F dl_205 rfl (f6 s1 f1 c1))
  refine LG.aload1 F dl_148 (LG.args F hi 3 (by decide) (show ∀ k, k < 3 → ∀ q ∈ argD (148 + 1 + 5 * k) k, decode code q.1 = .ok q.2 by decide +kernel) (LG.arg F hi (k := 3) (by decide) (show ∀ q ∈ argD (148 + 1 + 5 * 3) 3, decode code q.1 = .ok q.2 by decide +kernel) ?_))
  refine LG.if_eq 176 F dl_169 rfl ⟨fun c => ?_, fun c => ?_⟩
  · exact LG.iconst (v := w) F dl_176 (by rw [ew, if_pos c]; rfl) f5
  · exact LG.iconst (v := w) F dl_172 (by rw [ew, if_neg c]; rfl) (LG.goto 177 F dl_173 rfl f5)
theorem lc_truth (F : LF X L xs) (hA : okA A) (hc : cR σ A) (hm : mR σ A) (kk : ∀ A' σ', okA A' → cR σ' A' → mR σ' A' → LG X [] i 867 [] σ') : LG X [] i 698 [] σ := by
  obtain ⟨r, hr, b5, b6⟩ := bo_truth hA
  refine LG.aload1 F dl_698 ?_
  refine LG.call F mk_X5_truth ll_X5_truth shq_0 (as := []) (st := []) (Q2 := QD (fun r' s1 => r' = r ∧ FrM σ s1 ∧ cR s1 A)) rfl rfl (Nat.le_of_ble_eq_true rfl) dl_699 (b5 σ _ hc (fun s1 f c => ⟨rfl, f, c⟩)) ?_
  rintro _ s1 ⟨r2, rfl, hr2, f1, c1⟩
  subst hr2
  refine LG.dst4 F dl_702 (LG.aload2 F dl_704 ?_)
  refine LG.call F mk_X6_truth ll_X6_truth shq_64 (as := []) (st := []) (Q2 := QD (fun r' s2 => r' = r2 ∧ Fr mod s1 s2 ∧ mR s2 A)) rfl rfl (Nat.le_of_ble_eq_true rfl) dl_705 (b6 s1 _ (hm.keep f1) (fun s2 f c => ⟨rfl, f, c⟩)) ?_
  rintro _ s2 ⟨r3, rfl, hr3, f2, c2⟩
  subst hr3
  refine LG.dst6 (x := r3) (y := r3) F dl_708 (LG.dload (x := r3) F dl_710 (by simp) (LG.dload (x := r3) F dl_712 (by simp) (LG.dcmp F dl_714 ?_)))
  rw [show Op.cmpValue (FP.dcmp r3 r3) .l = 0 from by rw [show FP.dcmp r3 r3 = some .eq from FP.Core.dcmp_refl hr]; rfl]
  exact LG.if_eq 736 F dl_715 rfl ⟨fun _ => LG.goto 867 F dl_736 rfl (LG.drop (kk A s2 hA (c1.keepM hA f2) c2)), fun z => absurd rfl z⟩
theorem LG.tsw {pc : Nat} {st : List Value} {ex : List (Nat × Value)} {x : Int32} {dflt lo hi : Int} {offs : Array Int} {len : Nat} (F : LF X L xs) (cs : List (Int32 × Nat)) (dt : Nat) (hd : decode code pc = .ok (.tableswitch dflt lo hi offs, len)) (hok : tswOK pc dflt lo hi offs cs dt = true) (k : casesG x cs dt (fun t => LG X ex i t st σ)) : LG X ex i pc (.int x :: st) σ := by
  obtain ⟨p, l, e, s, m, below, meth, c, b, G⟩ := X
  intro H locs lsA hH hS hL
  unfold tswOK at hok
  simp only [Bool.and_eq_true, decide_eq_true_eq] at hok
  obtain ⟨⟨⟨h1, h2⟩, h3⟩, h4⟩ := hok
  have hrow : ∀ (j : Nat) (q : Int32 × Nat), cs[j]? = some q → q.1.toInt = lo + (j : Int) ∧ ∃ off, offs[j]? = some off ∧ (pc : Int) + off = (q.2 : Int) := by
    intro j q hq
    have hj : j < cs.length := (List.getElem?_eq_some_iff.mp hq).1
    have h5 := List.all_eq_true.mp h4 j (List.mem_range.mpr hj)
    obtain ⟨off, ho⟩ : ∃ off, offs[j]? = some off := ⟨offs[j]'(by omega), by simp⟩
    rw [hq, ho] at h5
    simp only [Bool.and_eq_true, decide_eq_true_eq] at h5
    exact ⟨h5.1, off, ho, h5.2⟩
  by_cases hout : x.toInt < lo ∨ hi < x.toInt
  · refine lv_tableOut F.1 F.2.1 hd hout h1 ?_
    refine (casesG_out (P := fun t => LG (p, l, e, s, m, below, meth, c, b, G) ex i t st σ) cs (fun q hq hx => ?_) k) H locs lsA hH hS hL
    obtain ⟨j, hj⟩ := List.getElem?_of_mem hq
    have h6 := (hrow j q hj).1
    have hjl : j < cs.length := (List.getElem?_eq_some_iff.mp hj).1
    rw [← hx] at h6
    omega
  · have hx1 : ¬ x.toInt < lo := fun h => hout (Or.inl h)
    have hx2 : ¬ hi < x.toInt := fun h => hout (Or.inr h)
    obtain ⟨j, hj⟩ : ∃ j : Nat, x.toInt = lo + (j : Int) := ⟨(x.toInt - lo).toNat, by omega⟩
    have hjl : j < cs.length := by omega
    obtain ⟨q, hq⟩ : ∃ q, cs[j]? = some q := ⟨cs[j], by simp [hjl]⟩
    obtain ⟨h6, off, ho, ht⟩ := hrow j q hq
    have hxq : x = q.1 := Int32.toInt_inj.mp (by omega)
    refine lv_tableIn F.1 F.2.1 hd hx1 hx2 (off := off) (tgt := q.2) (by rw [hj, show (lo + (j : Int) - lo).toNat = j by omega]; exact ho) ht ?_
    refine (casesG_hit (P := fun t => LG (p, l, e, s, m, below, meth, c, b, G) ex i t st σ) (t := q.2) cs j (by rw [hq, hxq]) (fun i q2 hi hq2 hx3 => ?_) k) H locs lsA hH hS hL
    have h7 := (hrow i q2 hq2).1
    rw [← hx3] at h7
    omega
theorem law_cases {x : Int32} (F : LF X L xs) (hi : i + 5 ≤ L) (hA : okA A) (hc : cR σ A) (hm : mR σ A) (kk : ∀ A' σ', okA A' → cR σ' A' → mR σ' A' → LG X [] i 867 [] σ') : LG X [] i 32 [.int x] σ := by
  have d : LG X [] i 867 [] σ := kk A σ hA hc hm
  exact LG.tsw F [(0, 148), (1, 217), (2, 240), (3, 253), (4, 306), (5, 339), (6, 362), (7, 375), (8, 388), (9, 401), (10, 424), (11, 457), (12, 490), (13, 533), (14, 576), (15, 609), (16, 632), (17, 675), (18, 698), (19, 739), (20, 772), (21, 785), (22, 828), (23, 841), (24, 854)] 867 dl_32 (by decide +kernel) ⟨fun _ => lc_target F hi hA hc hm kk, fun _ => ⟨fun _ => lc_drop F hi hA hc hm kk, fun _ => ⟨fun _ => lc_go F hi hA hc hm kk, fun _ => ⟨fun _ => lc_spacings F hi hA hc hm kk, fun _ => ⟨fun _ => lc_set F hi hA hc hm kk, fun _ => ⟨fun _ => lc_append F hi hA hc hm kk, fun _ => ⟨fun _ => lc_clear F hi hA hc hm kk, fun _ => ⟨fun _ => lc_fault F hi hA hc hm kk, fun _ => ⟨fun _ => lc_load F hi hA hc hm kk, fun _ => ⟨fun _ => lc_sign F hi hA hc hm kk, fun _ => ⟨fun _ => lc_targetOf F hi hA hc hm kk, fun _ => ⟨fun _ => lc_ghost F hi hA hc hm kk, fun _ => ⟨fun _ => lc_echo F hi hA hc hm kk, fun _ => ⟨fun _ => lc_fits F hi hA hc hm kk, fun _ => ⟨fun _ => lc_told F hi hA hc hm kk, fun _ => ⟨fun _ => lc_alike F hi hA hc hm kk, fun _ => ⟨fun _ => lc_unfold F hi hA hc hm kk, fun _ => ⟨fun _ => lc_count F hi hA hc hm kk, fun _ => ⟨fun _ => lc_truth F hA hc hm kk, fun _ => ⟨fun _ => lc_ifTurn F hi hA hc hm kk, fun _ => ⟨fun _ => lc_bestTurn F hi hA hc hm kk, fun _ => ⟨fun _ => lc_ifWall F hi hA hc hm kk, fun _ => ⟨fun _ => lc_undo F hi hA hc hm kk, fun _ => ⟨fun _ => lc_save F hi hA hc hm kk, fun _ => ⟨fun _ => lc_restore F hi hA hc hm kk, fun _ => d⟩⟩⟩⟩⟩⟩⟩⟩⟩⟩⟩⟩⟩⟩⟩⟩⟩⟩⟩⟩⟩⟩⟩⟩⟩
theorem law_loop (F : LF X L xs) : ∀ (k2 i : Nat) (A : Ab) (σ : St), L ≤ i + 5 * k2 → i ≤ 2560 → okA A → cR σ A → mR σ A → LG X [] i 18 [] σ := by
  intro k2
  induction k2 with
  | zero =>
    intro i A σ h1 h2 hA hc hm
    obtain ⟨p, l, e, s, m, below, meth, c, b, G⟩ := X
    obtain ⟨hx, hb, hret, hml, hown, hts, hX, hbl, hlocks, hK, hinj, hN, hAd, hL⟩ := id F
    intro H locs lsA hH hS hl
    refine lv_iload_n hx hb dl_18 rfl (lv_at hl 3 rfl) ?_
    refine lv_aload_n hx hb dl_19 rfl (lv_at hl 0 rfl) ?_
    refine va_slen hx hb hX hbl (Nat.not_le.mpr hbl) hS dl_20 ?_
    refine lv_iconst (v := nI 5) hx hb dl_21 (by decide) ?_
    refine lv_isub hx hb dl_22 ?_
    refine lv_icmp_gt (tgt := 873) hx hb dl_23 (by decide) (fun _ => ?_) (fun z => ?_)
    · refine lv_iconst (v := 1) hx hb dl_873 (by decide) ?_
      exact va_forget hS.2.2 (W.widen (k := 600000) (n := 7302250) (Nat.le_of_ble_eq_true rfl) (Nat.le_of_ble_eq_true rfl) (W.base (lw_ret (Drawn.sameBut.refl s.drawn lw_cs) hx hb hret hlocks dl_874)))
    · exfalso
      apply z
      rw [Int32.lt_iff_toInt_lt, nI_toInt (by omega), show Int32.ofNat L = nI L from rfl, pk_sub_toInt (by omega) (by omega)]
      omega
  | succ k2 ih =>
    intro i A σ h1 h2 hA hc hm
    have next : i + 5 ≤ L → ∀ A' σ', okA A' → cR σ' A' → mR σ' A' → LG X [] i 867 [] σ' := by
      intro hi A' σ' hA' hc' hm'
      have r := ih (i + 5) A' σ' (by omega) (by
        obtain ⟨p, l, e, s, m, below, meth, c, b, G⟩ := X
        have := F.2.2.2.2.2.2.2.2.2.2.2.2.2
        omega) hA' hc' hm'
      obtain ⟨p, l, e, s, m, below, meth, c, b, G⟩ := X
      intro H locs lsA hH hS hl
      have e5 : nI i + Int32.ofInt 5 = nI (i + 5) := by
        rw [show Int32.ofInt 5 = nI 5 by decide, nI_add]
      refine lv_iinc (v := nI (i + 5)) (lv' := [(3, .int (nI (i + 5))), (0, .ref b), (1, .ref (G.2.2 0)), (2, .ref (G.2.2 64))]) F.1 F.2.1 dl_867 hl (k := 3) rfl e5 (by decide) rfl (fun ls hl2 => ?_)
      refine lv_goto (tgt := 18) F.1 F.2.1 dl_870 (by decide) ?_
      exact r H locs ls hH hS (lv_sub hl2 [1, 2, 3, 0] rfl)
    have cas : ∀ x, i + 5 ≤ L → LG X [] i 32 [.int x] σ := fun x hi => law_cases F hi hA hc hm (next hi)
    obtain ⟨p, l, e, s, m, below, meth, c, b, G⟩ := X
    obtain ⟨hx, hb, hret, hml, hown, hts, hX, hbl, hlocks, hK, hinj, hN, hAd, hL⟩ := id F
    intro H locs lsA hH hS hl
    refine lv_iload_n hx hb dl_18 rfl (lv_at hl 3 rfl) ?_
    refine lv_aload_n hx hb dl_19 rfl (lv_at hl 0 rfl) ?_
    refine va_slen hx hb hX hbl (Nat.not_le.mpr hbl) hS dl_20 ?_
    refine lv_iconst (v := nI 5) hx hb dl_21 (by decide) ?_
    refine lv_isub hx hb dl_22 ?_
    refine lv_icmp_gt (tgt := 873) hx hb dl_23 (by decide) (fun _ => ?_) (fun z => ?_)
    · refine lv_iconst (v := 1) hx hb dl_873 (by decide) ?_
      exact va_forget hS.2.2 (W.widen (k := 600000) (n := 7302250) (Nat.le_of_ble_eq_true rfl) (Nat.le_of_ble_eq_true rfl) (W.base (lw_ret (Drawn.sameBut.refl s.drawn lw_cs) hx hb hret hlocks dl_874)))
    · have hi : i + 5 ≤ L := by
        rw [Int32.lt_iff_toInt_lt, nI_toInt (by omega), show Int32.ofNat L = nI L from rfl, pk_sub_toInt (by omega) (by omega)] at z
        omega
      refine lv_aload_n hx hb dl_26 rfl (lv_at hl 0 rfl) ?_
      refine lv_iload_n hx hb dl_27 rfl (lv_at hl 3 rfl) ?_
      refine va_sld hx hb hX hbl (Nat.not_le.mpr hbl) hS (vp_in_nI (by omega) (by omega)) dl_28 ?_
      refine lv_bipush (v := 31) hx hb dl_29 (by decide) ?_
      refine lv_iand hx hb dl_31 ?_
      exact cas _ hi H locs lsA hH hS hl
end CASES
