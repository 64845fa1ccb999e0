theorem dX5_target_0 : decode cX5_target 0 = .ok (.aload_n 0, 1) := by decide +kernel
theorem dX5_target_1 : decode cX5_target 1 = .ok (.iload_n 1, 1) := by decide +kernel
theorem dX5_target_2 : decode cX5_target 2 = .ok (.iload_n 2, 1) := by decide +kernel
theorem dX5_target_3 : decode cX5_target 3 = .ok (.iload_n 3, 1) := by decide +kernel
theorem dX5_target_4 : decode cX5_target 4 = .ok (.iload 4, 2) := by decide +kernel
theorem dX5_target_6 : decode cX5_target 6 = .ok (.invokevirtual 62, 3) := by decide +kernel
theorem dX5_target_9 : decode cX5_target 9 = .ok (.istore 5, 2) := by decide +kernel
theorem dX5_target_11 : decode cX5_target 11 = .ok (.iload 5, 2) := by decide +kernel
theorem dX5_target_13 : decode cX5_target 13 = .ok (.ifCond .eq 6, 3) := by decide +kernel
theorem dX5_target_16 : decode cX5_target 16 = .ok (.iload 5, 2) := by decide +kernel
theorem dX5_target_18 : decode cX5_target 18 = .ok (.ireturn, 1) := by decide +kernel
theorem dX5_target_19 : decode cX5_target 19 = .ok (.aload_n 0, 1) := by decide +kernel
theorem dX5_target_20 : decode cX5_target 20 = .ok (.invokevirtual 66, 3) := by decide +kernel
theorem dX5_target_23 : decode cX5_target 23 = .ok (.aload_n 0, 1) := by decide +kernel
theorem dX5_target_24 : decode cX5_target 24 = .ok (.getfield 12, 3) := by decide +kernel
theorem dX5_target_27 : decode cX5_target 27 = .ok (.iload_n 1, 1) := by decide +kernel
theorem dX5_target_28 : decode cX5_target 28 = .ok (.iload_n 2, 1) := by decide +kernel
theorem dX5_target_29 : decode cX5_target 29 = .ok (.iload_n 3, 1) := by decide +kernel
theorem dX5_target_30 : decode cX5_target 30 = .ok (.iload 4, 2) := by decide +kernel
theorem dX5_target_32 : decode cX5_target 32 = .ok (.invokevirtual 69, 3) := by decide +kernel
theorem dX5_target_35 : decode cX5_target 35 = .ok (.ireturn, 1) := by decide +kernel
theorem dX5_drop_0 : decode cX5_drop 0 = .ok (.aload_n 0, 1) := by decide +kernel
theorem dX5_drop_1 : decode cX5_drop 1 = .ok (.getfield 12, 3) := by decide +kernel
theorem dX5_drop_4 : decode cX5_drop 4 = .ok (.iload_n 1, 1) := by decide +kernel
theorem dX5_drop_5 : decode cX5_drop 5 = .ok (.invokevirtual 72, 3) := by decide +kernel
theorem dX5_drop_8 : decode cX5_drop 8 = .ok (.ifCond .ne 5, 3) := by decide +kernel
theorem dX5_drop_11 : decode cX5_drop 11 = .ok (.iconst (-1), 1) := by decide +kernel
theorem dX5_drop_12 : decode cX5_drop 12 = .ok (.ireturn, 1) := by decide +kernel
theorem dX5_drop_13 : decode cX5_drop 13 = .ok (.aload_n 0, 1) := by decide +kernel
theorem dX5_drop_14 : decode cX5_drop 14 = .ok (.invokevirtual 66, 3) := by decide +kernel
theorem dX5_drop_17 : decode cX5_drop 17 = .ok (.aload_n 0, 1) := by decide +kernel
theorem dX5_drop_18 : decode cX5_drop 18 = .ok (.getfield 12, 3) := by decide +kernel
theorem dX5_drop_21 : decode cX5_drop 21 = .ok (.iload_n 1, 1) := by decide +kernel
theorem dX5_drop_22 : decode cX5_drop 22 = .ok (.invokevirtual 76, 3) := by decide +kernel
theorem dX5_drop_25 : decode cX5_drop 25 = .ok (.aload_n 0, 1) := by decide +kernel
theorem dX5_drop_26 : decode cX5_drop 26 = .ok (.getfield 12, 3) := by decide +kernel
theorem dX5_drop_29 : decode cX5_drop 29 = .ok (.invokevirtual 80, 3) := by decide +kernel
theorem dX5_drop_32 : decode cX5_drop 32 = .ok (.ireturn, 1) := by decide +kernel
theorem dX5_go_0 : decode cX5_go 0 = .ok (.aload_n 0, 1) := by decide +kernel
theorem dX5_go_1 : decode cX5_go 1 = .ok (.invokevirtual 66, 3) := by decide +kernel
theorem dX5_go_4 : decode cX5_go 4 = .ok (.aload_n 0, 1) := by decide +kernel
theorem dX5_go_5 : decode cX5_go 5 = .ok (.getfield 12, 3) := by decide +kernel
theorem dX5_go_8 : decode cX5_go 8 = .ok (.invokevirtual 84, 3) := by decide +kernel
theorem dX5_go_11 : decode cX5_go 11 = .ok (.aload_n 0, 1) := by decide +kernel
theorem dX5_go_12 : decode cX5_go 12 = .ok (.getfield 12, 3) := by decide +kernel
theorem dX5_go_15 : decode cX5_go 15 = .ok (.invokevirtual 80, 3) := by decide +kernel
theorem dX5_go_18 : decode cX5_go 18 = .ok (.ireturn, 1) := by decide +kernel
theorem dX5_spacings_0 : decode cX5_spacings 0 = .ok (.iload_n 1, 1) := by decide +kernel
theorem dX5_spacings_1 : decode cX5_spacings 1 = .ok (.invokestatic 87, 3) := by decide +kernel
theorem dX5_spacings_4 : decode cX5_spacings 4 = .ok (.ifCond .eq 25, 3) := by decide +kernel
theorem dX5_spacings_7 : decode cX5_spacings 7 = .ok (.iload_n 2, 1) := by decide +kernel
theorem dX5_spacings_8 : decode cX5_spacings 8 = .ok (.invokestatic 90, 3) := by decide +kernel
theorem dX5_spacings_11 : decode cX5_spacings 11 = .ok (.ifCond .eq 18, 3) := by decide +kernel
theorem dX5_spacings_14 : decode cX5_spacings 14 = .ok (.iload_n 3, 1) := by decide +kernel
theorem dX5_spacings_15 : decode cX5_spacings 15 = .ok (.invokestatic 90, 3) := by decide +kernel
theorem dX5_spacings_18 : decode cX5_spacings 18 = .ok (.ifCond .eq 11, 3) := by decide +kernel
theorem dX5_spacings_21 : decode cX5_spacings 21 = .ok (.iload 4, 2) := by decide +kernel
theorem dX5_spacings_23 : decode cX5_spacings 23 = .ok (.invokestatic 90, 3) := by decide +kernel
theorem dX5_spacings_26 : decode cX5_spacings 26 = .ok (.ifCond .ne 5, 3) := by decide +kernel
theorem dX5_spacings_29 : decode cX5_spacings 29 = .ok (.iconst (-1), 1) := by decide +kernel
theorem dX5_spacings_30 : decode cX5_spacings 30 = .ok (.ireturn, 1) := by decide +kernel
theorem dX5_spacings_31 : decode cX5_spacings 31 = .ok (.iload_n 2, 1) := by decide +kernel
theorem dX5_spacings_32 : decode cX5_spacings 32 = .ok (.ifCond .ne 7, 3) := by decide +kernel
theorem dX5_spacings_35 : decode cX5_spacings 35 = .ok (.iload_n 3, 1) := by decide +kernel
theorem dX5_spacings_36 : decode cX5_spacings 36 = .ok (.ifCond .ne 12, 3) := by decide +kernel
theorem dX5_spacings_39 : decode cX5_spacings 39 = .ok (.iload_n 3, 1) := by decide +kernel
theorem dX5_spacings_40 : decode cX5_spacings 40 = .ok (.ifCond .ne 10, 3) := by decide +kernel
theorem dX5_spacings_43 : decode cX5_spacings 43 = .ok (.iload 4, 2) := by decide +kernel
theorem dX5_spacings_45 : decode cX5_spacings 45 = .ok (.ifCond .eq 5, 3) := by decide +kernel
theorem dX5_spacings_48 : decode cX5_spacings 48 = .ok (.iconst (-1), 1) := by decide +kernel
theorem dX5_spacings_49 : decode cX5_spacings 49 = .ok (.ireturn, 1) := by decide +kernel
theorem dX5_spacings_50 : decode cX5_spacings 50 = .ok (.aload_n 0, 1) := by decide +kernel
theorem dX5_spacings_51 : decode cX5_spacings 51 = .ok (.invokevirtual 66, 3) := by decide +kernel
theorem dX5_spacings_54 : decode cX5_spacings 54 = .ok (.aload_n 0, 1) := by decide +kernel
theorem dX5_spacings_55 : decode cX5_spacings 55 = .ok (.getfield 12, 3) := by decide +kernel
theorem dX5_spacings_58 : decode cX5_spacings 58 = .ok (.invokevirtual 93, 3) := by decide +kernel
theorem dX5_spacings_61 : decode cX5_spacings 61 = .ok (.aload_n 0, 1) := by decide +kernel
theorem dX5_spacings_62 : decode cX5_spacings 62 = .ok (.getfield 12, 3) := by decide +kernel
theorem dX5_spacings_65 : decode cX5_spacings 65 = .ok (.iload_n 1, 1) := by decide +kernel
theorem dX5_spacings_66 : decode cX5_spacings 66 = .ok (.invokevirtual 96, 3) := by decide +kernel
theorem dX5_spacings_69 : decode cX5_spacings 69 = .ok (.aload_n 0, 1) := by decide +kernel
theorem dX5_spacings_70 : decode cX5_spacings 70 = .ok (.getfield 12, 3) := by decide +kernel
theorem dX5_spacings_73 : decode cX5_spacings 73 = .ok (.iload_n 2, 1) := by decide +kernel
theorem dX5_spacings_74 : decode cX5_spacings 74 = .ok (.invokevirtual 96, 3) := by decide +kernel
theorem dX5_spacings_77 : decode cX5_spacings 77 = .ok (.aload_n 0, 1) := by decide +kernel
theorem dX5_spacings_78 : decode cX5_spacings 78 = .ok (.getfield 12, 3) := by decide +kernel
theorem dX5_spacings_81 : decode cX5_spacings 81 = .ok (.iload_n 3, 1) := by decide +kernel
theorem dX5_spacings_82 : decode cX5_spacings 82 = .ok (.invokevirtual 96, 3) := by decide +kernel
theorem dX5_spacings_85 : decode cX5_spacings 85 = .ok (.aload_n 0, 1) := by decide +kernel
theorem dX5_spacings_86 : decode cX5_spacings 86 = .ok (.getfield 12, 3) := by decide +kernel
theorem dX5_spacings_89 : decode cX5_spacings 89 = .ok (.iload 4, 2) := by decide +kernel
theorem dX5_spacings_91 : decode cX5_spacings 91 = .ok (.invokevirtual 96, 3) := by decide +kernel
theorem dX5_spacings_94 : decode cX5_spacings 94 = .ok (.aload_n 0, 1) := by decide +kernel
theorem dX5_spacings_95 : decode cX5_spacings 95 = .ok (.getfield 12, 3) := by decide +kernel
theorem dX5_spacings_98 : decode cX5_spacings 98 = .ok (.invokevirtual 99, 3) := by decide +kernel
theorem dX5_spacings_101 : decode cX5_spacings 101 = .ok (.ireturn, 1) := by decide +kernel
theorem dX5_set_0 : decode cX5_set 0 = .ok (.iload_n 1, 1) := by decide +kernel
theorem dX5_set_1 : decode cX5_set 1 = .ok (.ifCond .ne 26, 3) := by decide +kernel
theorem dX5_set_4 : decode cX5_set 4 = .ok (.iload_n 2, 1) := by decide +kernel
theorem dX5_set_5 : decode cX5_set 5 = .ok (.iconst 0, 1) := by decide +kernel
theorem dX5_set_6 : decode cX5_set 6 = .ok (.bipush 9, 2) := by decide +kernel
theorem dX5_set_8 : decode cX5_set 8 = .ok (.invokestatic 102, 3) := by decide +kernel
theorem dX5_set_11 : decode cX5_set 11 = .ok (.ifCond .eq 16, 3) := by decide +kernel
theorem dX5_set_14 : decode cX5_set 14 = .ok (.aload_n 0, 1) := by decide +kernel
theorem dX5_set_15 : decode cX5_set 15 = .ok (.invokevirtual 66, 3) := by decide +kernel
theorem dX5_set_18 : decode cX5_set 18 = .ok (.aload_n 0, 1) := by decide +kernel
theorem dX5_set_19 : decode cX5_set 19 = .ok (.getfield 12, 3) := by decide +kernel
theorem dX5_set_22 : decode cX5_set 22 = .ok (.iload_n 2, 1) := by decide +kernel
theorem dX5_set_23 : decode cX5_set 23 = .ok (.invokevirtual 106, 3) := by decide +kernel
theorem dX5_set_26 : decode cX5_set 26 = .ok (.ireturn, 1) := by decide +kernel
theorem dX5_set_27 : decode cX5_set 27 = .ok (.iload_n 1, 1) := by decide +kernel
theorem dX5_set_28 : decode cX5_set 28 = .ok (.iconst 1, 1) := by decide +kernel
theorem dX5_set_29 : decode cX5_set 29 = .ok (.if_icmp .ne 26, 3) := by decide +kernel
theorem dX5_set_32 : decode cX5_set 32 = .ok (.iload_n 2, 1) := by decide +kernel
theorem dX5_set_33 : decode cX5_set 33 = .ok (.iconst 1, 1) := by decide +kernel
theorem dX5_set_34 : decode cX5_set 34 = .ok (.bipush 99, 2) := by decide +kernel
theorem dX5_set_36 : decode cX5_set 36 = .ok (.invokestatic 102, 3) := by decide +kernel
theorem dX5_set_39 : decode cX5_set 39 = .ok (.ifCond .eq 16, 3) := by decide +kernel
theorem dX5_set_42 : decode cX5_set 42 = .ok (.aload_n 0, 1) := by decide +kernel
theorem dX5_set_43 : decode cX5_set 43 = .ok (.invokevirtual 66, 3) := by decide +kernel
theorem dX5_set_46 : decode cX5_set 46 = .ok (.aload_n 0, 1) := by decide +kernel
theorem dX5_set_47 : decode cX5_set 47 = .ok (.getfield 12, 3) := by decide +kernel
theorem dX5_set_50 : decode cX5_set 50 = .ok (.iload_n 2, 1) := by decide +kernel
theorem dX5_set_51 : decode cX5_set 51 = .ok (.invokevirtual 110, 3) := by decide +kernel
theorem dX5_set_54 : decode cX5_set 54 = .ok (.ireturn, 1) := by decide +kernel
theorem dX5_set_55 : decode cX5_set 55 = .ok (.iconst (-1), 1) := by decide +kernel
theorem dX5_set_56 : decode cX5_set 56 = .ok (.ireturn, 1) := by decide +kernel
theorem dX5_targetOf_0 : decode cX5_targetOf 0 = .ok (.aload_n 0, 1) := by decide +kernel
theorem dX5_targetOf_1 : decode cX5_targetOf 1 = .ok (.getfield 12, 3) := by decide +kernel
theorem dX5_targetOf_4 : decode cX5_targetOf 4 = .ok (.iload_n 1, 1) := by decide +kernel
theorem dX5_targetOf_5 : decode cX5_targetOf 5 = .ok (.invokevirtual 72, 3) := by decide +kernel
theorem dX5_targetOf_8 : decode cX5_targetOf 8 = .ok (.ifCond .eq 13, 3) := by decide +kernel
theorem dX5_targetOf_11 : decode cX5_targetOf 11 = .ok (.iload_n 2, 1) := by decide +kernel
theorem dX5_targetOf_12 : decode cX5_targetOf 12 = .ok (.iconst 0, 1) := by decide +kernel
theorem dX5_targetOf_13 : decode cX5_targetOf 13 = .ok (.bipush 6, 2) := by decide +kernel
theorem dX5_targetOf_15 : decode cX5_targetOf 15 = .ok (.invokestatic 102, 3) := by decide +kernel
theorem dX5_targetOf_18 : decode cX5_targetOf 18 = .ok (.ifCond .ne 5, 3) := by decide +kernel
theorem dX5_targetOf_21 : decode cX5_targetOf 21 = .ok (.iconst (-1), 1) := by decide +kernel
theorem dX5_targetOf_22 : decode cX5_targetOf 22 = .ok (.ireturn, 1) := by decide +kernel
theorem dX5_targetOf_23 : decode cX5_targetOf 23 = .ok (.iload_n 2, 1) := by decide +kernel
theorem dX5_targetOf_24 : decode cX5_targetOf 24 = .ok (.tableswitch 73 0 3 #[32, 41, 50, 61], 32) := by decide +kernel
theorem dX5_targetOf_56 : decode cX5_targetOf 56 = .ok (.aload_n 0, 1) := by decide +kernel
theorem dX5_targetOf_57 : decode cX5_targetOf 57 = .ok (.getfield 12, 3) := by decide +kernel
theorem dX5_targetOf_60 : decode cX5_targetOf 60 = .ok (.iload_n 1, 1) := by decide +kernel
theorem dX5_targetOf_61 : decode cX5_targetOf 61 = .ok (.invokevirtual 143, 3) := by decide +kernel
theorem dX5_targetOf_64 : decode cX5_targetOf 64 = .ok (.ireturn, 1) := by decide +kernel
theorem dX5_targetOf_65 : decode cX5_targetOf 65 = .ok (.aload_n 0, 1) := by decide +kernel
theorem dX5_targetOf_66 : decode cX5_targetOf 66 = .ok (.getfield 12, 3) := by decide +kernel
theorem dX5_targetOf_69 : decode cX5_targetOf 69 = .ok (.iload_n 1, 1) := by decide +kernel
theorem dX5_targetOf_70 : decode cX5_targetOf 70 = .ok (.invokevirtual 146, 3) := by decide +kernel
theorem dX5_targetOf_73 : decode cX5_targetOf 73 = .ok (.ireturn, 1) := by decide +kernel
theorem dX5_targetOf_74 : decode cX5_targetOf 74 = .ok (.aload_n 0, 1) := by decide +kernel
theorem dX5_targetOf_75 : decode cX5_targetOf 75 = .ok (.getfield 12, 3) := by decide +kernel
theorem dX5_targetOf_78 : decode cX5_targetOf 78 = .ok (.iload_n 1, 1) := by decide +kernel
theorem dX5_targetOf_79 : decode cX5_targetOf 79 = .ok (.invokevirtual 149, 3) := by decide +kernel
theorem dX5_targetOf_82 : decode cX5_targetOf 82 = .ok (.iconst 5, 1) := by decide +kernel
theorem dX5_targetOf_83 : decode cX5_targetOf 83 = .ok (.iadd, 1) := by decide +kernel
theorem dX5_targetOf_84 : decode cX5_targetOf 84 = .ok (.ireturn, 1) := by decide +kernel
theorem dX5_targetOf_85 : decode cX5_targetOf 85 = .ok (.aload_n 0, 1) := by decide +kernel
theorem dX5_targetOf_86 : decode cX5_targetOf 86 = .ok (.getfield 12, 3) := by decide +kernel
theorem dX5_targetOf_89 : decode cX5_targetOf 89 = .ok (.iload_n 1, 1) := by decide +kernel
theorem dX5_targetOf_90 : decode cX5_targetOf 90 = .ok (.invokevirtual 152, 3) := by decide +kernel
theorem dX5_targetOf_93 : decode cX5_targetOf 93 = .ok (.invokestatic 155, 3) := by decide +kernel
theorem dX5_targetOf_96 : decode cX5_targetOf 96 = .ok (.ireturn, 1) := by decide +kernel
theorem dX5_targetOf_97 : decode cX5_targetOf 97 = .ok (.aload_n 0, 1) := by decide +kernel
theorem dX5_targetOf_98 : decode cX5_targetOf 98 = .ok (.iload_n 1, 1) := by decide +kernel
theorem dX5_targetOf_99 : decode cX5_targetOf 99 = .ok (.iload_n 2, 1) := by decide +kernel
theorem dX5_targetOf_100 : decode cX5_targetOf 100 = .ok (.invokevirtual 159, 3) := by decide +kernel
theorem dX5_targetOf_103 : decode cX5_targetOf 103 = .ok (.ireturn, 1) := by decide +kernel
theorem dX5_ghost_0 : decode cX5_ghost 0 = .ok (.iload_n 1, 1) := by decide +kernel
theorem dX5_ghost_1 : decode cX5_ghost 1 = .ok (.ifCond .lt 12, 3) := by decide +kernel
theorem dX5_ghost_4 : decode cX5_ghost 4 = .ok (.iload_n 2, 1) := by decide +kernel
theorem dX5_ghost_5 : decode cX5_ghost 5 = .ok (.iconst 0, 1) := by decide +kernel
theorem dX5_ghost_6 : decode cX5_ghost 6 = .ok (.iconst 4, 1) := by decide +kernel
theorem dX5_ghost_7 : decode cX5_ghost 7 = .ok (.invokestatic 102, 3) := by decide +kernel
theorem dX5_ghost_10 : decode cX5_ghost 10 = .ok (.ifCond .ne 5, 3) := by decide +kernel
theorem dX5_ghost_13 : decode cX5_ghost 13 = .ok (.iconst (-1), 1) := by decide +kernel
theorem dX5_ghost_14 : decode cX5_ghost 14 = .ok (.ireturn, 1) := by decide +kernel
theorem dX5_ghost_15 : decode cX5_ghost 15 = .ok (.aload_n 0, 1) := by decide +kernel
theorem dX5_ghost_16 : decode cX5_ghost 16 = .ok (.getfield 50, 3) := by decide +kernel
theorem dX5_ghost_19 : decode cX5_ghost 19 = .ok (.aload_n 0, 1) := by decide +kernel
theorem dX5_ghost_20 : decode cX5_ghost 20 = .ok (.getfield 12, 3) := by decide +kernel
theorem dX5_ghost_23 : decode cX5_ghost 23 = .ok (.invokevirtual 163, 3) := by decide +kernel
theorem dX5_ghost_26 : decode cX5_ghost 26 = .ok (.iload_n 1, 1) := by decide +kernel
theorem dX5_ghost_27 : decode cX5_ghost 27 = .ok (.aload_n 0, 1) := by decide +kernel
theorem dX5_ghost_28 : decode cX5_ghost 28 = .ok (.getfield 50, 3) := by decide +kernel
theorem dX5_ghost_31 : decode cX5_ghost 31 = .ok (.invokevirtual 166, 3) := by decide +kernel
theorem dX5_ghost_34 : decode cX5_ghost 34 = .ok (.if_icmp .lt 6, 3) := by decide +kernel
theorem dX5_ghost_37 : decode cX5_ghost 37 = .ok (.bipush (-4), 2) := by decide +kernel
theorem dX5_ghost_39 : decode cX5_ghost 39 = .ok (.ireturn, 1) := by decide +kernel
theorem dX5_ghost_40 : decode cX5_ghost 40 = .ok (.aload_n 0, 1) := by decide +kernel
theorem dX5_ghost_41 : decode cX5_ghost 41 = .ok (.getfield 12, 3) := by decide +kernel
theorem dX5_ghost_44 : decode cX5_ghost 44 = .ok (.invokevirtual 80, 3) := by decide +kernel
theorem dX5_ghost_47 : decode cX5_ghost 47 = .ok (.iload_n 1, 1) := by decide +kernel
theorem dX5_ghost_48 : decode cX5_ghost 48 = .ok (.iadd, 1) := by decide +kernel
theorem dX5_ghost_49 : decode cX5_ghost 49 = .ok (.istore_n 3, 1) := by decide +kernel
theorem dX5_ghost_50 : decode cX5_ghost 50 = .ok (.iload_n 2, 1) := by decide +kernel
theorem dX5_ghost_51 : decode cX5_ghost 51 = .ok (.tableswitch 65 0 3 #[29, 38, 47, 56], 29) := by decide +kernel
theorem dX5_ghost_80 : decode cX5_ghost 80 = .ok (.aload_n 0, 1) := by decide +kernel
theorem dX5_ghost_81 : decode cX5_ghost 81 = .ok (.getfield 50, 3) := by decide +kernel
theorem dX5_ghost_84 : decode cX5_ghost 84 = .ok (.iload_n 3, 1) := by decide +kernel
theorem dX5_ghost_85 : decode cX5_ghost 85 = .ok (.invokevirtual 169, 3) := by decide +kernel
theorem dX5_ghost_88 : decode cX5_ghost 88 = .ok (.ireturn, 1) := by decide +kernel
theorem dX5_ghost_89 : decode cX5_ghost 89 = .ok (.aload_n 0, 1) := by decide +kernel
theorem dX5_ghost_90 : decode cX5_ghost 90 = .ok (.getfield 50, 3) := by decide +kernel
theorem dX5_ghost_93 : decode cX5_ghost 93 = .ok (.iload_n 3, 1) := by decide +kernel
theorem dX5_ghost_94 : decode cX5_ghost 94 = .ok (.invokevirtual 170, 3) := by decide +kernel
theorem dX5_ghost_97 : decode cX5_ghost 97 = .ok (.ireturn, 1) := by decide +kernel
theorem dX5_ghost_98 : decode cX5_ghost 98 = .ok (.aload_n 0, 1) := by decide +kernel
theorem dX5_ghost_99 : decode cX5_ghost 99 = .ok (.getfield 50, 3) := by decide +kernel
theorem dX5_ghost_102 : decode cX5_ghost 102 = .ok (.iload_n 3, 1) := by decide +kernel
theorem dX5_ghost_103 : decode cX5_ghost 103 = .ok (.invokevirtual 171, 3) := by decide +kernel
theorem dX5_ghost_106 : decode cX5_ghost 106 = .ok (.ireturn, 1) := by decide +kernel
theorem dX5_ghost_107 : decode cX5_ghost 107 = .ok (.aload_n 0, 1) := by decide +kernel
theorem dX5_ghost_108 : decode cX5_ghost 108 = .ok (.getfield 50, 3) := by decide +kernel
theorem dX5_ghost_111 : decode cX5_ghost 111 = .ok (.iload_n 3, 1) := by decide +kernel
theorem dX5_ghost_112 : decode cX5_ghost 112 = .ok (.invokevirtual 174, 3) := by decide +kernel
theorem dX5_ghost_115 : decode cX5_ghost 115 = .ok (.ireturn, 1) := by decide +kernel
theorem dX5_ghost_116 : decode cX5_ghost 116 = .ok (.aload_n 0, 1) := by decide +kernel
theorem dX5_ghost_117 : decode cX5_ghost 117 = .ok (.getfield 50, 3) := by decide +kernel
theorem dX5_ghost_120 : decode cX5_ghost 120 = .ok (.iload_n 3, 1) := by decide +kernel
theorem dX5_ghost_121 : decode cX5_ghost 121 = .ok (.invokevirtual 177, 3) := by decide +kernel
theorem dX5_ghost_124 : decode cX5_ghost 124 = .ok (.invokestatic 155, 3) := by decide +kernel
theorem dX5_ghost_127 : decode cX5_ghost 127 = .ok (.ireturn, 1) := by decide +kernel
theorem dX5_echo_0 : decode cX5_echo 0 = .ok (.aload_n 0, 1) := by decide +kernel
theorem dX5_echo_1 : decode cX5_echo 1 = .ok (.getfield 12, 3) := by decide +kernel
theorem dX5_echo_4 : decode cX5_echo 4 = .ok (.iload_n 1, 1) := by decide +kernel
theorem dX5_echo_5 : decode cX5_echo 5 = .ok (.invokevirtual 180, 3) := by decide +kernel
theorem dX5_echo_8 : decode cX5_echo 8 = .ok (.ifCond .eq 16, 3) := by decide +kernel
theorem dX5_echo_11 : decode cX5_echo 11 = .ok (.iload_n 2, 1) := by decide +kernel
theorem dX5_echo_12 : decode cX5_echo 12 = .ok (.ifCond .lt 12, 3) := by decide +kernel
theorem dX5_echo_15 : decode cX5_echo 15 = .ok (.iload_n 3, 1) := by decide +kernel
theorem dX5_echo_16 : decode cX5_echo 16 = .ok (.iconst 0, 1) := by decide +kernel
theorem dX5_echo_17 : decode cX5_echo 17 = .ok (.iconst 3, 1) := by decide +kernel
theorem dX5_echo_18 : decode cX5_echo 18 = .ok (.invokestatic 102, 3) := by decide +kernel
theorem dX5_echo_21 : decode cX5_echo 21 = .ok (.ifCond .ne 5, 3) := by decide +kernel
theorem dX5_echo_24 : decode cX5_echo 24 = .ok (.iconst (-1), 1) := by decide +kernel
theorem dX5_echo_25 : decode cX5_echo 25 = .ok (.ireturn, 1) := by decide +kernel
theorem dX5_echo_26 : decode cX5_echo 26 = .ok (.aload_n 0, 1) := by decide +kernel
theorem dX5_echo_27 : decode cX5_echo 27 = .ok (.getfield 50, 3) := by decide +kernel
theorem dX5_echo_30 : decode cX5_echo 30 = .ok (.aload_n 0, 1) := by decide +kernel
theorem dX5_echo_31 : decode cX5_echo 31 = .ok (.getfield 12, 3) := by decide +kernel
theorem dX5_echo_34 : decode cX5_echo 34 = .ok (.invokevirtual 163, 3) := by decide +kernel
theorem dX5_echo_37 : decode cX5_echo 37 = .ok (.aload_n 0, 1) := by decide +kernel
theorem dX5_echo_38 : decode cX5_echo 38 = .ok (.getfield 50, 3) := by decide +kernel
theorem dX5_echo_41 : decode cX5_echo 41 = .ok (.iload_n 1, 1) := by decide +kernel
theorem dX5_echo_42 : decode cX5_echo 42 = .ok (.iload_n 2, 1) := by decide +kernel
theorem dX5_echo_43 : decode cX5_echo 43 = .ok (.invokevirtual 183, 3) := by decide +kernel
theorem dX5_echo_46 : decode cX5_echo 46 = .ok (.istore 4, 2) := by decide +kernel
theorem dX5_echo_48 : decode cX5_echo 48 = .ok (.iload 4, 2) := by decide +kernel
theorem dX5_echo_50 : decode cX5_echo 50 = .ok (.ifCond .ge 6, 3) := by decide +kernel
theorem dX5_echo_53 : decode cX5_echo 53 = .ok (.bipush (-4), 2) := by decide +kernel
theorem dX5_echo_55 : decode cX5_echo 55 = .ok (.ireturn, 1) := by decide +kernel
theorem dX5_echo_56 : decode cX5_echo 56 = .ok (.iload 4, 2) := by decide +kernel
theorem dX5_echo_58 : decode cX5_echo 58 = .ok (.bipush 11, 2) := by decide +kernel
theorem dX5_echo_60 : decode cX5_echo 60 = .ok (.idiv, 1) := by decide +kernel
theorem dX5_echo_61 : decode cX5_echo 61 = .ok (.istore 5, 2) := by decide +kernel
theorem dX5_echo_63 : decode cX5_echo 63 = .ok (.iload 4, 2) := by decide +kernel
theorem dX5_echo_65 : decode cX5_echo 65 = .ok (.bipush 11, 2) := by decide +kernel
theorem dX5_echo_67 : decode cX5_echo 67 = .ok (.irem, 1) := by decide +kernel
theorem dX5_echo_68 : decode cX5_echo 68 = .ok (.iconst 5, 1) := by decide +kernel
theorem dX5_echo_69 : decode cX5_echo 69 = .ok (.isub, 1) := by decide +kernel
theorem dX5_echo_70 : decode cX5_echo 70 = .ok (.istore 6, 2) := by decide +kernel
theorem dX5_echo_72 : decode cX5_echo 72 = .ok (.iload_n 3, 1) := by decide +kernel
theorem dX5_echo_73 : decode cX5_echo 73 = .ok (.tableswitch 48 0 2 #[27, 30, 35], 27) := by decide +kernel
theorem dX5_echo_100 : decode cX5_echo 100 = .ok (.iload 5, 2) := by decide +kernel
theorem dX5_echo_102 : decode cX5_echo 102 = .ok (.ireturn, 1) := by decide +kernel
theorem dX5_echo_103 : decode cX5_echo 103 = .ok (.iload 6, 2) := by decide +kernel
theorem dX5_echo_105 : decode cX5_echo 105 = .ok (.iconst 5, 1) := by decide +kernel
theorem dX5_echo_106 : decode cX5_echo 106 = .ok (.iadd, 1) := by decide +kernel
theorem dX5_echo_107 : decode cX5_echo 107 = .ok (.ireturn, 1) := by decide +kernel
theorem dX5_echo_108 : decode cX5_echo 108 = .ok (.aload_n 0, 1) := by decide +kernel
theorem dX5_echo_109 : decode cX5_echo 109 = .ok (.getfield 50, 3) := by decide +kernel
theorem dX5_echo_112 : decode cX5_echo 112 = .ok (.iload_n 1, 1) := by decide +kernel
theorem dX5_echo_113 : decode cX5_echo 113 = .ok (.iload 5, 2) := by decide +kernel
theorem dX5_echo_115 : decode cX5_echo 115 = .ok (.iload 6, 2) := by decide +kernel
theorem dX5_echo_117 : decode cX5_echo 117 = .ok (.invokevirtual 186, 3) := by decide +kernel
theorem dX5_echo_120 : decode cX5_echo 120 = .ok (.ireturn, 1) := by decide +kernel
theorem dX5_echo_121 : decode cX5_echo 121 = .ok (.aload_n 0, 1) := by decide +kernel
theorem dX5_echo_122 : decode cX5_echo 122 = .ok (.getfield 50, 3) := by decide +kernel
theorem dX5_echo_125 : decode cX5_echo 125 = .ok (.iload_n 1, 1) := by decide +kernel
theorem dX5_echo_126 : decode cX5_echo 126 = .ok (.iload 5, 2) := by decide +kernel
theorem dX5_echo_128 : decode cX5_echo 128 = .ok (.iload 6, 2) := by decide +kernel
theorem dX5_echo_130 : decode cX5_echo 130 = .ok (.invokevirtual 190, 3) := by decide +kernel
theorem dX5_echo_133 : decode cX5_echo 133 = .ok (.ireturn, 1) := by decide +kernel
theorem dX5_fits_0 : decode cX5_fits 0 = .ok (.iload_n 1, 1) := by decide +kernel
theorem dX5_fits_1 : decode cX5_fits 1 = .ok (.iconst 1, 1) := by decide +kernel
theorem dX5_fits_2 : decode cX5_fits 2 = .ok (.sipush 600, 3) := by decide +kernel
theorem dX5_fits_5 : decode cX5_fits 5 = .ok (.invokestatic 102, 3) := by decide +kernel
theorem dX5_fits_8 : decode cX5_fits 8 = .ok (.ifCond .eq 24, 3) := by decide +kernel
theorem dX5_fits_11 : decode cX5_fits 11 = .ok (.iload_n 2, 1) := by decide +kernel
theorem dX5_fits_12 : decode cX5_fits 12 = .ok (.bipush (-5), 2) := by decide +kernel
theorem dX5_fits_14 : decode cX5_fits 14 = .ok (.iconst 5, 1) := by decide +kernel
theorem dX5_fits_15 : decode cX5_fits 15 = .ok (.invokestatic 102, 3) := by decide +kernel
theorem dX5_fits_18 : decode cX5_fits 18 = .ok (.ifCond .eq 14, 3) := by decide +kernel
theorem dX5_fits_21 : decode cX5_fits 21 = .ok (.aload_n 0, 1) := by decide +kernel
theorem dX5_fits_22 : decode cX5_fits 22 = .ok (.getfield 12, 3) := by decide +kernel
theorem dX5_fits_25 : decode cX5_fits 25 = .ok (.iload_n 3, 1) := by decide +kernel
theorem dX5_fits_26 : decode cX5_fits 26 = .ok (.invokevirtual 180, 3) := by decide +kernel
theorem dX5_fits_29 : decode cX5_fits 29 = .ok (.ifCond .ne 5, 3) := by decide +kernel
theorem dX5_fits_32 : decode cX5_fits 32 = .ok (.iconst (-1), 1) := by decide +kernel
theorem dX5_fits_33 : decode cX5_fits 33 = .ok (.ireturn, 1) := by decide +kernel
theorem dX5_fits_34 : decode cX5_fits 34 = .ok (.aload_n 0, 1) := by decide +kernel
theorem dX5_fits_35 : decode cX5_fits 35 = .ok (.getfield 50, 3) := by decide +kernel
theorem dX5_fits_38 : decode cX5_fits 38 = .ok (.aload_n 0, 1) := by decide +kernel
theorem dX5_fits_39 : decode cX5_fits 39 = .ok (.getfield 12, 3) := by decide +kernel
theorem dX5_fits_42 : decode cX5_fits 42 = .ok (.invokevirtual 163, 3) := by decide +kernel
theorem dX5_fits_45 : decode cX5_fits 45 = .ok (.aload_n 0, 1) := by decide +kernel
theorem dX5_fits_46 : decode cX5_fits 46 = .ok (.getfield 50, 3) := by decide +kernel
theorem dX5_fits_49 : decode cX5_fits 49 = .ok (.iload_n 1, 1) := by decide +kernel
theorem dX5_fits_50 : decode cX5_fits 50 = .ok (.iload_n 2, 1) := by decide +kernel
theorem dX5_fits_51 : decode cX5_fits 51 = .ok (.iload_n 3, 1) := by decide +kernel
theorem dX5_fits_52 : decode cX5_fits 52 = .ok (.invokevirtual 193, 3) := by decide +kernel
theorem dX5_fits_55 : decode cX5_fits 55 = .ok (.ireturn, 1) := by decide +kernel
theorem dX5_told_0 : decode cX5_told 0 = .ok (.iload_n 1, 1) := by decide +kernel
theorem dX5_told_1 : decode cX5_told 1 = .ok (.ifCond .lt 12, 3) := by decide +kernel
theorem dX5_told_4 : decode cX5_told 4 = .ok (.iload_n 2, 1) := by decide +kernel
theorem dX5_told_5 : decode cX5_told 5 = .ok (.iconst 0, 1) := by decide +kernel
theorem dX5_told_6 : decode cX5_told 6 = .ok (.iconst 3, 1) := by decide +kernel
theorem dX5_told_7 : decode cX5_told 7 = .ok (.invokestatic 102, 3) := by decide +kernel
theorem dX5_told_10 : decode cX5_told 10 = .ok (.ifCond .ne 5, 3) := by decide +kernel
theorem dX5_told_13 : decode cX5_told 13 = .ok (.iconst (-1), 1) := by decide +kernel
theorem dX5_told_14 : decode cX5_told 14 = .ok (.ireturn, 1) := by decide +kernel
theorem dX5_told_15 : decode cX5_told 15 = .ok (.aload_n 0, 1) := by decide +kernel
theorem dX5_told_16 : decode cX5_told 16 = .ok (.getfield 50, 3) := by decide +kernel
theorem dX5_told_19 : decode cX5_told 19 = .ok (.aload_n 0, 1) := by decide +kernel
theorem dX5_told_20 : decode cX5_told 20 = .ok (.getfield 12, 3) := by decide +kernel
theorem dX5_told_23 : decode cX5_told 23 = .ok (.invokevirtual 163, 3) := by decide +kernel
theorem dX5_told_26 : decode cX5_told 26 = .ok (.aload_n 0, 1) := by decide +kernel
theorem dX5_told_27 : decode cX5_told 27 = .ok (.getfield 50, 3) := by decide +kernel
theorem dX5_told_30 : decode cX5_told 30 = .ok (.iload_n 1, 1) := by decide +kernel
theorem dX5_told_31 : decode cX5_told 31 = .ok (.invokevirtual 196, 3) := by decide +kernel
theorem dX5_told_34 : decode cX5_told 34 = .ok (.istore_n 3, 1) := by decide +kernel
theorem dX5_told_35 : decode cX5_told 35 = .ok (.iload_n 3, 1) := by decide +kernel
theorem dX5_told_36 : decode cX5_told 36 = .ok (.ifCond .ge 6, 3) := by decide +kernel
theorem dX5_told_39 : decode cX5_told 39 = .ok (.bipush (-4), 2) := by decide +kernel
theorem dX5_told_41 : decode cX5_told 41 = .ok (.ireturn, 1) := by decide +kernel
theorem dX5_told_42 : decode cX5_told 42 = .ok (.iload_n 3, 1) := by decide +kernel
theorem dX5_told_43 : decode cX5_told 43 = .ok (.bipush 11, 2) := by decide +kernel
theorem dX5_told_45 : decode cX5_told 45 = .ok (.idiv, 1) := by decide +kernel
theorem dX5_told_46 : decode cX5_told 46 = .ok (.istore 4, 2) := by decide +kernel
theorem dX5_told_48 : decode cX5_told 48 = .ok (.iload_n 3, 1) := by decide +kernel
theorem dX5_told_49 : decode cX5_told 49 = .ok (.bipush 11, 2) := by decide +kernel
theorem dX5_told_51 : decode cX5_told 51 = .ok (.irem, 1) := by decide +kernel
theorem dX5_told_52 : decode cX5_told 52 = .ok (.iconst 5, 1) := by decide +kernel
theorem dX5_told_53 : decode cX5_told 53 = .ok (.isub, 1) := by decide +kernel
theorem dX5_told_54 : decode cX5_told 54 = .ok (.istore 5, 2) := by decide +kernel
theorem dX5_told_56 : decode cX5_told 56 = .ok (.iload_n 2, 1) := by decide +kernel
theorem dX5_told_57 : decode cX5_told 57 = .ok (.tableswitch 50 0 2 #[27, 30, 35], 27) := by decide +kernel
theorem dX5_told_84 : decode cX5_told 84 = .ok (.iload 4, 2) := by decide +kernel
theorem dX5_told_86 : decode cX5_told 86 = .ok (.ireturn, 1) := by decide +kernel
theorem dX5_told_87 : decode cX5_told 87 = .ok (.iload 5, 2) := by decide +kernel
theorem dX5_told_89 : decode cX5_told 89 = .ok (.iconst 5, 1) := by decide +kernel
theorem dX5_told_90 : decode cX5_told 90 = .ok (.iadd, 1) := by decide +kernel
theorem dX5_told_91 : decode cX5_told 91 = .ok (.ireturn, 1) := by decide +kernel
theorem dX5_told_92 : decode cX5_told 92 = .ok (.aload_n 0, 1) := by decide +kernel
theorem dX5_told_93 : decode cX5_told 93 = .ok (.getfield 50, 3) := by decide +kernel
theorem dX5_told_96 : decode cX5_told 96 = .ok (.iload 4, 2) := by decide +kernel
theorem dX5_told_98 : decode cX5_told 98 = .ok (.iload 5, 2) := by decide +kernel
theorem dX5_told_100 : decode cX5_told 100 = .ok (.invokevirtual 199, 3) := by decide +kernel
theorem dX5_told_103 : decode cX5_told 103 = .ok (.invokestatic 155, 3) := by decide +kernel
theorem dX5_told_106 : decode cX5_told 106 = .ok (.ireturn, 1) := by decide +kernel
theorem dX5_told_107 : decode cX5_told 107 = .ok (.aload_n 0, 1) := by decide +kernel
theorem dX5_told_108 : decode cX5_told 108 = .ok (.getfield 50, 3) := by decide +kernel
theorem dX5_told_111 : decode cX5_told 111 = .ok (.iload 4, 2) := by decide +kernel
theorem dX5_told_113 : decode cX5_told 113 = .ok (.iload 5, 2) := by decide +kernel
theorem dX5_told_115 : decode cX5_told 115 = .ok (.invokevirtual 203, 3) := by decide +kernel
theorem dX5_told_118 : decode cX5_told 118 = .ok (.ireturn, 1) := by decide +kernel
theorem dX5_alike_0 : decode cX5_alike 0 = .ok (.iload_n 1, 1) := by decide +kernel
theorem dX5_alike_1 : decode cX5_alike 1 = .ok (.iconst 0, 1) := by decide +kernel
theorem dX5_alike_2 : decode cX5_alike 2 = .ok (.iconst 1, 1) := by decide +kernel
theorem dX5_alike_3 : decode cX5_alike 3 = .ok (.invokestatic 102, 3) := by decide +kernel
theorem dX5_alike_6 : decode cX5_alike 6 = .ok (.ifCond .ne 5, 3) := by decide +kernel
theorem dX5_alike_9 : decode cX5_alike 9 = .ok (.iconst (-1), 1) := by decide +kernel
theorem dX5_alike_10 : decode cX5_alike 10 = .ok (.ireturn, 1) := by decide +kernel
theorem dX5_alike_11 : decode cX5_alike 11 = .ok (.aload_n 0, 1) := by decide +kernel
theorem dX5_alike_12 : decode cX5_alike 12 = .ok (.getfield 12, 3) := by decide +kernel
theorem dX5_alike_15 : decode cX5_alike 15 = .ok (.iconst 0, 1) := by decide +kernel
theorem dX5_alike_16 : decode cX5_alike 16 = .ok (.invokevirtual 206, 3) := by decide +kernel
theorem dX5_alike_19 : decode cX5_alike 19 = .ok (.istore_n 2, 1) := by decide +kernel
theorem dX5_alike_20 : decode cX5_alike 20 = .ok (.iconst 1, 1) := by decide +kernel
theorem dX5_alike_21 : decode cX5_alike 21 = .ok (.istore_n 3, 1) := by decide +kernel
theorem dX5_alike_22 : decode cX5_alike 22 = .ok (.iload_n 3, 1) := by decide +kernel
theorem dX5_alike_23 : decode cX5_alike 23 = .ok (.aload_n 0, 1) := by decide +kernel
theorem dX5_alike_24 : decode cX5_alike 24 = .ok (.getfield 12, 3) := by decide +kernel
theorem dX5_alike_27 : decode cX5_alike 27 = .ok (.invokevirtual 99, 3) := by decide +kernel
theorem dX5_alike_30 : decode cX5_alike 30 = .ok (.if_icmp .ge 39, 3) := by decide +kernel
theorem dX5_alike_33 : decode cX5_alike 33 = .ok (.aload_n 0, 1) := by decide +kernel
theorem dX5_alike_34 : decode cX5_alike 34 = .ok (.getfield 12, 3) := by decide +kernel
theorem dX5_alike_37 : decode cX5_alike 37 = .ok (.iload_n 3, 1) := by decide +kernel
theorem dX5_alike_38 : decode cX5_alike 38 = .ok (.invokevirtual 206, 3) := by decide +kernel
theorem dX5_alike_41 : decode cX5_alike 41 = .ok (.istore 4, 2) := by decide +kernel
theorem dX5_alike_43 : decode cX5_alike 43 = .ok (.iload_n 1, 1) := by decide +kernel
theorem dX5_alike_44 : decode cX5_alike 44 = .ok (.ifCond .ne 12, 3) := by decide +kernel
theorem dX5_alike_47 : decode cX5_alike 47 = .ok (.iload_n 2, 1) := by decide +kernel
theorem dX5_alike_48 : decode cX5_alike 48 = .ok (.iload 4, 2) := by decide +kernel
theorem dX5_alike_50 : decode cX5_alike 50 = .ok (.invokestatic 209, 3) := by decide +kernel
theorem dX5_alike_53 : decode cX5_alike 53 = .ok (.goto 9, 3) := by decide +kernel
theorem dX5_alike_56 : decode cX5_alike 56 = .ok (.iload_n 2, 1) := by decide +kernel
theorem dX5_alike_57 : decode cX5_alike 57 = .ok (.iload 4, 2) := by decide +kernel
theorem dX5_alike_59 : decode cX5_alike 59 = .ok (.invokestatic 212, 3) := by decide +kernel
theorem dX5_alike_62 : decode cX5_alike 62 = .ok (.istore_n 2, 1) := by decide +kernel
theorem dX5_alike_63 : decode cX5_alike 63 = .ok (.iinc 3 1, 3) := by decide +kernel
theorem dX5_alike_66 : decode cX5_alike 66 = .ok (.goto (-44), 3) := by decide +kernel
theorem dX5_alike_69 : decode cX5_alike 69 = .ok (.iload_n 2, 1) := by decide +kernel
theorem dX5_alike_70 : decode cX5_alike 70 = .ok (.ireturn, 1) := by decide +kernel
theorem dX5_unfold_0 : decode cX5_unfold 0 = .ok (.aload_n 0, 1) := by decide +kernel
theorem dX5_unfold_1 : decode cX5_unfold 1 = .ok (.getfield 12, 3) := by decide +kernel
theorem dX5_unfold_4 : decode cX5_unfold 4 = .ok (.iconst 0, 1) := by decide +kernel
theorem dX5_unfold_5 : decode cX5_unfold 5 = .ok (.invokevirtual 206, 3) := by decide +kernel
theorem dX5_unfold_8 : decode cX5_unfold 8 = .ok (.istore 4, 2) := by decide +kernel
theorem dX5_unfold_10 : decode cX5_unfold 10 = .ok (.aload_n 0, 1) := by decide +kernel
theorem dX5_unfold_11 : decode cX5_unfold 11 = .ok (.getfield 12, 3) := by decide +kernel
theorem dX5_unfold_14 : decode cX5_unfold 14 = .ok (.iconst 1, 1) := by decide +kernel
theorem dX5_unfold_15 : decode cX5_unfold 15 = .ok (.invokevirtual 180, 3) := by decide +kernel
theorem dX5_unfold_18 : decode cX5_unfold 18 = .ok (.ifCond .eq 14, 3) := by decide +kernel
theorem dX5_unfold_21 : decode cX5_unfold 21 = .ok (.aload_n 0, 1) := by decide +kernel
theorem dX5_unfold_22 : decode cX5_unfold 22 = .ok (.getfield 12, 3) := by decide +kernel
theorem dX5_unfold_25 : decode cX5_unfold 25 = .ok (.iconst 1, 1) := by decide +kernel
theorem dX5_unfold_26 : decode cX5_unfold 26 = .ok (.invokevirtual 206, 3) := by decide +kernel
theorem dX5_unfold_29 : decode cX5_unfold 29 = .ok (.goto 4, 3) := by decide +kernel
theorem dX5_unfold_32 : decode cX5_unfold 32 = .ok (.iconst 1, 1) := by decide +kernel
theorem dX5_unfold_33 : decode cX5_unfold 33 = .ok (.istore 5, 2) := by decide +kernel
theorem dX5_unfold_35 : decode cX5_unfold 35 = .ok (.iload_n 1, 1) := by decide +kernel
theorem dX5_unfold_36 : decode cX5_unfold 36 = .ok (.iconst 0, 1) := by decide +kernel
theorem dX5_unfold_37 : decode cX5_unfold 37 = .ok (.iload 4, 2) := by decide +kernel
theorem dX5_unfold_39 : decode cX5_unfold 39 = .ok (.iconst 1, 1) := by decide +kernel
theorem dX5_unfold_40 : decode cX5_unfold 40 = .ok (.isub, 1) := by decide +kernel
theorem dX5_unfold_41 : decode cX5_unfold 41 = .ok (.invokestatic 102, 3) := by decide +kernel
theorem dX5_unfold_44 : decode cX5_unfold 44 = .ok (.ifCond .eq 24, 3) := by decide +kernel
theorem dX5_unfold_47 : decode cX5_unfold 47 = .ok (.iload_n 2, 1) := by decide +kernel
theorem dX5_unfold_48 : decode cX5_unfold 48 = .ok (.iconst 0, 1) := by decide +kernel
theorem dX5_unfold_49 : decode cX5_unfold 49 = .ok (.iload 5, 2) := by decide +kernel
theorem dX5_unfold_51 : decode cX5_unfold 51 = .ok (.iconst 1, 1) := by decide +kernel
theorem dX5_unfold_52 : decode cX5_unfold 52 = .ok (.isub, 1) := by decide +kernel
theorem dX5_unfold_53 : decode cX5_unfold 53 = .ok (.invokestatic 102, 3) := by decide +kernel
theorem dX5_unfold_56 : decode cX5_unfold 56 = .ok (.ifCond .eq 12, 3) := by decide +kernel
theorem dX5_unfold_59 : decode cX5_unfold 59 = .ok (.iload_n 3, 1) := by decide +kernel
theorem dX5_unfold_60 : decode cX5_unfold 60 = .ok (.iconst 0, 1) := by decide +kernel
theorem dX5_unfold_61 : decode cX5_unfold 61 = .ok (.iconst 1, 1) := by decide +kernel
theorem dX5_unfold_62 : decode cX5_unfold 62 = .ok (.invokestatic 102, 3) := by decide +kernel
theorem dX5_unfold_65 : decode cX5_unfold 65 = .ok (.ifCond .ne 5, 3) := by decide +kernel
theorem dX5_unfold_68 : decode cX5_unfold 68 = .ok (.iconst (-1), 1) := by decide +kernel
theorem dX5_unfold_69 : decode cX5_unfold 69 = .ok (.ireturn, 1) := by decide +kernel
theorem dX5_unfold_70 : decode cX5_unfold 70 = .ok (.iload_n 3, 1) := by decide +kernel
theorem dX5_unfold_71 : decode cX5_unfold 71 = .ok (.ifCond .ne 17, 3) := by decide +kernel
theorem dX5_unfold_74 : decode cX5_unfold 74 = .ok (.iload_n 1, 1) := by decide +kernel
theorem dX5_unfold_75 : decode cX5_unfold 75 = .ok (.iload 4, 2) := by decide +kernel
theorem dX5_unfold_77 : decode cX5_unfold 77 = .ok (.iload_n 2, 1) := by decide +kernel
theorem dX5_unfold_78 : decode cX5_unfold 78 = .ok (.iload 5, 2) := by decide +kernel
theorem dX5_unfold_80 : decode cX5_unfold 80 = .ok (.iconst 0, 1) := by decide +kernel
theorem dX5_unfold_81 : decode cX5_unfold 81 = .ok (.iconst 1, 1) := by decide +kernel
theorem dX5_unfold_82 : decode cX5_unfold 82 = .ok (.invokestatic 215, 3) := by decide +kernel
theorem dX5_unfold_85 : decode cX5_unfold 85 = .ok (.goto 15, 3) := by decide +kernel
theorem dX5_unfold_88 : decode cX5_unfold 88 = .ok (.iload_n 1, 1) := by decide +kernel
theorem dX5_unfold_89 : decode cX5_unfold 89 = .ok (.iload 4, 2) := by decide +kernel
theorem dX5_unfold_91 : decode cX5_unfold 91 = .ok (.iload_n 2, 1) := by decide +kernel
theorem dX5_unfold_92 : decode cX5_unfold 92 = .ok (.iload 5, 2) := by decide +kernel
theorem dX5_unfold_94 : decode cX5_unfold 94 = .ok (.iload_n 1, 1) := by decide +kernel
theorem dX5_unfold_95 : decode cX5_unfold 95 = .ok (.iload 4, 2) := by decide +kernel
theorem dX5_unfold_97 : decode cX5_unfold 97 = .ok (.invokestatic 215, 3) := by decide +kernel
theorem dX5_unfold_100 : decode cX5_unfold 100 = .ok (.ireturn, 1) := by decide +kernel
theorem dX5_count_0 : decode cX5_count 0 = .ok (.iload_n 1, 1) := by decide +kernel
theorem dX5_count_1 : decode cX5_count 1 = .ok (.iconst 0, 1) := by decide +kernel
theorem dX5_count_2 : decode cX5_count 2 = .ok (.bipush 18, 2) := by decide +kernel
theorem dX5_count_4 : decode cX5_count 4 = .ok (.invokestatic 102, 3) := by decide +kernel
theorem dX5_count_7 : decode cX5_count 7 = .ok (.ifCond .ne 5, 3) := by decide +kernel
theorem dX5_count_10 : decode cX5_count 10 = .ok (.iconst (-1), 1) := by decide +kernel
theorem dX5_count_11 : decode cX5_count 11 = .ok (.ireturn, 1) := by decide +kernel
theorem dX5_count_12 : decode cX5_count 12 = .ok (.iload_n 1, 1) := by decide +kernel
theorem dX5_count_13 : decode cX5_count 13 = .ok (.iconst 4, 1) := by decide +kernel
theorem dX5_count_14 : decode cX5_count 14 = .ok (.if_icmp .lt 38, 3) := by decide +kernel
theorem dX5_count_17 : decode cX5_count 17 = .ok (.iload_n 1, 1) := by decide +kernel
theorem dX5_count_18 : decode cX5_count 18 = .ok (.bipush 7, 2) := by decide +kernel
theorem dX5_count_20 : decode cX5_count 20 = .ok (.if_icmp .gt 32, 3) := by decide +kernel
theorem dX5_count_23 : decode cX5_count 23 = .ok (.aload_n 0, 1) := by decide +kernel
theorem dX5_count_24 : decode cX5_count 24 = .ok (.getfield 12, 3) := by decide +kernel
theorem dX5_count_27 : decode cX5_count 27 = .ok (.iload_n 1, 1) := by decide +kernel
theorem dX5_count_28 : decode cX5_count 28 = .ok (.iconst 4, 1) := by decide +kernel
theorem dX5_count_29 : decode cX5_count 29 = .ok (.isub, 1) := by decide +kernel
theorem dX5_count_30 : decode cX5_count 30 = .ok (.invokevirtual 180, 3) := by decide +kernel
theorem dX5_count_33 : decode cX5_count 33 = .ok (.ifCond .eq 16, 3) := by decide +kernel
theorem dX5_count_36 : decode cX5_count 36 = .ok (.aload_n 0, 1) := by decide +kernel
theorem dX5_count_37 : decode cX5_count 37 = .ok (.getfield 12, 3) := by decide +kernel
theorem dX5_count_40 : decode cX5_count 40 = .ok (.iload_n 1, 1) := by decide +kernel
theorem dX5_count_41 : decode cX5_count 41 = .ok (.iconst 4, 1) := by decide +kernel
theorem dX5_count_42 : decode cX5_count 42 = .ok (.isub, 1) := by decide +kernel
theorem dX5_count_43 : decode cX5_count 43 = .ok (.invokevirtual 206, 3) := by decide +kernel
theorem dX5_count_46 : decode cX5_count 46 = .ok (.goto 5, 3) := by decide +kernel
theorem dX5_count_49 : decode cX5_count 49 = .ok (.bipush (-4), 2) := by decide +kernel
theorem dX5_count_51 : decode cX5_count 51 = .ok (.ireturn, 1) := by decide +kernel
theorem dX5_count_52 : decode cX5_count 52 = .ok (.iload_n 1, 1) := by decide +kernel
theorem dX5_count_53 : decode cX5_count 53 = .ok (.iconst 2, 1) := by decide +kernel
theorem dX5_count_54 : decode cX5_count 54 = .ok (.if_icmp .eq 15, 3) := by decide +kernel
theorem dX5_count_57 : decode cX5_count 57 = .ok (.iload_n 1, 1) := by decide +kernel
theorem dX5_count_58 : decode cX5_count 58 = .ok (.bipush 8, 2) := by decide +kernel
theorem dX5_count_60 : decode cX5_count 60 = .ok (.if_icmp .lt 15, 3) := by decide +kernel
theorem dX5_count_63 : decode cX5_count 63 = .ok (.iload_n 1, 1) := by decide +kernel
theorem dX5_count_64 : decode cX5_count 64 = .ok (.bipush 13, 2) := by decide +kernel
theorem dX5_count_66 : decode cX5_count 66 = .ok (.if_icmp .gt 9, 3) := by decide +kernel
theorem dX5_count_69 : decode cX5_count 69 = .ok (.aload_n 0, 1) := by decide +kernel
theorem dX5_count_70 : decode cX5_count 70 = .ok (.iload_n 1, 1) := by decide +kernel
theorem dX5_count_71 : decode cX5_count 71 = .ok (.invokevirtual 219, 3) := by decide +kernel
theorem dX5_count_74 : decode cX5_count 74 = .ok (.ireturn, 1) := by decide +kernel
theorem dX5_count_75 : decode cX5_count 75 = .ok (.iload_n 1, 1) := by decide +kernel
theorem dX5_count_76 : decode cX5_count 76 = .ok (.tableswitch 155 0 17 #[88, 96, 155, 104, 155, 155, 155, 155, 155, 155, 155, 155, 155, 155, 112, 120, 128, 147], 88) := by decide +kernel
theorem dX5_count_164 : decode cX5_count 164 = .ok (.aload_n 0, 1) := by decide +kernel
theorem dX5_count_165 : decode cX5_count 165 = .ok (.getfield 12, 3) := by decide +kernel
theorem dX5_count_168 : decode cX5_count 168 = .ok (.invokevirtual 80, 3) := by decide +kernel
theorem dX5_count_171 : decode cX5_count 171 = .ok (.ireturn, 1) := by decide +kernel
theorem dX5_count_172 : decode cX5_count 172 = .ok (.aload_n 0, 1) := by decide +kernel
theorem dX5_count_173 : decode cX5_count 173 = .ok (.getfield 12, 3) := by decide +kernel
theorem dX5_count_176 : decode cX5_count 176 = .ok (.invokevirtual 222, 3) := by decide +kernel
theorem dX5_count_179 : decode cX5_count 179 = .ok (.ireturn, 1) := by decide +kernel
theorem dX5_count_180 : decode cX5_count 180 = .ok (.aload_n 0, 1) := by decide +kernel
theorem dX5_count_181 : decode cX5_count 181 = .ok (.getfield 12, 3) := by decide +kernel
theorem dX5_count_184 : decode cX5_count 184 = .ok (.invokevirtual 99, 3) := by decide +kernel
theorem dX5_count_187 : decode cX5_count 187 = .ok (.ireturn, 1) := by decide +kernel
theorem dX5_count_188 : decode cX5_count 188 = .ok (.aload_n 0, 1) := by decide +kernel
theorem dX5_count_189 : decode cX5_count 189 = .ok (.getfield 12, 3) := by decide +kernel
theorem dX5_count_192 : decode cX5_count 192 = .ok (.invokevirtual 225, 3) := by decide +kernel
theorem dX5_count_195 : decode cX5_count 195 = .ok (.ireturn, 1) := by decide +kernel
theorem dX5_count_196 : decode cX5_count 196 = .ok (.aload_n 0, 1) := by decide +kernel
theorem dX5_count_197 : decode cX5_count 197 = .ok (.getfield 12, 3) := by decide +kernel
theorem dX5_count_200 : decode cX5_count 200 = .ok (.invokevirtual 228, 3) := by decide +kernel
theorem dX5_count_203 : decode cX5_count 203 = .ok (.ireturn, 1) := by decide +kernel
theorem dX5_count_204 : decode cX5_count 204 = .ok (.aload_n 0, 1) := by decide +kernel
theorem dX5_count_205 : decode cX5_count 205 = .ok (.getfield 43, 3) := by decide +kernel
theorem dX5_count_208 : decode cX5_count 208 = .ok (.aload_n 0, 1) := by decide +kernel
theorem dX5_count_209 : decode cX5_count 209 = .ok (.getfield 12, 3) := by decide +kernel
theorem dX5_count_212 : decode cX5_count 212 = .ok (.invokevirtual 136, 3) := by decide +kernel
theorem dX5_count_215 : decode cX5_count 215 = .ok (.aload_n 0, 1) := by decide +kernel
theorem dX5_count_216 : decode cX5_count 216 = .ok (.getfield 43, 3) := by decide +kernel
theorem dX5_count_219 : decode cX5_count 219 = .ok (.invokevirtual 139, 3) := by decide +kernel
theorem dX5_count_222 : decode cX5_count 222 = .ok (.ireturn, 1) := by decide +kernel
theorem dX5_count_223 : decode cX5_count 223 = .ok (.aload_n 0, 1) := by decide +kernel
theorem dX5_count_224 : decode cX5_count 224 = .ok (.getfield 29, 3) := by decide +kernel
theorem dX5_count_227 : decode cX5_count 227 = .ok (.invokevirtual 117, 3) := by decide +kernel
theorem dX5_count_230 : decode cX5_count 230 = .ok (.ireturn, 1) := by decide +kernel
theorem dX5_count_231 : decode cX5_count 231 = .ok (.aload_n 0, 1) := by decide +kernel
theorem dX5_count_232 : decode cX5_count 232 = .ok (.getfield 58, 3) := by decide +kernel
theorem dX5_count_235 : decode cX5_count 235 = .ok (.ireturn, 1) := by decide +kernel
theorem dX5_ifTurn_0 : decode cX5_ifTurn 0 = .ok (.iload_n 1, 1) := by decide +kernel
theorem dX5_ifTurn_1 : decode cX5_ifTurn 1 = .ok (.invokestatic 87, 3) := by decide +kernel
theorem dX5_ifTurn_4 : decode cX5_ifTurn 4 = .ok (.ifCond .eq 12, 3) := by decide +kernel
theorem dX5_ifTurn_7 : decode cX5_ifTurn 7 = .ok (.iload_n 2, 1) := by decide +kernel
theorem dX5_ifTurn_8 : decode cX5_ifTurn 8 = .ok (.iconst 0, 1) := by decide +kernel
theorem dX5_ifTurn_9 : decode cX5_ifTurn 9 = .ok (.iconst 2, 1) := by decide +kernel
theorem dX5_ifTurn_10 : decode cX5_ifTurn 10 = .ok (.invokestatic 102, 3) := by decide +kernel
theorem dX5_ifTurn_13 : decode cX5_ifTurn 13 = .ok (.ifCond .ne 5, 3) := by decide +kernel
theorem dX5_ifTurn_16 : decode cX5_ifTurn 16 = .ok (.iconst (-1), 1) := by decide +kernel
theorem dX5_ifTurn_17 : decode cX5_ifTurn 17 = .ok (.ireturn, 1) := by decide +kernel
theorem dX5_ifTurn_18 : decode cX5_ifTurn 18 = .ok (.aload_n 0, 1) := by decide +kernel
theorem dX5_ifTurn_19 : decode cX5_ifTurn 19 = .ok (.getfield 12, 3) := by decide +kernel
theorem dX5_ifTurn_22 : decode cX5_ifTurn 22 = .ok (.invokevirtual 99, 3) := by decide +kernel
theorem dX5_ifTurn_25 : decode cX5_ifTurn 25 = .ok (.iconst 4, 1) := by decide +kernel
theorem dX5_ifTurn_26 : decode cX5_ifTurn 26 = .ok (.if_icmp .lt 6, 3) := by decide +kernel
theorem dX5_ifTurn_29 : decode cX5_ifTurn 29 = .ok (.bipush (-3), 2) := by decide +kernel
theorem dX5_ifTurn_31 : decode cX5_ifTurn 31 = .ok (.ireturn, 1) := by decide +kernel
theorem dX5_ifTurn_32 : decode cX5_ifTurn 32 = .ok (.aload_n 0, 1) := by decide +kernel
theorem dX5_ifTurn_33 : decode cX5_ifTurn 33 = .ok (.getfield 16, 3) := by decide +kernel
theorem dX5_ifTurn_36 : decode cX5_ifTurn 36 = .ok (.aload_n 0, 1) := by decide +kernel
theorem dX5_ifTurn_37 : decode cX5_ifTurn 37 = .ok (.getfield 12, 3) := by decide +kernel
theorem dX5_ifTurn_40 : decode cX5_ifTurn 40 = .ok (.invokevirtual 237, 3) := by decide +kernel
theorem dX5_ifTurn_43 : decode cX5_ifTurn 43 = .ok (.aload_n 0, 1) := by decide +kernel
theorem dX5_ifTurn_44 : decode cX5_ifTurn 44 = .ok (.getfield 16, 3) := by decide +kernel
theorem dX5_ifTurn_47 : decode cX5_ifTurn 47 = .ok (.iload_n 1, 1) := by decide +kernel
theorem dX5_ifTurn_48 : decode cX5_ifTurn 48 = .ok (.invokevirtual 96, 3) := by decide +kernel
theorem dX5_ifTurn_51 : decode cX5_ifTurn 51 = .ok (.aload_n 0, 1) := by decide +kernel
theorem dX5_ifTurn_52 : decode cX5_ifTurn 52 = .ok (.getfield 50, 3) := by decide +kernel
theorem dX5_ifTurn_55 : decode cX5_ifTurn 55 = .ok (.aload_n 0, 1) := by decide +kernel
theorem dX5_ifTurn_56 : decode cX5_ifTurn 56 = .ok (.getfield 16, 3) := by decide +kernel
theorem dX5_ifTurn_59 : decode cX5_ifTurn 59 = .ok (.invokevirtual 163, 3) := by decide +kernel
theorem dX5_ifTurn_62 : decode cX5_ifTurn 62 = .ok (.iload_n 2, 1) := by decide +kernel
theorem dX5_ifTurn_63 : decode cX5_ifTurn 63 = .ok (.lookupswitch 49 #[(0, 25), (1, 33)], 25) := by decide +kernel
theorem dX5_ifTurn_88 : decode cX5_ifTurn 88 = .ok (.aload_n 0, 1) := by decide +kernel
theorem dX5_ifTurn_89 : decode cX5_ifTurn 89 = .ok (.getfield 50, 3) := by decide +kernel
theorem dX5_ifTurn_92 : decode cX5_ifTurn 92 = .ok (.invokevirtual 231, 3) := by decide +kernel
theorem dX5_ifTurn_95 : decode cX5_ifTurn 95 = .ok (.ireturn, 1) := by decide +kernel
theorem dX5_ifTurn_96 : decode cX5_ifTurn 96 = .ok (.aload_n 0, 1) := by decide +kernel
theorem dX5_ifTurn_97 : decode cX5_ifTurn 97 = .ok (.getfield 50, 3) := by decide +kernel
theorem dX5_ifTurn_100 : decode cX5_ifTurn 100 = .ok (.invokevirtual 231, 3) := by decide +kernel
theorem dX5_ifTurn_103 : decode cX5_ifTurn 103 = .ok (.aload_n 0, 1) := by decide +kernel
theorem dX5_ifTurn_104 : decode cX5_ifTurn 104 = .ok (.getfield 50, 3) := by decide +kernel
theorem dX5_ifTurn_107 : decode cX5_ifTurn 107 = .ok (.invokevirtual 234, 3) := by decide +kernel
theorem dX5_ifTurn_110 : decode cX5_ifTurn 110 = .ok (.isub, 1) := by decide +kernel
theorem dX5_ifTurn_111 : decode cX5_ifTurn 111 = .ok (.ireturn, 1) := by decide +kernel
theorem dX5_ifTurn_112 : decode cX5_ifTurn 112 = .ok (.aload_n 0, 1) := by decide +kernel
theorem dX5_ifTurn_113 : decode cX5_ifTurn 113 = .ok (.getfield 50, 3) := by decide +kernel
theorem dX5_ifTurn_116 : decode cX5_ifTurn 116 = .ok (.invokevirtual 240, 3) := by decide +kernel
theorem dX5_ifTurn_119 : decode cX5_ifTurn 119 = .ok (.ireturn, 1) := by decide +kernel
theorem dX5_ifWall_0 : decode cX5_ifWall 0 = .ok (.iload_n 3, 1) := by decide +kernel
theorem dX5_ifWall_1 : decode cX5_ifWall 1 = .ok (.iconst 0, 1) := by decide +kernel
theorem dX5_ifWall_2 : decode cX5_ifWall 2 = .ok (.iconst 1, 1) := by decide +kernel
theorem dX5_ifWall_3 : decode cX5_ifWall 3 = .ok (.invokestatic 102, 3) := by decide +kernel
theorem dX5_ifWall_6 : decode cX5_ifWall 6 = .ok (.ifCond .ne 5, 3) := by decide +kernel
theorem dX5_ifWall_9 : decode cX5_ifWall 9 = .ok (.iconst (-1), 1) := by decide +kernel
theorem dX5_ifWall_10 : decode cX5_ifWall 10 = .ok (.ireturn, 1) := by decide +kernel
theorem dX5_ifWall_11 : decode cX5_ifWall 11 = .ok (.aload_n 0, 1) := by decide +kernel
theorem dX5_ifWall_12 : decode cX5_ifWall 12 = .ok (.iload_n 1, 1) := by decide +kernel
theorem dX5_ifWall_13 : decode cX5_ifWall 13 = .ok (.iload_n 2, 1) := by decide +kernel
theorem dX5_ifWall_14 : decode cX5_ifWall 14 = .ok (.iconst 0, 1) := by decide +kernel
theorem dX5_ifWall_15 : decode cX5_ifWall 15 = .ok (.iconst 1, 1) := by decide +kernel
theorem dX5_ifWall_16 : decode cX5_ifWall 16 = .ok (.invokevirtual 62, 3) := by decide +kernel
theorem dX5_ifWall_19 : decode cX5_ifWall 19 = .ok (.istore 4, 2) := by decide +kernel
theorem dX5_ifWall_21 : decode cX5_ifWall 21 = .ok (.iload 4, 2) := by decide +kernel
theorem dX5_ifWall_23 : decode cX5_ifWall 23 = .ok (.ifCond .eq 6, 3) := by decide +kernel
theorem dX5_ifWall_26 : decode cX5_ifWall 26 = .ok (.iload 4, 2) := by decide +kernel
theorem dX5_ifWall_28 : decode cX5_ifWall 28 = .ok (.ireturn, 1) := by decide +kernel
theorem dX5_ifWall_29 : decode cX5_ifWall 29 = .ok (.aload_n 0, 1) := by decide +kernel
theorem dX5_ifWall_30 : decode cX5_ifWall 30 = .ok (.getfield 16, 3) := by decide +kernel
theorem dX5_ifWall_33 : decode cX5_ifWall 33 = .ok (.aload_n 0, 1) := by decide +kernel
theorem dX5_ifWall_34 : decode cX5_ifWall 34 = .ok (.getfield 12, 3) := by decide +kernel
theorem dX5_ifWall_37 : decode cX5_ifWall 37 = .ok (.invokevirtual 237, 3) := by decide +kernel
theorem dX5_ifWall_40 : decode cX5_ifWall 40 = .ok (.aload_n 0, 1) := by decide +kernel
theorem dX5_ifWall_41 : decode cX5_ifWall 41 = .ok (.getfield 16, 3) := by decide +kernel
theorem dX5_ifWall_44 : decode cX5_ifWall 44 = .ok (.iload_n 1, 1) := by decide +kernel
theorem dX5_ifWall_45 : decode cX5_ifWall 45 = .ok (.iload_n 2, 1) := by decide +kernel
theorem dX5_ifWall_46 : decode cX5_ifWall 46 = .ok (.iconst 0, 1) := by decide +kernel
theorem dX5_ifWall_47 : decode cX5_ifWall 47 = .ok (.iconst 1, 1) := by decide +kernel
theorem dX5_ifWall_48 : decode cX5_ifWall 48 = .ok (.invokevirtual 69, 3) := by decide +kernel
theorem dX5_ifWall_51 : decode cX5_ifWall 51 = .ok (.pop, 1) := by decide +kernel
theorem dX5_ifWall_52 : decode cX5_ifWall 52 = .ok (.aload_n 0, 1) := by decide +kernel
theorem dX5_ifWall_53 : decode cX5_ifWall 53 = .ok (.getfield 50, 3) := by decide +kernel
theorem dX5_ifWall_56 : decode cX5_ifWall 56 = .ok (.aload_n 0, 1) := by decide +kernel
theorem dX5_ifWall_57 : decode cX5_ifWall 57 = .ok (.getfield 16, 3) := by decide +kernel
theorem dX5_ifWall_60 : decode cX5_ifWall 60 = .ok (.invokevirtual 163, 3) := by decide +kernel
theorem dX5_ifWall_63 : decode cX5_ifWall 63 = .ok (.iload_n 3, 1) := by decide +kernel
theorem dX5_ifWall_64 : decode cX5_ifWall 64 = .ok (.ifCond .ne 13, 3) := by decide +kernel
theorem dX5_ifWall_67 : decode cX5_ifWall 67 = .ok (.aload_n 0, 1) := by decide +kernel
theorem dX5_ifWall_68 : decode cX5_ifWall 68 = .ok (.getfield 50, 3) := by decide +kernel
theorem dX5_ifWall_71 : decode cX5_ifWall 71 = .ok (.invokevirtual 166, 3) := by decide +kernel
theorem dX5_ifWall_74 : decode cX5_ifWall 74 = .ok (.goto 10, 3) := by decide +kernel
theorem dX5_ifWall_77 : decode cX5_ifWall 77 = .ok (.aload_n 0, 1) := by decide +kernel
theorem dX5_ifWall_78 : decode cX5_ifWall 78 = .ok (.getfield 50, 3) := by decide +kernel
theorem dX5_ifWall_81 : decode cX5_ifWall 81 = .ok (.invokevirtual 231, 3) := by decide +kernel
theorem dX5_ifWall_84 : decode cX5_ifWall 84 = .ok (.ireturn, 1) := by decide +kernel
theorem dX5_remember_0 : decode cX5_remember 0 = .ok (.aload_n 0, 1) := by decide +kernel
theorem dX5_remember_1 : decode cX5_remember 1 = .ok (.getfield 58, 3) := by decide +kernel
theorem dX5_remember_4 : decode cX5_remember 4 = .ok (.iconst 4, 1) := by decide +kernel
theorem dX5_remember_5 : decode cX5_remember 5 = .ok (.if_icmp .lt 7, 3) := by decide +kernel
theorem dX5_remember_8 : decode cX5_remember 8 = .ok (.aload_n 0, 1) := by decide +kernel
theorem dX5_remember_9 : decode cX5_remember 9 = .ok (.invokevirtual 246, 3) := by decide +kernel
theorem dX5_remember_12 : decode cX5_remember 12 = .ok (.aload_n 0, 1) := by decide +kernel
theorem dX5_remember_13 : decode cX5_remember 13 = .ok (.getfield 58, 3) := by decide +kernel
theorem dX5_remember_16 : decode cX5_remember 16 = .ok (.ifCond .lt 41, 3) := by decide +kernel
theorem dX5_remember_19 : decode cX5_remember 19 = .ok (.aload_n 0, 1) := by decide +kernel
theorem dX5_remember_20 : decode cX5_remember 20 = .ok (.getfield 58, 3) := by decide +kernel
theorem dX5_remember_23 : decode cX5_remember 23 = .ok (.aload_n 0, 1) := by decide +kernel
theorem dX5_remember_24 : decode cX5_remember 24 = .ok (.getfield 22, 3) := by decide +kernel
theorem dX5_remember_27 : decode cX5_remember 27 = .ok (.arraylength, 1) := by decide +kernel
theorem dX5_remember_28 : decode cX5_remember 28 = .ok (.if_icmp .ge 29, 3) := by decide +kernel
theorem dX5_remember_31 : decode cX5_remember 31 = .ok (.aload_n 0, 1) := by decide +kernel
theorem dX5_remember_32 : decode cX5_remember 32 = .ok (.getfield 22, 3) := by decide +kernel
theorem dX5_remember_35 : decode cX5_remember 35 = .ok (.aload_n 0, 1) := by decide +kernel
theorem dX5_remember_36 : decode cX5_remember 36 = .ok (.getfield 58, 3) := by decide +kernel
theorem dX5_remember_39 : decode cX5_remember 39 = .ok (.aaload, 1) := by decide +kernel
theorem dX5_remember_40 : decode cX5_remember 40 = .ok (.aload_n 0, 1) := by decide +kernel
theorem dX5_remember_41 : decode cX5_remember 41 = .ok (.getfield 12, 3) := by decide +kernel
theorem dX5_remember_44 : decode cX5_remember 44 = .ok (.invokevirtual 237, 3) := by decide +kernel
theorem dX5_remember_47 : decode cX5_remember 47 = .ok (.aload_n 0, 1) := by decide +kernel
theorem dX5_remember_48 : decode cX5_remember 48 = .ok (.dup, 1) := by decide +kernel
theorem dX5_remember_49 : decode cX5_remember 49 = .ok (.getfield 58, 3) := by decide +kernel
theorem dX5_remember_52 : decode cX5_remember 52 = .ok (.iconst 1, 1) := by decide +kernel
theorem dX5_remember_53 : decode cX5_remember 53 = .ok (.iadd, 1) := by decide +kernel
theorem dX5_remember_54 : decode cX5_remember 54 = .ok (.putfield 58, 3) := by decide +kernel
theorem dX5_remember_57 : decode cX5_remember 57 = .ok (.return_, 1) := by decide +kernel
theorem dX5_forgetOldest_0 : decode cX5_forgetOldest 0 = .ok (.iconst 1, 1) := by decide +kernel
theorem dX5_forgetOldest_1 : decode cX5_forgetOldest 1 = .ok (.istore_n 1, 1) := by decide +kernel
theorem dX5_forgetOldest_2 : decode cX5_forgetOldest 2 = .ok (.iload_n 1, 1) := by decide +kernel
theorem dX5_forgetOldest_3 : decode cX5_forgetOldest 3 = .ok (.aload_n 0, 1) := by decide +kernel
theorem dX5_forgetOldest_4 : decode cX5_forgetOldest 4 = .ok (.getfield 22, 3) := by decide +kernel
theorem dX5_forgetOldest_7 : decode cX5_forgetOldest 7 = .ok (.arraylength, 1) := by decide +kernel
theorem dX5_forgetOldest_8 : decode cX5_forgetOldest 8 = .ok (.if_icmp .ge 39, 3) := by decide +kernel
theorem dX5_forgetOldest_11 : decode cX5_forgetOldest 11 = .ok (.aload_n 0, 1) := by decide +kernel
theorem dX5_forgetOldest_12 : decode cX5_forgetOldest 12 = .ok (.getfield 22, 3) := by decide +kernel
theorem dX5_forgetOldest_15 : decode cX5_forgetOldest 15 = .ok (.iload_n 1, 1) := by decide +kernel
theorem dX5_forgetOldest_16 : decode cX5_forgetOldest 16 = .ok (.iconst 1, 1) := by decide +kernel
theorem dX5_forgetOldest_17 : decode cX5_forgetOldest 17 = .ok (.isub, 1) := by decide +kernel
theorem dX5_forgetOldest_18 : decode cX5_forgetOldest 18 = .ok (.aaload, 1) := by decide +kernel
theorem dX5_forgetOldest_19 : decode cX5_forgetOldest 19 = .ok (.astore_n 2, 1) := by decide +kernel
theorem dX5_forgetOldest_20 : decode cX5_forgetOldest 20 = .ok (.aload_n 0, 1) := by decide +kernel
theorem dX5_forgetOldest_21 : decode cX5_forgetOldest 21 = .ok (.getfield 22, 3) := by decide +kernel
theorem dX5_forgetOldest_24 : decode cX5_forgetOldest 24 = .ok (.iload_n 1, 1) := by decide +kernel
theorem dX5_forgetOldest_25 : decode cX5_forgetOldest 25 = .ok (.iconst 1, 1) := by decide +kernel
theorem dX5_forgetOldest_26 : decode cX5_forgetOldest 26 = .ok (.isub, 1) := by decide +kernel
theorem dX5_forgetOldest_27 : decode cX5_forgetOldest 27 = .ok (.aload_n 0, 1) := by decide +kernel
theorem dX5_forgetOldest_28 : decode cX5_forgetOldest 28 = .ok (.getfield 22, 3) := by decide +kernel
theorem dX5_forgetOldest_31 : decode cX5_forgetOldest 31 = .ok (.iload_n 1, 1) := by decide +kernel
theorem dX5_forgetOldest_32 : decode cX5_forgetOldest 32 = .ok (.aaload, 1) := by decide +kernel
theorem dX5_forgetOldest_33 : decode cX5_forgetOldest 33 = .ok (.aastore, 1) := by decide +kernel
theorem dX5_forgetOldest_34 : decode cX5_forgetOldest 34 = .ok (.aload_n 0, 1) := by decide +kernel
theorem dX5_forgetOldest_35 : decode cX5_forgetOldest 35 = .ok (.getfield 22, 3) := by decide +kernel
theorem dX5_forgetOldest_38 : decode cX5_forgetOldest 38 = .ok (.iload_n 1, 1) := by decide +kernel
theorem dX5_forgetOldest_39 : decode cX5_forgetOldest 39 = .ok (.aload_n 2, 1) := by decide +kernel
theorem dX5_forgetOldest_40 : decode cX5_forgetOldest 40 = .ok (.aastore, 1) := by decide +kernel
theorem dX5_forgetOldest_41 : decode cX5_forgetOldest 41 = .ok (.iinc 1 1, 3) := by decide +kernel
theorem dX5_forgetOldest_44 : decode cX5_forgetOldest 44 = .ok (.goto (-42), 3) := by decide +kernel
theorem dX5_forgetOldest_47 : decode cX5_forgetOldest 47 = .ok (.aload_n 0, 1) := by decide +kernel
theorem dX5_forgetOldest_48 : decode cX5_forgetOldest 48 = .ok (.iconst 3, 1) := by decide +kernel
theorem dX5_forgetOldest_49 : decode cX5_forgetOldest 49 = .ok (.putfield 58, 3) := by decide +kernel
theorem dX5_forgetOldest_52 : decode cX5_forgetOldest 52 = .ok (.return_, 1) := by decide +kernel
theorem dX5_comingError_0 : decode cX5_comingError 0 = .ok (.iload_n 1, 1) := by decide +kernel
theorem dX5_comingError_1 : decode cX5_comingError 1 = .ok (.iconst 1, 1) := by decide +kernel
theorem dX5_comingError_2 : decode cX5_comingError 2 = .ok (.sipush 300, 3) := by decide +kernel
theorem dX5_comingError_5 : decode cX5_comingError 5 = .ok (.invokestatic 102, 3) := by decide +kernel
theorem dX5_comingError_8 : decode cX5_comingError 8 = .ok (.ifCond .eq 32, 3) := by decide +kernel
theorem dX5_comingError_11 : decode cX5_comingError 11 = .ok (.iload_n 2, 1) := by decide +kernel
theorem dX5_comingError_12 : decode cX5_comingError 12 = .ok (.iconst 1, 1) := by decide +kernel
theorem dX5_comingError_13 : decode cX5_comingError 13 = .ok (.bipush 99, 2) := by decide +kernel
theorem dX5_comingError_15 : decode cX5_comingError 15 = .ok (.invokestatic 102, 3) := by decide +kernel
theorem dX5_comingError_18 : decode cX5_comingError 18 = .ok (.ifCond .eq 22, 3) := by decide +kernel
theorem dX5_comingError_21 : decode cX5_comingError 21 = .ok (.iload_n 3, 1) := by decide +kernel
theorem dX5_comingError_22 : decode cX5_comingError 22 = .ok (.bipush (-5), 2) := by decide +kernel
theorem dX5_comingError_24 : decode cX5_comingError 24 = .ok (.iconst 5, 1) := by decide +kernel
theorem dX5_comingError_25 : decode cX5_comingError 25 = .ok (.invokestatic 102, 3) := by decide +kernel
theorem dX5_comingError_28 : decode cX5_comingError 28 = .ok (.ifCond .eq 12, 3) := by decide +kernel
theorem dX5_comingError_31 : decode cX5_comingError 31 = .ok (.iload 4, 2) := by decide +kernel
theorem dX5_comingError_33 : decode cX5_comingError 33 = .ok (.ifCond .eq 9, 3) := by decide +kernel
theorem dX5_comingError_36 : decode cX5_comingError 36 = .ok (.iload_n 3, 1) := by decide +kernel
theorem dX5_comingError_37 : decode cX5_comingError 37 = .ok (.ifCond .eq 5, 3) := by decide +kernel
theorem dX5_comingError_40 : decode cX5_comingError 40 = .ok (.iconst (-1), 1) := by decide +kernel
theorem dX5_comingError_41 : decode cX5_comingError 41 = .ok (.ireturn, 1) := by decide +kernel
theorem dX5_comingError_42 : decode cX5_comingError 42 = .ok (.aload_n 0, 1) := by decide +kernel
theorem dX5_comingError_43 : decode cX5_comingError 43 = .ok (.getfield 12, 3) := by decide +kernel
theorem dX5_comingError_46 : decode cX5_comingError 46 = .ok (.iload_n 1, 1) := by decide +kernel
theorem dX5_comingError_47 : decode cX5_comingError 47 = .ok (.iload_n 3, 1) := by decide +kernel
theorem dX5_comingError_48 : decode cX5_comingError 48 = .ok (.invokevirtual 249, 3) := by decide +kernel
theorem dX5_comingError_51 : decode cX5_comingError 51 = .ok (.ifCond .eq 6, 3) := by decide +kernel
theorem dX5_comingError_54 : decode cX5_comingError 54 = .ok (.bipush (-2), 2) := by decide +kernel
theorem dX5_comingError_56 : decode cX5_comingError 56 = .ok (.ireturn, 1) := by decide +kernel
theorem dX5_comingError_57 : decode cX5_comingError 57 = .ok (.aload_n 0, 1) := by decide +kernel
theorem dX5_comingError_58 : decode cX5_comingError 58 = .ok (.getfield 12, 3) := by decide +kernel
theorem dX5_comingError_61 : decode cX5_comingError 61 = .ok (.invokevirtual 80, 3) := by decide +kernel
theorem dX5_comingError_64 : decode cX5_comingError 64 = .ok (.bipush 6, 2) := by decide +kernel
theorem dX5_comingError_66 : decode cX5_comingError 66 = .ok (.if_icmp .lt 8, 3) := by decide +kernel
theorem dX5_comingError_69 : decode cX5_comingError 69 = .ok (.bipush (-3), 2) := by decide +kernel
theorem dX5_comingError_71 : decode cX5_comingError 71 = .ok (.goto 4, 3) := by decide +kernel
theorem dX5_comingError_74 : decode cX5_comingError 74 = .ok (.iconst 0, 1) := by decide +kernel
theorem dX5_comingError_75 : decode cX5_comingError 75 = .ok (.ireturn, 1) := by decide +kernel
theorem dX5_heardOf_0 : decode cX5_heardOf 0 = .ok (.aload_n 0, 1) := by decide +kernel
theorem dX5_heardOf_1 : decode cX5_heardOf 1 = .ok (.getfield 50, 3) := by decide +kernel
theorem dX5_heardOf_4 : decode cX5_heardOf 4 = .ok (.aload_n 0, 1) := by decide +kernel
theorem dX5_heardOf_5 : decode cX5_heardOf 5 = .ok (.getfield 12, 3) := by decide +kernel
theorem dX5_heardOf_8 : decode cX5_heardOf 8 = .ok (.invokevirtual 163, 3) := by decide +kernel
theorem dX5_heardOf_11 : decode cX5_heardOf 11 = .ok (.iload_n 2, 1) := by decide +kernel
theorem dX5_heardOf_12 : decode cX5_heardOf 12 = .ok (.lookupswitch 49 #[(4, 28), (5, 40)], 28) := by decide +kernel
theorem dX5_heardOf_40 : decode cX5_heardOf 40 = .ok (.aload_n 0, 1) := by decide +kernel
theorem dX5_heardOf_41 : decode cX5_heardOf 41 = .ok (.getfield 50, 3) := by decide +kernel
theorem dX5_heardOf_44 : decode cX5_heardOf 44 = .ok (.iload_n 1, 1) := by decide +kernel
theorem dX5_heardOf_45 : decode cX5_heardOf 45 = .ok (.invokevirtual 177, 3) := by decide +kernel
theorem dX5_heardOf_48 : decode cX5_heardOf 48 = .ok (.invokestatic 155, 3) := by decide +kernel
theorem dX5_heardOf_51 : decode cX5_heardOf 51 = .ok (.ireturn, 1) := by decide +kernel
theorem dX5_heardOf_52 : decode cX5_heardOf 52 = .ok (.aload_n 0, 1) := by decide +kernel
theorem dX5_heardOf_53 : decode cX5_heardOf 53 = .ok (.getfield 50, 3) := by decide +kernel
theorem dX5_heardOf_56 : decode cX5_heardOf 56 = .ok (.iload_n 1, 1) := by decide +kernel
theorem dX5_heardOf_57 : decode cX5_heardOf 57 = .ok (.invokevirtual 252, 3) := by decide +kernel
theorem dX5_heardOf_60 : decode cX5_heardOf 60 = .ok (.ireturn, 1) := by decide +kernel
theorem dX5_heardOf_61 : decode cX5_heardOf 61 = .ok (.aload_n 0, 1) := by decide +kernel
theorem dX5_heardOf_62 : decode cX5_heardOf 62 = .ok (.getfield 50, 3) := by decide +kernel
theorem dX5_heardOf_65 : decode cX5_heardOf 65 = .ok (.iload_n 1, 1) := by decide +kernel
theorem dX5_heardOf_66 : decode cX5_heardOf 66 = .ok (.invokevirtual 255, 3) := by decide +kernel
theorem dX5_heardOf_69 : decode cX5_heardOf 69 = .ok (.ireturn, 1) := by decide +kernel
theorem dX5_countHeard_0 : decode cX5_countHeard 0 = .ok (.aload_n 0, 1) := by decide +kernel
theorem dX5_countHeard_1 : decode cX5_countHeard 1 = .ok (.getfield 50, 3) := by decide +kernel
theorem dX5_countHeard_4 : decode cX5_countHeard 4 = .ok (.aload_n 0, 1) := by decide +kernel
theorem dX5_countHeard_5 : decode cX5_countHeard 5 = .ok (.getfield 12, 3) := by decide +kernel
theorem dX5_countHeard_8 : decode cX5_countHeard 8 = .ok (.invokevirtual 163, 3) := by decide +kernel
theorem dX5_countHeard_11 : decode cX5_countHeard 11 = .ok (.iload_n 1, 1) := by decide +kernel
theorem dX5_countHeard_12 : decode cX5_countHeard 12 = .ok (.tableswitch 116 2 12 #[60, 116, 116, 116, 116, 116, 68, 76, 84, 92, 100], 60) := by decide +kernel
theorem dX5_countHeard_72 : decode cX5_countHeard 72 = .ok (.aload_n 0, 1) := by decide +kernel
theorem dX5_countHeard_73 : decode cX5_countHeard 73 = .ok (.getfield 50, 3) := by decide +kernel
theorem dX5_countHeard_76 : decode cX5_countHeard 76 = .ok (.invokevirtual 166, 3) := by decide +kernel
theorem dX5_countHeard_79 : decode cX5_countHeard 79 = .ok (.ireturn, 1) := by decide +kernel
theorem dX5_countHeard_80 : decode cX5_countHeard 80 = .ok (.aload_n 0, 1) := by decide +kernel
theorem dX5_countHeard_81 : decode cX5_countHeard 81 = .ok (.getfield 50, 3) := by decide +kernel
theorem dX5_countHeard_84 : decode cX5_countHeard 84 = .ok (.invokevirtual 258, 3) := by decide +kernel
theorem dX5_countHeard_87 : decode cX5_countHeard 87 = .ok (.ireturn, 1) := by decide +kernel
theorem dX5_countHeard_88 : decode cX5_countHeard 88 = .ok (.aload_n 0, 1) := by decide +kernel
theorem dX5_countHeard_89 : decode cX5_countHeard 89 = .ok (.getfield 50, 3) := by decide +kernel
theorem dX5_countHeard_92 : decode cX5_countHeard 92 = .ok (.invokevirtual 261, 3) := by decide +kernel
theorem dX5_countHeard_95 : decode cX5_countHeard 95 = .ok (.ireturn, 1) := by decide +kernel
theorem dX5_countHeard_96 : decode cX5_countHeard 96 = .ok (.aload_n 0, 1) := by decide +kernel
theorem dX5_countHeard_97 : decode cX5_countHeard 97 = .ok (.getfield 50, 3) := by decide +kernel
theorem dX5_countHeard_100 : decode cX5_countHeard 100 = .ok (.invokevirtual 264, 3) := by decide +kernel
theorem dX5_countHeard_103 : decode cX5_countHeard 103 = .ok (.ireturn, 1) := by decide +kernel
theorem dX5_countHeard_104 : decode cX5_countHeard 104 = .ok (.aload_n 0, 1) := by decide +kernel
theorem dX5_countHeard_105 : decode cX5_countHeard 105 = .ok (.getfield 50, 3) := by decide +kernel
theorem dX5_countHeard_108 : decode cX5_countHeard 108 = .ok (.invokevirtual 231, 3) := by decide +kernel
theorem dX5_countHeard_111 : decode cX5_countHeard 111 = .ok (.ireturn, 1) := by decide +kernel
theorem dX5_countHeard_112 : decode cX5_countHeard 112 = .ok (.aload_n 0, 1) := by decide +kernel
theorem dX5_countHeard_113 : decode cX5_countHeard 113 = .ok (.getfield 50, 3) := by decide +kernel
theorem dX5_countHeard_116 : decode cX5_countHeard 116 = .ok (.invokevirtual 231, 3) := by decide +kernel
theorem dX5_countHeard_119 : decode cX5_countHeard 119 = .ok (.aload_n 0, 1) := by decide +kernel
theorem dX5_countHeard_120 : decode cX5_countHeard 120 = .ok (.getfield 50, 3) := by decide +kernel
theorem dX5_countHeard_123 : decode cX5_countHeard 123 = .ok (.invokevirtual 234, 3) := by decide +kernel
theorem dX5_countHeard_126 : decode cX5_countHeard 126 = .ok (.isub, 1) := by decide +kernel
theorem dX5_countHeard_127 : decode cX5_countHeard 127 = .ok (.ireturn, 1) := by decide +kernel
theorem dX5_countHeard_128 : decode cX5_countHeard 128 = .ok (.aload_n 0, 1) := by decide +kernel
theorem dX5_countHeard_129 : decode cX5_countHeard 129 = .ok (.getfield 50, 3) := by decide +kernel
theorem dX5_countHeard_132 : decode cX5_countHeard 132 = .ok (.invokevirtual 240, 3) := by decide +kernel
theorem dX5_countHeard_135 : decode cX5_countHeard 135 = .ok (.ireturn, 1) := by decide +kernel
theorem dX5_isWithin_0 : decode cX5_isWithin 0 = .ok (.iload_n 0, 1) := by decide +kernel
theorem dX5_isWithin_1 : decode cX5_isWithin 1 = .ok (.iload_n 1, 1) := by decide +kernel
theorem dX5_isWithin_2 : decode cX5_isWithin 2 = .ok (.if_icmp .lt 12, 3) := by decide +kernel
theorem dX5_isWithin_5 : decode cX5_isWithin 5 = .ok (.iload_n 0, 1) := by decide +kernel
theorem dX5_isWithin_6 : decode cX5_isWithin 6 = .ok (.iload_n 2, 1) := by decide +kernel
theorem dX5_isWithin_7 : decode cX5_isWithin 7 = .ok (.if_icmp .gt 7, 3) := by decide +kernel
theorem dX5_isWithin_10 : decode cX5_isWithin 10 = .ok (.iconst 1, 1) := by decide +kernel
theorem dX5_isWithin_11 : decode cX5_isWithin 11 = .ok (.goto 4, 3) := by decide +kernel
theorem dX5_isWithin_14 : decode cX5_isWithin 14 = .ok (.iconst 0, 1) := by decide +kernel
theorem dX5_isWithin_15 : decode cX5_isWithin 15 = .ok (.ireturn, 1) := by decide +kernel
theorem dX5_isSpacing_0 : decode cX5_isSpacing 0 = .ok (.iload_n 0, 1) := by decide +kernel
theorem dX5_isSpacing_1 : decode cX5_isSpacing 1 = .ok (.bipush 10, 2) := by decide +kernel
theorem dX5_isSpacing_3 : decode cX5_isSpacing 3 = .ok (.bipush 50, 2) := by decide +kernel
theorem dX5_isSpacing_5 : decode cX5_isSpacing 5 = .ok (.invokestatic 102, 3) := by decide +kernel
theorem dX5_isSpacing_8 : decode cX5_isSpacing 8 = .ok (.ireturn, 1) := by decide +kernel
theorem dX5_isSpacingOrNone_0 : decode cX5_isSpacingOrNone 0 = .ok (.iload_n 0, 1) := by decide +kernel
theorem dX5_isSpacingOrNone_1 : decode cX5_isSpacingOrNone 1 = .ok (.ifCond .eq 10, 3) := by decide +kernel
theorem dX5_isSpacingOrNone_4 : decode cX5_isSpacingOrNone 4 = .ok (.iload_n 0, 1) := by decide +kernel
theorem dX5_isSpacingOrNone_5 : decode cX5_isSpacingOrNone 5 = .ok (.invokestatic 87, 3) := by decide +kernel
theorem dX5_isSpacingOrNone_8 : decode cX5_isSpacingOrNone 8 = .ok (.ifCond .eq 7, 3) := by decide +kernel
theorem dX5_isSpacingOrNone_11 : decode cX5_isSpacingOrNone 11 = .ok (.iconst 1, 1) := by decide +kernel
theorem dX5_isSpacingOrNone_12 : decode cX5_isSpacingOrNone 12 = .ok (.goto 4, 3) := by decide +kernel
theorem dX5_isSpacingOrNone_15 : decode cX5_isSpacingOrNone 15 = .ok (.iconst 0, 1) := by decide +kernel
theorem dX5_isSpacingOrNone_16 : decode cX5_isSpacingOrNone 16 = .ok (.ireturn, 1) := by decide +kernel
theorem dX5_asNumber_0 : decode cX5_asNumber 0 = .ok (.iload_n 0, 1) := by decide +kernel
theorem dX5_asNumber_1 : decode cX5_asNumber 1 = .ok (.ifCond .eq 7, 3) := by decide +kernel
theorem dX5_asNumber_4 : decode cX5_asNumber 4 = .ok (.iconst 1, 1) := by decide +kernel
theorem dX5_asNumber_5 : decode cX5_asNumber 5 = .ok (.goto 4, 3) := by decide +kernel
theorem dX5_asNumber_8 : decode cX5_asNumber 8 = .ok (.iconst 0, 1) := by decide +kernel
theorem dX5_asNumber_9 : decode cX5_asNumber 9 = .ok (.ireturn, 1) := by decide +kernel
theorem dX5_remainder_0 : decode cX5_remainder 0 = .ok (.iload_n 1, 1) := by decide +kernel
theorem dX5_remainder_1 : decode cX5_remainder 1 = .ok (.ifCond .le 9, 3) := by decide +kernel
theorem dX5_remainder_4 : decode cX5_remainder 4 = .ok (.iload_n 0, 1) := by decide +kernel
theorem dX5_remainder_5 : decode cX5_remainder 5 = .ok (.iload_n 1, 1) := by decide +kernel
theorem dX5_remainder_6 : decode cX5_remainder 6 = .ok (.irem, 1) := by decide +kernel
theorem dX5_remainder_7 : decode cX5_remainder 7 = .ok (.goto 4, 3) := by decide +kernel
theorem dX5_remainder_10 : decode cX5_remainder 10 = .ok (.iconst 0, 1) := by decide +kernel
theorem dX5_remainder_11 : decode cX5_remainder 11 = .ok (.ireturn, 1) := by decide +kernel
theorem dX5_firstCommonMultiple_0 : decode cX5_firstCommonMultiple 0 = .ok (.iload_n 0, 1) := by decide +kernel
theorem dX5_firstCommonMultiple_1 : decode cX5_firstCommonMultiple 1 = .ok (.istore_n 2, 1) := by decide +kernel
theorem dX5_firstCommonMultiple_2 : decode cX5_firstCommonMultiple 2 = .ok (.iconst 1, 1) := by decide +kernel
theorem dX5_firstCommonMultiple_3 : decode cX5_firstCommonMultiple 3 = .ok (.istore_n 3, 1) := by decide +kernel
theorem dX5_firstCommonMultiple_4 : decode cX5_firstCommonMultiple 4 = .ok (.iload_n 3, 1) := by decide +kernel
theorem dX5_firstCommonMultiple_5 : decode cX5_firstCommonMultiple 5 = .ok (.iload_n 1, 1) := by decide +kernel
theorem dX5_firstCommonMultiple_6 : decode cX5_firstCommonMultiple 6 = .ok (.if_icmp .ge 21, 3) := by decide +kernel
theorem dX5_firstCommonMultiple_9 : decode cX5_firstCommonMultiple 9 = .ok (.iload_n 2, 1) := by decide +kernel
theorem dX5_firstCommonMultiple_10 : decode cX5_firstCommonMultiple 10 = .ok (.iload_n 1, 1) := by decide +kernel
theorem dX5_firstCommonMultiple_11 : decode cX5_firstCommonMultiple 11 = .ok (.invokestatic 267, 3) := by decide +kernel
theorem dX5_firstCommonMultiple_14 : decode cX5_firstCommonMultiple 14 = .ok (.ifCond .eq 13, 3) := by decide +kernel
theorem dX5_firstCommonMultiple_17 : decode cX5_firstCommonMultiple 17 = .ok (.iload_n 2, 1) := by decide +kernel
theorem dX5_firstCommonMultiple_18 : decode cX5_firstCommonMultiple 18 = .ok (.iload_n 0, 1) := by decide +kernel
theorem dX5_firstCommonMultiple_19 : decode cX5_firstCommonMultiple 19 = .ok (.iadd, 1) := by decide +kernel
theorem dX5_firstCommonMultiple_20 : decode cX5_firstCommonMultiple 20 = .ok (.istore_n 2, 1) := by decide +kernel
theorem dX5_firstCommonMultiple_21 : decode cX5_firstCommonMultiple 21 = .ok (.iinc 3 1, 3) := by decide +kernel
theorem dX5_firstCommonMultiple_24 : decode cX5_firstCommonMultiple 24 = .ok (.goto (-20), 3) := by decide +kernel
theorem dX5_firstCommonMultiple_27 : decode cX5_firstCommonMultiple 27 = .ok (.iload_n 2, 1) := by decide +kernel
theorem dX5_firstCommonMultiple_28 : decode cX5_firstCommonMultiple 28 = .ok (.ireturn, 1) := by decide +kernel
theorem dX5_commonMultiple_0 : decode cX5_commonMultiple 0 = .ok (.iload_n 0, 1) := by decide +kernel
theorem dX5_commonMultiple_1 : decode cX5_commonMultiple 1 = .ok (.iload_n 1, 1) := by decide +kernel
theorem dX5_commonMultiple_2 : decode cX5_commonMultiple 2 = .ok (.invokestatic 270, 3) := by decide +kernel
theorem dX5_commonMultiple_5 : decode cX5_commonMultiple 5 = .ok (.istore_n 2, 1) := by decide +kernel
theorem dX5_commonMultiple_6 : decode cX5_commonMultiple 6 = .ok (.iload_n 2, 1) := by decide +kernel
theorem dX5_commonMultiple_7 : decode cX5_commonMultiple 7 = .ok (.ifCond .le 11, 3) := by decide +kernel
theorem dX5_commonMultiple_10 : decode cX5_commonMultiple 10 = .ok (.iload_n 0, 1) := by decide +kernel
theorem dX5_commonMultiple_11 : decode cX5_commonMultiple 11 = .ok (.iload_n 2, 1) := by decide +kernel
theorem dX5_commonMultiple_12 : decode cX5_commonMultiple 12 = .ok (.idiv, 1) := by decide +kernel
theorem dX5_commonMultiple_13 : decode cX5_commonMultiple 13 = .ok (.iload_n 1, 1) := by decide +kernel
theorem dX5_commonMultiple_14 : decode cX5_commonMultiple 14 = .ok (.imul, 1) := by decide +kernel
theorem dX5_commonMultiple_15 : decode cX5_commonMultiple 15 = .ok (.goto 4, 3) := by decide +kernel
theorem dX5_commonMultiple_18 : decode cX5_commonMultiple 18 = .ok (.iconst 0, 1) := by decide +kernel
theorem dX5_commonMultiple_19 : decode cX5_commonMultiple 19 = .ok (.ireturn, 1) := by decide +kernel
theorem dX5_commonDivisor_0 : decode cX5_commonDivisor 0 = .ok (.iload_n 0, 1) := by decide +kernel
theorem dX5_commonDivisor_1 : decode cX5_commonDivisor 1 = .ok (.istore_n 2, 1) := by decide +kernel
theorem dX5_commonDivisor_2 : decode cX5_commonDivisor 2 = .ok (.iload_n 1, 1) := by decide +kernel
theorem dX5_commonDivisor_3 : decode cX5_commonDivisor 3 = .ok (.istore_n 3, 1) := by decide +kernel
theorem dX5_commonDivisor_4 : decode cX5_commonDivisor 4 = .ok (.iconst 0, 1) := by decide +kernel
theorem dX5_commonDivisor_5 : decode cX5_commonDivisor 5 = .ok (.istore 4, 2) := by decide +kernel
theorem dX5_commonDivisor_7 : decode cX5_commonDivisor 7 = .ok (.iload 4, 2) := by decide +kernel
theorem dX5_commonDivisor_9 : decode cX5_commonDivisor 9 = .ok (.bipush 50, 2) := by decide +kernel
theorem dX5_commonDivisor_11 : decode cX5_commonDivisor 11 = .ok (.if_icmp .gt 25, 3) := by decide +kernel
theorem dX5_commonDivisor_14 : decode cX5_commonDivisor 14 = .ok (.iload_n 3, 1) := by decide +kernel
theorem dX5_commonDivisor_15 : decode cX5_commonDivisor 15 = .ok (.ifCond .le 21, 3) := by decide +kernel
theorem dX5_commonDivisor_18 : decode cX5_commonDivisor 18 = .ok (.iload_n 2, 1) := by decide +kernel
theorem dX5_commonDivisor_19 : decode cX5_commonDivisor 19 = .ok (.iload_n 3, 1) := by decide +kernel
theorem dX5_commonDivisor_20 : decode cX5_commonDivisor 20 = .ok (.invokestatic 267, 3) := by decide +kernel
theorem dX5_commonDivisor_23 : decode cX5_commonDivisor 23 = .ok (.istore 5, 2) := by decide +kernel
theorem dX5_commonDivisor_25 : decode cX5_commonDivisor 25 = .ok (.iload_n 3, 1) := by decide +kernel
theorem dX5_commonDivisor_26 : decode cX5_commonDivisor 26 = .ok (.istore_n 2, 1) := by decide +kernel
theorem dX5_commonDivisor_27 : decode cX5_commonDivisor 27 = .ok (.iload 5, 2) := by decide +kernel
theorem dX5_commonDivisor_29 : decode cX5_commonDivisor 29 = .ok (.istore_n 3, 1) := by decide +kernel
theorem dX5_commonDivisor_30 : decode cX5_commonDivisor 30 = .ok (.iinc 4 1, 3) := by decide +kernel
theorem dX5_commonDivisor_33 : decode cX5_commonDivisor 33 = .ok (.goto (-26), 3) := by decide +kernel
theorem dX5_commonDivisor_36 : decode cX5_commonDivisor 36 = .ok (.iload_n 2, 1) := by decide +kernel
theorem dX5_commonDivisor_37 : decode cX5_commonDivisor 37 = .ok (.ireturn, 1) := by decide +kernel
theorem dX5_tryDistances_0 : decode cX5_tryDistances 0 = .ok (.iload 5, 2) := by decide +kernel
theorem dX5_tryDistances_2 : decode cX5_tryDistances 2 = .ok (.iconst 1, 1) := by decide +kernel
theorem dX5_tryDistances_3 : decode cX5_tryDistances 3 = .ok (.if_icmp .ge 6, 3) := by decide +kernel
theorem dX5_tryDistances_6 : decode cX5_tryDistances 6 = .ok (.bipush (-4), 2) := by decide +kernel
theorem dX5_tryDistances_8 : decode cX5_tryDistances 8 = .ok (.ireturn, 1) := by decide +kernel
theorem dX5_tryDistances_9 : decode cX5_tryDistances 9 = .ok (.iload 4, 2) := by decide +kernel
theorem dX5_tryDistances_11 : decode cX5_tryDistances 11 = .ok (.istore 6, 2) := by decide +kernel
theorem dX5_tryDistances_13 : decode cX5_tryDistances 13 = .ok (.iload 6, 2) := by decide +kernel
theorem dX5_tryDistances_15 : decode cX5_tryDistances 15 = .ok (.iload_n 1, 1) := by decide +kernel
theorem dX5_tryDistances_16 : decode cX5_tryDistances 16 = .ok (.iload_n 3, 1) := by decide +kernel
theorem dX5_tryDistances_17 : decode cX5_tryDistances 17 = .ok (.imul, 1) := by decide +kernel
theorem dX5_tryDistances_18 : decode cX5_tryDistances 18 = .ok (.if_icmp .ge 36, 3) := by decide +kernel
theorem dX5_tryDistances_21 : decode cX5_tryDistances 21 = .ok (.iload 6, 2) := by decide +kernel
theorem dX5_tryDistances_23 : decode cX5_tryDistances 23 = .ok (.iload_n 1, 1) := by decide +kernel
theorem dX5_tryDistances_24 : decode cX5_tryDistances 24 = .ok (.invokestatic 267, 3) := by decide +kernel
theorem dX5_tryDistances_27 : decode cX5_tryDistances 27 = .ok (.iload_n 0, 1) := by decide +kernel
theorem dX5_tryDistances_28 : decode cX5_tryDistances 28 = .ok (.if_icmp .ne 16, 3) := by decide +kernel
theorem dX5_tryDistances_31 : decode cX5_tryDistances 31 = .ok (.iload 6, 2) := by decide +kernel
theorem dX5_tryDistances_33 : decode cX5_tryDistances 33 = .ok (.iload_n 3, 1) := by decide +kernel
theorem dX5_tryDistances_34 : decode cX5_tryDistances 34 = .ok (.invokestatic 267, 3) := by decide +kernel
theorem dX5_tryDistances_37 : decode cX5_tryDistances 37 = .ok (.iload_n 2, 1) := by decide +kernel
theorem dX5_tryDistances_38 : decode cX5_tryDistances 38 = .ok (.if_icmp .ne 6, 3) := by decide +kernel
theorem dX5_tryDistances_41 : decode cX5_tryDistances 41 = .ok (.iload 6, 2) := by decide +kernel
theorem dX5_tryDistances_43 : decode cX5_tryDistances 43 = .ok (.ireturn, 1) := by decide +kernel
theorem dX5_tryDistances_44 : decode cX5_tryDistances 44 = .ok (.iload 6, 2) := by decide +kernel
theorem dX5_tryDistances_46 : decode cX5_tryDistances 46 = .ok (.iload 5, 2) := by decide +kernel
theorem dX5_tryDistances_48 : decode cX5_tryDistances 48 = .ok (.iadd, 1) := by decide +kernel
theorem dX5_tryDistances_49 : decode cX5_tryDistances 49 = .ok (.istore 6, 2) := by decide +kernel
theorem dX5_tryDistances_51 : decode cX5_tryDistances 51 = .ok (.goto (-38), 3) := by decide +kernel
theorem dX5_tryDistances_54 : decode cX5_tryDistances 54 = .ok (.bipush (-4), 2) := by decide +kernel
theorem dX5_tryDistances_56 : decode cX5_tryDistances 56 = .ok (.ireturn, 1) := by decide +kernel
theorem dX5_truth_0 : decode cX5_truth 0 = .ok (.aload_n 0, 1) := by decide +kernel
theorem dX5_truth_1 : decode cX5_truth 1 = .ok (.getfield 50, 3) := by decide +kernel
theorem dX5_truth_4 : decode cX5_truth 4 = .ok (.aload_n 0, 1) := by decide +kernel
theorem dX5_truth_5 : decode cX5_truth 5 = .ok (.getfield 12, 3) := by decide +kernel
theorem dX5_truth_8 : decode cX5_truth 8 = .ok (.invokevirtual 163, 3) := by decide +kernel
theorem dX5_truth_11 : decode cX5_truth 11 = .ok (.aload_n 0, 1) := by decide +kernel
theorem dX5_truth_12 : decode cX5_truth 12 = .ok (.getfield 50, 3) := by decide +kernel
theorem dX5_truth_15 : decode cX5_truth 15 = .ok (.invokevirtual 231, 3) := by decide +kernel
theorem dX5_truth_18 : decode cX5_truth 18 = .ok (.istore_n 1, 1) := by decide +kernel
theorem dX5_truth_19 : decode cX5_truth 19 = .ok (.iload_n 1, 1) := by decide +kernel
theorem dX5_truth_20 : decode cX5_truth 20 = .ok (.ifCond .ne 5, 3) := by decide +kernel
theorem dX5_truth_23 : decode cX5_truth 23 = .ok (.dconst 1, 1) := by decide +kernel
theorem dX5_truth_24 : decode cX5_truth 24 = .ok (.dreturn, 1) := by decide +kernel
theorem dX5_truth_25 : decode cX5_truth 25 = .ok (.aload_n 0, 1) := by decide +kernel
theorem dX5_truth_26 : decode cX5_truth 26 = .ok (.getfield 50, 3) := by decide +kernel
theorem dX5_truth_29 : decode cX5_truth 29 = .ok (.invokevirtual 234, 3) := by decide +kernel
theorem dX5_truth_32 : decode cX5_truth 32 = .ok (.i2d, 1) := by decide +kernel
theorem dX5_truth_33 : decode cX5_truth 33 = .ok (.iload_n 1, 1) := by decide +kernel
theorem dX5_truth_34 : decode cX5_truth 34 = .ok (.i2d, 1) := by decide +kernel
theorem dX5_truth_35 : decode cX5_truth 35 = .ok (.ddiv, 1) := by decide +kernel
theorem dX5_truth_36 : decode cX5_truth 36 = .ok (.dreturn, 1) := by decide +kernel
