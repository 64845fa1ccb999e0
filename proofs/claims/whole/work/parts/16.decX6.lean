theorem dX6_in_0 : decode cX6_in 0 = .ok (.iload_n 0, 1) := by decide +kernel
theorem dX6_in_1 : decode cX6_in 1 = .ok (.iload_n 1, 1) := by decide +kernel
theorem dX6_in_2 : decode cX6_in 2 = .ok (.if_icmp .lt 12, 3) := by decide +kernel
theorem dX6_in_5 : decode cX6_in 5 = .ok (.iload_n 0, 1) := by decide +kernel
theorem dX6_in_6 : decode cX6_in 6 = .ok (.iload_n 2, 1) := by decide +kernel
theorem dX6_in_7 : decode cX6_in 7 = .ok (.if_icmp .gt 7, 3) := by decide +kernel
theorem dX6_in_10 : decode cX6_in 10 = .ok (.iconst 1, 1) := by decide +kernel
theorem dX6_in_11 : decode cX6_in 11 = .ok (.goto 4, 3) := by decide +kernel
theorem dX6_in_14 : decode cX6_in 14 = .ok (.iconst 0, 1) := by decide +kernel
theorem dX6_in_15 : decode cX6_in 15 = .ok (.ireturn, 1) := by decide +kernel
theorem dX6_of_0 : decode cX6_of 0 = .ok (.aload_n 0, 1) := by decide +kernel
theorem dX6_of_1 : decode cX6_of 1 = .ok (.getfield 7, 3) := by decide +kernel
theorem dX6_of_4 : decode cX6_of 4 = .ok (.bipush 8, 2) := by decide +kernel
theorem dX6_of_6 : decode cX6_of 6 = .ok (.iconst 4, 1) := by decide +kernel
theorem dX6_of_7 : decode cX6_of 7 = .ok (.iload_n 1, 1) := by decide +kernel
theorem dX6_of_8 : decode cX6_of 8 = .ok (.imul, 1) := by decide +kernel
theorem dX6_of_9 : decode cX6_of 9 = .ok (.iadd, 1) := by decide +kernel
theorem dX6_of_10 : decode cX6_of 10 = .ok (.iload_n 2, 1) := by decide +kernel
theorem dX6_of_11 : decode cX6_of 11 = .ok (.iadd, 1) := by decide +kernel
theorem dX6_of_12 : decode cX6_of 12 = .ok (.iaload, 1) := by decide +kernel
theorem dX6_of_13 : decode cX6_of 13 = .ok (.ireturn, 1) := by decide +kernel
theorem dX6_isTarget_0 : decode cX6_isTarget 0 = .ok (.iload_n 1, 1) := by decide +kernel
theorem dX6_isTarget_1 : decode cX6_isTarget 1 = .ok (.iconst 0, 1) := by decide +kernel
theorem dX6_isTarget_2 : decode cX6_isTarget 2 = .ok (.aload_n 0, 1) := by decide +kernel
theorem dX6_isTarget_3 : decode cX6_isTarget 3 = .ok (.getfield 7, 3) := by decide +kernel
theorem dX6_isTarget_6 : decode cX6_isTarget 6 = .ok (.iconst 0, 1) := by decide +kernel
theorem dX6_isTarget_7 : decode cX6_isTarget 7 = .ok (.iaload, 1) := by decide +kernel
theorem dX6_isTarget_8 : decode cX6_isTarget 8 = .ok (.iconst 1, 1) := by decide +kernel
theorem dX6_isTarget_9 : decode cX6_isTarget 9 = .ok (.isub, 1) := by decide +kernel
theorem dX6_isTarget_10 : decode cX6_isTarget 10 = .ok (.invokestatic 41, 3) := by decide +kernel
theorem dX6_isTarget_13 : decode cX6_isTarget 13 = .ok (.ireturn, 1) := by decide +kernel
theorem dX6_isTurn_0 : decode cX6_isTurn 0 = .ok (.iload_n 1, 1) := by decide +kernel
theorem dX6_isTurn_1 : decode cX6_isTurn 1 = .ok (.iconst 0, 1) := by decide +kernel
theorem dX6_isTurn_2 : decode cX6_isTurn 2 = .ok (.aload_n 0, 1) := by decide +kernel
theorem dX6_isTurn_3 : decode cX6_isTurn 3 = .ok (.getfield 7, 3) := by decide +kernel
theorem dX6_isTurn_6 : decode cX6_isTurn 6 = .ok (.iconst 1, 1) := by decide +kernel
theorem dX6_isTurn_7 : decode cX6_isTurn 7 = .ok (.iaload, 1) := by decide +kernel
theorem dX6_isTurn_8 : decode cX6_isTurn 8 = .ok (.iconst 1, 1) := by decide +kernel
theorem dX6_isTurn_9 : decode cX6_isTurn 9 = .ok (.isub, 1) := by decide +kernel
theorem dX6_isTurn_10 : decode cX6_isTurn 10 = .ok (.invokestatic 41, 3) := by decide +kernel
theorem dX6_isTurn_13 : decode cX6_isTurn 13 = .ok (.ireturn, 1) := by decide +kernel
theorem dX6_record_0 : decode cX6_record 0 = .ok (.aload_n 0, 1) := by decide +kernel
theorem dX6_record_1 : decode cX6_record 1 = .ok (.getfield 45, 3) := by decide +kernel
theorem dX6_record_4 : decode cX6_record 4 = .ok (.iconst 4, 1) := by decide +kernel
theorem dX6_record_5 : decode cX6_record 5 = .ok (.if_icmp .ne 42, 3) := by decide +kernel
theorem dX6_record_8 : decode cX6_record 8 = .ok (.iconst 0, 1) := by decide +kernel
theorem dX6_record_9 : decode cX6_record 9 = .ok (.istore_n 1, 1) := by decide +kernel
theorem dX6_record_10 : decode cX6_record 10 = .ok (.iload_n 1, 1) := by decide +kernel
theorem dX6_record_11 : decode cX6_record 11 = .ok (.bipush 96, 2) := by decide +kernel
theorem dX6_record_13 : decode cX6_record 13 = .ok (.if_icmp .ge 24, 3) := by decide +kernel
theorem dX6_record_16 : decode cX6_record 16 = .ok (.aload_n 0, 1) := by decide +kernel
theorem dX6_record_17 : decode cX6_record 17 = .ok (.getfield 13, 3) := by decide +kernel
theorem dX6_record_20 : decode cX6_record 20 = .ok (.iload_n 1, 1) := by decide +kernel
theorem dX6_record_21 : decode cX6_record 21 = .ok (.aload_n 0, 1) := by decide +kernel
theorem dX6_record_22 : decode cX6_record 22 = .ok (.getfield 13, 3) := by decide +kernel
theorem dX6_record_25 : decode cX6_record 25 = .ok (.iload_n 1, 1) := by decide +kernel
theorem dX6_record_26 : decode cX6_record 26 = .ok (.bipush 32, 2) := by decide +kernel
theorem dX6_record_28 : decode cX6_record 28 = .ok (.iadd, 1) := by decide +kernel
theorem dX6_record_29 : decode cX6_record 29 = .ok (.iaload, 1) := by decide +kernel
theorem dX6_record_30 : decode cX6_record 30 = .ok (.iastore, 1) := by decide +kernel
theorem dX6_record_31 : decode cX6_record 31 = .ok (.iinc 1 1, 3) := by decide +kernel
theorem dX6_record_34 : decode cX6_record 34 = .ok (.goto (-24), 3) := by decide +kernel
theorem dX6_record_37 : decode cX6_record 37 = .ok (.aload_n 0, 1) := by decide +kernel
theorem dX6_record_38 : decode cX6_record 38 = .ok (.dup, 1) := by decide +kernel
theorem dX6_record_39 : decode cX6_record 39 = .ok (.getfield 45, 3) := by decide +kernel
theorem dX6_record_42 : decode cX6_record 42 = .ok (.iconst 1, 1) := by decide +kernel
theorem dX6_record_43 : decode cX6_record 43 = .ok (.isub, 1) := by decide +kernel
theorem dX6_record_44 : decode cX6_record 44 = .ok (.putfield 45, 3) := by decide +kernel
theorem dX6_record_47 : decode cX6_record 47 = .ok (.iconst 0, 1) := by decide +kernel
theorem dX6_record_48 : decode cX6_record 48 = .ok (.istore_n 1, 1) := by decide +kernel
theorem dX6_record_49 : decode cX6_record 49 = .ok (.iload_n 1, 1) := by decide +kernel
theorem dX6_record_50 : decode cX6_record 50 = .ok (.bipush 32, 2) := by decide +kernel
theorem dX6_record_52 : decode cX6_record 52 = .ok (.if_icmp .ge 29, 3) := by decide +kernel
theorem dX6_record_55 : decode cX6_record 55 = .ok (.aload_n 0, 1) := by decide +kernel
theorem dX6_record_56 : decode cX6_record 56 = .ok (.getfield 13, 3) := by decide +kernel
theorem dX6_record_59 : decode cX6_record 59 = .ok (.aload_n 0, 1) := by decide +kernel
theorem dX6_record_60 : decode cX6_record 60 = .ok (.getfield 45, 3) := by decide +kernel
theorem dX6_record_63 : decode cX6_record 63 = .ok (.bipush 32, 2) := by decide +kernel
theorem dX6_record_65 : decode cX6_record 65 = .ok (.imul, 1) := by decide +kernel
theorem dX6_record_66 : decode cX6_record 66 = .ok (.iload_n 1, 1) := by decide +kernel
theorem dX6_record_67 : decode cX6_record 67 = .ok (.iadd, 1) := by decide +kernel
theorem dX6_record_68 : decode cX6_record 68 = .ok (.aload_n 0, 1) := by decide +kernel
theorem dX6_record_69 : decode cX6_record 69 = .ok (.getfield 7, 3) := by decide +kernel
theorem dX6_record_72 : decode cX6_record 72 = .ok (.iload_n 1, 1) := by decide +kernel
theorem dX6_record_73 : decode cX6_record 73 = .ok (.iaload, 1) := by decide +kernel
theorem dX6_record_74 : decode cX6_record 74 = .ok (.iastore, 1) := by decide +kernel
theorem dX6_record_75 : decode cX6_record 75 = .ok (.iinc 1 1, 3) := by decide +kernel
theorem dX6_record_78 : decode cX6_record 78 = .ok (.goto (-29), 3) := by decide +kernel
theorem dX6_record_81 : decode cX6_record 81 = .ok (.aload_n 0, 1) := by decide +kernel
theorem dX6_record_82 : decode cX6_record 82 = .ok (.dup, 1) := by decide +kernel
theorem dX6_record_83 : decode cX6_record 83 = .ok (.getfield 45, 3) := by decide +kernel
theorem dX6_record_86 : decode cX6_record 86 = .ok (.iconst 1, 1) := by decide +kernel
theorem dX6_record_87 : decode cX6_record 87 = .ok (.iadd, 1) := by decide +kernel
theorem dX6_record_88 : decode cX6_record 88 = .ok (.putfield 45, 3) := by decide +kernel
theorem dX6_record_91 : decode cX6_record 91 = .ok (.return_, 1) := by decide +kernel
theorem dX6_undo_0 : decode cX6_undo 0 = .ok (.aload_n 0, 1) := by decide +kernel
theorem dX6_undo_1 : decode cX6_undo 1 = .ok (.getfield 45, 3) := by decide +kernel
theorem dX6_undo_4 : decode cX6_undo 4 = .ok (.ifCond .ne 6, 3) := by decide +kernel
theorem dX6_undo_7 : decode cX6_undo 7 = .ok (.bipush (-2), 2) := by decide +kernel
theorem dX6_undo_9 : decode cX6_undo 9 = .ok (.ireturn, 1) := by decide +kernel
theorem dX6_undo_10 : decode cX6_undo 10 = .ok (.aload_n 0, 1) := by decide +kernel
theorem dX6_undo_11 : decode cX6_undo 11 = .ok (.dup, 1) := by decide +kernel
theorem dX6_undo_12 : decode cX6_undo 12 = .ok (.getfield 45, 3) := by decide +kernel
theorem dX6_undo_15 : decode cX6_undo 15 = .ok (.iconst 1, 1) := by decide +kernel
theorem dX6_undo_16 : decode cX6_undo 16 = .ok (.isub, 1) := by decide +kernel
theorem dX6_undo_17 : decode cX6_undo 17 = .ok (.putfield 45, 3) := by decide +kernel
theorem dX6_undo_20 : decode cX6_undo 20 = .ok (.iconst 0, 1) := by decide +kernel
theorem dX6_undo_21 : decode cX6_undo 21 = .ok (.istore_n 1, 1) := by decide +kernel
theorem dX6_undo_22 : decode cX6_undo 22 = .ok (.iload_n 1, 1) := by decide +kernel
theorem dX6_undo_23 : decode cX6_undo 23 = .ok (.bipush 32, 2) := by decide +kernel
theorem dX6_undo_25 : decode cX6_undo 25 = .ok (.if_icmp .ge 29, 3) := by decide +kernel
theorem dX6_undo_28 : decode cX6_undo 28 = .ok (.aload_n 0, 1) := by decide +kernel
theorem dX6_undo_29 : decode cX6_undo 29 = .ok (.getfield 7, 3) := by decide +kernel
theorem dX6_undo_32 : decode cX6_undo 32 = .ok (.iload_n 1, 1) := by decide +kernel
theorem dX6_undo_33 : decode cX6_undo 33 = .ok (.aload_n 0, 1) := by decide +kernel
theorem dX6_undo_34 : decode cX6_undo 34 = .ok (.getfield 13, 3) := by decide +kernel
theorem dX6_undo_37 : decode cX6_undo 37 = .ok (.aload_n 0, 1) := by decide +kernel
theorem dX6_undo_38 : decode cX6_undo 38 = .ok (.getfield 45, 3) := by decide +kernel
theorem dX6_undo_41 : decode cX6_undo 41 = .ok (.bipush 32, 2) := by decide +kernel
theorem dX6_undo_43 : decode cX6_undo 43 = .ok (.imul, 1) := by decide +kernel
theorem dX6_undo_44 : decode cX6_undo 44 = .ok (.iload_n 1, 1) := by decide +kernel
theorem dX6_undo_45 : decode cX6_undo 45 = .ok (.iadd, 1) := by decide +kernel
theorem dX6_undo_46 : decode cX6_undo 46 = .ok (.iaload, 1) := by decide +kernel
theorem dX6_undo_47 : decode cX6_undo 47 = .ok (.iastore, 1) := by decide +kernel
theorem dX6_undo_48 : decode cX6_undo 48 = .ok (.iinc 1 1, 3) := by decide +kernel
theorem dX6_undo_51 : decode cX6_undo 51 = .ok (.goto (-29), 3) := by decide +kernel
theorem dX6_undo_54 : decode cX6_undo 54 = .ok (.aload_n 0, 1) := by decide +kernel
theorem dX6_undo_55 : decode cX6_undo 55 = .ok (.getfield 45, 3) := by decide +kernel
theorem dX6_undo_58 : decode cX6_undo 58 = .ok (.ireturn, 1) := by decide +kernel
theorem dX6_save_0 : decode cX6_save 0 = .ok (.aload_n 0, 1) := by decide +kernel
theorem dX6_save_1 : decode cX6_save 1 = .ok (.iconst 1, 1) := by decide +kernel
theorem dX6_save_2 : decode cX6_save 2 = .ok (.putfield 49, 3) := by decide +kernel
theorem dX6_save_5 : decode cX6_save 5 = .ok (.iconst 0, 1) := by decide +kernel
theorem dX6_save_6 : decode cX6_save 6 = .ok (.istore_n 1, 1) := by decide +kernel
theorem dX6_save_7 : decode cX6_save 7 = .ok (.iload_n 1, 1) := by decide +kernel
theorem dX6_save_8 : decode cX6_save 8 = .ok (.bipush 32, 2) := by decide +kernel
theorem dX6_save_10 : decode cX6_save 10 = .ok (.if_icmp .ge 21, 3) := by decide +kernel
theorem dX6_save_13 : decode cX6_save 13 = .ok (.aload_n 0, 1) := by decide +kernel
theorem dX6_save_14 : decode cX6_save 14 = .ok (.getfield 16, 3) := by decide +kernel
theorem dX6_save_17 : decode cX6_save 17 = .ok (.iload_n 1, 1) := by decide +kernel
theorem dX6_save_18 : decode cX6_save 18 = .ok (.aload_n 0, 1) := by decide +kernel
theorem dX6_save_19 : decode cX6_save 19 = .ok (.getfield 7, 3) := by decide +kernel
theorem dX6_save_22 : decode cX6_save 22 = .ok (.iload_n 1, 1) := by decide +kernel
theorem dX6_save_23 : decode cX6_save 23 = .ok (.iaload, 1) := by decide +kernel
theorem dX6_save_24 : decode cX6_save 24 = .ok (.iastore, 1) := by decide +kernel
theorem dX6_save_25 : decode cX6_save 25 = .ok (.iinc 1 1, 3) := by decide +kernel
theorem dX6_save_28 : decode cX6_save 28 = .ok (.goto (-21), 3) := by decide +kernel
theorem dX6_save_31 : decode cX6_save 31 = .ok (.aload_n 0, 1) := by decide +kernel
theorem dX6_save_32 : decode cX6_save 32 = .ok (.getfield 7, 3) := by decide +kernel
theorem dX6_save_35 : decode cX6_save 35 = .ok (.iconst 0, 1) := by decide +kernel
theorem dX6_save_36 : decode cX6_save 36 = .ok (.iaload, 1) := by decide +kernel
theorem dX6_save_37 : decode cX6_save 37 = .ok (.ireturn, 1) := by decide +kernel
theorem dX6_restore_0 : decode cX6_restore 0 = .ok (.aload_n 0, 1) := by decide +kernel
theorem dX6_restore_1 : decode cX6_restore 1 = .ok (.getfield 49, 3) := by decide +kernel
theorem dX6_restore_4 : decode cX6_restore 4 = .ok (.ifCond .ne 6, 3) := by decide +kernel
theorem dX6_restore_7 : decode cX6_restore 7 = .ok (.bipush (-2), 2) := by decide +kernel
theorem dX6_restore_9 : decode cX6_restore 9 = .ok (.ireturn, 1) := by decide +kernel
theorem dX6_restore_10 : decode cX6_restore 10 = .ok (.aload_n 0, 1) := by decide +kernel
theorem dX6_restore_11 : decode cX6_restore 11 = .ok (.invokevirtual 53, 3) := by decide +kernel
theorem dX6_restore_14 : decode cX6_restore 14 = .ok (.iconst 0, 1) := by decide +kernel
theorem dX6_restore_15 : decode cX6_restore 15 = .ok (.istore_n 1, 1) := by decide +kernel
theorem dX6_restore_16 : decode cX6_restore 16 = .ok (.iload_n 1, 1) := by decide +kernel
theorem dX6_restore_17 : decode cX6_restore 17 = .ok (.bipush 32, 2) := by decide +kernel
theorem dX6_restore_19 : decode cX6_restore 19 = .ok (.if_icmp .ge 21, 3) := by decide +kernel
theorem dX6_restore_22 : decode cX6_restore 22 = .ok (.aload_n 0, 1) := by decide +kernel
theorem dX6_restore_23 : decode cX6_restore 23 = .ok (.getfield 7, 3) := by decide +kernel
theorem dX6_restore_26 : decode cX6_restore 26 = .ok (.iload_n 1, 1) := by decide +kernel
theorem dX6_restore_27 : decode cX6_restore 27 = .ok (.aload_n 0, 1) := by decide +kernel
theorem dX6_restore_28 : decode cX6_restore 28 = .ok (.getfield 16, 3) := by decide +kernel
theorem dX6_restore_31 : decode cX6_restore 31 = .ok (.iload_n 1, 1) := by decide +kernel
theorem dX6_restore_32 : decode cX6_restore 32 = .ok (.iaload, 1) := by decide +kernel
theorem dX6_restore_33 : decode cX6_restore 33 = .ok (.iastore, 1) := by decide +kernel
theorem dX6_restore_34 : decode cX6_restore 34 = .ok (.iinc 1 1, 3) := by decide +kernel
theorem dX6_restore_37 : decode cX6_restore 37 = .ok (.goto (-21), 3) := by decide +kernel
theorem dX6_restore_40 : decode cX6_restore 40 = .ok (.aload_n 0, 1) := by decide +kernel
theorem dX6_restore_41 : decode cX6_restore 41 = .ok (.getfield 7, 3) := by decide +kernel
theorem dX6_restore_44 : decode cX6_restore 44 = .ok (.iconst 0, 1) := by decide +kernel
theorem dX6_restore_45 : decode cX6_restore 45 = .ok (.iaload, 1) := by decide +kernel
theorem dX6_restore_46 : decode cX6_restore 46 = .ok (.ireturn, 1) := by decide +kernel
theorem dX6_isThere_0 : decode cX6_isThere 0 = .ok (.iconst 0, 1) := by decide +kernel
theorem dX6_isThere_1 : decode cX6_isThere 1 = .ok (.istore_n 3, 1) := by decide +kernel
theorem dX6_isThere_2 : decode cX6_isThere 2 = .ok (.iconst 0, 1) := by decide +kernel
theorem dX6_isThere_3 : decode cX6_isThere 3 = .ok (.istore 4, 2) := by decide +kernel
theorem dX6_isThere_5 : decode cX6_isThere 5 = .ok (.iload 4, 2) := by decide +kernel
theorem dX6_isThere_7 : decode cX6_isThere 7 = .ok (.aload_n 0, 1) := by decide +kernel
theorem dX6_isThere_8 : decode cX6_isThere 8 = .ok (.getfield 7, 3) := by decide +kernel
theorem dX6_isThere_11 : decode cX6_isThere 11 = .ok (.iconst 0, 1) := by decide +kernel
theorem dX6_isThere_12 : decode cX6_isThere 12 = .ok (.iaload, 1) := by decide +kernel
theorem dX6_isThere_13 : decode cX6_isThere 13 = .ok (.if_icmp .ge 41, 3) := by decide +kernel
theorem dX6_isThere_16 : decode cX6_isThere 16 = .ok (.iload_n 3, 1) := by decide +kernel
theorem dX6_isThere_17 : decode cX6_isThere 17 = .ok (.ifCond .ne 25, 3) := by decide +kernel
theorem dX6_isThere_20 : decode cX6_isThere 20 = .ok (.aload_n 0, 1) := by decide +kernel
theorem dX6_isThere_21 : decode cX6_isThere 21 = .ok (.iload 4, 2) := by decide +kernel
theorem dX6_isThere_23 : decode cX6_isThere 23 = .ok (.iconst 0, 1) := by decide +kernel
theorem dX6_isThere_24 : decode cX6_isThere 24 = .ok (.invokevirtual 56, 3) := by decide +kernel
theorem dX6_isThere_27 : decode cX6_isThere 27 = .ok (.iload_n 1, 1) := by decide +kernel
theorem dX6_isThere_28 : decode cX6_isThere 28 = .ok (.if_icmp .ne 18, 3) := by decide +kernel
theorem dX6_isThere_31 : decode cX6_isThere 31 = .ok (.aload_n 0, 1) := by decide +kernel
theorem dX6_isThere_32 : decode cX6_isThere 32 = .ok (.iload 4, 2) := by decide +kernel
theorem dX6_isThere_34 : decode cX6_isThere 34 = .ok (.iconst 2, 1) := by decide +kernel
theorem dX6_isThere_35 : decode cX6_isThere 35 = .ok (.invokevirtual 56, 3) := by decide +kernel
theorem dX6_isThere_38 : decode cX6_isThere 38 = .ok (.iload_n 2, 1) := by decide +kernel
theorem dX6_isThere_39 : decode cX6_isThere 39 = .ok (.if_icmp .ne 7, 3) := by decide +kernel
theorem dX6_isThere_42 : decode cX6_isThere 42 = .ok (.iconst 1, 1) := by decide +kernel
theorem dX6_isThere_43 : decode cX6_isThere 43 = .ok (.goto 4, 3) := by decide +kernel
theorem dX6_isThere_46 : decode cX6_isThere 46 = .ok (.iconst 0, 1) := by decide +kernel
theorem dX6_isThere_47 : decode cX6_isThere 47 = .ok (.istore_n 3, 1) := by decide +kernel
theorem dX6_isThere_48 : decode cX6_isThere 48 = .ok (.iinc 4 1, 3) := by decide +kernel
theorem dX6_isThere_51 : decode cX6_isThere 51 = .ok (.goto (-46), 3) := by decide +kernel
theorem dX6_isThere_54 : decode cX6_isThere 54 = .ok (.iload_n 3, 1) := by decide +kernel
theorem dX6_isThere_55 : decode cX6_isThere 55 = .ok (.ireturn, 1) := by decide +kernel
theorem dX6_add_0 : decode cX6_add 0 = .ok (.bipush 8, 2) := by decide +kernel
theorem dX6_add_2 : decode cX6_add 2 = .ok (.iconst 4, 1) := by decide +kernel
theorem dX6_add_3 : decode cX6_add 3 = .ok (.aload_n 0, 1) := by decide +kernel
theorem dX6_add_4 : decode cX6_add 4 = .ok (.getfield 7, 3) := by decide +kernel
theorem dX6_add_7 : decode cX6_add 7 = .ok (.iconst 0, 1) := by decide +kernel
theorem dX6_add_8 : decode cX6_add 8 = .ok (.iaload, 1) := by decide +kernel
theorem dX6_add_9 : decode cX6_add 9 = .ok (.imul, 1) := by decide +kernel
theorem dX6_add_10 : decode cX6_add 10 = .ok (.iadd, 1) := by decide +kernel
theorem dX6_add_11 : decode cX6_add 11 = .ok (.istore 5, 2) := by decide +kernel
theorem dX6_add_13 : decode cX6_add 13 = .ok (.aload_n 0, 1) := by decide +kernel
theorem dX6_add_14 : decode cX6_add 14 = .ok (.getfield 7, 3) := by decide +kernel
theorem dX6_add_17 : decode cX6_add 17 = .ok (.iload 5, 2) := by decide +kernel
theorem dX6_add_19 : decode cX6_add 19 = .ok (.iload_n 1, 1) := by decide +kernel
theorem dX6_add_20 : decode cX6_add 20 = .ok (.iastore, 1) := by decide +kernel
theorem dX6_add_21 : decode cX6_add 21 = .ok (.aload_n 0, 1) := by decide +kernel
theorem dX6_add_22 : decode cX6_add 22 = .ok (.getfield 7, 3) := by decide +kernel
theorem dX6_add_25 : decode cX6_add 25 = .ok (.iload 5, 2) := by decide +kernel
theorem dX6_add_27 : decode cX6_add 27 = .ok (.iconst 1, 1) := by decide +kernel
theorem dX6_add_28 : decode cX6_add 28 = .ok (.iadd, 1) := by decide +kernel
theorem dX6_add_29 : decode cX6_add 29 = .ok (.iload_n 2, 1) := by decide +kernel
theorem dX6_add_30 : decode cX6_add 30 = .ok (.iastore, 1) := by decide +kernel
theorem dX6_add_31 : decode cX6_add 31 = .ok (.aload_n 0, 1) := by decide +kernel
theorem dX6_add_32 : decode cX6_add 32 = .ok (.getfield 7, 3) := by decide +kernel
theorem dX6_add_35 : decode cX6_add 35 = .ok (.iload 5, 2) := by decide +kernel
theorem dX6_add_37 : decode cX6_add 37 = .ok (.iconst 2, 1) := by decide +kernel
theorem dX6_add_38 : decode cX6_add 38 = .ok (.iadd, 1) := by decide +kernel
theorem dX6_add_39 : decode cX6_add 39 = .ok (.iload_n 3, 1) := by decide +kernel
theorem dX6_add_40 : decode cX6_add 40 = .ok (.iastore, 1) := by decide +kernel
theorem dX6_add_41 : decode cX6_add 41 = .ok (.aload_n 0, 1) := by decide +kernel
theorem dX6_add_42 : decode cX6_add 42 = .ok (.getfield 7, 3) := by decide +kernel
theorem dX6_add_45 : decode cX6_add 45 = .ok (.iload 5, 2) := by decide +kernel
theorem dX6_add_47 : decode cX6_add 47 = .ok (.iconst 3, 1) := by decide +kernel
theorem dX6_add_48 : decode cX6_add 48 = .ok (.iadd, 1) := by decide +kernel
theorem dX6_add_49 : decode cX6_add 49 = .ok (.iload 4, 2) := by decide +kernel
theorem dX6_add_51 : decode cX6_add 51 = .ok (.iastore, 1) := by decide +kernel
theorem dX6_add_52 : decode cX6_add 52 = .ok (.aload_n 0, 1) := by decide +kernel
theorem dX6_add_53 : decode cX6_add 53 = .ok (.getfield 7, 3) := by decide +kernel
theorem dX6_add_56 : decode cX6_add 56 = .ok (.iconst 0, 1) := by decide +kernel
theorem dX6_add_57 : decode cX6_add 57 = .ok (.dup2, 1) := by decide +kernel
theorem dX6_add_58 : decode cX6_add 58 = .ok (.iaload, 1) := by decide +kernel
theorem dX6_add_59 : decode cX6_add 59 = .ok (.iconst 1, 1) := by decide +kernel
theorem dX6_add_60 : decode cX6_add 60 = .ok (.iadd, 1) := by decide +kernel
theorem dX6_add_61 : decode cX6_add 61 = .ok (.iastore, 1) := by decide +kernel
theorem dX6_add_62 : decode cX6_add 62 = .ok (.return_, 1) := by decide +kernel
theorem dX6_isBody_0 : decode cX6_isBody 0 = .ok (.iload_n 0, 1) := by decide +kernel
theorem dX6_isBody_1 : decode cX6_isBody 1 = .ok (.iconst 1, 1) := by decide +kernel
theorem dX6_isBody_2 : decode cX6_isBody 2 = .ok (.sipush 300, 3) := by decide +kernel
theorem dX6_isBody_5 : decode cX6_isBody 5 = .ok (.invokestatic 41, 3) := by decide +kernel
theorem dX6_isBody_8 : decode cX6_isBody 8 = .ok (.ifCond .eq 27, 3) := by decide +kernel
theorem dX6_isBody_11 : decode cX6_isBody 11 = .ok (.iload_n 1, 1) := by decide +kernel
theorem dX6_isBody_12 : decode cX6_isBody 12 = .ok (.iconst 1, 1) := by decide +kernel
theorem dX6_isBody_13 : decode cX6_isBody 13 = .ok (.bipush 99, 2) := by decide +kernel
theorem dX6_isBody_15 : decode cX6_isBody 15 = .ok (.invokestatic 41, 3) := by decide +kernel
theorem dX6_isBody_18 : decode cX6_isBody 18 = .ok (.ifCond .eq 17, 3) := by decide +kernel
theorem dX6_isBody_21 : decode cX6_isBody 21 = .ok (.iload_n 2, 1) := by decide +kernel
theorem dX6_isBody_22 : decode cX6_isBody 22 = .ok (.bipush (-5), 2) := by decide +kernel
theorem dX6_isBody_24 : decode cX6_isBody 24 = .ok (.iconst 5, 1) := by decide +kernel
theorem dX6_isBody_25 : decode cX6_isBody 25 = .ok (.invokestatic 41, 3) := by decide +kernel
theorem dX6_isBody_28 : decode cX6_isBody 28 = .ok (.ifCond .eq 7, 3) := by decide +kernel
theorem dX6_isBody_31 : decode cX6_isBody 31 = .ok (.iconst 1, 1) := by decide +kernel
theorem dX6_isBody_32 : decode cX6_isBody 32 = .ok (.goto 4, 3) := by decide +kernel
theorem dX6_isBody_35 : decode cX6_isBody 35 = .ok (.iconst 0, 1) := by decide +kernel
theorem dX6_isBody_36 : decode cX6_isBody 36 = .ok (.ireturn, 1) := by decide +kernel
theorem dX6_target_0 : decode cX6_target 0 = .ok (.iload_n 1, 1) := by decide +kernel
theorem dX6_target_1 : decode cX6_target 1 = .ok (.iload_n 2, 1) := by decide +kernel
theorem dX6_target_2 : decode cX6_target 2 = .ok (.iload_n 3, 1) := by decide +kernel
theorem dX6_target_3 : decode cX6_target 3 = .ok (.invokestatic 60, 3) := by decide +kernel
theorem dX6_target_6 : decode cX6_target 6 = .ok (.ifCond .eq 12, 3) := by decide +kernel
theorem dX6_target_9 : decode cX6_target 9 = .ok (.iload 4, 2) := by decide +kernel
theorem dX6_target_11 : decode cX6_target 11 = .ok (.ifCond .eq 9, 3) := by decide +kernel
theorem dX6_target_14 : decode cX6_target 14 = .ok (.iload_n 3, 1) := by decide +kernel
theorem dX6_target_15 : decode cX6_target 15 = .ok (.ifCond .eq 5, 3) := by decide +kernel
theorem dX6_target_18 : decode cX6_target 18 = .ok (.iconst (-1), 1) := by decide +kernel
theorem dX6_target_19 : decode cX6_target 19 = .ok (.ireturn, 1) := by decide +kernel
theorem dX6_target_20 : decode cX6_target 20 = .ok (.aload_n 0, 1) := by decide +kernel
theorem dX6_target_21 : decode cX6_target 21 = .ok (.iload_n 1, 1) := by decide +kernel
theorem dX6_target_22 : decode cX6_target 22 = .ok (.iload_n 3, 1) := by decide +kernel
theorem dX6_target_23 : decode cX6_target 23 = .ok (.invokevirtual 63, 3) := by decide +kernel
theorem dX6_target_26 : decode cX6_target 26 = .ok (.ifCond .eq 6, 3) := by decide +kernel
theorem dX6_target_29 : decode cX6_target 29 = .ok (.bipush (-2), 2) := by decide +kernel
theorem dX6_target_31 : decode cX6_target 31 = .ok (.ireturn, 1) := by decide +kernel
theorem dX6_target_32 : decode cX6_target 32 = .ok (.aload_n 0, 1) := by decide +kernel
theorem dX6_target_33 : decode cX6_target 33 = .ok (.getfield 7, 3) := by decide +kernel
theorem dX6_target_36 : decode cX6_target 36 = .ok (.iconst 0, 1) := by decide +kernel
theorem dX6_target_37 : decode cX6_target 37 = .ok (.iaload, 1) := by decide +kernel
theorem dX6_target_38 : decode cX6_target 38 = .ok (.bipush 6, 2) := by decide +kernel
theorem dX6_target_40 : decode cX6_target 40 = .ok (.if_icmp .ne 6, 3) := by decide +kernel
theorem dX6_target_43 : decode cX6_target 43 = .ok (.bipush (-3), 2) := by decide +kernel
theorem dX6_target_45 : decode cX6_target 45 = .ok (.ireturn, 1) := by decide +kernel
theorem dX6_target_46 : decode cX6_target 46 = .ok (.aload_n 0, 1) := by decide +kernel
theorem dX6_target_47 : decode cX6_target 47 = .ok (.invokevirtual 53, 3) := by decide +kernel
theorem dX6_target_50 : decode cX6_target 50 = .ok (.aload_n 0, 1) := by decide +kernel
theorem dX6_target_51 : decode cX6_target 51 = .ok (.iload_n 1, 1) := by decide +kernel
theorem dX6_target_52 : decode cX6_target 52 = .ok (.iload_n 2, 1) := by decide +kernel
theorem dX6_target_53 : decode cX6_target 53 = .ok (.iload_n 3, 1) := by decide +kernel
theorem dX6_target_54 : decode cX6_target 54 = .ok (.iload 4, 2) := by decide +kernel
theorem dX6_target_56 : decode cX6_target 56 = .ok (.ifCond .eq 7, 3) := by decide +kernel
theorem dX6_target_59 : decode cX6_target 59 = .ok (.iconst 1, 1) := by decide +kernel
theorem dX6_target_60 : decode cX6_target 60 = .ok (.goto 4, 3) := by decide +kernel
theorem dX6_target_63 : decode cX6_target 63 = .ok (.iconst 0, 1) := by decide +kernel
theorem dX6_target_64 : decode cX6_target 64 = .ok (.invokevirtual 67, 3) := by decide +kernel
theorem dX6_target_67 : decode cX6_target 67 = .ok (.aload_n 0, 1) := by decide +kernel
theorem dX6_target_68 : decode cX6_target 68 = .ok (.getfield 7, 3) := by decide +kernel
theorem dX6_target_71 : decode cX6_target 71 = .ok (.iconst 0, 1) := by decide +kernel
theorem dX6_target_72 : decode cX6_target 72 = .ok (.iaload, 1) := by decide +kernel
theorem dX6_target_73 : decode cX6_target 73 = .ok (.iconst 1, 1) := by decide +kernel
theorem dX6_target_74 : decode cX6_target 74 = .ok (.isub, 1) := by decide +kernel
theorem dX6_target_75 : decode cX6_target 75 = .ok (.ireturn, 1) := by decide +kernel
theorem dX6_takeOut_0 : decode cX6_takeOut 0 = .ok (.bipush 8, 2) := by decide +kernel
theorem dX6_takeOut_2 : decode cX6_takeOut 2 = .ok (.iconst 4, 1) := by decide +kernel
theorem dX6_takeOut_3 : decode cX6_takeOut 3 = .ok (.iload_n 1, 1) := by decide +kernel
theorem dX6_takeOut_4 : decode cX6_takeOut 4 = .ok (.imul, 1) := by decide +kernel
theorem dX6_takeOut_5 : decode cX6_takeOut 5 = .ok (.iadd, 1) := by decide +kernel
theorem dX6_takeOut_6 : decode cX6_takeOut 6 = .ok (.istore_n 2, 1) := by decide +kernel
theorem dX6_takeOut_7 : decode cX6_takeOut 7 = .ok (.iload_n 2, 1) := by decide +kernel
theorem dX6_takeOut_8 : decode cX6_takeOut 8 = .ok (.bipush 28, 2) := by decide +kernel
theorem dX6_takeOut_10 : decode cX6_takeOut 10 = .ok (.if_icmp .ge 23, 3) := by decide +kernel
theorem dX6_takeOut_13 : decode cX6_takeOut 13 = .ok (.aload_n 0, 1) := by decide +kernel
theorem dX6_takeOut_14 : decode cX6_takeOut 14 = .ok (.getfield 7, 3) := by decide +kernel
theorem dX6_takeOut_17 : decode cX6_takeOut 17 = .ok (.iload_n 2, 1) := by decide +kernel
theorem dX6_takeOut_18 : decode cX6_takeOut 18 = .ok (.aload_n 0, 1) := by decide +kernel
theorem dX6_takeOut_19 : decode cX6_takeOut 19 = .ok (.getfield 7, 3) := by decide +kernel
theorem dX6_takeOut_22 : decode cX6_takeOut 22 = .ok (.iload_n 2, 1) := by decide +kernel
theorem dX6_takeOut_23 : decode cX6_takeOut 23 = .ok (.iconst 4, 1) := by decide +kernel
theorem dX6_takeOut_24 : decode cX6_takeOut 24 = .ok (.iadd, 1) := by decide +kernel
theorem dX6_takeOut_25 : decode cX6_takeOut 25 = .ok (.iaload, 1) := by decide +kernel
theorem dX6_takeOut_26 : decode cX6_takeOut 26 = .ok (.iastore, 1) := by decide +kernel
theorem dX6_takeOut_27 : decode cX6_takeOut 27 = .ok (.iinc 2 1, 3) := by decide +kernel
theorem dX6_takeOut_30 : decode cX6_takeOut 30 = .ok (.goto (-23), 3) := by decide +kernel
theorem dX6_takeOut_33 : decode cX6_takeOut 33 = .ok (.aload_n 0, 1) := by decide +kernel
theorem dX6_takeOut_34 : decode cX6_takeOut 34 = .ok (.getfield 7, 3) := by decide +kernel
theorem dX6_takeOut_37 : decode cX6_takeOut 37 = .ok (.iconst 0, 1) := by decide +kernel
theorem dX6_takeOut_38 : decode cX6_takeOut 38 = .ok (.dup2, 1) := by decide +kernel
theorem dX6_takeOut_39 : decode cX6_takeOut 39 = .ok (.iaload, 1) := by decide +kernel
theorem dX6_takeOut_40 : decode cX6_takeOut 40 = .ok (.iconst 1, 1) := by decide +kernel
theorem dX6_takeOut_41 : decode cX6_takeOut 41 = .ok (.isub, 1) := by decide +kernel
theorem dX6_takeOut_42 : decode cX6_takeOut 42 = .ok (.iastore, 1) := by decide +kernel
theorem dX6_takeOut_43 : decode cX6_takeOut 43 = .ok (.return_, 1) := by decide +kernel
theorem dX6_drop_0 : decode cX6_drop 0 = .ok (.aload_n 0, 1) := by decide +kernel
theorem dX6_drop_1 : decode cX6_drop 1 = .ok (.iload_n 1, 1) := by decide +kernel
theorem dX6_drop_2 : decode cX6_drop 2 = .ok (.invokevirtual 71, 3) := by decide +kernel
theorem dX6_drop_5 : decode cX6_drop 5 = .ok (.ifCond .ne 5, 3) := by decide +kernel
theorem dX6_drop_8 : decode cX6_drop 8 = .ok (.iconst (-1), 1) := by decide +kernel
theorem dX6_drop_9 : decode cX6_drop 9 = .ok (.ireturn, 1) := by decide +kernel
theorem dX6_drop_10 : decode cX6_drop 10 = .ok (.aload_n 0, 1) := by decide +kernel
theorem dX6_drop_11 : decode cX6_drop 11 = .ok (.invokevirtual 53, 3) := by decide +kernel
theorem dX6_drop_14 : decode cX6_drop 14 = .ok (.aload_n 0, 1) := by decide +kernel
theorem dX6_drop_15 : decode cX6_drop 15 = .ok (.iload_n 1, 1) := by decide +kernel
theorem dX6_drop_16 : decode cX6_drop 16 = .ok (.invokevirtual 75, 3) := by decide +kernel
theorem dX6_drop_19 : decode cX6_drop 19 = .ok (.aload_n 0, 1) := by decide +kernel
theorem dX6_drop_20 : decode cX6_drop 20 = .ok (.getfield 7, 3) := by decide +kernel
theorem dX6_drop_23 : decode cX6_drop 23 = .ok (.iconst 0, 1) := by decide +kernel
theorem dX6_drop_24 : decode cX6_drop 24 = .ok (.iaload, 1) := by decide +kernel
theorem dX6_drop_25 : decode cX6_drop 25 = .ok (.ireturn, 1) := by decide +kernel
theorem dX6_go_0 : decode cX6_go 0 = .ok (.aload_n 0, 1) := by decide +kernel
theorem dX6_go_1 : decode cX6_go 1 = .ok (.invokevirtual 53, 3) := by decide +kernel
theorem dX6_go_4 : decode cX6_go 4 = .ok (.aload_n 0, 1) := by decide +kernel
theorem dX6_go_5 : decode cX6_go 5 = .ok (.getfield 7, 3) := by decide +kernel
theorem dX6_go_8 : decode cX6_go 8 = .ok (.iconst 0, 1) := by decide +kernel
theorem dX6_go_9 : decode cX6_go 9 = .ok (.iaload, 1) := by decide +kernel
theorem dX6_go_10 : decode cX6_go 10 = .ok (.iconst 1, 1) := by decide +kernel
theorem dX6_go_11 : decode cX6_go 11 = .ok (.isub, 1) := by decide +kernel
theorem dX6_go_12 : decode cX6_go 12 = .ok (.istore_n 1, 1) := by decide +kernel
theorem dX6_go_13 : decode cX6_go 13 = .ok (.iload_n 1, 1) := by decide +kernel
theorem dX6_go_14 : decode cX6_go 14 = .ok (.ifCond .lt 58, 3) := by decide +kernel
theorem dX6_go_17 : decode cX6_go 17 = .ok (.aload_n 0, 1) := by decide +kernel
theorem dX6_go_18 : decode cX6_go 18 = .ok (.iload_n 1, 1) := by decide +kernel
theorem dX6_go_19 : decode cX6_go 19 = .ok (.iconst 0, 1) := by decide +kernel
theorem dX6_go_20 : decode cX6_go 20 = .ok (.invokevirtual 56, 3) := by decide +kernel
theorem dX6_go_23 : decode cX6_go 23 = .ok (.aload_n 0, 1) := by decide +kernel
theorem dX6_go_24 : decode cX6_go 24 = .ok (.iload_n 1, 1) := by decide +kernel
theorem dX6_go_25 : decode cX6_go 25 = .ok (.iconst 2, 1) := by decide +kernel
theorem dX6_go_26 : decode cX6_go 26 = .ok (.invokevirtual 56, 3) := by decide +kernel
theorem dX6_go_29 : decode cX6_go 29 = .ok (.aload_n 0, 1) := by decide +kernel
theorem dX6_go_30 : decode cX6_go 30 = .ok (.getfield 7, 3) := by decide +kernel
theorem dX6_go_33 : decode cX6_go 33 = .ok (.iconst 1, 1) := by decide +kernel
theorem dX6_go_34 : decode cX6_go 34 = .ok (.iaload, 1) := by decide +kernel
theorem dX6_go_35 : decode cX6_go 35 = .ok (.imul, 1) := by decide +kernel
theorem dX6_go_36 : decode cX6_go 36 = .ok (.iadd, 1) := by decide +kernel
theorem dX6_go_37 : decode cX6_go 37 = .ok (.istore_n 2, 1) := by decide +kernel
theorem dX6_go_38 : decode cX6_go 38 = .ok (.aload_n 0, 1) := by decide +kernel
theorem dX6_go_39 : decode cX6_go 39 = .ok (.getfield 7, 3) := by decide +kernel
theorem dX6_go_42 : decode cX6_go 42 = .ok (.bipush 8, 2) := by decide +kernel
theorem dX6_go_44 : decode cX6_go 44 = .ok (.iconst 4, 1) := by decide +kernel
theorem dX6_go_45 : decode cX6_go 45 = .ok (.iload_n 1, 1) := by decide +kernel
theorem dX6_go_46 : decode cX6_go 46 = .ok (.imul, 1) := by decide +kernel
theorem dX6_go_47 : decode cX6_go 47 = .ok (.iadd, 1) := by decide +kernel
theorem dX6_go_48 : decode cX6_go 48 = .ok (.iload_n 2, 1) := by decide +kernel
theorem dX6_go_49 : decode cX6_go 49 = .ok (.iastore, 1) := by decide +kernel
theorem dX6_go_50 : decode cX6_go 50 = .ok (.iload_n 2, 1) := by decide +kernel
theorem dX6_go_51 : decode cX6_go 51 = .ok (.iconst 1, 1) := by decide +kernel
theorem dX6_go_52 : decode cX6_go 52 = .ok (.sipush 300, 3) := by decide +kernel
theorem dX6_go_55 : decode cX6_go 55 = .ok (.invokestatic 41, 3) := by decide +kernel
theorem dX6_go_58 : decode cX6_go 58 = .ok (.ifCond .ne 8, 3) := by decide +kernel
theorem dX6_go_61 : decode cX6_go 61 = .ok (.aload_n 0, 1) := by decide +kernel
theorem dX6_go_62 : decode cX6_go 62 = .ok (.iload_n 1, 1) := by decide +kernel
theorem dX6_go_63 : decode cX6_go 63 = .ok (.invokevirtual 75, 3) := by decide +kernel
theorem dX6_go_66 : decode cX6_go 66 = .ok (.iinc 1 (-1), 3) := by decide +kernel
theorem dX6_go_69 : decode cX6_go 69 = .ok (.goto (-56), 3) := by decide +kernel
theorem dX6_go_72 : decode cX6_go 72 = .ok (.aload_n 0, 1) := by decide +kernel
theorem dX6_go_73 : decode cX6_go 73 = .ok (.getfield 7, 3) := by decide +kernel
theorem dX6_go_76 : decode cX6_go 76 = .ok (.iconst 0, 1) := by decide +kernel
theorem dX6_go_77 : decode cX6_go 77 = .ok (.iaload, 1) := by decide +kernel
theorem dX6_go_78 : decode cX6_go 78 = .ok (.ireturn, 1) := by decide +kernel
theorem dX6_isSpacing_0 : decode cX6_isSpacing 0 = .ok (.iload_n 0, 1) := by decide +kernel
theorem dX6_isSpacing_1 : decode cX6_isSpacing 1 = .ok (.bipush 10, 2) := by decide +kernel
theorem dX6_isSpacing_3 : decode cX6_isSpacing 3 = .ok (.bipush 50, 2) := by decide +kernel
theorem dX6_isSpacing_5 : decode cX6_isSpacing 5 = .ok (.invokestatic 41, 3) := by decide +kernel
theorem dX6_isSpacing_8 : decode cX6_isSpacing 8 = .ok (.ireturn, 1) := by decide +kernel
theorem dX6_spacings_0 : decode cX6_spacings 0 = .ok (.iload_n 1, 1) := by decide +kernel
theorem dX6_spacings_1 : decode cX6_spacings 1 = .ok (.invokestatic 79, 3) := by decide +kernel
theorem dX6_spacings_4 : decode cX6_spacings 4 = .ok (.ifCond .eq 50, 3) := by decide +kernel
theorem dX6_spacings_7 : decode cX6_spacings 7 = .ok (.iload_n 2, 1) := by decide +kernel
theorem dX6_spacings_8 : decode cX6_spacings 8 = .ok (.ifCond .eq 10, 3) := by decide +kernel
theorem dX6_spacings_11 : decode cX6_spacings 11 = .ok (.iload_n 2, 1) := by decide +kernel
theorem dX6_spacings_12 : decode cX6_spacings 12 = .ok (.invokestatic 79, 3) := by decide +kernel
theorem dX6_spacings_15 : decode cX6_spacings 15 = .ok (.ifCond .eq 39, 3) := by decide +kernel
theorem dX6_spacings_18 : decode cX6_spacings 18 = .ok (.iload_n 3, 1) := by decide +kernel
theorem dX6_spacings_19 : decode cX6_spacings 19 = .ok (.ifCond .eq 14, 3) := by decide +kernel
theorem dX6_spacings_22 : decode cX6_spacings 22 = .ok (.iload_n 3, 1) := by decide +kernel
theorem dX6_spacings_23 : decode cX6_spacings 23 = .ok (.invokestatic 79, 3) := by decide +kernel
theorem dX6_spacings_26 : decode cX6_spacings 26 = .ok (.ifCond .eq 28, 3) := by decide +kernel
theorem dX6_spacings_29 : decode cX6_spacings 29 = .ok (.iload_n 2, 1) := by decide +kernel
theorem dX6_spacings_30 : decode cX6_spacings 30 = .ok (.ifCond .le 24, 3) := by decide +kernel
theorem dX6_spacings_33 : decode cX6_spacings 33 = .ok (.iload 4, 2) := by decide +kernel
theorem dX6_spacings_35 : decode cX6_spacings 35 = .ok (.ifCond .eq 15, 3) := by decide +kernel
theorem dX6_spacings_38 : decode cX6_spacings 38 = .ok (.iload 4, 2) := by decide +kernel
theorem dX6_spacings_40 : decode cX6_spacings 40 = .ok (.invokestatic 79, 3) := by decide +kernel
theorem dX6_spacings_43 : decode cX6_spacings 43 = .ok (.ifCond .eq 11, 3) := by decide +kernel
theorem dX6_spacings_46 : decode cX6_spacings 46 = .ok (.iload_n 3, 1) := by decide +kernel
theorem dX6_spacings_47 : decode cX6_spacings 47 = .ok (.ifCond .le 7, 3) := by decide +kernel
theorem dX6_spacings_50 : decode cX6_spacings 50 = .ok (.iconst 1, 1) := by decide +kernel
theorem dX6_spacings_51 : decode cX6_spacings 51 = .ok (.goto 4, 3) := by decide +kernel
theorem dX6_spacings_54 : decode cX6_spacings 54 = .ok (.iconst 0, 1) := by decide +kernel
theorem dX6_spacings_55 : decode cX6_spacings 55 = .ok (.istore 5, 2) := by decide +kernel
theorem dX6_spacings_57 : decode cX6_spacings 57 = .ok (.iload 5, 2) := by decide +kernel
theorem dX6_spacings_59 : decode cX6_spacings 59 = .ok (.ifCond .ne 5, 3) := by decide +kernel
theorem dX6_spacings_62 : decode cX6_spacings 62 = .ok (.iconst (-1), 1) := by decide +kernel
theorem dX6_spacings_63 : decode cX6_spacings 63 = .ok (.ireturn, 1) := by decide +kernel
theorem dX6_spacings_64 : decode cX6_spacings 64 = .ok (.aload_n 0, 1) := by decide +kernel
theorem dX6_spacings_65 : decode cX6_spacings 65 = .ok (.invokevirtual 53, 3) := by decide +kernel
theorem dX6_spacings_68 : decode cX6_spacings 68 = .ok (.aload_n 0, 1) := by decide +kernel
theorem dX6_spacings_69 : decode cX6_spacings 69 = .ok (.getfield 7, 3) := by decide +kernel
theorem dX6_spacings_72 : decode cX6_spacings 72 = .ok (.iconst 2, 1) := by decide +kernel
theorem dX6_spacings_73 : decode cX6_spacings 73 = .ok (.iload_n 1, 1) := by decide +kernel
theorem dX6_spacings_74 : decode cX6_spacings 74 = .ok (.iastore, 1) := by decide +kernel
theorem dX6_spacings_75 : decode cX6_spacings 75 = .ok (.aload_n 0, 1) := by decide +kernel
theorem dX6_spacings_76 : decode cX6_spacings 76 = .ok (.getfield 7, 3) := by decide +kernel
theorem dX6_spacings_79 : decode cX6_spacings 79 = .ok (.iconst 3, 1) := by decide +kernel
theorem dX6_spacings_80 : decode cX6_spacings 80 = .ok (.iload_n 2, 1) := by decide +kernel
theorem dX6_spacings_81 : decode cX6_spacings 81 = .ok (.iastore, 1) := by decide +kernel
theorem dX6_spacings_82 : decode cX6_spacings 82 = .ok (.aload_n 0, 1) := by decide +kernel
theorem dX6_spacings_83 : decode cX6_spacings 83 = .ok (.getfield 7, 3) := by decide +kernel
theorem dX6_spacings_86 : decode cX6_spacings 86 = .ok (.iconst 4, 1) := by decide +kernel
theorem dX6_spacings_87 : decode cX6_spacings 87 = .ok (.iload_n 3, 1) := by decide +kernel
theorem dX6_spacings_88 : decode cX6_spacings 88 = .ok (.iastore, 1) := by decide +kernel
theorem dX6_spacings_89 : decode cX6_spacings 89 = .ok (.aload_n 0, 1) := by decide +kernel
theorem dX6_spacings_90 : decode cX6_spacings 90 = .ok (.getfield 7, 3) := by decide +kernel
theorem dX6_spacings_93 : decode cX6_spacings 93 = .ok (.iconst 5, 1) := by decide +kernel
theorem dX6_spacings_94 : decode cX6_spacings 94 = .ok (.iload 4, 2) := by decide +kernel
theorem dX6_spacings_96 : decode cX6_spacings 96 = .ok (.iastore, 1) := by decide +kernel
theorem dX6_spacings_97 : decode cX6_spacings 97 = .ok (.aload_n 0, 1) := by decide +kernel
theorem dX6_spacings_98 : decode cX6_spacings 98 = .ok (.getfield 7, 3) := by decide +kernel
theorem dX6_spacings_101 : decode cX6_spacings 101 = .ok (.iconst 1, 1) := by decide +kernel
theorem dX6_spacings_102 : decode cX6_spacings 102 = .ok (.iload_n 2, 1) := by decide +kernel
theorem dX6_spacings_103 : decode cX6_spacings 103 = .ok (.ifCond .ne 7, 3) := by decide +kernel
theorem dX6_spacings_106 : decode cX6_spacings 106 = .ok (.iconst 1, 1) := by decide +kernel
theorem dX6_spacings_107 : decode cX6_spacings 107 = .ok (.goto 21, 3) := by decide +kernel
theorem dX6_spacings_110 : decode cX6_spacings 110 = .ok (.iload_n 3, 1) := by decide +kernel
theorem dX6_spacings_111 : decode cX6_spacings 111 = .ok (.ifCond .ne 7, 3) := by decide +kernel
theorem dX6_spacings_114 : decode cX6_spacings 114 = .ok (.iconst 2, 1) := by decide +kernel
theorem dX6_spacings_115 : decode cX6_spacings 115 = .ok (.goto 13, 3) := by decide +kernel
theorem dX6_spacings_118 : decode cX6_spacings 118 = .ok (.iload 4, 2) := by decide +kernel
theorem dX6_spacings_120 : decode cX6_spacings 120 = .ok (.ifCond .ne 7, 3) := by decide +kernel
theorem dX6_spacings_123 : decode cX6_spacings 123 = .ok (.iconst 3, 1) := by decide +kernel
theorem dX6_spacings_124 : decode cX6_spacings 124 = .ok (.goto 4, 3) := by decide +kernel
theorem dX6_spacings_127 : decode cX6_spacings 127 = .ok (.iconst 4, 1) := by decide +kernel
theorem dX6_spacings_128 : decode cX6_spacings 128 = .ok (.iastore, 1) := by decide +kernel
theorem dX6_spacings_129 : decode cX6_spacings 129 = .ok (.aload_n 0, 1) := by decide +kernel
theorem dX6_spacings_130 : decode cX6_spacings 130 = .ok (.getfield 7, 3) := by decide +kernel
theorem dX6_spacings_133 : decode cX6_spacings 133 = .ok (.iconst 1, 1) := by decide +kernel
theorem dX6_spacings_134 : decode cX6_spacings 134 = .ok (.iaload, 1) := by decide +kernel
theorem dX6_spacings_135 : decode cX6_spacings 135 = .ok (.ireturn, 1) := by decide +kernel
theorem dX6_set_0 : decode cX6_set 0 = .ok (.iload_n 1, 1) := by decide +kernel
theorem dX6_set_1 : decode cX6_set 1 = .ok (.iconst 0, 1) := by decide +kernel
theorem dX6_set_2 : decode cX6_set 2 = .ok (.iconst 1, 1) := by decide +kernel
theorem dX6_set_3 : decode cX6_set 3 = .ok (.invokestatic 41, 3) := by decide +kernel
theorem dX6_set_6 : decode cX6_set 6 = .ok (.ifCond .eq 30, 3) := by decide +kernel
theorem dX6_set_9 : decode cX6_set 9 = .ok (.iload_n 1, 1) := by decide +kernel
theorem dX6_set_10 : decode cX6_set 10 = .ok (.ifCond .ne 16, 3) := by decide +kernel
theorem dX6_set_13 : decode cX6_set 13 = .ok (.iload_n 2, 1) := by decide +kernel
theorem dX6_set_14 : decode cX6_set 14 = .ok (.iconst 0, 1) := by decide +kernel
theorem dX6_set_15 : decode cX6_set 15 = .ok (.bipush 9, 2) := by decide +kernel
theorem dX6_set_17 : decode cX6_set 17 = .ok (.invokestatic 41, 3) := by decide +kernel
theorem dX6_set_20 : decode cX6_set 20 = .ok (.ifCond .eq 16, 3) := by decide +kernel
theorem dX6_set_23 : decode cX6_set 23 = .ok (.goto 15, 3) := by decide +kernel
theorem dX6_set_26 : decode cX6_set 26 = .ok (.iload_n 2, 1) := by decide +kernel
theorem dX6_set_27 : decode cX6_set 27 = .ok (.iconst 1, 1) := by decide +kernel
theorem dX6_set_28 : decode cX6_set 28 = .ok (.bipush 99, 2) := by decide +kernel
theorem dX6_set_30 : decode cX6_set 30 = .ok (.invokestatic 41, 3) := by decide +kernel
theorem dX6_set_33 : decode cX6_set 33 = .ok (.ifCond .ne 5, 3) := by decide +kernel
theorem dX6_set_36 : decode cX6_set 36 = .ok (.iconst (-1), 1) := by decide +kernel
theorem dX6_set_37 : decode cX6_set 37 = .ok (.ireturn, 1) := by decide +kernel
theorem dX6_set_38 : decode cX6_set 38 = .ok (.aload_n 0, 1) := by decide +kernel
theorem dX6_set_39 : decode cX6_set 39 = .ok (.invokevirtual 53, 3) := by decide +kernel
theorem dX6_set_42 : decode cX6_set 42 = .ok (.aload_n 0, 1) := by decide +kernel
theorem dX6_set_43 : decode cX6_set 43 = .ok (.getfield 7, 3) := by decide +kernel
theorem dX6_set_46 : decode cX6_set 46 = .ok (.bipush 6, 2) := by decide +kernel
theorem dX6_set_48 : decode cX6_set 48 = .ok (.iload_n 1, 1) := by decide +kernel
theorem dX6_set_49 : decode cX6_set 49 = .ok (.iadd, 1) := by decide +kernel
theorem dX6_set_50 : decode cX6_set 50 = .ok (.iaload, 1) := by decide +kernel
theorem dX6_set_51 : decode cX6_set 51 = .ok (.istore_n 3, 1) := by decide +kernel
theorem dX6_set_52 : decode cX6_set 52 = .ok (.aload_n 0, 1) := by decide +kernel
theorem dX6_set_53 : decode cX6_set 53 = .ok (.getfield 7, 3) := by decide +kernel
theorem dX6_set_56 : decode cX6_set 56 = .ok (.bipush 6, 2) := by decide +kernel
theorem dX6_set_58 : decode cX6_set 58 = .ok (.iload_n 1, 1) := by decide +kernel
theorem dX6_set_59 : decode cX6_set 59 = .ok (.iadd, 1) := by decide +kernel
theorem dX6_set_60 : decode cX6_set 60 = .ok (.iload_n 2, 1) := by decide +kernel
theorem dX6_set_61 : decode cX6_set 61 = .ok (.iastore, 1) := by decide +kernel
theorem dX6_set_62 : decode cX6_set 62 = .ok (.iload_n 3, 1) := by decide +kernel
theorem dX6_set_63 : decode cX6_set 63 = .ok (.ireturn, 1) := by decide +kernel
theorem dX6_body_0 : decode cX6_body 0 = .ok (.aload_n 0, 1) := by decide +kernel
theorem dX6_body_1 : decode cX6_body 1 = .ok (.getfield 23, 3) := by decide +kernel
theorem dX6_body_4 : decode cX6_body 4 = .ok (.iconst 5, 1) := by decide +kernel
theorem dX6_body_5 : decode cX6_body 5 = .ok (.iload_n 1, 1) := by decide +kernel
theorem dX6_body_6 : decode cX6_body 6 = .ok (.imul, 1) := by decide +kernel
theorem dX6_body_7 : decode cX6_body 7 = .ok (.iload_n 2, 1) := by decide +kernel
theorem dX6_body_8 : decode cX6_body 8 = .ok (.iadd, 1) := by decide +kernel
theorem dX6_body_9 : decode cX6_body 9 = .ok (.iaload, 1) := by decide +kernel
theorem dX6_body_10 : decode cX6_body 10 = .ok (.ireturn, 1) := by decide +kernel
theorem dX6_layBody_0 : decode cX6_layBody 0 = .ok (.iconst 5, 1) := by decide +kernel
theorem dX6_layBody_1 : decode cX6_layBody 1 = .ok (.aload_n 0, 1) := by decide +kernel
theorem dX6_layBody_2 : decode cX6_layBody 2 = .ok (.getfield 82, 3) := by decide +kernel
theorem dX6_layBody_5 : decode cX6_layBody 5 = .ok (.imul, 1) := by decide +kernel
theorem dX6_layBody_6 : decode cX6_layBody 6 = .ok (.istore 6, 2) := by decide +kernel
theorem dX6_layBody_8 : decode cX6_layBody 8 = .ok (.aload_n 0, 1) := by decide +kernel
theorem dX6_layBody_9 : decode cX6_layBody 9 = .ok (.getfield 23, 3) := by decide +kernel
theorem dX6_layBody_12 : decode cX6_layBody 12 = .ok (.iload 6, 2) := by decide +kernel
theorem dX6_layBody_14 : decode cX6_layBody 14 = .ok (.iload_n 1, 1) := by decide +kernel
theorem dX6_layBody_15 : decode cX6_layBody 15 = .ok (.iastore, 1) := by decide +kernel
theorem dX6_layBody_16 : decode cX6_layBody 16 = .ok (.aload_n 0, 1) := by decide +kernel
theorem dX6_layBody_17 : decode cX6_layBody 17 = .ok (.getfield 23, 3) := by decide +kernel
theorem dX6_layBody_20 : decode cX6_layBody 20 = .ok (.iload 6, 2) := by decide +kernel
theorem dX6_layBody_22 : decode cX6_layBody 22 = .ok (.iconst 1, 1) := by decide +kernel
theorem dX6_layBody_23 : decode cX6_layBody 23 = .ok (.iadd, 1) := by decide +kernel
theorem dX6_layBody_24 : decode cX6_layBody 24 = .ok (.iload_n 2, 1) := by decide +kernel
theorem dX6_layBody_25 : decode cX6_layBody 25 = .ok (.iastore, 1) := by decide +kernel
theorem dX6_layBody_26 : decode cX6_layBody 26 = .ok (.aload_n 0, 1) := by decide +kernel
theorem dX6_layBody_27 : decode cX6_layBody 27 = .ok (.getfield 23, 3) := by decide +kernel
theorem dX6_layBody_30 : decode cX6_layBody 30 = .ok (.iload 6, 2) := by decide +kernel
theorem dX6_layBody_32 : decode cX6_layBody 32 = .ok (.iconst 2, 1) := by decide +kernel
theorem dX6_layBody_33 : decode cX6_layBody 33 = .ok (.iadd, 1) := by decide +kernel
theorem dX6_layBody_34 : decode cX6_layBody 34 = .ok (.iload_n 3, 1) := by decide +kernel
theorem dX6_layBody_35 : decode cX6_layBody 35 = .ok (.iastore, 1) := by decide +kernel
theorem dX6_layBody_36 : decode cX6_layBody 36 = .ok (.aload_n 0, 1) := by decide +kernel
theorem dX6_layBody_37 : decode cX6_layBody 37 = .ok (.getfield 23, 3) := by decide +kernel
theorem dX6_layBody_40 : decode cX6_layBody 40 = .ok (.iload 6, 2) := by decide +kernel
theorem dX6_layBody_42 : decode cX6_layBody 42 = .ok (.iconst 3, 1) := by decide +kernel
theorem dX6_layBody_43 : decode cX6_layBody 43 = .ok (.iadd, 1) := by decide +kernel
theorem dX6_layBody_44 : decode cX6_layBody 44 = .ok (.iload 4, 2) := by decide +kernel
theorem dX6_layBody_46 : decode cX6_layBody 46 = .ok (.iastore, 1) := by decide +kernel
theorem dX6_layBody_47 : decode cX6_layBody 47 = .ok (.aload_n 0, 1) := by decide +kernel
theorem dX6_layBody_48 : decode cX6_layBody 48 = .ok (.getfield 23, 3) := by decide +kernel
theorem dX6_layBody_51 : decode cX6_layBody 51 = .ok (.iload 6, 2) := by decide +kernel
theorem dX6_layBody_53 : decode cX6_layBody 53 = .ok (.iconst 4, 1) := by decide +kernel
theorem dX6_layBody_54 : decode cX6_layBody 54 = .ok (.iadd, 1) := by decide +kernel
theorem dX6_layBody_55 : decode cX6_layBody 55 = .ok (.iload 5, 2) := by decide +kernel
theorem dX6_layBody_57 : decode cX6_layBody 57 = .ok (.iastore, 1) := by decide +kernel
theorem dX6_layBody_58 : decode cX6_layBody 58 = .ok (.aload_n 0, 1) := by decide +kernel
theorem dX6_layBody_59 : decode cX6_layBody 59 = .ok (.dup, 1) := by decide +kernel
theorem dX6_layBody_60 : decode cX6_layBody 60 = .ok (.getfield 82, 3) := by decide +kernel
theorem dX6_layBody_63 : decode cX6_layBody 63 = .ok (.iconst 1, 1) := by decide +kernel
theorem dX6_layBody_64 : decode cX6_layBody 64 = .ok (.iadd, 1) := by decide +kernel
theorem dX6_layBody_65 : decode cX6_layBody 65 = .ok (.putfield 82, 3) := by decide +kernel
theorem dX6_layBody_68 : decode cX6_layBody 68 = .ok (.return_, 1) := by decide +kernel
theorem dX6_placeIn_0 : decode cX6_placeIn 0 = .ok (.iload_n 1, 1) := by decide +kernel
theorem dX6_placeIn_1 : decode cX6_placeIn 1 = .ok (.iload_n 2, 1) := by decide +kernel
theorem dX6_placeIn_2 : decode cX6_placeIn 2 = .ok (.iload_n 3, 1) := by decide +kernel
theorem dX6_placeIn_3 : decode cX6_placeIn 3 = .ok (.imul, 1) := by decide +kernel
theorem dX6_placeIn_4 : decode cX6_placeIn 4 = .ok (.iadd, 1) := by decide +kernel
theorem dX6_placeIn_5 : decode cX6_placeIn 5 = .ok (.istore 4, 2) := by decide +kernel
theorem dX6_placeIn_7 : decode cX6_placeIn 7 = .ok (.iload 4, 2) := by decide +kernel
theorem dX6_placeIn_9 : decode cX6_placeIn 9 = .ok (.ifCond .ge 7, 3) := by decide +kernel
theorem dX6_placeIn_12 : decode cX6_placeIn 12 = .ok (.iconst 0, 1) := by decide +kernel
theorem dX6_placeIn_13 : decode cX6_placeIn 13 = .ok (.goto 5, 3) := by decide +kernel
theorem dX6_placeIn_16 : decode cX6_placeIn 16 = .ok (.iload 4, 2) := by decide +kernel
theorem dX6_placeIn_18 : decode cX6_placeIn 18 = .ok (.aload_n 0, 1) := by decide +kernel
theorem dX6_placeIn_19 : decode cX6_placeIn 19 = .ok (.getfield 7, 3) := by decide +kernel
theorem dX6_placeIn_22 : decode cX6_placeIn 22 = .ok (.iconst 2, 1) := by decide +kernel
theorem dX6_placeIn_23 : decode cX6_placeIn 23 = .ok (.iload_n 3, 1) := by decide +kernel
theorem dX6_placeIn_24 : decode cX6_placeIn 24 = .ok (.iadd, 1) := by decide +kernel
theorem dX6_placeIn_25 : decode cX6_placeIn 25 = .ok (.iaload, 1) := by decide +kernel
theorem dX6_placeIn_26 : decode cX6_placeIn 26 = .ok (.irem, 1) := by decide +kernel
theorem dX6_placeIn_27 : decode cX6_placeIn 27 = .ok (.ireturn, 1) := by decide +kernel
theorem dX6_mark_0 : decode cX6_mark 0 = .ok (.iload_n 0, 1) := by decide +kernel
theorem dX6_mark_1 : decode cX6_mark 1 = .ok (.bipush 50, 2) := by decide +kernel
theorem dX6_mark_3 : decode cX6_mark 3 = .ok (.imul, 1) := by decide +kernel
theorem dX6_mark_4 : decode cX6_mark 4 = .ok (.iload_n 1, 1) := by decide +kernel
theorem dX6_mark_5 : decode cX6_mark 5 = .ok (.iadd, 1) := by decide +kernel
theorem dX6_mark_6 : decode cX6_mark 6 = .ok (.bipush 11, 2) := by decide +kernel
theorem dX6_mark_8 : decode cX6_mark 8 = .ok (.imul, 1) := by decide +kernel
theorem dX6_mark_9 : decode cX6_mark 9 = .ok (.iload_n 2, 1) := by decide +kernel
theorem dX6_mark_10 : decode cX6_mark 10 = .ok (.iadd, 1) := by decide +kernel
theorem dX6_mark_11 : decode cX6_mark 11 = .ok (.iconst 5, 1) := by decide +kernel
theorem dX6_mark_12 : decode cX6_mark 12 = .ok (.iadd, 1) := by decide +kernel
theorem dX6_mark_13 : decode cX6_mark 13 = .ok (.ireturn, 1) := by decide +kernel
theorem dX6_isFaint_0 : decode cX6_isFaint 0 = .ok (.aload_n 0, 1) := by decide +kernel
theorem dX6_isFaint_1 : decode cX6_isFaint 1 = .ok (.iload_n 1, 1) := by decide +kernel
theorem dX6_isFaint_2 : decode cX6_isFaint 2 = .ok (.iconst 1, 1) := by decide +kernel
theorem dX6_isFaint_3 : decode cX6_isFaint 3 = .ok (.invokevirtual 85, 3) := by decide +kernel
theorem dX6_isFaint_6 : decode cX6_isFaint 6 = .ok (.aload_n 0, 1) := by decide +kernel
theorem dX6_isFaint_7 : decode cX6_isFaint 7 = .ok (.getfield 7, 3) := by decide +kernel
theorem dX6_isFaint_10 : decode cX6_isFaint 10 = .ok (.bipush 7, 2) := by decide +kernel
theorem dX6_isFaint_12 : decode cX6_isFaint 12 = .ok (.iaload, 1) := by decide +kernel
theorem dX6_isFaint_13 : decode cX6_isFaint 13 = .ok (.if_icmp .ge 7, 3) := by decide +kernel
theorem dX6_isFaint_16 : decode cX6_isFaint 16 = .ok (.iconst 1, 1) := by decide +kernel
theorem dX6_isFaint_17 : decode cX6_isFaint 17 = .ok (.goto 4, 3) := by decide +kernel
theorem dX6_isFaint_20 : decode cX6_isFaint 20 = .ok (.iconst 0, 1) := by decide +kernel
theorem dX6_isFaint_21 : decode cX6_isFaint 21 = .ok (.ireturn, 1) := by decide +kernel
theorem dX6_isLost_0 : decode cX6_isLost 0 = .ok (.aload_n 0, 1) := by decide +kernel
theorem dX6_isLost_1 : decode cX6_isLost 1 = .ok (.iload_n 1, 1) := by decide +kernel
theorem dX6_isLost_2 : decode cX6_isLost 2 = .ok (.invokevirtual 88, 3) := by decide +kernel
theorem dX6_isLost_5 : decode cX6_isLost 5 = .ok (.ifCond .ne 34, 3) := by decide +kernel
theorem dX6_isLost_8 : decode cX6_isLost 8 = .ok (.aload_n 0, 1) := by decide +kernel
theorem dX6_isLost_9 : decode cX6_isLost 9 = .ok (.aload_n 0, 1) := by decide +kernel
theorem dX6_isLost_10 : decode cX6_isLost 10 = .ok (.iload_n 1, 1) := by decide +kernel
theorem dX6_isLost_11 : decode cX6_isLost 11 = .ok (.iconst 0, 1) := by decide +kernel
theorem dX6_isLost_12 : decode cX6_isLost 12 = .ok (.invokevirtual 85, 3) := by decide +kernel
theorem dX6_isLost_15 : decode cX6_isLost 15 = .ok (.aload_n 0, 1) := by decide +kernel
theorem dX6_isLost_16 : decode cX6_isLost 16 = .ok (.iload_n 1, 1) := by decide +kernel
theorem dX6_isLost_17 : decode cX6_isLost 17 = .ok (.iconst 2, 1) := by decide +kernel
theorem dX6_isLost_18 : decode cX6_isLost 18 = .ok (.invokevirtual 85, 3) := by decide +kernel
theorem dX6_isLost_21 : decode cX6_isLost 21 = .ok (.iload_n 2, 1) := by decide +kernel
theorem dX6_isLost_22 : decode cX6_isLost 22 = .ok (.invokevirtual 91, 3) := by decide +kernel
theorem dX6_isLost_25 : decode cX6_isLost 25 = .ok (.aload_n 0, 1) := by decide +kernel
theorem dX6_isLost_26 : decode cX6_isLost 26 = .ok (.getfield 7, 3) := by decide +kernel
theorem dX6_isLost_29 : decode cX6_isLost 29 = .ok (.bipush 6, 2) := by decide +kernel
theorem dX6_isLost_31 : decode cX6_isLost 31 = .ok (.iaload, 1) := by decide +kernel
theorem dX6_isLost_32 : decode cX6_isLost 32 = .ok (.if_icmp .ge 7, 3) := by decide +kernel
theorem dX6_isLost_35 : decode cX6_isLost 35 = .ok (.iconst 1, 1) := by decide +kernel
theorem dX6_isLost_36 : decode cX6_isLost 36 = .ok (.goto 4, 3) := by decide +kernel
theorem dX6_isLost_39 : decode cX6_isLost 39 = .ok (.iconst 0, 1) := by decide +kernel
theorem dX6_isLost_40 : decode cX6_isLost 40 = .ok (.ireturn, 1) := by decide +kernel
theorem dX6_listen_0 : decode cX6_listen 0 = .ok (.aload_n 0, 1) := by decide +kernel
theorem dX6_listen_1 : decode cX6_listen 1 = .ok (.iconst 0, 1) := by decide +kernel
theorem dX6_listen_2 : decode cX6_listen 2 = .ok (.putfield 82, 3) := by decide +kernel
theorem dX6_listen_5 : decode cX6_listen 5 = .ok (.iconst 0, 1) := by decide +kernel
theorem dX6_listen_6 : decode cX6_listen 6 = .ok (.istore_n 1, 1) := by decide +kernel
theorem dX6_listen_7 : decode cX6_listen 7 = .ok (.iload_n 1, 1) := by decide +kernel
theorem dX6_listen_8 : decode cX6_listen 8 = .ok (.aload_n 0, 1) := by decide +kernel
theorem dX6_listen_9 : decode cX6_listen 9 = .ok (.getfield 7, 3) := by decide +kernel
theorem dX6_listen_12 : decode cX6_listen 12 = .ok (.iconst 0, 1) := by decide +kernel
theorem dX6_listen_13 : decode cX6_listen 13 = .ok (.iaload, 1) := by decide +kernel
theorem dX6_listen_14 : decode cX6_listen 14 = .ok (.if_icmp .ge 33, 3) := by decide +kernel
theorem dX6_listen_17 : decode cX6_listen 17 = .ok (.aload_n 0, 1) := by decide +kernel
theorem dX6_listen_18 : decode cX6_listen 18 = .ok (.aload_n 0, 1) := by decide +kernel
theorem dX6_listen_19 : decode cX6_listen 19 = .ok (.iload_n 1, 1) := by decide +kernel
theorem dX6_listen_20 : decode cX6_listen 20 = .ok (.iconst 0, 1) := by decide +kernel
theorem dX6_listen_21 : decode cX6_listen 21 = .ok (.invokevirtual 56, 3) := by decide +kernel
theorem dX6_listen_24 : decode cX6_listen 24 = .ok (.aload_n 0, 1) := by decide +kernel
theorem dX6_listen_25 : decode cX6_listen 25 = .ok (.iload_n 1, 1) := by decide +kernel
theorem dX6_listen_26 : decode cX6_listen 26 = .ok (.iconst 1, 1) := by decide +kernel
theorem dX6_listen_27 : decode cX6_listen 27 = .ok (.invokevirtual 56, 3) := by decide +kernel
theorem dX6_listen_30 : decode cX6_listen 30 = .ok (.aload_n 0, 1) := by decide +kernel
theorem dX6_listen_31 : decode cX6_listen 31 = .ok (.iload_n 1, 1) := by decide +kernel
theorem dX6_listen_32 : decode cX6_listen 32 = .ok (.iconst 2, 1) := by decide +kernel
theorem dX6_listen_33 : decode cX6_listen 33 = .ok (.invokevirtual 56, 3) := by decide +kernel
theorem dX6_listen_36 : decode cX6_listen 36 = .ok (.iload_n 1, 1) := by decide +kernel
theorem dX6_listen_37 : decode cX6_listen 37 = .ok (.iload_n 1, 1) := by decide +kernel
theorem dX6_listen_38 : decode cX6_listen 38 = .ok (.invokevirtual 95, 3) := by decide +kernel
theorem dX6_listen_41 : decode cX6_listen 41 = .ok (.iinc 1 1, 3) := by decide +kernel
theorem dX6_listen_44 : decode cX6_listen 44 = .ok (.goto (-37), 3) := by decide +kernel
theorem dX6_listen_47 : decode cX6_listen 47 = .ok (.iconst 0, 1) := by decide +kernel
theorem dX6_listen_48 : decode cX6_listen 48 = .ok (.istore_n 1, 1) := by decide +kernel
theorem dX6_listen_49 : decode cX6_listen 49 = .ok (.iload_n 1, 1) := by decide +kernel
theorem dX6_listen_50 : decode cX6_listen 50 = .ok (.aload_n 0, 1) := by decide +kernel
theorem dX6_listen_51 : decode cX6_listen 51 = .ok (.getfield 7, 3) := by decide +kernel
theorem dX6_listen_54 : decode cX6_listen 54 = .ok (.iconst 0, 1) := by decide +kernel
theorem dX6_listen_55 : decode cX6_listen 55 = .ok (.iaload, 1) := by decide +kernel
theorem dX6_listen_56 : decode cX6_listen 56 = .ok (.if_icmp .ge 132, 3) := by decide +kernel
theorem dX6_listen_59 : decode cX6_listen 59 = .ok (.iload_n 1, 1) := by decide +kernel
theorem dX6_listen_60 : decode cX6_listen 60 = .ok (.iconst 1, 1) := by decide +kernel
theorem dX6_listen_61 : decode cX6_listen 61 = .ok (.iadd, 1) := by decide +kernel
theorem dX6_listen_62 : decode cX6_listen 62 = .ok (.istore_n 2, 1) := by decide +kernel
theorem dX6_listen_63 : decode cX6_listen 63 = .ok (.iload_n 2, 1) := by decide +kernel
theorem dX6_listen_64 : decode cX6_listen 64 = .ok (.aload_n 0, 1) := by decide +kernel
theorem dX6_listen_65 : decode cX6_listen 65 = .ok (.getfield 7, 3) := by decide +kernel
theorem dX6_listen_68 : decode cX6_listen 68 = .ok (.iconst 0, 1) := by decide +kernel
theorem dX6_listen_69 : decode cX6_listen 69 = .ok (.iaload, 1) := by decide +kernel
theorem dX6_listen_70 : decode cX6_listen 70 = .ok (.if_icmp .ge 112, 3) := by decide +kernel
theorem dX6_listen_73 : decode cX6_listen 73 = .ok (.aload_n 0, 1) := by decide +kernel
theorem dX6_listen_74 : decode cX6_listen 74 = .ok (.iload_n 1, 1) := by decide +kernel
theorem dX6_listen_75 : decode cX6_listen 75 = .ok (.iconst 1, 1) := by decide +kernel
theorem dX6_listen_76 : decode cX6_listen 76 = .ok (.invokevirtual 56, 3) := by decide +kernel
theorem dX6_listen_79 : decode cX6_listen 79 = .ok (.aload_n 0, 1) := by decide +kernel
theorem dX6_listen_80 : decode cX6_listen 80 = .ok (.iload_n 2, 1) := by decide +kernel
theorem dX6_listen_81 : decode cX6_listen 81 = .ok (.iconst 1, 1) := by decide +kernel
theorem dX6_listen_82 : decode cX6_listen 82 = .ok (.invokevirtual 56, 3) := by decide +kernel
theorem dX6_listen_85 : decode cX6_listen 85 = .ok (.imul, 1) := by decide +kernel
theorem dX6_listen_86 : decode cX6_listen 86 = .ok (.sipush 200, 3) := by decide +kernel
theorem dX6_listen_89 : decode cX6_listen 89 = .ok (.idiv, 1) := by decide +kernel
theorem dX6_listen_90 : decode cX6_listen 90 = .ok (.istore_n 3, 1) := by decide +kernel
theorem dX6_listen_91 : decode cX6_listen 91 = .ok (.aload_n 0, 1) := by decide +kernel
theorem dX6_listen_92 : decode cX6_listen 92 = .ok (.iload_n 1, 1) := by decide +kernel
theorem dX6_listen_93 : decode cX6_listen 93 = .ok (.iconst 3, 1) := by decide +kernel
theorem dX6_listen_94 : decode cX6_listen 94 = .ok (.invokevirtual 56, 3) := by decide +kernel
theorem dX6_listen_97 : decode cX6_listen 97 = .ok (.iconst 1, 1) := by decide +kernel
theorem dX6_listen_98 : decode cX6_listen 98 = .ok (.if_icmp .ne 78, 3) := by decide +kernel
theorem dX6_listen_101 : decode cX6_listen 101 = .ok (.aload_n 0, 1) := by decide +kernel
theorem dX6_listen_102 : decode cX6_listen 102 = .ok (.iload_n 2, 1) := by decide +kernel
theorem dX6_listen_103 : decode cX6_listen 103 = .ok (.iconst 3, 1) := by decide +kernel
theorem dX6_listen_104 : decode cX6_listen 104 = .ok (.invokevirtual 56, 3) := by decide +kernel
theorem dX6_listen_107 : decode cX6_listen 107 = .ok (.iconst 1, 1) := by decide +kernel
theorem dX6_listen_108 : decode cX6_listen 108 = .ok (.if_icmp .ne 68, 3) := by decide +kernel
theorem dX6_listen_111 : decode cX6_listen 111 = .ok (.iload_n 3, 1) := by decide +kernel
theorem dX6_listen_112 : decode cX6_listen 112 = .ok (.ifCond .le 64, 3) := by decide +kernel
theorem dX6_listen_115 : decode cX6_listen 115 = .ok (.aload_n 0, 1) := by decide +kernel
theorem dX6_listen_116 : decode cX6_listen 116 = .ok (.iload_n 1, 1) := by decide +kernel
theorem dX6_listen_117 : decode cX6_listen 117 = .ok (.iconst 0, 1) := by decide +kernel
theorem dX6_listen_118 : decode cX6_listen 118 = .ok (.invokevirtual 56, 3) := by decide +kernel
theorem dX6_listen_121 : decode cX6_listen 121 = .ok (.aload_n 0, 1) := by decide +kernel
theorem dX6_listen_122 : decode cX6_listen 122 = .ok (.iload_n 2, 1) := by decide +kernel
theorem dX6_listen_123 : decode cX6_listen 123 = .ok (.iconst 0, 1) := by decide +kernel
theorem dX6_listen_124 : decode cX6_listen 124 = .ok (.invokevirtual 56, 3) := by decide +kernel
theorem dX6_listen_127 : decode cX6_listen 127 = .ok (.if_icmp .ge 12, 3) := by decide +kernel
theorem dX6_listen_130 : decode cX6_listen 130 = .ok (.aload_n 0, 1) := by decide +kernel
theorem dX6_listen_131 : decode cX6_listen 131 = .ok (.iload_n 1, 1) := by decide +kernel
theorem dX6_listen_132 : decode cX6_listen 132 = .ok (.iconst 0, 1) := by decide +kernel
theorem dX6_listen_133 : decode cX6_listen 133 = .ok (.invokevirtual 56, 3) := by decide +kernel
theorem dX6_listen_136 : decode cX6_listen 136 = .ok (.goto 9, 3) := by decide +kernel
theorem dX6_listen_139 : decode cX6_listen 139 = .ok (.aload_n 0, 1) := by decide +kernel
theorem dX6_listen_140 : decode cX6_listen 140 = .ok (.iload_n 2, 1) := by decide +kernel
theorem dX6_listen_141 : decode cX6_listen 141 = .ok (.iconst 0, 1) := by decide +kernel
theorem dX6_listen_142 : decode cX6_listen 142 = .ok (.invokevirtual 56, 3) := by decide +kernel
theorem dX6_listen_145 : decode cX6_listen 145 = .ok (.istore 4, 2) := by decide +kernel
theorem dX6_listen_147 : decode cX6_listen 147 = .ok (.aload_n 0, 1) := by decide +kernel
theorem dX6_listen_148 : decode cX6_listen 148 = .ok (.iconst 2, 1) := by decide +kernel
theorem dX6_listen_149 : decode cX6_listen 149 = .ok (.aload_n 0, 1) := by decide +kernel
theorem dX6_listen_150 : decode cX6_listen 150 = .ok (.iload_n 1, 1) := by decide +kernel
theorem dX6_listen_151 : decode cX6_listen 151 = .ok (.iconst 0, 1) := by decide +kernel
theorem dX6_listen_152 : decode cX6_listen 152 = .ok (.invokevirtual 56, 3) := by decide +kernel
theorem dX6_listen_155 : decode cX6_listen 155 = .ok (.aload_n 0, 1) := by decide +kernel
theorem dX6_listen_156 : decode cX6_listen 156 = .ok (.iload_n 2, 1) := by decide +kernel
theorem dX6_listen_157 : decode cX6_listen 157 = .ok (.iconst 0, 1) := by decide +kernel
theorem dX6_listen_158 : decode cX6_listen 158 = .ok (.invokevirtual 56, 3) := by decide +kernel
theorem dX6_listen_161 : decode cX6_listen 161 = .ok (.iadd, 1) := by decide +kernel
theorem dX6_listen_162 : decode cX6_listen 162 = .ok (.iload 4, 2) := by decide +kernel
theorem dX6_listen_164 : decode cX6_listen 164 = .ok (.isub, 1) := by decide +kernel
theorem dX6_listen_165 : decode cX6_listen 165 = .ok (.imul, 1) := by decide +kernel
theorem dX6_listen_166 : decode cX6_listen 166 = .ok (.iload 4, 2) := by decide +kernel
theorem dX6_listen_168 : decode cX6_listen 168 = .ok (.isub, 1) := by decide +kernel
theorem dX6_listen_169 : decode cX6_listen 169 = .ok (.iload_n 3, 1) := by decide +kernel
theorem dX6_listen_170 : decode cX6_listen 170 = .ok (.iconst 0, 1) := by decide +kernel
theorem dX6_listen_171 : decode cX6_listen 171 = .ok (.iload_n 1, 1) := by decide +kernel
theorem dX6_listen_172 : decode cX6_listen 172 = .ok (.iload_n 2, 1) := by decide +kernel
theorem dX6_listen_173 : decode cX6_listen 173 = .ok (.invokevirtual 95, 3) := by decide +kernel
theorem dX6_listen_176 : decode cX6_listen 176 = .ok (.iinc 2 1, 3) := by decide +kernel
theorem dX6_listen_179 : decode cX6_listen 179 = .ok (.goto (-116), 3) := by decide +kernel
theorem dX6_listen_182 : decode cX6_listen 182 = .ok (.iinc 1 1, 3) := by decide +kernel
theorem dX6_listen_185 : decode cX6_listen 185 = .ok (.goto (-136), 3) := by decide +kernel
theorem dX6_listen_188 : decode cX6_listen 188 = .ok (.iconst 0, 1) := by decide +kernel
theorem dX6_listen_189 : decode cX6_listen 189 = .ok (.istore_n 1, 1) := by decide +kernel
theorem dX6_listen_190 : decode cX6_listen 190 = .ok (.iload_n 1, 1) := by decide +kernel
theorem dX6_listen_191 : decode cX6_listen 191 = .ok (.sipush 2200, 3) := by decide +kernel
theorem dX6_listen_194 : decode cX6_listen 194 = .ok (.if_icmp .ge 23, 3) := by decide +kernel
theorem dX6_listen_197 : decode cX6_listen 197 = .ok (.aload_n 0, 1) := by decide +kernel
theorem dX6_listen_198 : decode cX6_listen 198 = .ok (.getfield 26, 3) := by decide +kernel
theorem dX6_listen_201 : decode cX6_listen 201 = .ok (.iload_n 1, 1) := by decide +kernel
theorem dX6_listen_202 : decode cX6_listen 202 = .ok (.iconst 0, 1) := by decide +kernel
theorem dX6_listen_203 : decode cX6_listen 203 = .ok (.iastore, 1) := by decide +kernel
theorem dX6_listen_204 : decode cX6_listen 204 = .ok (.aload_n 0, 1) := by decide +kernel
theorem dX6_listen_205 : decode cX6_listen 205 = .ok (.getfield 29, 3) := by decide +kernel
theorem dX6_listen_208 : decode cX6_listen 208 = .ok (.iload_n 1, 1) := by decide +kernel
theorem dX6_listen_209 : decode cX6_listen 209 = .ok (.iconst 0, 1) := by decide +kernel
theorem dX6_listen_210 : decode cX6_listen 210 = .ok (.iastore, 1) := by decide +kernel
theorem dX6_listen_211 : decode cX6_listen 211 = .ok (.iinc 1 1, 3) := by decide +kernel
theorem dX6_listen_214 : decode cX6_listen 214 = .ok (.goto (-24), 3) := by decide +kernel
theorem dX6_listen_217 : decode cX6_listen 217 = .ok (.iconst 0, 1) := by decide +kernel
theorem dX6_listen_218 : decode cX6_listen 218 = .ok (.istore_n 1, 1) := by decide +kernel
theorem dX6_listen_219 : decode cX6_listen 219 = .ok (.iload_n 1, 1) := by decide +kernel
theorem dX6_listen_220 : decode cX6_listen 220 = .ok (.aload_n 0, 1) := by decide +kernel
theorem dX6_listen_221 : decode cX6_listen 221 = .ok (.getfield 7, 3) := by decide +kernel
theorem dX6_listen_224 : decode cX6_listen 224 = .ok (.iconst 1, 1) := by decide +kernel
theorem dX6_listen_225 : decode cX6_listen 225 = .ok (.iaload, 1) := by decide +kernel
theorem dX6_listen_226 : decode cX6_listen 226 = .ok (.if_icmp .ge 95, 3) := by decide +kernel
theorem dX6_listen_229 : decode cX6_listen 229 = .ok (.iconst 0, 1) := by decide +kernel
theorem dX6_listen_230 : decode cX6_listen 230 = .ok (.istore_n 2, 1) := by decide +kernel
theorem dX6_listen_231 : decode cX6_listen 231 = .ok (.iload_n 2, 1) := by decide +kernel
theorem dX6_listen_232 : decode cX6_listen 232 = .ok (.aload_n 0, 1) := by decide +kernel
theorem dX6_listen_233 : decode cX6_listen 233 = .ok (.getfield 82, 3) := by decide +kernel
theorem dX6_listen_236 : decode cX6_listen 236 = .ok (.if_icmp .ge 79, 3) := by decide +kernel
theorem dX6_listen_239 : decode cX6_listen 239 = .ok (.aload_n 0, 1) := by decide +kernel
theorem dX6_listen_240 : decode cX6_listen 240 = .ok (.iload_n 2, 1) := by decide +kernel
theorem dX6_listen_241 : decode cX6_listen 241 = .ok (.invokevirtual 88, 3) := by decide +kernel
theorem dX6_listen_244 : decode cX6_listen 244 = .ok (.ifCond .ne 65, 3) := by decide +kernel
theorem dX6_listen_247 : decode cX6_listen 247 = .ok (.aload_n 0, 1) := by decide +kernel
theorem dX6_listen_248 : decode cX6_listen 248 = .ok (.iload_n 2, 1) := by decide +kernel
theorem dX6_listen_249 : decode cX6_listen 249 = .ok (.iload_n 1, 1) := by decide +kernel
theorem dX6_listen_250 : decode cX6_listen 250 = .ok (.invokevirtual 99, 3) := by decide +kernel
theorem dX6_listen_253 : decode cX6_listen 253 = .ok (.ifCond .ne 56, 3) := by decide +kernel
theorem dX6_listen_256 : decode cX6_listen 256 = .ok (.iload_n 1, 1) := by decide +kernel
theorem dX6_listen_257 : decode cX6_listen 257 = .ok (.aload_n 0, 1) := by decide +kernel
theorem dX6_listen_258 : decode cX6_listen 258 = .ok (.aload_n 0, 1) := by decide +kernel
theorem dX6_listen_259 : decode cX6_listen 259 = .ok (.iload_n 2, 1) := by decide +kernel
theorem dX6_listen_260 : decode cX6_listen 260 = .ok (.iconst 0, 1) := by decide +kernel
theorem dX6_listen_261 : decode cX6_listen 261 = .ok (.invokevirtual 85, 3) := by decide +kernel
theorem dX6_listen_264 : decode cX6_listen 264 = .ok (.aload_n 0, 1) := by decide +kernel
theorem dX6_listen_265 : decode cX6_listen 265 = .ok (.iload_n 2, 1) := by decide +kernel
theorem dX6_listen_266 : decode cX6_listen 266 = .ok (.iconst 2, 1) := by decide +kernel
theorem dX6_listen_267 : decode cX6_listen 267 = .ok (.invokevirtual 85, 3) := by decide +kernel
theorem dX6_listen_270 : decode cX6_listen 270 = .ok (.iload_n 1, 1) := by decide +kernel
theorem dX6_listen_271 : decode cX6_listen 271 = .ok (.invokevirtual 91, 3) := by decide +kernel
theorem dX6_listen_274 : decode cX6_listen 274 = .ok (.aload_n 0, 1) := by decide +kernel
theorem dX6_listen_275 : decode cX6_listen 275 = .ok (.iload_n 2, 1) := by decide +kernel
theorem dX6_listen_276 : decode cX6_listen 276 = .ok (.iconst 2, 1) := by decide +kernel
theorem dX6_listen_277 : decode cX6_listen 277 = .ok (.invokevirtual 85, 3) := by decide +kernel
theorem dX6_listen_280 : decode cX6_listen 280 = .ok (.invokestatic 102, 3) := by decide +kernel
theorem dX6_listen_283 : decode cX6_listen 283 = .ok (.istore_n 3, 1) := by decide +kernel
theorem dX6_listen_284 : decode cX6_listen 284 = .ok (.aload_n 0, 1) := by decide +kernel
theorem dX6_listen_285 : decode cX6_listen 285 = .ok (.getfield 26, 3) := by decide +kernel
theorem dX6_listen_288 : decode cX6_listen 288 = .ok (.iload_n 3, 1) := by decide +kernel
theorem dX6_listen_289 : decode cX6_listen 289 = .ok (.dup2, 1) := by decide +kernel
theorem dX6_listen_290 : decode cX6_listen 290 = .ok (.iaload, 1) := by decide +kernel
theorem dX6_listen_291 : decode cX6_listen 291 = .ok (.aload_n 0, 1) := by decide +kernel
theorem dX6_listen_292 : decode cX6_listen 292 = .ok (.iload_n 2, 1) := by decide +kernel
theorem dX6_listen_293 : decode cX6_listen 293 = .ok (.iconst 1, 1) := by decide +kernel
theorem dX6_listen_294 : decode cX6_listen 294 = .ok (.invokevirtual 85, 3) := by decide +kernel
theorem dX6_listen_297 : decode cX6_listen 297 = .ok (.iadd, 1) := by decide +kernel
theorem dX6_listen_298 : decode cX6_listen 298 = .ok (.iastore, 1) := by decide +kernel
theorem dX6_listen_299 : decode cX6_listen 299 = .ok (.aload_n 0, 1) := by decide +kernel
theorem dX6_listen_300 : decode cX6_listen 300 = .ok (.getfield 29, 3) := by decide +kernel
theorem dX6_listen_303 : decode cX6_listen 303 = .ok (.iload_n 3, 1) := by decide +kernel
theorem dX6_listen_304 : decode cX6_listen 304 = .ok (.dup2, 1) := by decide +kernel
theorem dX6_listen_305 : decode cX6_listen 305 = .ok (.iaload, 1) := by decide +kernel
theorem dX6_listen_306 : decode cX6_listen 306 = .ok (.iconst 1, 1) := by decide +kernel
theorem dX6_listen_307 : decode cX6_listen 307 = .ok (.iadd, 1) := by decide +kernel
theorem dX6_listen_308 : decode cX6_listen 308 = .ok (.iastore, 1) := by decide +kernel
theorem dX6_listen_309 : decode cX6_listen 309 = .ok (.iinc 2 1, 3) := by decide +kernel
theorem dX6_listen_312 : decode cX6_listen 312 = .ok (.goto (-81), 3) := by decide +kernel
theorem dX6_listen_315 : decode cX6_listen 315 = .ok (.iinc 1 1, 3) := by decide +kernel
theorem dX6_listen_318 : decode cX6_listen 318 = .ok (.goto (-99), 3) := by decide +kernel
theorem dX6_listen_321 : decode cX6_listen 321 = .ok (.return_, 1) := by decide +kernel
theorem dX6_fit_0 : decode cX6_fit 0 = .ok (.aload_n 0, 1) := by decide +kernel
theorem dX6_fit_1 : decode cX6_fit 1 = .ok (.iload_n 1, 1) := by decide +kernel
theorem dX6_fit_2 : decode cX6_fit 2 = .ok (.iload_n 2, 1) := by decide +kernel
theorem dX6_fit_3 : decode cX6_fit 3 = .ok (.iload_n 3, 1) := by decide +kernel
theorem dX6_fit_4 : decode cX6_fit 4 = .ok (.invokevirtual 91, 3) := by decide +kernel
theorem dX6_fit_7 : decode cX6_fit 7 = .ok (.istore 4, 2) := by decide +kernel
theorem dX6_fit_9 : decode cX6_fit 9 = .ok (.iload 4, 2) := by decide +kernel
theorem dX6_fit_11 : decode cX6_fit 11 = .ok (.aload_n 0, 1) := by decide +kernel
theorem dX6_fit_12 : decode cX6_fit 12 = .ok (.getfield 7, 3) := by decide +kernel
theorem dX6_fit_15 : decode cX6_fit 15 = .ok (.bipush 6, 2) := by decide +kernel
theorem dX6_fit_17 : decode cX6_fit 17 = .ok (.iaload, 1) := by decide +kernel
theorem dX6_fit_18 : decode cX6_fit 18 = .ok (.if_icmp .ge 7, 3) := by decide +kernel
theorem dX6_fit_21 : decode cX6_fit 21 = .ok (.iconst 2, 1) := by decide +kernel
theorem dX6_fit_22 : decode cX6_fit 22 = .ok (.goto 23, 3) := by decide +kernel
theorem dX6_fit_25 : decode cX6_fit 25 = .ok (.aload_n 0, 1) := by decide +kernel
theorem dX6_fit_26 : decode cX6_fit 26 = .ok (.getfield 26, 3) := by decide +kernel
theorem dX6_fit_29 : decode cX6_fit 29 = .ok (.iload_n 3, 1) := by decide +kernel
theorem dX6_fit_30 : decode cX6_fit 30 = .ok (.iload 4, 2) := by decide +kernel
theorem dX6_fit_32 : decode cX6_fit 32 = .ok (.iload_n 2, 1) := by decide +kernel
theorem dX6_fit_33 : decode cX6_fit 33 = .ok (.invokestatic 102, 3) := by decide +kernel
theorem dX6_fit_36 : decode cX6_fit 36 = .ok (.iaload, 1) := by decide +kernel
theorem dX6_fit_37 : decode cX6_fit 37 = .ok (.ifCond .le 7, 3) := by decide +kernel
theorem dX6_fit_40 : decode cX6_fit 40 = .ok (.iconst 1, 1) := by decide +kernel
theorem dX6_fit_41 : decode cX6_fit 41 = .ok (.goto 4, 3) := by decide +kernel
theorem dX6_fit_44 : decode cX6_fit 44 = .ok (.iconst 0, 1) := by decide +kernel
theorem dX6_fit_45 : decode cX6_fit 45 = .ok (.ireturn, 1) := by decide +kernel
theorem dX6_fitting_0 : decode cX6_fitting 0 = .ok (.iconst 0, 1) := by decide +kernel
theorem dX6_fitting_1 : decode cX6_fitting 1 = .ok (.istore_n 3, 1) := by decide +kernel
theorem dX6_fitting_2 : decode cX6_fitting 2 = .ok (.iconst 0, 1) := by decide +kernel
theorem dX6_fitting_3 : decode cX6_fitting 3 = .ok (.istore 4, 2) := by decide +kernel
theorem dX6_fitting_5 : decode cX6_fitting 5 = .ok (.iload 4, 2) := by decide +kernel
theorem dX6_fitting_7 : decode cX6_fitting 7 = .ok (.aload_n 0, 1) := by decide +kernel
theorem dX6_fitting_8 : decode cX6_fitting 8 = .ok (.getfield 7, 3) := by decide +kernel
theorem dX6_fitting_11 : decode cX6_fitting 11 = .ok (.iconst 1, 1) := by decide +kernel
theorem dX6_fitting_12 : decode cX6_fitting 12 = .ok (.iaload, 1) := by decide +kernel
theorem dX6_fitting_13 : decode cX6_fitting 13 = .ok (.if_icmp .ge 40, 3) := by decide +kernel
theorem dX6_fitting_16 : decode cX6_fitting 16 = .ok (.aload_n 0, 1) := by decide +kernel
theorem dX6_fitting_17 : decode cX6_fitting 17 = .ok (.iload_n 1, 1) := by decide +kernel
theorem dX6_fitting_18 : decode cX6_fitting 18 = .ok (.iload_n 2, 1) := by decide +kernel
theorem dX6_fitting_19 : decode cX6_fitting 19 = .ok (.iload 4, 2) := by decide +kernel
theorem dX6_fitting_21 : decode cX6_fitting 21 = .ok (.invokevirtual 105, 3) := by decide +kernel
theorem dX6_fitting_24 : decode cX6_fitting 24 = .ok (.istore 5, 2) := by decide +kernel
theorem dX6_fitting_26 : decode cX6_fitting 26 = .ok (.iload 5, 2) := by decide +kernel
theorem dX6_fitting_28 : decode cX6_fitting 28 = .ok (.ifCond .ne 5, 3) := by decide +kernel
theorem dX6_fitting_31 : decode cX6_fitting 31 = .ok (.iconst 0, 1) := by decide +kernel
theorem dX6_fitting_32 : decode cX6_fitting 32 = .ok (.ireturn, 1) := by decide +kernel
theorem dX6_fitting_33 : decode cX6_fitting 33 = .ok (.iload_n 3, 1) := by decide +kernel
theorem dX6_fitting_34 : decode cX6_fitting 34 = .ok (.iload 5, 2) := by decide +kernel
theorem dX6_fitting_36 : decode cX6_fitting 36 = .ok (.iconst 1, 1) := by decide +kernel
theorem dX6_fitting_37 : decode cX6_fitting 37 = .ok (.if_icmp .ne 7, 3) := by decide +kernel
theorem dX6_fitting_40 : decode cX6_fitting 40 = .ok (.iconst 1, 1) := by decide +kernel
theorem dX6_fitting_41 : decode cX6_fitting 41 = .ok (.goto 4, 3) := by decide +kernel
theorem dX6_fitting_44 : decode cX6_fitting 44 = .ok (.iconst 0, 1) := by decide +kernel
theorem dX6_fitting_45 : decode cX6_fitting 45 = .ok (.iadd, 1) := by decide +kernel
theorem dX6_fitting_46 : decode cX6_fitting 46 = .ok (.istore_n 3, 1) := by decide +kernel
theorem dX6_fitting_47 : decode cX6_fitting 47 = .ok (.iinc 4 1, 3) := by decide +kernel
theorem dX6_fitting_50 : decode cX6_fitting 50 = .ok (.goto (-45), 3) := by decide +kernel
theorem dX6_fitting_53 : decode cX6_fitting 53 = .ok (.iload_n 3, 1) := by decide +kernel
theorem dX6_fitting_54 : decode cX6_fitting 54 = .ok (.ireturn, 1) := by decide +kernel
theorem dX6_isTrue_0 : decode cX6_isTrue 0 = .ok (.iconst 0, 1) := by decide +kernel
theorem dX6_isTrue_1 : decode cX6_isTrue 1 = .ok (.istore_n 3, 1) := by decide +kernel
theorem dX6_isTrue_2 : decode cX6_isTrue 2 = .ok (.iconst 0, 1) := by decide +kernel
theorem dX6_isTrue_3 : decode cX6_isTrue 3 = .ok (.istore 4, 2) := by decide +kernel
theorem dX6_isTrue_5 : decode cX6_isTrue 5 = .ok (.iload 4, 2) := by decide +kernel
theorem dX6_isTrue_7 : decode cX6_isTrue 7 = .ok (.aload_n 0, 1) := by decide +kernel
theorem dX6_isTrue_8 : decode cX6_isTrue 8 = .ok (.getfield 82, 3) := by decide +kernel
theorem dX6_isTrue_11 : decode cX6_isTrue 11 = .ok (.if_icmp .ge 41, 3) := by decide +kernel
theorem dX6_isTrue_14 : decode cX6_isTrue 14 = .ok (.iload_n 3, 1) := by decide +kernel
theorem dX6_isTrue_15 : decode cX6_isTrue 15 = .ok (.ifCond .ne 25, 3) := by decide +kernel
theorem dX6_isTrue_18 : decode cX6_isTrue 18 = .ok (.aload_n 0, 1) := by decide +kernel
theorem dX6_isTrue_19 : decode cX6_isTrue 19 = .ok (.iload 4, 2) := by decide +kernel
theorem dX6_isTrue_21 : decode cX6_isTrue 21 = .ok (.iconst 0, 1) := by decide +kernel
theorem dX6_isTrue_22 : decode cX6_isTrue 22 = .ok (.invokevirtual 85, 3) := by decide +kernel
theorem dX6_isTrue_25 : decode cX6_isTrue 25 = .ok (.iload_n 1, 1) := by decide +kernel
theorem dX6_isTrue_26 : decode cX6_isTrue 26 = .ok (.if_icmp .ne 18, 3) := by decide +kernel
theorem dX6_isTrue_29 : decode cX6_isTrue 29 = .ok (.aload_n 0, 1) := by decide +kernel
theorem dX6_isTrue_30 : decode cX6_isTrue 30 = .ok (.iload 4, 2) := by decide +kernel
theorem dX6_isTrue_32 : decode cX6_isTrue 32 = .ok (.iconst 2, 1) := by decide +kernel
theorem dX6_isTrue_33 : decode cX6_isTrue 33 = .ok (.invokevirtual 85, 3) := by decide +kernel
theorem dX6_isTrue_36 : decode cX6_isTrue 36 = .ok (.iload_n 2, 1) := by decide +kernel
theorem dX6_isTrue_37 : decode cX6_isTrue 37 = .ok (.if_icmp .ne 7, 3) := by decide +kernel
theorem dX6_isTrue_40 : decode cX6_isTrue 40 = .ok (.iconst 1, 1) := by decide +kernel
theorem dX6_isTrue_41 : decode cX6_isTrue 41 = .ok (.goto 4, 3) := by decide +kernel
theorem dX6_isTrue_44 : decode cX6_isTrue 44 = .ok (.iconst 0, 1) := by decide +kernel
theorem dX6_isTrue_45 : decode cX6_isTrue 45 = .ok (.istore_n 3, 1) := by decide +kernel
theorem dX6_isTrue_46 : decode cX6_isTrue 46 = .ok (.iinc 4 1, 3) := by decide +kernel
theorem dX6_isTrue_49 : decode cX6_isTrue 49 = .ok (.goto (-44), 3) := by decide +kernel
theorem dX6_isTrue_52 : decode cX6_isTrue 52 = .ok (.iload_n 3, 1) := by decide +kernel
theorem dX6_isTrue_53 : decode cX6_isTrue 53 = .ok (.ireturn, 1) := by decide +kernel
theorem dX6_toldMany_0 : decode cX6_toldMany 0 = .ok (.iconst 0, 1) := by decide +kernel
theorem dX6_toldMany_1 : decode cX6_toldMany 1 = .ok (.istore_n 2, 1) := by decide +kernel
theorem dX6_toldMany_2 : decode cX6_toldMany 2 = .ok (.iconst 1, 1) := by decide +kernel
theorem dX6_toldMany_3 : decode cX6_toldMany 3 = .ok (.istore_n 3, 1) := by decide +kernel
theorem dX6_toldMany_4 : decode cX6_toldMany 4 = .ok (.iload_n 3, 1) := by decide +kernel
theorem dX6_toldMany_5 : decode cX6_toldMany 5 = .ok (.sipush 600, 3) := by decide +kernel
theorem dX6_toldMany_8 : decode cX6_toldMany 8 = .ok (.if_icmp .gt 57, 3) := by decide +kernel
theorem dX6_toldMany_11 : decode cX6_toldMany 11 = .ok (.bipush (-5), 2) := by decide +kernel
theorem dX6_toldMany_13 : decode cX6_toldMany 13 = .ok (.istore 4, 2) := by decide +kernel
theorem dX6_toldMany_15 : decode cX6_toldMany 15 = .ok (.iload 4, 2) := by decide +kernel
theorem dX6_toldMany_17 : decode cX6_toldMany 17 = .ok (.iconst 5, 1) := by decide +kernel
theorem dX6_toldMany_18 : decode cX6_toldMany 18 = .ok (.if_icmp .gt 41, 3) := by decide +kernel
theorem dX6_toldMany_21 : decode cX6_toldMany 21 = .ok (.iload_n 2, 1) := by decide +kernel
theorem dX6_toldMany_22 : decode cX6_toldMany 22 = .ok (.aload_n 0, 1) := by decide +kernel
theorem dX6_toldMany_23 : decode cX6_toldMany 23 = .ok (.iload_n 3, 1) := by decide +kernel
theorem dX6_toldMany_24 : decode cX6_toldMany 24 = .ok (.iload 4, 2) := by decide +kernel
theorem dX6_toldMany_26 : decode cX6_toldMany 26 = .ok (.invokevirtual 108, 3) := by decide +kernel
theorem dX6_toldMany_29 : decode cX6_toldMany 29 = .ok (.ifCond .le 21, 3) := by decide +kernel
theorem dX6_toldMany_32 : decode cX6_toldMany 32 = .ok (.iload_n 1, 1) := by decide +kernel
theorem dX6_toldMany_33 : decode cX6_toldMany 33 = .ok (.ifCond .eq 13, 3) := by decide +kernel
theorem dX6_toldMany_36 : decode cX6_toldMany 36 = .ok (.aload_n 0, 1) := by decide +kernel
theorem dX6_toldMany_37 : decode cX6_toldMany 37 = .ok (.iload_n 3, 1) := by decide +kernel
theorem dX6_toldMany_38 : decode cX6_toldMany 38 = .ok (.iload 4, 2) := by decide +kernel
theorem dX6_toldMany_40 : decode cX6_toldMany 40 = .ok (.invokevirtual 111, 3) := by decide +kernel
theorem dX6_toldMany_43 : decode cX6_toldMany 43 = .ok (.ifCond .ne 7, 3) := by decide +kernel
theorem dX6_toldMany_46 : decode cX6_toldMany 46 = .ok (.iconst 1, 1) := by decide +kernel
theorem dX6_toldMany_47 : decode cX6_toldMany 47 = .ok (.goto 4, 3) := by decide +kernel
theorem dX6_toldMany_50 : decode cX6_toldMany 50 = .ok (.iconst 0, 1) := by decide +kernel
theorem dX6_toldMany_51 : decode cX6_toldMany 51 = .ok (.iadd, 1) := by decide +kernel
theorem dX6_toldMany_52 : decode cX6_toldMany 52 = .ok (.istore_n 2, 1) := by decide +kernel
theorem dX6_toldMany_53 : decode cX6_toldMany 53 = .ok (.iinc 4 1, 3) := by decide +kernel
theorem dX6_toldMany_56 : decode cX6_toldMany 56 = .ok (.goto (-41), 3) := by decide +kernel
theorem dX6_toldMany_59 : decode cX6_toldMany 59 = .ok (.iinc 3 1, 3) := by decide +kernel
theorem dX6_toldMany_62 : decode cX6_toldMany 62 = .ok (.goto (-58), 3) := by decide +kernel
theorem dX6_toldMany_65 : decode cX6_toldMany 65 = .ok (.iload_n 2, 1) := by decide +kernel
theorem dX6_toldMany_66 : decode cX6_toldMany 66 = .ok (.ireturn, 1) := by decide +kernel
theorem dX6_isTold_0 : decode cX6_isTold 0 = .ok (.aload_n 0, 1) := by decide +kernel
theorem dX6_isTold_1 : decode cX6_isTold 1 = .ok (.aload_n 0, 1) := by decide +kernel
theorem dX6_isTold_2 : decode cX6_isTold 2 = .ok (.iload_n 1, 1) := by decide +kernel
theorem dX6_isTold_3 : decode cX6_isTold 3 = .ok (.iconst 0, 1) := by decide +kernel
theorem dX6_isTold_4 : decode cX6_isTold 4 = .ok (.invokevirtual 85, 3) := by decide +kernel
theorem dX6_isTold_7 : decode cX6_isTold 7 = .ok (.aload_n 0, 1) := by decide +kernel
theorem dX6_isTold_8 : decode cX6_isTold 8 = .ok (.iload_n 1, 1) := by decide +kernel
theorem dX6_isTold_9 : decode cX6_isTold 9 = .ok (.iconst 2, 1) := by decide +kernel
theorem dX6_isTold_10 : decode cX6_isTold 10 = .ok (.invokevirtual 85, 3) := by decide +kernel
theorem dX6_isTold_13 : decode cX6_isTold 13 = .ok (.invokevirtual 108, 3) := by decide +kernel
theorem dX6_isTold_16 : decode cX6_isTold 16 = .ok (.ifCond .le 7, 3) := by decide +kernel
theorem dX6_isTold_19 : decode cX6_isTold 19 = .ok (.iconst 1, 1) := by decide +kernel
theorem dX6_isTold_20 : decode cX6_isTold 20 = .ok (.goto 4, 3) := by decide +kernel
theorem dX6_isTold_23 : decode cX6_isTold 23 = .ok (.iconst 0, 1) := by decide +kernel
theorem dX6_isTold_24 : decode cX6_isTold 24 = .ok (.ireturn, 1) := by decide +kernel
theorem dX6_missed_0 : decode cX6_missed 0 = .ok (.iconst 0, 1) := by decide +kernel
theorem dX6_missed_1 : decode cX6_missed 1 = .ok (.istore_n 1, 1) := by decide +kernel
theorem dX6_missed_2 : decode cX6_missed 2 = .ok (.iconst 0, 1) := by decide +kernel
theorem dX6_missed_3 : decode cX6_missed 3 = .ok (.istore_n 2, 1) := by decide +kernel
theorem dX6_missed_4 : decode cX6_missed 4 = .ok (.iload_n 2, 1) := by decide +kernel
theorem dX6_missed_5 : decode cX6_missed 5 = .ok (.aload_n 0, 1) := by decide +kernel
theorem dX6_missed_6 : decode cX6_missed 6 = .ok (.getfield 82, 3) := by decide +kernel
theorem dX6_missed_9 : decode cX6_missed 9 = .ok (.if_icmp .ge 25, 3) := by decide +kernel
theorem dX6_missed_12 : decode cX6_missed 12 = .ok (.iload_n 1, 1) := by decide +kernel
theorem dX6_missed_13 : decode cX6_missed 13 = .ok (.aload_n 0, 1) := by decide +kernel
theorem dX6_missed_14 : decode cX6_missed 14 = .ok (.iload_n 2, 1) := by decide +kernel
theorem dX6_missed_15 : decode cX6_missed 15 = .ok (.invokevirtual 114, 3) := by decide +kernel
theorem dX6_missed_18 : decode cX6_missed 18 = .ok (.ifCond .eq 7, 3) := by decide +kernel
theorem dX6_missed_21 : decode cX6_missed 21 = .ok (.iconst 0, 1) := by decide +kernel
theorem dX6_missed_22 : decode cX6_missed 22 = .ok (.goto 4, 3) := by decide +kernel
theorem dX6_missed_25 : decode cX6_missed 25 = .ok (.iconst 1, 1) := by decide +kernel
theorem dX6_missed_26 : decode cX6_missed 26 = .ok (.iadd, 1) := by decide +kernel
theorem dX6_missed_27 : decode cX6_missed 27 = .ok (.istore_n 1, 1) := by decide +kernel
theorem dX6_missed_28 : decode cX6_missed 28 = .ok (.iinc 2 1, 3) := by decide +kernel
theorem dX6_missed_31 : decode cX6_missed 31 = .ok (.goto (-27), 3) := by decide +kernel
theorem dX6_missed_34 : decode cX6_missed 34 = .ok (.iload_n 1, 1) := by decide +kernel
theorem dX6_missed_35 : decode cX6_missed 35 = .ok (.ireturn, 1) := by decide +kernel
theorem dX6_targetOf_0 : decode cX6_targetOf 0 = .ok (.aload_n 0, 1) := by decide +kernel
theorem dX6_targetOf_1 : decode cX6_targetOf 1 = .ok (.iload_n 1, 1) := by decide +kernel
theorem dX6_targetOf_2 : decode cX6_targetOf 2 = .ok (.invokevirtual 71, 3) := by decide +kernel
theorem dX6_targetOf_5 : decode cX6_targetOf 5 = .ok (.ifCond .eq 13, 3) := by decide +kernel
theorem dX6_targetOf_8 : decode cX6_targetOf 8 = .ok (.iload_n 2, 1) := by decide +kernel
theorem dX6_targetOf_9 : decode cX6_targetOf 9 = .ok (.iconst 0, 1) := by decide +kernel
theorem dX6_targetOf_10 : decode cX6_targetOf 10 = .ok (.bipush 6, 2) := by decide +kernel
theorem dX6_targetOf_12 : decode cX6_targetOf 12 = .ok (.invokestatic 41, 3) := by decide +kernel
theorem dX6_targetOf_15 : decode cX6_targetOf 15 = .ok (.ifCond .ne 5, 3) := by decide +kernel
theorem dX6_targetOf_18 : decode cX6_targetOf 18 = .ok (.iconst (-1), 1) := by decide +kernel
theorem dX6_targetOf_19 : decode cX6_targetOf 19 = .ok (.ireturn, 1) := by decide +kernel
theorem dX6_targetOf_20 : decode cX6_targetOf 20 = .ok (.aload_n 0, 1) := by decide +kernel
theorem dX6_targetOf_21 : decode cX6_targetOf 21 = .ok (.invokevirtual 117, 3) := by decide +kernel
theorem dX6_targetOf_24 : decode cX6_targetOf 24 = .ok (.iconst 0, 1) := by decide +kernel
theorem dX6_targetOf_25 : decode cX6_targetOf 25 = .ok (.istore_n 3, 1) := by decide +kernel
theorem dX6_targetOf_26 : decode cX6_targetOf 26 = .ok (.iconst 0, 1) := by decide +kernel
theorem dX6_targetOf_27 : decode cX6_targetOf 27 = .ok (.istore 4, 2) := by decide +kernel
theorem dX6_targetOf_29 : decode cX6_targetOf 29 = .ok (.iload 4, 2) := by decide +kernel
theorem dX6_targetOf_31 : decode cX6_targetOf 31 = .ok (.aload_n 0, 1) := by decide +kernel
theorem dX6_targetOf_32 : decode cX6_targetOf 32 = .ok (.getfield 7, 3) := by decide +kernel
theorem dX6_targetOf_35 : decode cX6_targetOf 35 = .ok (.iconst 1, 1) := by decide +kernel
theorem dX6_targetOf_36 : decode cX6_targetOf 36 = .ok (.iaload, 1) := by decide +kernel
theorem dX6_targetOf_37 : decode cX6_targetOf 37 = .ok (.if_icmp .ge 32, 3) := by decide +kernel
theorem dX6_targetOf_40 : decode cX6_targetOf 40 = .ok (.iload_n 2, 1) := by decide +kernel
theorem dX6_targetOf_41 : decode cX6_targetOf 41 = .ok (.iconst 5, 1) := by decide +kernel
theorem dX6_targetOf_42 : decode cX6_targetOf 42 = .ok (.if_icmp .ne 27, 3) := by decide +kernel
theorem dX6_targetOf_45 : decode cX6_targetOf 45 = .ok (.iload_n 3, 1) := by decide +kernel
theorem dX6_targetOf_46 : decode cX6_targetOf 46 = .ok (.aload_n 0, 1) := by decide +kernel
theorem dX6_targetOf_47 : decode cX6_targetOf 47 = .ok (.iload_n 1, 1) := by decide +kernel
theorem dX6_targetOf_48 : decode cX6_targetOf 48 = .ok (.iload 4, 2) := by decide +kernel
theorem dX6_targetOf_50 : decode cX6_targetOf 50 = .ok (.invokevirtual 99, 3) := by decide +kernel
theorem dX6_targetOf_53 : decode cX6_targetOf 53 = .ok (.ifCond .eq 7, 3) := by decide +kernel
theorem dX6_targetOf_56 : decode cX6_targetOf 56 = .ok (.iconst 1, 1) := by decide +kernel
theorem dX6_targetOf_57 : decode cX6_targetOf 57 = .ok (.goto 4, 3) := by decide +kernel
theorem dX6_targetOf_60 : decode cX6_targetOf 60 = .ok (.iconst 0, 1) := by decide +kernel
theorem dX6_targetOf_61 : decode cX6_targetOf 61 = .ok (.iadd, 1) := by decide +kernel
theorem dX6_targetOf_62 : decode cX6_targetOf 62 = .ok (.istore_n 3, 1) := by decide +kernel
theorem dX6_targetOf_63 : decode cX6_targetOf 63 = .ok (.iinc 4 1, 3) := by decide +kernel
theorem dX6_targetOf_66 : decode cX6_targetOf 66 = .ok (.goto (-37), 3) := by decide +kernel
theorem dX6_targetOf_69 : decode cX6_targetOf 69 = .ok (.aload_n 0, 1) := by decide +kernel
theorem dX6_targetOf_70 : decode cX6_targetOf 70 = .ok (.getfield 7, 3) := by decide +kernel
theorem dX6_targetOf_73 : decode cX6_targetOf 73 = .ok (.iconst 0, 1) := by decide +kernel
theorem dX6_targetOf_74 : decode cX6_targetOf 74 = .ok (.iaload, 1) := by decide +kernel
theorem dX6_targetOf_75 : decode cX6_targetOf 75 = .ok (.istore 4, 2) := by decide +kernel
theorem dX6_targetOf_77 : decode cX6_targetOf 77 = .ok (.iload 4, 2) := by decide +kernel
theorem dX6_targetOf_79 : decode cX6_targetOf 79 = .ok (.aload_n 0, 1) := by decide +kernel
theorem dX6_targetOf_80 : decode cX6_targetOf 80 = .ok (.getfield 82, 3) := by decide +kernel
theorem dX6_targetOf_83 : decode cX6_targetOf 83 = .ok (.if_icmp .ge 45, 3) := by decide +kernel
theorem dX6_targetOf_86 : decode cX6_targetOf 86 = .ok (.iload_n 2, 1) := by decide +kernel
theorem dX6_targetOf_87 : decode cX6_targetOf 87 = .ok (.bipush 6, 2) := by decide +kernel
theorem dX6_targetOf_89 : decode cX6_targetOf 89 = .ok (.if_icmp .ne 39, 3) := by decide +kernel
theorem dX6_targetOf_92 : decode cX6_targetOf 92 = .ok (.iload_n 3, 1) := by decide +kernel
theorem dX6_targetOf_93 : decode cX6_targetOf 93 = .ok (.aload_n 0, 1) := by decide +kernel
theorem dX6_targetOf_94 : decode cX6_targetOf 94 = .ok (.iload 4, 2) := by decide +kernel
theorem dX6_targetOf_96 : decode cX6_targetOf 96 = .ok (.iconst 3, 1) := by decide +kernel
theorem dX6_targetOf_97 : decode cX6_targetOf 97 = .ok (.invokevirtual 85, 3) := by decide +kernel
theorem dX6_targetOf_100 : decode cX6_targetOf 100 = .ok (.iload_n 1, 1) := by decide +kernel
theorem dX6_targetOf_101 : decode cX6_targetOf 101 = .ok (.if_icmp .eq 14, 3) := by decide +kernel
theorem dX6_targetOf_104 : decode cX6_targetOf 104 = .ok (.aload_n 0, 1) := by decide +kernel
theorem dX6_targetOf_105 : decode cX6_targetOf 105 = .ok (.iload 4, 2) := by decide +kernel
theorem dX6_targetOf_107 : decode cX6_targetOf 107 = .ok (.iconst 4, 1) := by decide +kernel
theorem dX6_targetOf_108 : decode cX6_targetOf 108 = .ok (.invokevirtual 85, 3) := by decide +kernel
theorem dX6_targetOf_111 : decode cX6_targetOf 111 = .ok (.iload_n 1, 1) := by decide +kernel
theorem dX6_targetOf_112 : decode cX6_targetOf 112 = .ok (.if_icmp .ne 7, 3) := by decide +kernel
theorem dX6_targetOf_115 : decode cX6_targetOf 115 = .ok (.iconst 1, 1) := by decide +kernel
theorem dX6_targetOf_116 : decode cX6_targetOf 116 = .ok (.goto 4, 3) := by decide +kernel
theorem dX6_targetOf_119 : decode cX6_targetOf 119 = .ok (.iconst 0, 1) := by decide +kernel
theorem dX6_targetOf_120 : decode cX6_targetOf 120 = .ok (.iadd, 1) := by decide +kernel
theorem dX6_targetOf_121 : decode cX6_targetOf 121 = .ok (.istore_n 3, 1) := by decide +kernel
theorem dX6_targetOf_122 : decode cX6_targetOf 122 = .ok (.iinc 4 1, 3) := by decide +kernel
theorem dX6_targetOf_125 : decode cX6_targetOf 125 = .ok (.goto (-48), 3) := by decide +kernel
theorem dX6_targetOf_128 : decode cX6_targetOf 128 = .ok (.iload_n 2, 1) := by decide +kernel
theorem dX6_targetOf_129 : decode cX6_targetOf 129 = .ok (.tableswitch 60 2 6 #[35, 60, 44, 58, 58], 35) := by decide +kernel
theorem dX6_targetOf_164 : decode cX6_targetOf 164 = .ok (.aload_n 0, 1) := by decide +kernel
theorem dX6_targetOf_165 : decode cX6_targetOf 165 = .ok (.iload_n 1, 1) := by decide +kernel
theorem dX6_targetOf_166 : decode cX6_targetOf 166 = .ok (.iconst 2, 1) := by decide +kernel
theorem dX6_targetOf_167 : decode cX6_targetOf 167 = .ok (.invokevirtual 56, 3) := by decide +kernel
theorem dX6_targetOf_170 : decode cX6_targetOf 170 = .ok (.iconst 5, 1) := by decide +kernel
theorem dX6_targetOf_171 : decode cX6_targetOf 171 = .ok (.iadd, 1) := by decide +kernel
theorem dX6_targetOf_172 : decode cX6_targetOf 172 = .ok (.ireturn, 1) := by decide +kernel
theorem dX6_targetOf_173 : decode cX6_targetOf 173 = .ok (.aload_n 0, 1) := by decide +kernel
theorem dX6_targetOf_174 : decode cX6_targetOf 174 = .ok (.iload_n 1, 1) := by decide +kernel
theorem dX6_targetOf_175 : decode cX6_targetOf 175 = .ok (.invokevirtual 114, 3) := by decide +kernel
theorem dX6_targetOf_178 : decode cX6_targetOf 178 = .ok (.ifCond .eq 7, 3) := by decide +kernel
theorem dX6_targetOf_181 : decode cX6_targetOf 181 = .ok (.iconst 1, 1) := by decide +kernel
theorem dX6_targetOf_182 : decode cX6_targetOf 182 = .ok (.goto 4, 3) := by decide +kernel
theorem dX6_targetOf_185 : decode cX6_targetOf 185 = .ok (.iconst 0, 1) := by decide +kernel
theorem dX6_targetOf_186 : decode cX6_targetOf 186 = .ok (.ireturn, 1) := by decide +kernel
theorem dX6_targetOf_187 : decode cX6_targetOf 187 = .ok (.iload_n 3, 1) := by decide +kernel
theorem dX6_targetOf_188 : decode cX6_targetOf 188 = .ok (.ireturn, 1) := by decide +kernel
theorem dX6_targetOf_189 : decode cX6_targetOf 189 = .ok (.aload_n 0, 1) := by decide +kernel
theorem dX6_targetOf_190 : decode cX6_targetOf 190 = .ok (.iload_n 1, 1) := by decide +kernel
theorem dX6_targetOf_191 : decode cX6_targetOf 191 = .ok (.iload_n 2, 1) := by decide +kernel
theorem dX6_targetOf_192 : decode cX6_targetOf 192 = .ok (.invokevirtual 56, 3) := by decide +kernel
theorem dX6_targetOf_195 : decode cX6_targetOf 195 = .ok (.ireturn, 1) := by decide +kernel
theorem dX6_ghost_0 : decode cX6_ghost 0 = .ok (.iload_n 1, 1) := by decide +kernel
theorem dX6_ghost_1 : decode cX6_ghost 1 = .ok (.ifCond .lt 12, 3) := by decide +kernel
theorem dX6_ghost_4 : decode cX6_ghost 4 = .ok (.iload_n 2, 1) := by decide +kernel
theorem dX6_ghost_5 : decode cX6_ghost 5 = .ok (.iconst 0, 1) := by decide +kernel
theorem dX6_ghost_6 : decode cX6_ghost 6 = .ok (.iconst 4, 1) := by decide +kernel
theorem dX6_ghost_7 : decode cX6_ghost 7 = .ok (.invokestatic 41, 3) := by decide +kernel
theorem dX6_ghost_10 : decode cX6_ghost 10 = .ok (.ifCond .ne 5, 3) := by decide +kernel
theorem dX6_ghost_13 : decode cX6_ghost 13 = .ok (.iconst (-1), 1) := by decide +kernel
theorem dX6_ghost_14 : decode cX6_ghost 14 = .ok (.ireturn, 1) := by decide +kernel
theorem dX6_ghost_15 : decode cX6_ghost 15 = .ok (.aload_n 0, 1) := by decide +kernel
theorem dX6_ghost_16 : decode cX6_ghost 16 = .ok (.invokevirtual 117, 3) := by decide +kernel
theorem dX6_ghost_19 : decode cX6_ghost 19 = .ok (.iload_n 1, 1) := by decide +kernel
theorem dX6_ghost_20 : decode cX6_ghost 20 = .ok (.aload_n 0, 1) := by decide +kernel
theorem dX6_ghost_21 : decode cX6_ghost 21 = .ok (.getfield 82, 3) := by decide +kernel
theorem dX6_ghost_24 : decode cX6_ghost 24 = .ok (.aload_n 0, 1) := by decide +kernel
theorem dX6_ghost_25 : decode cX6_ghost 25 = .ok (.getfield 7, 3) := by decide +kernel
theorem dX6_ghost_28 : decode cX6_ghost 28 = .ok (.iconst 0, 1) := by decide +kernel
theorem dX6_ghost_29 : decode cX6_ghost 29 = .ok (.iaload, 1) := by decide +kernel
theorem dX6_ghost_30 : decode cX6_ghost 30 = .ok (.isub, 1) := by decide +kernel
theorem dX6_ghost_31 : decode cX6_ghost 31 = .ok (.if_icmp .lt 6, 3) := by decide +kernel
theorem dX6_ghost_34 : decode cX6_ghost 34 = .ok (.bipush (-4), 2) := by decide +kernel
theorem dX6_ghost_36 : decode cX6_ghost 36 = .ok (.ireturn, 1) := by decide +kernel
theorem dX6_ghost_37 : decode cX6_ghost 37 = .ok (.aload_n 0, 1) := by decide +kernel
theorem dX6_ghost_38 : decode cX6_ghost 38 = .ok (.getfield 7, 3) := by decide +kernel
theorem dX6_ghost_41 : decode cX6_ghost 41 = .ok (.iconst 0, 1) := by decide +kernel
theorem dX6_ghost_42 : decode cX6_ghost 42 = .ok (.iaload, 1) := by decide +kernel
theorem dX6_ghost_43 : decode cX6_ghost 43 = .ok (.iload_n 1, 1) := by decide +kernel
theorem dX6_ghost_44 : decode cX6_ghost 44 = .ok (.iadd, 1) := by decide +kernel
theorem dX6_ghost_45 : decode cX6_ghost 45 = .ok (.istore_n 3, 1) := by decide +kernel
theorem dX6_ghost_46 : decode cX6_ghost 46 = .ok (.iload_n 2, 1) := by decide +kernel
theorem dX6_ghost_47 : decode cX6_ghost 47 = .ok (.iconst 4, 1) := by decide +kernel
theorem dX6_ghost_48 : decode cX6_ghost 48 = .ok (.if_icmp .ne 19, 3) := by decide +kernel
theorem dX6_ghost_51 : decode cX6_ghost 51 = .ok (.aload_n 0, 1) := by decide +kernel
theorem dX6_ghost_52 : decode cX6_ghost 52 = .ok (.iload_n 3, 1) := by decide +kernel
theorem dX6_ghost_53 : decode cX6_ghost 53 = .ok (.invokevirtual 114, 3) := by decide +kernel
theorem dX6_ghost_56 : decode cX6_ghost 56 = .ok (.ifCond .eq 7, 3) := by decide +kernel
theorem dX6_ghost_59 : decode cX6_ghost 59 = .ok (.iconst 1, 1) := by decide +kernel
theorem dX6_ghost_60 : decode cX6_ghost 60 = .ok (.goto 24, 3) := by decide +kernel
theorem dX6_ghost_63 : decode cX6_ghost 63 = .ok (.iconst 0, 1) := by decide +kernel
theorem dX6_ghost_64 : decode cX6_ghost 64 = .ok (.goto 20, 3) := by decide +kernel
theorem dX6_ghost_67 : decode cX6_ghost 67 = .ok (.aload_n 0, 1) := by decide +kernel
theorem dX6_ghost_68 : decode cX6_ghost 68 = .ok (.iload_n 3, 1) := by decide +kernel
theorem dX6_ghost_69 : decode cX6_ghost 69 = .ok (.iload_n 2, 1) := by decide +kernel
theorem dX6_ghost_70 : decode cX6_ghost 70 = .ok (.iconst 2, 1) := by decide +kernel
theorem dX6_ghost_71 : decode cX6_ghost 71 = .ok (.if_icmp .ge 7, 3) := by decide +kernel
theorem dX6_ghost_74 : decode cX6_ghost 74 = .ok (.iload_n 2, 1) := by decide +kernel
theorem dX6_ghost_75 : decode cX6_ghost 75 = .ok (.goto 6, 3) := by decide +kernel
theorem dX6_ghost_78 : decode cX6_ghost 78 = .ok (.iload_n 2, 1) := by decide +kernel
theorem dX6_ghost_79 : decode cX6_ghost 79 = .ok (.iconst 1, 1) := by decide +kernel
theorem dX6_ghost_80 : decode cX6_ghost 80 = .ok (.iadd, 1) := by decide +kernel
theorem dX6_ghost_81 : decode cX6_ghost 81 = .ok (.invokevirtual 85, 3) := by decide +kernel
theorem dX6_ghost_84 : decode cX6_ghost 84 = .ok (.ireturn, 1) := by decide +kernel
theorem dX6_echo_0 : decode cX6_echo 0 = .ok (.aload_n 0, 1) := by decide +kernel
theorem dX6_echo_1 : decode cX6_echo 1 = .ok (.iload_n 1, 1) := by decide +kernel
theorem dX6_echo_2 : decode cX6_echo 2 = .ok (.invokevirtual 120, 3) := by decide +kernel
theorem dX6_echo_5 : decode cX6_echo 5 = .ok (.ifCond .eq 16, 3) := by decide +kernel
theorem dX6_echo_8 : decode cX6_echo 8 = .ok (.iload_n 2, 1) := by decide +kernel
theorem dX6_echo_9 : decode cX6_echo 9 = .ok (.ifCond .lt 12, 3) := by decide +kernel
theorem dX6_echo_12 : decode cX6_echo 12 = .ok (.iload_n 3, 1) := by decide +kernel
theorem dX6_echo_13 : decode cX6_echo 13 = .ok (.iconst 0, 1) := by decide +kernel
theorem dX6_echo_14 : decode cX6_echo 14 = .ok (.iconst 3, 1) := by decide +kernel
theorem dX6_echo_15 : decode cX6_echo 15 = .ok (.invokestatic 41, 3) := by decide +kernel
theorem dX6_echo_18 : decode cX6_echo 18 = .ok (.ifCond .ne 5, 3) := by decide +kernel
theorem dX6_echo_21 : decode cX6_echo 21 = .ok (.iconst (-1), 1) := by decide +kernel
theorem dX6_echo_22 : decode cX6_echo 22 = .ok (.ireturn, 1) := by decide +kernel
theorem dX6_echo_23 : decode cX6_echo 23 = .ok (.aload_n 0, 1) := by decide +kernel
theorem dX6_echo_24 : decode cX6_echo 24 = .ok (.invokevirtual 117, 3) := by decide +kernel
theorem dX6_echo_27 : decode cX6_echo 27 = .ok (.iload_n 2, 1) := by decide +kernel
theorem dX6_echo_28 : decode cX6_echo 28 = .ok (.istore 4, 2) := by decide +kernel
theorem dX6_echo_30 : decode cX6_echo 30 = .ok (.iconst 0, 1) := by decide +kernel
theorem dX6_echo_31 : decode cX6_echo 31 = .ok (.istore 5, 2) := by decide +kernel
theorem dX6_echo_33 : decode cX6_echo 33 = .ok (.iload 5, 2) := by decide +kernel
theorem dX6_echo_35 : decode cX6_echo 35 = .ok (.sipush 550, 3) := by decide +kernel
theorem dX6_echo_38 : decode cX6_echo 38 = .ok (.if_icmp .ge 99, 3) := by decide +kernel
theorem dX6_echo_41 : decode cX6_echo 41 = .ok (.aload_n 0, 1) := by decide +kernel
theorem dX6_echo_42 : decode cX6_echo 42 = .ok (.getfield 26, 3) := by decide +kernel
theorem dX6_echo_45 : decode cX6_echo 45 = .ok (.iload_n 1, 1) := by decide +kernel
theorem dX6_echo_46 : decode cX6_echo 46 = .ok (.bipush 50, 2) := by decide +kernel
theorem dX6_echo_48 : decode cX6_echo 48 = .ok (.imul, 1) := by decide +kernel
theorem dX6_echo_49 : decode cX6_echo 49 = .ok (.bipush 11, 2) := by decide +kernel
theorem dX6_echo_51 : decode cX6_echo 51 = .ok (.imul, 1) := by decide +kernel
theorem dX6_echo_52 : decode cX6_echo 52 = .ok (.iload 5, 2) := by decide +kernel
theorem dX6_echo_54 : decode cX6_echo 54 = .ok (.iadd, 1) := by decide +kernel
theorem dX6_echo_55 : decode cX6_echo 55 = .ok (.iaload, 1) := by decide +kernel
theorem dX6_echo_56 : decode cX6_echo 56 = .ok (.ifCond .le 75, 3) := by decide +kernel
theorem dX6_echo_59 : decode cX6_echo 59 = .ok (.iload 4, 2) := by decide +kernel
theorem dX6_echo_61 : decode cX6_echo 61 = .ok (.ifCond .ne 67, 3) := by decide +kernel
theorem dX6_echo_64 : decode cX6_echo 64 = .ok (.iload_n 3, 1) := by decide +kernel
theorem dX6_echo_65 : decode cX6_echo 65 = .ok (.ifCond .ne 11, 3) := by decide +kernel
theorem dX6_echo_68 : decode cX6_echo 68 = .ok (.iload 5, 2) := by decide +kernel
theorem dX6_echo_70 : decode cX6_echo 70 = .ok (.bipush 11, 2) := by decide +kernel
theorem dX6_echo_72 : decode cX6_echo 72 = .ok (.idiv, 1) := by decide +kernel
theorem dX6_echo_73 : decode cX6_echo 73 = .ok (.goto 54, 3) := by decide +kernel
theorem dX6_echo_76 : decode cX6_echo 76 = .ok (.iload_n 3, 1) := by decide +kernel
theorem dX6_echo_77 : decode cX6_echo 77 = .ok (.iconst 1, 1) := by decide +kernel
theorem dX6_echo_78 : decode cX6_echo 78 = .ok (.if_icmp .ne 11, 3) := by decide +kernel
theorem dX6_echo_81 : decode cX6_echo 81 = .ok (.iload 5, 2) := by decide +kernel
theorem dX6_echo_83 : decode cX6_echo 83 = .ok (.bipush 11, 2) := by decide +kernel
theorem dX6_echo_85 : decode cX6_echo 85 = .ok (.irem, 1) := by decide +kernel
theorem dX6_echo_86 : decode cX6_echo 86 = .ok (.goto 41, 3) := by decide +kernel
theorem dX6_echo_89 : decode cX6_echo 89 = .ok (.iload_n 3, 1) := by decide +kernel
theorem dX6_echo_90 : decode cX6_echo 90 = .ok (.iconst 2, 1) := by decide +kernel
theorem dX6_echo_91 : decode cX6_echo 91 = .ok (.if_icmp .ne 21, 3) := by decide +kernel
theorem dX6_echo_94 : decode cX6_echo 94 = .ok (.aload_n 0, 1) := by decide +kernel
theorem dX6_echo_95 : decode cX6_echo 95 = .ok (.getfield 26, 3) := by decide +kernel
theorem dX6_echo_98 : decode cX6_echo 98 = .ok (.iload_n 1, 1) := by decide +kernel
theorem dX6_echo_99 : decode cX6_echo 99 = .ok (.bipush 50, 2) := by decide +kernel
theorem dX6_echo_101 : decode cX6_echo 101 = .ok (.imul, 1) := by decide +kernel
theorem dX6_echo_102 : decode cX6_echo 102 = .ok (.bipush 11, 2) := by decide +kernel
theorem dX6_echo_104 : decode cX6_echo 104 = .ok (.imul, 1) := by decide +kernel
theorem dX6_echo_105 : decode cX6_echo 105 = .ok (.iload 5, 2) := by decide +kernel
theorem dX6_echo_107 : decode cX6_echo 107 = .ok (.iadd, 1) := by decide +kernel
theorem dX6_echo_108 : decode cX6_echo 108 = .ok (.iaload, 1) := by decide +kernel
theorem dX6_echo_109 : decode cX6_echo 109 = .ok (.goto 18, 3) := by decide +kernel
theorem dX6_echo_112 : decode cX6_echo 112 = .ok (.aload_n 0, 1) := by decide +kernel
theorem dX6_echo_113 : decode cX6_echo 113 = .ok (.getfield 29, 3) := by decide +kernel
theorem dX6_echo_116 : decode cX6_echo 116 = .ok (.iload_n 1, 1) := by decide +kernel
theorem dX6_echo_117 : decode cX6_echo 117 = .ok (.bipush 50, 2) := by decide +kernel
theorem dX6_echo_119 : decode cX6_echo 119 = .ok (.imul, 1) := by decide +kernel
theorem dX6_echo_120 : decode cX6_echo 120 = .ok (.bipush 11, 2) := by decide +kernel
theorem dX6_echo_122 : decode cX6_echo 122 = .ok (.imul, 1) := by decide +kernel
theorem dX6_echo_123 : decode cX6_echo 123 = .ok (.iload 5, 2) := by decide +kernel
theorem dX6_echo_125 : decode cX6_echo 125 = .ok (.iadd, 1) := by decide +kernel
theorem dX6_echo_126 : decode cX6_echo 126 = .ok (.iaload, 1) := by decide +kernel
theorem dX6_echo_127 : decode cX6_echo 127 = .ok (.ireturn, 1) := by decide +kernel
theorem dX6_echo_128 : decode cX6_echo 128 = .ok (.iinc 4 (-1), 3) := by decide +kernel
theorem dX6_echo_131 : decode cX6_echo 131 = .ok (.iinc 5 1, 3) := by decide +kernel
theorem dX6_echo_134 : decode cX6_echo 134 = .ok (.goto (-101), 3) := by decide +kernel
theorem dX6_echo_137 : decode cX6_echo 137 = .ok (.bipush (-4), 2) := by decide +kernel
theorem dX6_echo_139 : decode cX6_echo 139 = .ok (.ireturn, 1) := by decide +kernel
theorem dX6_fits_0 : decode cX6_fits 0 = .ok (.iload_n 1, 1) := by decide +kernel
theorem dX6_fits_1 : decode cX6_fits 1 = .ok (.iconst 1, 1) := by decide +kernel
theorem dX6_fits_2 : decode cX6_fits 2 = .ok (.sipush 600, 3) := by decide +kernel
theorem dX6_fits_5 : decode cX6_fits 5 = .ok (.invokestatic 41, 3) := by decide +kernel
theorem dX6_fits_8 : decode cX6_fits 8 = .ok (.ifCond .eq 21, 3) := by decide +kernel
theorem dX6_fits_11 : decode cX6_fits 11 = .ok (.iload_n 2, 1) := by decide +kernel
theorem dX6_fits_12 : decode cX6_fits 12 = .ok (.bipush (-5), 2) := by decide +kernel
theorem dX6_fits_14 : decode cX6_fits 14 = .ok (.iconst 5, 1) := by decide +kernel
theorem dX6_fits_15 : decode cX6_fits 15 = .ok (.invokestatic 41, 3) := by decide +kernel
theorem dX6_fits_18 : decode cX6_fits 18 = .ok (.ifCond .eq 11, 3) := by decide +kernel
theorem dX6_fits_21 : decode cX6_fits 21 = .ok (.aload_n 0, 1) := by decide +kernel
theorem dX6_fits_22 : decode cX6_fits 22 = .ok (.iload_n 3, 1) := by decide +kernel
theorem dX6_fits_23 : decode cX6_fits 23 = .ok (.invokevirtual 120, 3) := by decide +kernel
theorem dX6_fits_26 : decode cX6_fits 26 = .ok (.ifCond .ne 5, 3) := by decide +kernel
theorem dX6_fits_29 : decode cX6_fits 29 = .ok (.iconst (-1), 1) := by decide +kernel
theorem dX6_fits_30 : decode cX6_fits 30 = .ok (.ireturn, 1) := by decide +kernel
theorem dX6_fits_31 : decode cX6_fits 31 = .ok (.aload_n 0, 1) := by decide +kernel
theorem dX6_fits_32 : decode cX6_fits 32 = .ok (.invokevirtual 117, 3) := by decide +kernel
theorem dX6_fits_35 : decode cX6_fits 35 = .ok (.aload_n 0, 1) := by decide +kernel
theorem dX6_fits_36 : decode cX6_fits 36 = .ok (.iload_n 1, 1) := by decide +kernel
theorem dX6_fits_37 : decode cX6_fits 37 = .ok (.iload_n 2, 1) := by decide +kernel
theorem dX6_fits_38 : decode cX6_fits 38 = .ok (.iload_n 3, 1) := by decide +kernel
theorem dX6_fits_39 : decode cX6_fits 39 = .ok (.invokevirtual 105, 3) := by decide +kernel
theorem dX6_fits_42 : decode cX6_fits 42 = .ok (.ireturn, 1) := by decide +kernel
theorem dX6_told_0 : decode cX6_told 0 = .ok (.iload_n 1, 1) := by decide +kernel
theorem dX6_told_1 : decode cX6_told 1 = .ok (.ifCond .lt 12, 3) := by decide +kernel
theorem dX6_told_4 : decode cX6_told 4 = .ok (.iload_n 2, 1) := by decide +kernel
theorem dX6_told_5 : decode cX6_told 5 = .ok (.iconst 0, 1) := by decide +kernel
theorem dX6_told_6 : decode cX6_told 6 = .ok (.iconst 3, 1) := by decide +kernel
theorem dX6_told_7 : decode cX6_told 7 = .ok (.invokestatic 41, 3) := by decide +kernel
theorem dX6_told_10 : decode cX6_told 10 = .ok (.ifCond .ne 5, 3) := by decide +kernel
theorem dX6_told_13 : decode cX6_told 13 = .ok (.iconst (-1), 1) := by decide +kernel
theorem dX6_told_14 : decode cX6_told 14 = .ok (.ireturn, 1) := by decide +kernel
theorem dX6_told_15 : decode cX6_told 15 = .ok (.aload_n 0, 1) := by decide +kernel
theorem dX6_told_16 : decode cX6_told 16 = .ok (.invokevirtual 117, 3) := by decide +kernel
theorem dX6_told_19 : decode cX6_told 19 = .ok (.iload_n 1, 1) := by decide +kernel
theorem dX6_told_20 : decode cX6_told 20 = .ok (.istore_n 3, 1) := by decide +kernel
theorem dX6_told_21 : decode cX6_told 21 = .ok (.iconst 1, 1) := by decide +kernel
theorem dX6_told_22 : decode cX6_told 22 = .ok (.istore 4, 2) := by decide +kernel
theorem dX6_told_24 : decode cX6_told 24 = .ok (.iload 4, 2) := by decide +kernel
theorem dX6_told_26 : decode cX6_told 26 = .ok (.sipush 600, 3) := by decide +kernel
theorem dX6_told_29 : decode cX6_told 29 = .ok (.if_icmp .gt 95, 3) := by decide +kernel
theorem dX6_told_32 : decode cX6_told 32 = .ok (.bipush (-5), 2) := by decide +kernel
theorem dX6_told_34 : decode cX6_told 34 = .ok (.istore 5, 2) := by decide +kernel
theorem dX6_told_36 : decode cX6_told 36 = .ok (.iload 5, 2) := by decide +kernel
theorem dX6_told_38 : decode cX6_told 38 = .ok (.iconst 5, 1) := by decide +kernel
theorem dX6_told_39 : decode cX6_told 39 = .ok (.if_icmp .gt 79, 3) := by decide +kernel
theorem dX6_told_42 : decode cX6_told 42 = .ok (.aload_n 0, 1) := by decide +kernel
theorem dX6_told_43 : decode cX6_told 43 = .ok (.iload 4, 2) := by decide +kernel
theorem dX6_told_45 : decode cX6_told 45 = .ok (.iload 5, 2) := by decide +kernel
theorem dX6_told_47 : decode cX6_told 47 = .ok (.invokevirtual 108, 3) := by decide +kernel
theorem dX6_told_50 : decode cX6_told 50 = .ok (.istore 6, 2) := by decide +kernel
theorem dX6_told_52 : decode cX6_told 52 = .ok (.iload 6, 2) := by decide +kernel
theorem dX6_told_54 : decode cX6_told 54 = .ok (.ifCond .le 58, 3) := by decide +kernel
theorem dX6_told_57 : decode cX6_told 57 = .ok (.iload_n 3, 1) := by decide +kernel
theorem dX6_told_58 : decode cX6_told 58 = .ok (.ifCond .ne 51, 3) := by decide +kernel
theorem dX6_told_61 : decode cX6_told 61 = .ok (.iload_n 2, 1) := by decide +kernel
theorem dX6_told_62 : decode cX6_told 62 = .ok (.ifCond .ne 8, 3) := by decide +kernel
theorem dX6_told_65 : decode cX6_told 65 = .ok (.iload 4, 2) := by decide +kernel
theorem dX6_told_67 : decode cX6_told 67 = .ok (.goto 41, 3) := by decide +kernel
theorem dX6_told_70 : decode cX6_told 70 = .ok (.iload_n 2, 1) := by decide +kernel
theorem dX6_told_71 : decode cX6_told 71 = .ok (.iconst 1, 1) := by decide +kernel
theorem dX6_told_72 : decode cX6_told 72 = .ok (.if_icmp .ne 10, 3) := by decide +kernel
theorem dX6_told_75 : decode cX6_told 75 = .ok (.iload 5, 2) := by decide +kernel
theorem dX6_told_77 : decode cX6_told 77 = .ok (.iconst 5, 1) := by decide +kernel
theorem dX6_told_78 : decode cX6_told 78 = .ok (.iadd, 1) := by decide +kernel
theorem dX6_told_79 : decode cX6_told 79 = .ok (.goto 29, 3) := by decide +kernel
theorem dX6_told_82 : decode cX6_told 82 = .ok (.iload_n 2, 1) := by decide +kernel
theorem dX6_told_83 : decode cX6_told 83 = .ok (.iconst 2, 1) := by decide +kernel
theorem dX6_told_84 : decode cX6_told 84 = .ok (.if_icmp .ne 22, 3) := by decide +kernel
theorem dX6_told_87 : decode cX6_told 87 = .ok (.aload_n 0, 1) := by decide +kernel
theorem dX6_told_88 : decode cX6_told 88 = .ok (.iload 4, 2) := by decide +kernel
theorem dX6_told_90 : decode cX6_told 90 = .ok (.iload 5, 2) := by decide +kernel
theorem dX6_told_92 : decode cX6_told 92 = .ok (.invokevirtual 111, 3) := by decide +kernel
theorem dX6_told_95 : decode cX6_told 95 = .ok (.ifCond .eq 7, 3) := by decide +kernel
theorem dX6_told_98 : decode cX6_told 98 = .ok (.iconst 1, 1) := by decide +kernel
theorem dX6_told_99 : decode cX6_told 99 = .ok (.goto 9, 3) := by decide +kernel
theorem dX6_told_102 : decode cX6_told 102 = .ok (.iconst 0, 1) := by decide +kernel
theorem dX6_told_103 : decode cX6_told 103 = .ok (.goto 5, 3) := by decide +kernel
theorem dX6_told_106 : decode cX6_told 106 = .ok (.iload 6, 2) := by decide +kernel
theorem dX6_told_108 : decode cX6_told 108 = .ok (.ireturn, 1) := by decide +kernel
theorem dX6_told_109 : decode cX6_told 109 = .ok (.iinc 3 (-1), 3) := by decide +kernel
theorem dX6_told_112 : decode cX6_told 112 = .ok (.iinc 5 1, 3) := by decide +kernel
theorem dX6_told_115 : decode cX6_told 115 = .ok (.goto (-79), 3) := by decide +kernel
theorem dX6_told_118 : decode cX6_told 118 = .ok (.iinc 4 1, 3) := by decide +kernel
theorem dX6_told_121 : decode cX6_told 121 = .ok (.goto (-97), 3) := by decide +kernel
theorem dX6_told_124 : decode cX6_told 124 = .ok (.bipush (-4), 2) := by decide +kernel
theorem dX6_told_126 : decode cX6_told 126 = .ok (.ireturn, 1) := by decide +kernel
theorem dX6_divisor_0 : decode cX6_divisor 0 = .ok (.iload_n 0, 1) := by decide +kernel
theorem dX6_divisor_1 : decode cX6_divisor 1 = .ok (.istore_n 2, 1) := by decide +kernel
theorem dX6_divisor_2 : decode cX6_divisor 2 = .ok (.iload_n 1, 1) := by decide +kernel
theorem dX6_divisor_3 : decode cX6_divisor 3 = .ok (.istore_n 3, 1) := by decide +kernel
theorem dX6_divisor_4 : decode cX6_divisor 4 = .ok (.iload_n 3, 1) := by decide +kernel
theorem dX6_divisor_5 : decode cX6_divisor 5 = .ok (.ifCond .le 16, 3) := by decide +kernel
theorem dX6_divisor_8 : decode cX6_divisor 8 = .ok (.iload_n 2, 1) := by decide +kernel
theorem dX6_divisor_9 : decode cX6_divisor 9 = .ok (.iload_n 3, 1) := by decide +kernel
theorem dX6_divisor_10 : decode cX6_divisor 10 = .ok (.irem, 1) := by decide +kernel
theorem dX6_divisor_11 : decode cX6_divisor 11 = .ok (.istore 4, 2) := by decide +kernel
theorem dX6_divisor_13 : decode cX6_divisor 13 = .ok (.iload_n 3, 1) := by decide +kernel
theorem dX6_divisor_14 : decode cX6_divisor 14 = .ok (.istore_n 2, 1) := by decide +kernel
theorem dX6_divisor_15 : decode cX6_divisor 15 = .ok (.iload 4, 2) := by decide +kernel
theorem dX6_divisor_17 : decode cX6_divisor 17 = .ok (.istore_n 3, 1) := by decide +kernel
theorem dX6_divisor_18 : decode cX6_divisor 18 = .ok (.goto (-14), 3) := by decide +kernel
theorem dX6_divisor_21 : decode cX6_divisor 21 = .ok (.iload_n 2, 1) := by decide +kernel
theorem dX6_divisor_22 : decode cX6_divisor 22 = .ok (.ireturn, 1) := by decide +kernel
theorem dX6_alike_0 : decode cX6_alike 0 = .ok (.iload_n 1, 1) := by decide +kernel
theorem dX6_alike_1 : decode cX6_alike 1 = .ok (.iconst 0, 1) := by decide +kernel
theorem dX6_alike_2 : decode cX6_alike 2 = .ok (.iconst 1, 1) := by decide +kernel
theorem dX6_alike_3 : decode cX6_alike 3 = .ok (.invokestatic 41, 3) := by decide +kernel
theorem dX6_alike_6 : decode cX6_alike 6 = .ok (.ifCond .ne 5, 3) := by decide +kernel
theorem dX6_alike_9 : decode cX6_alike 9 = .ok (.iconst (-1), 1) := by decide +kernel
theorem dX6_alike_10 : decode cX6_alike 10 = .ok (.ireturn, 1) := by decide +kernel
theorem dX6_alike_11 : decode cX6_alike 11 = .ok (.iconst 1, 1) := by decide +kernel
theorem dX6_alike_12 : decode cX6_alike 12 = .ok (.istore_n 2, 1) := by decide +kernel
theorem dX6_alike_13 : decode cX6_alike 13 = .ok (.iconst 0, 1) := by decide +kernel
theorem dX6_alike_14 : decode cX6_alike 14 = .ok (.istore_n 3, 1) := by decide +kernel
theorem dX6_alike_15 : decode cX6_alike 15 = .ok (.iload_n 3, 1) := by decide +kernel
theorem dX6_alike_16 : decode cX6_alike 16 = .ok (.aload_n 0, 1) := by decide +kernel
theorem dX6_alike_17 : decode cX6_alike 17 = .ok (.getfield 7, 3) := by decide +kernel
theorem dX6_alike_20 : decode cX6_alike 20 = .ok (.iconst 1, 1) := by decide +kernel
theorem dX6_alike_21 : decode cX6_alike 21 = .ok (.iaload, 1) := by decide +kernel
theorem dX6_alike_22 : decode cX6_alike 22 = .ok (.if_icmp .ge 33, 3) := by decide +kernel
theorem dX6_alike_25 : decode cX6_alike 25 = .ok (.iload_n 2, 1) := by decide +kernel
theorem dX6_alike_26 : decode cX6_alike 26 = .ok (.iload_n 2, 1) := by decide +kernel
theorem dX6_alike_27 : decode cX6_alike 27 = .ok (.aload_n 0, 1) := by decide +kernel
theorem dX6_alike_28 : decode cX6_alike 28 = .ok (.getfield 7, 3) := by decide +kernel
theorem dX6_alike_31 : decode cX6_alike 31 = .ok (.iconst 2, 1) := by decide +kernel
theorem dX6_alike_32 : decode cX6_alike 32 = .ok (.iload_n 3, 1) := by decide +kernel
theorem dX6_alike_33 : decode cX6_alike 33 = .ok (.iadd, 1) := by decide +kernel
theorem dX6_alike_34 : decode cX6_alike 34 = .ok (.iaload, 1) := by decide +kernel
theorem dX6_alike_35 : decode cX6_alike 35 = .ok (.invokestatic 123, 3) := by decide +kernel
theorem dX6_alike_38 : decode cX6_alike 38 = .ok (.idiv, 1) := by decide +kernel
theorem dX6_alike_39 : decode cX6_alike 39 = .ok (.aload_n 0, 1) := by decide +kernel
theorem dX6_alike_40 : decode cX6_alike 40 = .ok (.getfield 7, 3) := by decide +kernel
theorem dX6_alike_43 : decode cX6_alike 43 = .ok (.iconst 2, 1) := by decide +kernel
theorem dX6_alike_44 : decode cX6_alike 44 = .ok (.iload_n 3, 1) := by decide +kernel
theorem dX6_alike_45 : decode cX6_alike 45 = .ok (.iadd, 1) := by decide +kernel
theorem dX6_alike_46 : decode cX6_alike 46 = .ok (.iaload, 1) := by decide +kernel
theorem dX6_alike_47 : decode cX6_alike 47 = .ok (.imul, 1) := by decide +kernel
theorem dX6_alike_48 : decode cX6_alike 48 = .ok (.istore_n 2, 1) := by decide +kernel
theorem dX6_alike_49 : decode cX6_alike 49 = .ok (.iinc 3 1, 3) := by decide +kernel
theorem dX6_alike_52 : decode cX6_alike 52 = .ok (.goto (-37), 3) := by decide +kernel
theorem dX6_alike_55 : decode cX6_alike 55 = .ok (.iload_n 2, 1) := by decide +kernel
theorem dX6_alike_56 : decode cX6_alike 56 = .ok (.ireturn, 1) := by decide +kernel
theorem dX6_unfold_0 : decode cX6_unfold 0 = .ok (.aload_n 0, 1) := by decide +kernel
theorem dX6_unfold_1 : decode cX6_unfold 1 = .ok (.getfield 7, 3) := by decide +kernel
theorem dX6_unfold_4 : decode cX6_unfold 4 = .ok (.iconst 2, 1) := by decide +kernel
theorem dX6_unfold_5 : decode cX6_unfold 5 = .ok (.iaload, 1) := by decide +kernel
theorem dX6_unfold_6 : decode cX6_unfold 6 = .ok (.istore 4, 2) := by decide +kernel
theorem dX6_unfold_8 : decode cX6_unfold 8 = .ok (.aload_n 0, 1) := by decide +kernel
theorem dX6_unfold_9 : decode cX6_unfold 9 = .ok (.getfield 7, 3) := by decide +kernel
theorem dX6_unfold_12 : decode cX6_unfold 12 = .ok (.iconst 1, 1) := by decide +kernel
theorem dX6_unfold_13 : decode cX6_unfold 13 = .ok (.iaload, 1) := by decide +kernel
theorem dX6_unfold_14 : decode cX6_unfold 14 = .ok (.iconst 1, 1) := by decide +kernel
theorem dX6_unfold_15 : decode cX6_unfold 15 = .ok (.if_icmp .le 12, 3) := by decide +kernel
theorem dX6_unfold_18 : decode cX6_unfold 18 = .ok (.aload_n 0, 1) := by decide +kernel
theorem dX6_unfold_19 : decode cX6_unfold 19 = .ok (.getfield 7, 3) := by decide +kernel
theorem dX6_unfold_22 : decode cX6_unfold 22 = .ok (.iconst 3, 1) := by decide +kernel
theorem dX6_unfold_23 : decode cX6_unfold 23 = .ok (.iaload, 1) := by decide +kernel
theorem dX6_unfold_24 : decode cX6_unfold 24 = .ok (.goto 4, 3) := by decide +kernel
theorem dX6_unfold_27 : decode cX6_unfold 27 = .ok (.iconst 1, 1) := by decide +kernel
theorem dX6_unfold_28 : decode cX6_unfold 28 = .ok (.istore 5, 2) := by decide +kernel
theorem dX6_unfold_30 : decode cX6_unfold 30 = .ok (.iload_n 1, 1) := by decide +kernel
theorem dX6_unfold_31 : decode cX6_unfold 31 = .ok (.iconst 0, 1) := by decide +kernel
theorem dX6_unfold_32 : decode cX6_unfold 32 = .ok (.iload 4, 2) := by decide +kernel
theorem dX6_unfold_34 : decode cX6_unfold 34 = .ok (.iconst 1, 1) := by decide +kernel
theorem dX6_unfold_35 : decode cX6_unfold 35 = .ok (.isub, 1) := by decide +kernel
theorem dX6_unfold_36 : decode cX6_unfold 36 = .ok (.invokestatic 41, 3) := by decide +kernel
theorem dX6_unfold_39 : decode cX6_unfold 39 = .ok (.ifCond .eq 24, 3) := by decide +kernel
theorem dX6_unfold_42 : decode cX6_unfold 42 = .ok (.iload_n 2, 1) := by decide +kernel
theorem dX6_unfold_43 : decode cX6_unfold 43 = .ok (.iconst 0, 1) := by decide +kernel
theorem dX6_unfold_44 : decode cX6_unfold 44 = .ok (.iload 5, 2) := by decide +kernel
theorem dX6_unfold_46 : decode cX6_unfold 46 = .ok (.iconst 1, 1) := by decide +kernel
theorem dX6_unfold_47 : decode cX6_unfold 47 = .ok (.isub, 1) := by decide +kernel
theorem dX6_unfold_48 : decode cX6_unfold 48 = .ok (.invokestatic 41, 3) := by decide +kernel
theorem dX6_unfold_51 : decode cX6_unfold 51 = .ok (.ifCond .eq 12, 3) := by decide +kernel
theorem dX6_unfold_54 : decode cX6_unfold 54 = .ok (.iload_n 3, 1) := by decide +kernel
theorem dX6_unfold_55 : decode cX6_unfold 55 = .ok (.iconst 0, 1) := by decide +kernel
theorem dX6_unfold_56 : decode cX6_unfold 56 = .ok (.iconst 1, 1) := by decide +kernel
theorem dX6_unfold_57 : decode cX6_unfold 57 = .ok (.invokestatic 41, 3) := by decide +kernel
theorem dX6_unfold_60 : decode cX6_unfold 60 = .ok (.ifCond .ne 5, 3) := by decide +kernel
theorem dX6_unfold_63 : decode cX6_unfold 63 = .ok (.iconst (-1), 1) := by decide +kernel
theorem dX6_unfold_64 : decode cX6_unfold 64 = .ok (.ireturn, 1) := by decide +kernel
theorem dX6_unfold_65 : decode cX6_unfold 65 = .ok (.iconst 0, 1) := by decide +kernel
theorem dX6_unfold_66 : decode cX6_unfold 66 = .ok (.istore 6, 2) := by decide +kernel
theorem dX6_unfold_68 : decode cX6_unfold 68 = .ok (.iload 6, 2) := by decide +kernel
theorem dX6_unfold_70 : decode cX6_unfold 70 = .ok (.iload 5, 2) := by decide +kernel
theorem dX6_unfold_72 : decode cX6_unfold 72 = .ok (.if_icmp .ge 31, 3) := by decide +kernel
theorem dX6_unfold_75 : decode cX6_unfold 75 = .ok (.iload_n 1, 1) := by decide +kernel
theorem dX6_unfold_76 : decode cX6_unfold 76 = .ok (.iload 6, 2) := by decide +kernel
theorem dX6_unfold_78 : decode cX6_unfold 78 = .ok (.iload 4, 2) := by decide +kernel
theorem dX6_unfold_80 : decode cX6_unfold 80 = .ok (.imul, 1) := by decide +kernel
theorem dX6_unfold_81 : decode cX6_unfold 81 = .ok (.iadd, 1) := by decide +kernel
theorem dX6_unfold_82 : decode cX6_unfold 82 = .ok (.iload 5, 2) := by decide +kernel
theorem dX6_unfold_84 : decode cX6_unfold 84 = .ok (.irem, 1) := by decide +kernel
theorem dX6_unfold_85 : decode cX6_unfold 85 = .ok (.iload_n 2, 1) := by decide +kernel
theorem dX6_unfold_86 : decode cX6_unfold 86 = .ok (.if_icmp .ne 11, 3) := by decide +kernel
theorem dX6_unfold_89 : decode cX6_unfold 89 = .ok (.iload_n 1, 1) := by decide +kernel
theorem dX6_unfold_90 : decode cX6_unfold 90 = .ok (.iload 6, 2) := by decide +kernel
theorem dX6_unfold_92 : decode cX6_unfold 92 = .ok (.iload 4, 2) := by decide +kernel
theorem dX6_unfold_94 : decode cX6_unfold 94 = .ok (.imul, 1) := by decide +kernel
theorem dX6_unfold_95 : decode cX6_unfold 95 = .ok (.iadd, 1) := by decide +kernel
theorem dX6_unfold_96 : decode cX6_unfold 96 = .ok (.ireturn, 1) := by decide +kernel
theorem dX6_unfold_97 : decode cX6_unfold 97 = .ok (.iinc 6 1, 3) := by decide +kernel
theorem dX6_unfold_100 : decode cX6_unfold 100 = .ok (.goto (-32), 3) := by decide +kernel
theorem dX6_unfold_103 : decode cX6_unfold 103 = .ok (.bipush (-4), 2) := by decide +kernel
theorem dX6_unfold_105 : decode cX6_unfold 105 = .ok (.ireturn, 1) := by decide +kernel
theorem dX6_echoes_0 : decode cX6_echoes 0 = .ok (.iconst 0, 1) := by decide +kernel
theorem dX6_echoes_1 : decode cX6_echoes 1 = .ok (.istore_n 1, 1) := by decide +kernel
theorem dX6_echoes_2 : decode cX6_echoes 2 = .ok (.iconst 0, 1) := by decide +kernel
theorem dX6_echoes_3 : decode cX6_echoes 3 = .ok (.istore_n 2, 1) := by decide +kernel
theorem dX6_echoes_4 : decode cX6_echoes 4 = .ok (.iload_n 2, 1) := by decide +kernel
theorem dX6_echoes_5 : decode cX6_echoes 5 = .ok (.sipush 2200, 3) := by decide +kernel
theorem dX6_echoes_8 : decode cX6_echoes 8 = .ok (.if_icmp .ge 26, 3) := by decide +kernel
theorem dX6_echoes_11 : decode cX6_echoes 11 = .ok (.iload_n 1, 1) := by decide +kernel
theorem dX6_echoes_12 : decode cX6_echoes 12 = .ok (.aload_n 0, 1) := by decide +kernel
theorem dX6_echoes_13 : decode cX6_echoes 13 = .ok (.getfield 26, 3) := by decide +kernel
theorem dX6_echoes_16 : decode cX6_echoes 16 = .ok (.iload_n 2, 1) := by decide +kernel
theorem dX6_echoes_17 : decode cX6_echoes 17 = .ok (.iaload, 1) := by decide +kernel
theorem dX6_echoes_18 : decode cX6_echoes 18 = .ok (.ifCond .le 7, 3) := by decide +kernel
theorem dX6_echoes_21 : decode cX6_echoes 21 = .ok (.iconst 1, 1) := by decide +kernel
theorem dX6_echoes_22 : decode cX6_echoes 22 = .ok (.goto 4, 3) := by decide +kernel
theorem dX6_echoes_25 : decode cX6_echoes 25 = .ok (.iconst 0, 1) := by decide +kernel
theorem dX6_echoes_26 : decode cX6_echoes 26 = .ok (.iadd, 1) := by decide +kernel
theorem dX6_echoes_27 : decode cX6_echoes 27 = .ok (.istore_n 1, 1) := by decide +kernel
theorem dX6_echoes_28 : decode cX6_echoes 28 = .ok (.iinc 2 1, 3) := by decide +kernel
theorem dX6_echoes_31 : decode cX6_echoes 31 = .ok (.goto (-27), 3) := by decide +kernel
theorem dX6_echoes_34 : decode cX6_echoes 34 = .ok (.iload_n 1, 1) := by decide +kernel
theorem dX6_echoes_35 : decode cX6_echoes 35 = .ok (.ireturn, 1) := by decide +kernel
theorem dX6_lostMany_0 : decode cX6_lostMany 0 = .ok (.iconst 0, 1) := by decide +kernel
theorem dX6_lostMany_1 : decode cX6_lostMany 1 = .ok (.istore_n 1, 1) := by decide +kernel
theorem dX6_lostMany_2 : decode cX6_lostMany 2 = .ok (.iconst 0, 1) := by decide +kernel
theorem dX6_lostMany_3 : decode cX6_lostMany 3 = .ok (.istore_n 2, 1) := by decide +kernel
theorem dX6_lostMany_4 : decode cX6_lostMany 4 = .ok (.iload_n 2, 1) := by decide +kernel
theorem dX6_lostMany_5 : decode cX6_lostMany 5 = .ok (.aload_n 0, 1) := by decide +kernel
theorem dX6_lostMany_6 : decode cX6_lostMany 6 = .ok (.getfield 7, 3) := by decide +kernel
theorem dX6_lostMany_9 : decode cX6_lostMany 9 = .ok (.iconst 1, 1) := by decide +kernel
theorem dX6_lostMany_10 : decode cX6_lostMany 10 = .ok (.iaload, 1) := by decide +kernel
theorem dX6_lostMany_11 : decode cX6_lostMany 11 = .ok (.if_icmp .ge 42, 3) := by decide +kernel
theorem dX6_lostMany_14 : decode cX6_lostMany 14 = .ok (.iconst 0, 1) := by decide +kernel
theorem dX6_lostMany_15 : decode cX6_lostMany 15 = .ok (.istore_n 3, 1) := by decide +kernel
theorem dX6_lostMany_16 : decode cX6_lostMany 16 = .ok (.iload_n 3, 1) := by decide +kernel
theorem dX6_lostMany_17 : decode cX6_lostMany 17 = .ok (.aload_n 0, 1) := by decide +kernel
theorem dX6_lostMany_18 : decode cX6_lostMany 18 = .ok (.getfield 82, 3) := by decide +kernel
theorem dX6_lostMany_21 : decode cX6_lostMany 21 = .ok (.if_icmp .ge 26, 3) := by decide +kernel
theorem dX6_lostMany_24 : decode cX6_lostMany 24 = .ok (.iload_n 1, 1) := by decide +kernel
theorem dX6_lostMany_25 : decode cX6_lostMany 25 = .ok (.aload_n 0, 1) := by decide +kernel
theorem dX6_lostMany_26 : decode cX6_lostMany 26 = .ok (.iload_n 3, 1) := by decide +kernel
theorem dX6_lostMany_27 : decode cX6_lostMany 27 = .ok (.iload_n 2, 1) := by decide +kernel
theorem dX6_lostMany_28 : decode cX6_lostMany 28 = .ok (.invokevirtual 99, 3) := by decide +kernel
theorem dX6_lostMany_31 : decode cX6_lostMany 31 = .ok (.ifCond .eq 7, 3) := by decide +kernel
theorem dX6_lostMany_34 : decode cX6_lostMany 34 = .ok (.iconst 1, 1) := by decide +kernel
theorem dX6_lostMany_35 : decode cX6_lostMany 35 = .ok (.goto 4, 3) := by decide +kernel
theorem dX6_lostMany_38 : decode cX6_lostMany 38 = .ok (.iconst 0, 1) := by decide +kernel
theorem dX6_lostMany_39 : decode cX6_lostMany 39 = .ok (.iadd, 1) := by decide +kernel
theorem dX6_lostMany_40 : decode cX6_lostMany 40 = .ok (.istore_n 1, 1) := by decide +kernel
theorem dX6_lostMany_41 : decode cX6_lostMany 41 = .ok (.iinc 3 1, 3) := by decide +kernel
theorem dX6_lostMany_44 : decode cX6_lostMany 44 = .ok (.goto (-28), 3) := by decide +kernel
theorem dX6_lostMany_47 : decode cX6_lostMany 47 = .ok (.iinc 2 1, 3) := by decide +kernel
theorem dX6_lostMany_50 : decode cX6_lostMany 50 = .ok (.goto (-46), 3) := by decide +kernel
theorem dX6_lostMany_53 : decode cX6_lostMany 53 = .ok (.iload_n 1, 1) := by decide +kernel
theorem dX6_lostMany_54 : decode cX6_lostMany 54 = .ok (.ireturn, 1) := by decide +kernel
theorem dX6_faintMany_0 : decode cX6_faintMany 0 = .ok (.iconst 0, 1) := by decide +kernel
theorem dX6_faintMany_1 : decode cX6_faintMany 1 = .ok (.istore_n 1, 1) := by decide +kernel
theorem dX6_faintMany_2 : decode cX6_faintMany 2 = .ok (.iconst 0, 1) := by decide +kernel
theorem dX6_faintMany_3 : decode cX6_faintMany 3 = .ok (.istore_n 2, 1) := by decide +kernel
theorem dX6_faintMany_4 : decode cX6_faintMany 4 = .ok (.iload_n 2, 1) := by decide +kernel
theorem dX6_faintMany_5 : decode cX6_faintMany 5 = .ok (.aload_n 0, 1) := by decide +kernel
theorem dX6_faintMany_6 : decode cX6_faintMany 6 = .ok (.getfield 82, 3) := by decide +kernel
theorem dX6_faintMany_9 : decode cX6_faintMany 9 = .ok (.if_icmp .ge 25, 3) := by decide +kernel
theorem dX6_faintMany_12 : decode cX6_faintMany 12 = .ok (.iload_n 1, 1) := by decide +kernel
theorem dX6_faintMany_13 : decode cX6_faintMany 13 = .ok (.aload_n 0, 1) := by decide +kernel
theorem dX6_faintMany_14 : decode cX6_faintMany 14 = .ok (.iload_n 2, 1) := by decide +kernel
theorem dX6_faintMany_15 : decode cX6_faintMany 15 = .ok (.invokevirtual 88, 3) := by decide +kernel
theorem dX6_faintMany_18 : decode cX6_faintMany 18 = .ok (.ifCond .eq 7, 3) := by decide +kernel
theorem dX6_faintMany_21 : decode cX6_faintMany 21 = .ok (.iconst 1, 1) := by decide +kernel
theorem dX6_faintMany_22 : decode cX6_faintMany 22 = .ok (.goto 4, 3) := by decide +kernel
theorem dX6_faintMany_25 : decode cX6_faintMany 25 = .ok (.iconst 0, 1) := by decide +kernel
theorem dX6_faintMany_26 : decode cX6_faintMany 26 = .ok (.iadd, 1) := by decide +kernel
theorem dX6_faintMany_27 : decode cX6_faintMany 27 = .ok (.istore_n 1, 1) := by decide +kernel
theorem dX6_faintMany_28 : decode cX6_faintMany 28 = .ok (.iinc 2 1, 3) := by decide +kernel
theorem dX6_faintMany_31 : decode cX6_faintMany 31 = .ok (.goto (-27), 3) := by decide +kernel
theorem dX6_faintMany_34 : decode cX6_faintMany 34 = .ok (.iload_n 1, 1) := by decide +kernel
theorem dX6_faintMany_35 : decode cX6_faintMany 35 = .ok (.ireturn, 1) := by decide +kernel
theorem dX6_walls_0 : decode cX6_walls 0 = .ok (.iconst 0, 1) := by decide +kernel
theorem dX6_walls_1 : decode cX6_walls 1 = .ok (.istore_n 1, 1) := by decide +kernel
theorem dX6_walls_2 : decode cX6_walls 2 = .ok (.iconst 0, 1) := by decide +kernel
theorem dX6_walls_3 : decode cX6_walls 3 = .ok (.istore_n 2, 1) := by decide +kernel
theorem dX6_walls_4 : decode cX6_walls 4 = .ok (.iload_n 2, 1) := by decide +kernel
theorem dX6_walls_5 : decode cX6_walls 5 = .ok (.aload_n 0, 1) := by decide +kernel
theorem dX6_walls_6 : decode cX6_walls 6 = .ok (.getfield 7, 3) := by decide +kernel
theorem dX6_walls_9 : decode cX6_walls 9 = .ok (.iconst 0, 1) := by decide +kernel
theorem dX6_walls_10 : decode cX6_walls 10 = .ok (.iaload, 1) := by decide +kernel
theorem dX6_walls_11 : decode cX6_walls 11 = .ok (.if_icmp .ge 18, 3) := by decide +kernel
theorem dX6_walls_14 : decode cX6_walls 14 = .ok (.iload_n 1, 1) := by decide +kernel
theorem dX6_walls_15 : decode cX6_walls 15 = .ok (.aload_n 0, 1) := by decide +kernel
theorem dX6_walls_16 : decode cX6_walls 16 = .ok (.iload_n 2, 1) := by decide +kernel
theorem dX6_walls_17 : decode cX6_walls 17 = .ok (.iconst 3, 1) := by decide +kernel
theorem dX6_walls_18 : decode cX6_walls 18 = .ok (.invokevirtual 56, 3) := by decide +kernel
theorem dX6_walls_21 : decode cX6_walls 21 = .ok (.iadd, 1) := by decide +kernel
theorem dX6_walls_22 : decode cX6_walls 22 = .ok (.istore_n 1, 1) := by decide +kernel
theorem dX6_walls_23 : decode cX6_walls 23 = .ok (.iinc 2 1, 3) := by decide +kernel
theorem dX6_walls_26 : decode cX6_walls 26 = .ok (.goto (-22), 3) := by decide +kernel
theorem dX6_walls_29 : decode cX6_walls 29 = .ok (.iload_n 1, 1) := by decide +kernel
theorem dX6_walls_30 : decode cX6_walls 30 = .ok (.ireturn, 1) := by decide +kernel
theorem dX6_count_0 : decode cX6_count 0 = .ok (.aload_n 0, 1) := by decide +kernel
theorem dX6_count_1 : decode cX6_count 1 = .ok (.invokevirtual 117, 3) := by decide +kernel
theorem dX6_count_4 : decode cX6_count 4 = .ok (.iload_n 1, 1) := by decide +kernel
theorem dX6_count_5 : decode cX6_count 5 = .ok (.tableswitch 214 0 18 #[91, 98, 103, 115, 122, 122, 122, 122, 150, 155, 160, 165, 171, 177, 182, 182, 195, 204, 209], 91) := by decide +kernel
theorem dX6_count_96 : decode cX6_count 96 = .ok (.aload_n 0, 1) := by decide +kernel
theorem dX6_count_97 : decode cX6_count 97 = .ok (.getfield 7, 3) := by decide +kernel
theorem dX6_count_100 : decode cX6_count 100 = .ok (.iconst 0, 1) := by decide +kernel
theorem dX6_count_101 : decode cX6_count 101 = .ok (.iaload, 1) := by decide +kernel
theorem dX6_count_102 : decode cX6_count 102 = .ok (.ireturn, 1) := by decide +kernel
theorem dX6_count_103 : decode cX6_count 103 = .ok (.aload_n 0, 1) := by decide +kernel
theorem dX6_count_104 : decode cX6_count 104 = .ok (.invokevirtual 126, 3) := by decide +kernel
theorem dX6_count_107 : decode cX6_count 107 = .ok (.ireturn, 1) := by decide +kernel
theorem dX6_count_108 : decode cX6_count 108 = .ok (.aload_n 0, 1) := by decide +kernel
theorem dX6_count_109 : decode cX6_count 109 = .ok (.getfield 82, 3) := by decide +kernel
theorem dX6_count_112 : decode cX6_count 112 = .ok (.aload_n 0, 1) := by decide +kernel
theorem dX6_count_113 : decode cX6_count 113 = .ok (.getfield 7, 3) := by decide +kernel
theorem dX6_count_116 : decode cX6_count 116 = .ok (.iconst 0, 1) := by decide +kernel
theorem dX6_count_117 : decode cX6_count 117 = .ok (.iaload, 1) := by decide +kernel
theorem dX6_count_118 : decode cX6_count 118 = .ok (.isub, 1) := by decide +kernel
theorem dX6_count_119 : decode cX6_count 119 = .ok (.ireturn, 1) := by decide +kernel
theorem dX6_count_120 : decode cX6_count 120 = .ok (.aload_n 0, 1) := by decide +kernel
theorem dX6_count_121 : decode cX6_count 121 = .ok (.getfield 7, 3) := by decide +kernel
theorem dX6_count_124 : decode cX6_count 124 = .ok (.iconst 1, 1) := by decide +kernel
theorem dX6_count_125 : decode cX6_count 125 = .ok (.iaload, 1) := by decide +kernel
theorem dX6_count_126 : decode cX6_count 126 = .ok (.ireturn, 1) := by decide +kernel
theorem dX6_count_127 : decode cX6_count 127 = .ok (.iload_n 1, 1) := by decide +kernel
theorem dX6_count_128 : decode cX6_count 128 = .ok (.iconst 4, 1) := by decide +kernel
theorem dX6_count_129 : decode cX6_count 129 = .ok (.isub, 1) := by decide +kernel
theorem dX6_count_130 : decode cX6_count 130 = .ok (.aload_n 0, 1) := by decide +kernel
theorem dX6_count_131 : decode cX6_count 131 = .ok (.getfield 7, 3) := by decide +kernel
theorem dX6_count_134 : decode cX6_count 134 = .ok (.iconst 1, 1) := by decide +kernel
theorem dX6_count_135 : decode cX6_count 135 = .ok (.iaload, 1) := by decide +kernel
theorem dX6_count_136 : decode cX6_count 136 = .ok (.if_icmp .ge 16, 3) := by decide +kernel
theorem dX6_count_139 : decode cX6_count 139 = .ok (.aload_n 0, 1) := by decide +kernel
theorem dX6_count_140 : decode cX6_count 140 = .ok (.getfield 7, 3) := by decide +kernel
theorem dX6_count_143 : decode cX6_count 143 = .ok (.iconst 2, 1) := by decide +kernel
theorem dX6_count_144 : decode cX6_count 144 = .ok (.iload_n 1, 1) := by decide +kernel
theorem dX6_count_145 : decode cX6_count 145 = .ok (.iadd, 1) := by decide +kernel
theorem dX6_count_146 : decode cX6_count 146 = .ok (.iconst 4, 1) := by decide +kernel
theorem dX6_count_147 : decode cX6_count 147 = .ok (.isub, 1) := by decide +kernel
theorem dX6_count_148 : decode cX6_count 148 = .ok (.iaload, 1) := by decide +kernel
theorem dX6_count_149 : decode cX6_count 149 = .ok (.goto 5, 3) := by decide +kernel
theorem dX6_count_152 : decode cX6_count 152 = .ok (.bipush (-4), 2) := by decide +kernel
theorem dX6_count_154 : decode cX6_count 154 = .ok (.ireturn, 1) := by decide +kernel
theorem dX6_count_155 : decode cX6_count 155 = .ok (.aload_n 0, 1) := by decide +kernel
theorem dX6_count_156 : decode cX6_count 156 = .ok (.invokevirtual 130, 3) := by decide +kernel
theorem dX6_count_159 : decode cX6_count 159 = .ok (.ireturn, 1) := by decide +kernel
theorem dX6_count_160 : decode cX6_count 160 = .ok (.aload_n 0, 1) := by decide +kernel
theorem dX6_count_161 : decode cX6_count 161 = .ok (.invokevirtual 133, 3) := by decide +kernel
theorem dX6_count_164 : decode cX6_count 164 = .ok (.ireturn, 1) := by decide +kernel
theorem dX6_count_165 : decode cX6_count 165 = .ok (.aload_n 0, 1) := by decide +kernel
theorem dX6_count_166 : decode cX6_count 166 = .ok (.invokevirtual 136, 3) := by decide +kernel
theorem dX6_count_169 : decode cX6_count 169 = .ok (.ireturn, 1) := by decide +kernel
theorem dX6_count_170 : decode cX6_count 170 = .ok (.aload_n 0, 1) := by decide +kernel
theorem dX6_count_171 : decode cX6_count 171 = .ok (.iconst 0, 1) := by decide +kernel
theorem dX6_count_172 : decode cX6_count 172 = .ok (.invokevirtual 139, 3) := by decide +kernel
theorem dX6_count_175 : decode cX6_count 175 = .ok (.ireturn, 1) := by decide +kernel
theorem dX6_count_176 : decode cX6_count 176 = .ok (.aload_n 0, 1) := by decide +kernel
theorem dX6_count_177 : decode cX6_count 177 = .ok (.iconst 1, 1) := by decide +kernel
theorem dX6_count_178 : decode cX6_count 178 = .ok (.invokevirtual 139, 3) := by decide +kernel
theorem dX6_count_181 : decode cX6_count 181 = .ok (.ireturn, 1) := by decide +kernel
theorem dX6_count_182 : decode cX6_count 182 = .ok (.aload_n 0, 1) := by decide +kernel
theorem dX6_count_183 : decode cX6_count 183 = .ok (.invokevirtual 143, 3) := by decide +kernel
theorem dX6_count_186 : decode cX6_count 186 = .ok (.ireturn, 1) := by decide +kernel
theorem dX6_count_187 : decode cX6_count 187 = .ok (.aload_n 0, 1) := by decide +kernel
theorem dX6_count_188 : decode cX6_count 188 = .ok (.getfield 7, 3) := by decide +kernel
theorem dX6_count_191 : decode cX6_count 191 = .ok (.bipush 6, 2) := by decide +kernel
theorem dX6_count_193 : decode cX6_count 193 = .ok (.iload_n 1, 1) := by decide +kernel
theorem dX6_count_194 : decode cX6_count 194 = .ok (.iadd, 1) := by decide +kernel
theorem dX6_count_195 : decode cX6_count 195 = .ok (.bipush 14, 2) := by decide +kernel
theorem dX6_count_197 : decode cX6_count 197 = .ok (.isub, 1) := by decide +kernel
theorem dX6_count_198 : decode cX6_count 198 = .ok (.iaload, 1) := by decide +kernel
theorem dX6_count_199 : decode cX6_count 199 = .ok (.ireturn, 1) := by decide +kernel
theorem dX6_count_200 : decode cX6_count 200 = .ok (.aload_n 0, 1) := by decide +kernel
theorem dX6_count_201 : decode cX6_count 201 = .ok (.invokevirtual 146, 3) := by decide +kernel
theorem dX6_count_204 : decode cX6_count 204 = .ok (.aload_n 0, 1) := by decide +kernel
theorem dX6_count_205 : decode cX6_count 205 = .ok (.getfield 149, 3) := by decide +kernel
theorem dX6_count_208 : decode cX6_count 208 = .ok (.ireturn, 1) := by decide +kernel
theorem dX6_count_209 : decode cX6_count 209 = .ok (.aload_n 0, 1) := by decide +kernel
theorem dX6_count_210 : decode cX6_count 210 = .ok (.getfield 152, 3) := by decide +kernel
theorem dX6_count_213 : decode cX6_count 213 = .ok (.ireturn, 1) := by decide +kernel
theorem dX6_count_214 : decode cX6_count 214 = .ok (.aload_n 0, 1) := by decide +kernel
theorem dX6_count_215 : decode cX6_count 215 = .ok (.getfield 45, 3) := by decide +kernel
theorem dX6_count_218 : decode cX6_count 218 = .ok (.ireturn, 1) := by decide +kernel
theorem dX6_count_219 : decode cX6_count 219 = .ok (.iconst (-1), 1) := by decide +kernel
theorem dX6_count_220 : decode cX6_count 220 = .ok (.ireturn, 1) := by decide +kernel
theorem dX6_withTurn_0 : decode cX6_withTurn 0 = .ok (.aload_n 0, 1) := by decide +kernel
theorem dX6_withTurn_1 : decode cX6_withTurn 1 = .ok (.getfield 7, 3) := by decide +kernel
theorem dX6_withTurn_4 : decode cX6_withTurn 4 = .ok (.iconst 2, 1) := by decide +kernel
theorem dX6_withTurn_5 : decode cX6_withTurn 5 = .ok (.aload_n 0, 1) := by decide +kernel
theorem dX6_withTurn_6 : decode cX6_withTurn 6 = .ok (.getfield 7, 3) := by decide +kernel
theorem dX6_withTurn_9 : decode cX6_withTurn 9 = .ok (.iconst 1, 1) := by decide +kernel
theorem dX6_withTurn_10 : decode cX6_withTurn 10 = .ok (.iaload, 1) := by decide +kernel
theorem dX6_withTurn_11 : decode cX6_withTurn 11 = .ok (.iadd, 1) := by decide +kernel
theorem dX6_withTurn_12 : decode cX6_withTurn 12 = .ok (.iload_n 1, 1) := by decide +kernel
theorem dX6_withTurn_13 : decode cX6_withTurn 13 = .ok (.iastore, 1) := by decide +kernel
theorem dX6_withTurn_14 : decode cX6_withTurn 14 = .ok (.aload_n 0, 1) := by decide +kernel
theorem dX6_withTurn_15 : decode cX6_withTurn 15 = .ok (.getfield 7, 3) := by decide +kernel
theorem dX6_withTurn_18 : decode cX6_withTurn 18 = .ok (.iconst 1, 1) := by decide +kernel
theorem dX6_withTurn_19 : decode cX6_withTurn 19 = .ok (.dup2, 1) := by decide +kernel
theorem dX6_withTurn_20 : decode cX6_withTurn 20 = .ok (.iaload, 1) := by decide +kernel
theorem dX6_withTurn_21 : decode cX6_withTurn 21 = .ok (.iconst 1, 1) := by decide +kernel
theorem dX6_withTurn_22 : decode cX6_withTurn 22 = .ok (.iadd, 1) := by decide +kernel
theorem dX6_withTurn_23 : decode cX6_withTurn 23 = .ok (.iastore, 1) := by decide +kernel
theorem dX6_withTurn_24 : decode cX6_withTurn 24 = .ok (.aload_n 0, 1) := by decide +kernel
theorem dX6_withTurn_25 : decode cX6_withTurn 25 = .ok (.invokevirtual 117, 3) := by decide +kernel
theorem dX6_withTurn_28 : decode cX6_withTurn 28 = .ok (.iload_n 2, 1) := by decide +kernel
theorem dX6_withTurn_29 : decode cX6_withTurn 29 = .ok (.ifCond .ne 11, 3) := by decide +kernel
theorem dX6_withTurn_32 : decode cX6_withTurn 32 = .ok (.aload_n 0, 1) := by decide +kernel
theorem dX6_withTurn_33 : decode cX6_withTurn 33 = .ok (.iconst 0, 1) := by decide +kernel
theorem dX6_withTurn_34 : decode cX6_withTurn 34 = .ok (.invokevirtual 139, 3) := by decide +kernel
theorem dX6_withTurn_37 : decode cX6_withTurn 37 = .ok (.goto 20, 3) := by decide +kernel
theorem dX6_withTurn_40 : decode cX6_withTurn 40 = .ok (.iload_n 2, 1) := by decide +kernel
theorem dX6_withTurn_41 : decode cX6_withTurn 41 = .ok (.iconst 1, 1) := by decide +kernel
theorem dX6_withTurn_42 : decode cX6_withTurn 42 = .ok (.if_icmp .ne 11, 3) := by decide +kernel
theorem dX6_withTurn_45 : decode cX6_withTurn 45 = .ok (.aload_n 0, 1) := by decide +kernel
theorem dX6_withTurn_46 : decode cX6_withTurn 46 = .ok (.iconst 1, 1) := by decide +kernel
theorem dX6_withTurn_47 : decode cX6_withTurn 47 = .ok (.invokevirtual 139, 3) := by decide +kernel
theorem dX6_withTurn_50 : decode cX6_withTurn 50 = .ok (.goto 7, 3) := by decide +kernel
theorem dX6_withTurn_53 : decode cX6_withTurn 53 = .ok (.aload_n 0, 1) := by decide +kernel
theorem dX6_withTurn_54 : decode cX6_withTurn 54 = .ok (.invokevirtual 143, 3) := by decide +kernel
theorem dX6_withTurn_57 : decode cX6_withTurn 57 = .ok (.istore_n 3, 1) := by decide +kernel
theorem dX6_withTurn_58 : decode cX6_withTurn 58 = .ok (.aload_n 0, 1) := by decide +kernel
theorem dX6_withTurn_59 : decode cX6_withTurn 59 = .ok (.getfield 7, 3) := by decide +kernel
theorem dX6_withTurn_62 : decode cX6_withTurn 62 = .ok (.iconst 1, 1) := by decide +kernel
theorem dX6_withTurn_63 : decode cX6_withTurn 63 = .ok (.dup2, 1) := by decide +kernel
theorem dX6_withTurn_64 : decode cX6_withTurn 64 = .ok (.iaload, 1) := by decide +kernel
theorem dX6_withTurn_65 : decode cX6_withTurn 65 = .ok (.iconst 1, 1) := by decide +kernel
theorem dX6_withTurn_66 : decode cX6_withTurn 66 = .ok (.isub, 1) := by decide +kernel
theorem dX6_withTurn_67 : decode cX6_withTurn 67 = .ok (.iastore, 1) := by decide +kernel
theorem dX6_withTurn_68 : decode cX6_withTurn 68 = .ok (.aload_n 0, 1) := by decide +kernel
theorem dX6_withTurn_69 : decode cX6_withTurn 69 = .ok (.getfield 7, 3) := by decide +kernel
theorem dX6_withTurn_72 : decode cX6_withTurn 72 = .ok (.iconst 2, 1) := by decide +kernel
theorem dX6_withTurn_73 : decode cX6_withTurn 73 = .ok (.aload_n 0, 1) := by decide +kernel
theorem dX6_withTurn_74 : decode cX6_withTurn 74 = .ok (.getfield 7, 3) := by decide +kernel
theorem dX6_withTurn_77 : decode cX6_withTurn 77 = .ok (.iconst 1, 1) := by decide +kernel
theorem dX6_withTurn_78 : decode cX6_withTurn 78 = .ok (.iaload, 1) := by decide +kernel
theorem dX6_withTurn_79 : decode cX6_withTurn 79 = .ok (.iadd, 1) := by decide +kernel
theorem dX6_withTurn_80 : decode cX6_withTurn 80 = .ok (.iconst 0, 1) := by decide +kernel
theorem dX6_withTurn_81 : decode cX6_withTurn 81 = .ok (.iastore, 1) := by decide +kernel
theorem dX6_withTurn_82 : decode cX6_withTurn 82 = .ok (.iload_n 3, 1) := by decide +kernel
theorem dX6_withTurn_83 : decode cX6_withTurn 83 = .ok (.ireturn, 1) := by decide +kernel
theorem dX6_ifTurn_0 : decode cX6_ifTurn 0 = .ok (.iload_n 1, 1) := by decide +kernel
theorem dX6_ifTurn_1 : decode cX6_ifTurn 1 = .ok (.invokestatic 79, 3) := by decide +kernel
theorem dX6_ifTurn_4 : decode cX6_ifTurn 4 = .ok (.ifCond .eq 12, 3) := by decide +kernel
theorem dX6_ifTurn_7 : decode cX6_ifTurn 7 = .ok (.iload_n 2, 1) := by decide +kernel
theorem dX6_ifTurn_8 : decode cX6_ifTurn 8 = .ok (.iconst 0, 1) := by decide +kernel
theorem dX6_ifTurn_9 : decode cX6_ifTurn 9 = .ok (.iconst 2, 1) := by decide +kernel
theorem dX6_ifTurn_10 : decode cX6_ifTurn 10 = .ok (.invokestatic 41, 3) := by decide +kernel
theorem dX6_ifTurn_13 : decode cX6_ifTurn 13 = .ok (.ifCond .ne 5, 3) := by decide +kernel
theorem dX6_ifTurn_16 : decode cX6_ifTurn 16 = .ok (.iconst (-1), 1) := by decide +kernel
theorem dX6_ifTurn_17 : decode cX6_ifTurn 17 = .ok (.ireturn, 1) := by decide +kernel
theorem dX6_ifTurn_18 : decode cX6_ifTurn 18 = .ok (.aload_n 0, 1) := by decide +kernel
theorem dX6_ifTurn_19 : decode cX6_ifTurn 19 = .ok (.getfield 7, 3) := by decide +kernel
theorem dX6_ifTurn_22 : decode cX6_ifTurn 22 = .ok (.iconst 1, 1) := by decide +kernel
theorem dX6_ifTurn_23 : decode cX6_ifTurn 23 = .ok (.iaload, 1) := by decide +kernel
theorem dX6_ifTurn_24 : decode cX6_ifTurn 24 = .ok (.iconst 4, 1) := by decide +kernel
theorem dX6_ifTurn_25 : decode cX6_ifTurn 25 = .ok (.if_icmp .ne 8, 3) := by decide +kernel
theorem dX6_ifTurn_28 : decode cX6_ifTurn 28 = .ok (.bipush (-3), 2) := by decide +kernel
theorem dX6_ifTurn_30 : decode cX6_ifTurn 30 = .ok (.goto 9, 3) := by decide +kernel
theorem dX6_ifTurn_33 : decode cX6_ifTurn 33 = .ok (.aload_n 0, 1) := by decide +kernel
theorem dX6_ifTurn_34 : decode cX6_ifTurn 34 = .ok (.iload_n 1, 1) := by decide +kernel
theorem dX6_ifTurn_35 : decode cX6_ifTurn 35 = .ok (.iload_n 2, 1) := by decide +kernel
theorem dX6_ifTurn_36 : decode cX6_ifTurn 36 = .ok (.invokevirtual 155, 3) := by decide +kernel
theorem dX6_ifTurn_39 : decode cX6_ifTurn 39 = .ok (.ireturn, 1) := by decide +kernel
theorem dX6_bestTurn_0 : decode cX6_bestTurn 0 = .ok (.aload_n 0, 1) := by decide +kernel
theorem dX6_bestTurn_1 : decode cX6_bestTurn 1 = .ok (.getfield 7, 3) := by decide +kernel
theorem dX6_bestTurn_4 : decode cX6_bestTurn 4 = .ok (.iconst 1, 1) := by decide +kernel
theorem dX6_bestTurn_5 : decode cX6_bestTurn 5 = .ok (.iaload, 1) := by decide +kernel
theorem dX6_bestTurn_6 : decode cX6_bestTurn 6 = .ok (.iconst 4, 1) := by decide +kernel
theorem dX6_bestTurn_7 : decode cX6_bestTurn 7 = .ok (.if_icmp .ne 6, 3) := by decide +kernel
theorem dX6_bestTurn_10 : decode cX6_bestTurn 10 = .ok (.bipush (-3), 2) := by decide +kernel
theorem dX6_bestTurn_12 : decode cX6_bestTurn 12 = .ok (.ireturn, 1) := by decide +kernel
theorem dX6_bestTurn_13 : decode cX6_bestTurn 13 = .ok (.bipush 10, 2) := by decide +kernel
theorem dX6_bestTurn_15 : decode cX6_bestTurn 15 = .ok (.istore_n 1, 1) := by decide +kernel
theorem dX6_bestTurn_16 : decode cX6_bestTurn 16 = .ok (.aload_n 0, 1) := by decide +kernel
theorem dX6_bestTurn_17 : decode cX6_bestTurn 17 = .ok (.bipush 10, 2) := by decide +kernel
theorem dX6_bestTurn_19 : decode cX6_bestTurn 19 = .ok (.iconst 1, 1) := by decide +kernel
theorem dX6_bestTurn_20 : decode cX6_bestTurn 20 = .ok (.invokevirtual 155, 3) := by decide +kernel
theorem dX6_bestTurn_23 : decode cX6_bestTurn 23 = .ok (.aload_n 0, 1) := by decide +kernel
theorem dX6_bestTurn_24 : decode cX6_bestTurn 24 = .ok (.bipush 10, 2) := by decide +kernel
theorem dX6_bestTurn_26 : decode cX6_bestTurn 26 = .ok (.iconst 2, 1) := by decide +kernel
theorem dX6_bestTurn_27 : decode cX6_bestTurn 27 = .ok (.invokevirtual 155, 3) := by decide +kernel
theorem dX6_bestTurn_30 : decode cX6_bestTurn 30 = .ok (.iadd, 1) := by decide +kernel
theorem dX6_bestTurn_31 : decode cX6_bestTurn 31 = .ok (.istore_n 2, 1) := by decide +kernel
theorem dX6_bestTurn_32 : decode cX6_bestTurn 32 = .ok (.bipush 11, 2) := by decide +kernel
theorem dX6_bestTurn_34 : decode cX6_bestTurn 34 = .ok (.istore_n 3, 1) := by decide +kernel
theorem dX6_bestTurn_35 : decode cX6_bestTurn 35 = .ok (.iload_n 3, 1) := by decide +kernel
theorem dX6_bestTurn_36 : decode cX6_bestTurn 36 = .ok (.bipush 50, 2) := by decide +kernel
theorem dX6_bestTurn_38 : decode cX6_bestTurn 38 = .ok (.if_icmp .gt 49, 3) := by decide +kernel
theorem dX6_bestTurn_41 : decode cX6_bestTurn 41 = .ok (.aload_n 0, 1) := by decide +kernel
theorem dX6_bestTurn_42 : decode cX6_bestTurn 42 = .ok (.iload_n 3, 1) := by decide +kernel
theorem dX6_bestTurn_43 : decode cX6_bestTurn 43 = .ok (.iconst 1, 1) := by decide +kernel
theorem dX6_bestTurn_44 : decode cX6_bestTurn 44 = .ok (.invokevirtual 155, 3) := by decide +kernel
theorem dX6_bestTurn_47 : decode cX6_bestTurn 47 = .ok (.aload_n 0, 1) := by decide +kernel
theorem dX6_bestTurn_48 : decode cX6_bestTurn 48 = .ok (.iload_n 3, 1) := by decide +kernel
theorem dX6_bestTurn_49 : decode cX6_bestTurn 49 = .ok (.iconst 2, 1) := by decide +kernel
theorem dX6_bestTurn_50 : decode cX6_bestTurn 50 = .ok (.invokevirtual 155, 3) := by decide +kernel
theorem dX6_bestTurn_53 : decode cX6_bestTurn 53 = .ok (.iadd, 1) := by decide +kernel
theorem dX6_bestTurn_54 : decode cX6_bestTurn 54 = .ok (.istore 4, 2) := by decide +kernel
theorem dX6_bestTurn_56 : decode cX6_bestTurn 56 = .ok (.iload 4, 2) := by decide +kernel
theorem dX6_bestTurn_58 : decode cX6_bestTurn 58 = .ok (.iload_n 2, 1) := by decide +kernel
theorem dX6_bestTurn_59 : decode cX6_bestTurn 59 = .ok (.if_icmp .ge 7, 3) := by decide +kernel
theorem dX6_bestTurn_62 : decode cX6_bestTurn 62 = .ok (.iload_n 3, 1) := by decide +kernel
theorem dX6_bestTurn_63 : decode cX6_bestTurn 63 = .ok (.goto 4, 3) := by decide +kernel
theorem dX6_bestTurn_66 : decode cX6_bestTurn 66 = .ok (.iload_n 1, 1) := by decide +kernel
theorem dX6_bestTurn_67 : decode cX6_bestTurn 67 = .ok (.istore_n 1, 1) := by decide +kernel
theorem dX6_bestTurn_68 : decode cX6_bestTurn 68 = .ok (.iload 4, 2) := by decide +kernel
theorem dX6_bestTurn_70 : decode cX6_bestTurn 70 = .ok (.iload_n 2, 1) := by decide +kernel
theorem dX6_bestTurn_71 : decode cX6_bestTurn 71 = .ok (.if_icmp .ge 8, 3) := by decide +kernel
theorem dX6_bestTurn_74 : decode cX6_bestTurn 74 = .ok (.iload 4, 2) := by decide +kernel
theorem dX6_bestTurn_76 : decode cX6_bestTurn 76 = .ok (.goto 4, 3) := by decide +kernel
theorem dX6_bestTurn_79 : decode cX6_bestTurn 79 = .ok (.iload_n 2, 1) := by decide +kernel
theorem dX6_bestTurn_80 : decode cX6_bestTurn 80 = .ok (.istore_n 2, 1) := by decide +kernel
theorem dX6_bestTurn_81 : decode cX6_bestTurn 81 = .ok (.iinc 3 1, 3) := by decide +kernel
theorem dX6_bestTurn_84 : decode cX6_bestTurn 84 = .ok (.goto (-49), 3) := by decide +kernel
theorem dX6_bestTurn_87 : decode cX6_bestTurn 87 = .ok (.iload_n 1, 1) := by decide +kernel
theorem dX6_bestTurn_88 : decode cX6_bestTurn 88 = .ok (.ireturn, 1) := by decide +kernel
theorem dX6_ifWall_0 : decode cX6_ifWall 0 = .ok (.iload_n 1, 1) := by decide +kernel
theorem dX6_ifWall_1 : decode cX6_ifWall 1 = .ok (.iload_n 2, 1) := by decide +kernel
theorem dX6_ifWall_2 : decode cX6_ifWall 2 = .ok (.iconst 0, 1) := by decide +kernel
theorem dX6_ifWall_3 : decode cX6_ifWall 3 = .ok (.invokestatic 60, 3) := by decide +kernel
theorem dX6_ifWall_6 : decode cX6_ifWall 6 = .ok (.ifCond .eq 12, 3) := by decide +kernel
theorem dX6_ifWall_9 : decode cX6_ifWall 9 = .ok (.iload_n 3, 1) := by decide +kernel
theorem dX6_ifWall_10 : decode cX6_ifWall 10 = .ok (.iconst 0, 1) := by decide +kernel
theorem dX6_ifWall_11 : decode cX6_ifWall 11 = .ok (.iconst 1, 1) := by decide +kernel
theorem dX6_ifWall_12 : decode cX6_ifWall 12 = .ok (.invokestatic 41, 3) := by decide +kernel
theorem dX6_ifWall_15 : decode cX6_ifWall 15 = .ok (.ifCond .ne 5, 3) := by decide +kernel
theorem dX6_ifWall_18 : decode cX6_ifWall 18 = .ok (.iconst (-1), 1) := by decide +kernel
theorem dX6_ifWall_19 : decode cX6_ifWall 19 = .ok (.ireturn, 1) := by decide +kernel
theorem dX6_ifWall_20 : decode cX6_ifWall 20 = .ok (.aload_n 0, 1) := by decide +kernel
theorem dX6_ifWall_21 : decode cX6_ifWall 21 = .ok (.iload_n 1, 1) := by decide +kernel
theorem dX6_ifWall_22 : decode cX6_ifWall 22 = .ok (.iconst 0, 1) := by decide +kernel
theorem dX6_ifWall_23 : decode cX6_ifWall 23 = .ok (.invokevirtual 63, 3) := by decide +kernel
theorem dX6_ifWall_26 : decode cX6_ifWall 26 = .ok (.ifCond .eq 6, 3) := by decide +kernel
theorem dX6_ifWall_29 : decode cX6_ifWall 29 = .ok (.bipush (-2), 2) := by decide +kernel
theorem dX6_ifWall_31 : decode cX6_ifWall 31 = .ok (.ireturn, 1) := by decide +kernel
theorem dX6_ifWall_32 : decode cX6_ifWall 32 = .ok (.aload_n 0, 1) := by decide +kernel
theorem dX6_ifWall_33 : decode cX6_ifWall 33 = .ok (.getfield 7, 3) := by decide +kernel
theorem dX6_ifWall_36 : decode cX6_ifWall 36 = .ok (.iconst 0, 1) := by decide +kernel
theorem dX6_ifWall_37 : decode cX6_ifWall 37 = .ok (.iaload, 1) := by decide +kernel
theorem dX6_ifWall_38 : decode cX6_ifWall 38 = .ok (.bipush 6, 2) := by decide +kernel
theorem dX6_ifWall_40 : decode cX6_ifWall 40 = .ok (.if_icmp .ne 6, 3) := by decide +kernel
theorem dX6_ifWall_43 : decode cX6_ifWall 43 = .ok (.bipush (-3), 2) := by decide +kernel
theorem dX6_ifWall_45 : decode cX6_ifWall 45 = .ok (.ireturn, 1) := by decide +kernel
theorem dX6_ifWall_46 : decode cX6_ifWall 46 = .ok (.aload_n 0, 1) := by decide +kernel
theorem dX6_ifWall_47 : decode cX6_ifWall 47 = .ok (.iload_n 1, 1) := by decide +kernel
theorem dX6_ifWall_48 : decode cX6_ifWall 48 = .ok (.iload_n 2, 1) := by decide +kernel
theorem dX6_ifWall_49 : decode cX6_ifWall 49 = .ok (.iconst 0, 1) := by decide +kernel
theorem dX6_ifWall_50 : decode cX6_ifWall 50 = .ok (.iconst 1, 1) := by decide +kernel
theorem dX6_ifWall_51 : decode cX6_ifWall 51 = .ok (.invokevirtual 67, 3) := by decide +kernel
theorem dX6_ifWall_54 : decode cX6_ifWall 54 = .ok (.aload_n 0, 1) := by decide +kernel
theorem dX6_ifWall_55 : decode cX6_ifWall 55 = .ok (.invokevirtual 117, 3) := by decide +kernel
theorem dX6_ifWall_58 : decode cX6_ifWall 58 = .ok (.iload_n 3, 1) := by decide +kernel
theorem dX6_ifWall_59 : decode cX6_ifWall 59 = .ok (.ifCond .ne 17, 3) := by decide +kernel
theorem dX6_ifWall_62 : decode cX6_ifWall 62 = .ok (.aload_n 0, 1) := by decide +kernel
theorem dX6_ifWall_63 : decode cX6_ifWall 63 = .ok (.getfield 82, 3) := by decide +kernel
theorem dX6_ifWall_66 : decode cX6_ifWall 66 = .ok (.aload_n 0, 1) := by decide +kernel
theorem dX6_ifWall_67 : decode cX6_ifWall 67 = .ok (.getfield 7, 3) := by decide +kernel
theorem dX6_ifWall_70 : decode cX6_ifWall 70 = .ok (.iconst 0, 1) := by decide +kernel
theorem dX6_ifWall_71 : decode cX6_ifWall 71 = .ok (.iaload, 1) := by decide +kernel
theorem dX6_ifWall_72 : decode cX6_ifWall 72 = .ok (.isub, 1) := by decide +kernel
theorem dX6_ifWall_73 : decode cX6_ifWall 73 = .ok (.goto 8, 3) := by decide +kernel
theorem dX6_ifWall_76 : decode cX6_ifWall 76 = .ok (.aload_n 0, 1) := by decide +kernel
theorem dX6_ifWall_77 : decode cX6_ifWall 77 = .ok (.iconst 0, 1) := by decide +kernel
theorem dX6_ifWall_78 : decode cX6_ifWall 78 = .ok (.invokevirtual 139, 3) := by decide +kernel
theorem dX6_ifWall_81 : decode cX6_ifWall 81 = .ok (.istore 4, 2) := by decide +kernel
theorem dX6_ifWall_83 : decode cX6_ifWall 83 = .ok (.aload_n 0, 1) := by decide +kernel
theorem dX6_ifWall_84 : decode cX6_ifWall 84 = .ok (.getfield 7, 3) := by decide +kernel
theorem dX6_ifWall_87 : decode cX6_ifWall 87 = .ok (.iconst 0, 1) := by decide +kernel
theorem dX6_ifWall_88 : decode cX6_ifWall 88 = .ok (.dup2, 1) := by decide +kernel
theorem dX6_ifWall_89 : decode cX6_ifWall 89 = .ok (.iaload, 1) := by decide +kernel
theorem dX6_ifWall_90 : decode cX6_ifWall 90 = .ok (.iconst 1, 1) := by decide +kernel
theorem dX6_ifWall_91 : decode cX6_ifWall 91 = .ok (.isub, 1) := by decide +kernel
theorem dX6_ifWall_92 : decode cX6_ifWall 92 = .ok (.iastore, 1) := by decide +kernel
theorem dX6_ifWall_93 : decode cX6_ifWall 93 = .ok (.iload 4, 2) := by decide +kernel
theorem dX6_ifWall_95 : decode cX6_ifWall 95 = .ok (.ireturn, 1) := by decide +kernel
theorem dX6_sets_0 : decode cX6_sets 0 = .ok (.aload_n 0, 1) := by decide +kernel
theorem dX6_sets_1 : decode cX6_sets 1 = .ok (.getfield 32, 3) := by decide +kernel
theorem dX6_sets_4 : decode cX6_sets 4 = .ok (.aload_n 0, 1) := by decide +kernel
theorem dX6_sets_5 : decode cX6_sets 5 = .ok (.getfield 149, 3) := by decide +kernel
theorem dX6_sets_8 : decode cX6_sets 8 = .ok (.iload_n 1, 1) := by decide +kernel
theorem dX6_sets_9 : decode cX6_sets 9 = .ok (.i2c, 1) := by decide +kernel
theorem dX6_sets_10 : decode cX6_sets 10 = .ok (.castore, 1) := by decide +kernel
theorem dX6_sets_11 : decode cX6_sets 11 = .ok (.aload_n 0, 1) := by decide +kernel
theorem dX6_sets_12 : decode cX6_sets 12 = .ok (.dup, 1) := by decide +kernel
theorem dX6_sets_13 : decode cX6_sets 13 = .ok (.getfield 149, 3) := by decide +kernel
theorem dX6_sets_16 : decode cX6_sets 16 = .ok (.iconst 1, 1) := by decide +kernel
theorem dX6_sets_17 : decode cX6_sets 17 = .ok (.iadd, 1) := by decide +kernel
theorem dX6_sets_18 : decode cX6_sets 18 = .ok (.putfield 149, 3) := by decide +kernel
theorem dX6_sets_21 : decode cX6_sets 21 = .ok (.return_, 1) := by decide +kernel
theorem dX6_setsNumber_0 : decode cX6_setsNumber 0 = .ok (.iload_n 1, 1) := by decide +kernel
theorem dX6_setsNumber_1 : decode cX6_setsNumber 1 = .ok (.bipush 99, 2) := by decide +kernel
theorem dX6_setsNumber_3 : decode cX6_setsNumber 3 = .ok (.if_icmp .le 14, 3) := by decide +kernel
theorem dX6_setsNumber_6 : decode cX6_setsNumber 6 = .ok (.aload_n 0, 1) := by decide +kernel
theorem dX6_setsNumber_7 : decode cX6_setsNumber 7 = .ok (.bipush 48, 2) := by decide +kernel
theorem dX6_setsNumber_9 : decode cX6_setsNumber 9 = .ok (.iload_n 1, 1) := by decide +kernel
theorem dX6_setsNumber_10 : decode cX6_setsNumber 10 = .ok (.bipush 100, 2) := by decide +kernel
theorem dX6_setsNumber_12 : decode cX6_setsNumber 12 = .ok (.idiv, 1) := by decide +kernel
theorem dX6_setsNumber_13 : decode cX6_setsNumber 13 = .ok (.iadd, 1) := by decide +kernel
theorem dX6_setsNumber_14 : decode cX6_setsNumber 14 = .ok (.invokevirtual 158, 3) := by decide +kernel
theorem dX6_setsNumber_17 : decode cX6_setsNumber 17 = .ok (.iload_n 1, 1) := by decide +kernel
theorem dX6_setsNumber_18 : decode cX6_setsNumber 18 = .ok (.bipush 9, 2) := by decide +kernel
theorem dX6_setsNumber_20 : decode cX6_setsNumber 20 = .ok (.if_icmp .le 17, 3) := by decide +kernel
theorem dX6_setsNumber_23 : decode cX6_setsNumber 23 = .ok (.aload_n 0, 1) := by decide +kernel
theorem dX6_setsNumber_24 : decode cX6_setsNumber 24 = .ok (.bipush 48, 2) := by decide +kernel
theorem dX6_setsNumber_26 : decode cX6_setsNumber 26 = .ok (.iload_n 1, 1) := by decide +kernel
theorem dX6_setsNumber_27 : decode cX6_setsNumber 27 = .ok (.bipush 10, 2) := by decide +kernel
theorem dX6_setsNumber_29 : decode cX6_setsNumber 29 = .ok (.idiv, 1) := by decide +kernel
theorem dX6_setsNumber_30 : decode cX6_setsNumber 30 = .ok (.bipush 10, 2) := by decide +kernel
theorem dX6_setsNumber_32 : decode cX6_setsNumber 32 = .ok (.irem, 1) := by decide +kernel
theorem dX6_setsNumber_33 : decode cX6_setsNumber 33 = .ok (.iadd, 1) := by decide +kernel
theorem dX6_setsNumber_34 : decode cX6_setsNumber 34 = .ok (.invokevirtual 158, 3) := by decide +kernel
theorem dX6_setsNumber_37 : decode cX6_setsNumber 37 = .ok (.aload_n 0, 1) := by decide +kernel
theorem dX6_setsNumber_38 : decode cX6_setsNumber 38 = .ok (.bipush 48, 2) := by decide +kernel
theorem dX6_setsNumber_40 : decode cX6_setsNumber 40 = .ok (.iload_n 1, 1) := by decide +kernel
theorem dX6_setsNumber_41 : decode cX6_setsNumber 41 = .ok (.bipush 10, 2) := by decide +kernel
theorem dX6_setsNumber_43 : decode cX6_setsNumber 43 = .ok (.irem, 1) := by decide +kernel
theorem dX6_setsNumber_44 : decode cX6_setsNumber 44 = .ok (.iadd, 1) := by decide +kernel
theorem dX6_setsNumber_45 : decode cX6_setsNumber 45 = .ok (.invokevirtual 158, 3) := by decide +kernel
theorem dX6_setsNumber_48 : decode cX6_setsNumber 48 = .ok (.return_, 1) := by decide +kernel
theorem dX6_write_0 : decode cX6_write 0 = .ok (.aload_n 0, 1) := by decide +kernel
theorem dX6_write_1 : decode cX6_write 1 = .ok (.iconst 0, 1) := by decide +kernel
theorem dX6_write_2 : decode cX6_write 2 = .ok (.putfield 149, 3) := by decide +kernel
theorem dX6_write_5 : decode cX6_write 5 = .ok (.iconst 0, 1) := by decide +kernel
theorem dX6_write_6 : decode cX6_write 6 = .ok (.istore_n 1, 1) := by decide +kernel
theorem dX6_write_7 : decode cX6_write 7 = .ok (.iload_n 1, 1) := by decide +kernel
theorem dX6_write_8 : decode cX6_write 8 = .ok (.aload_n 0, 1) := by decide +kernel
theorem dX6_write_9 : decode cX6_write 9 = .ok (.getfield 7, 3) := by decide +kernel
theorem dX6_write_12 : decode cX6_write 12 = .ok (.iconst 0, 1) := by decide +kernel
theorem dX6_write_13 : decode cX6_write 13 = .ok (.iaload, 1) := by decide +kernel
theorem dX6_write_14 : decode cX6_write 14 = .ok (.if_icmp .ge 127, 3) := by decide +kernel
theorem dX6_write_17 : decode cX6_write 17 = .ok (.iload_n 1, 1) := by decide +kernel
theorem dX6_write_18 : decode cX6_write 18 = .ok (.ifCond .le 9, 3) := by decide +kernel
theorem dX6_write_21 : decode cX6_write 21 = .ok (.aload_n 0, 1) := by decide +kernel
theorem dX6_write_22 : decode cX6_write 22 = .ok (.bipush 44, 2) := by decide +kernel
theorem dX6_write_24 : decode cX6_write 24 = .ok (.invokevirtual 158, 3) := by decide +kernel
theorem dX6_write_27 : decode cX6_write 27 = .ok (.aload_n 0, 1) := by decide +kernel
theorem dX6_write_28 : decode cX6_write 28 = .ok (.aload_n 0, 1) := by decide +kernel
theorem dX6_write_29 : decode cX6_write 29 = .ok (.iload_n 1, 1) := by decide +kernel
theorem dX6_write_30 : decode cX6_write 30 = .ok (.iconst 3, 1) := by decide +kernel
theorem dX6_write_31 : decode cX6_write 31 = .ok (.invokevirtual 56, 3) := by decide +kernel
theorem dX6_write_34 : decode cX6_write 34 = .ok (.iconst 1, 1) := by decide +kernel
theorem dX6_write_35 : decode cX6_write 35 = .ok (.if_icmp .ne 8, 3) := by decide +kernel
theorem dX6_write_38 : decode cX6_write 38 = .ok (.bipush 119, 2) := by decide +kernel
theorem dX6_write_40 : decode cX6_write 40 = .ok (.goto 5, 3) := by decide +kernel
theorem dX6_write_43 : decode cX6_write 43 = .ok (.bipush 116, 2) := by decide +kernel
theorem dX6_write_45 : decode cX6_write 45 = .ok (.invokevirtual 158, 3) := by decide +kernel
theorem dX6_write_48 : decode cX6_write 48 = .ok (.aload_n 0, 1) := by decide +kernel
theorem dX6_write_49 : decode cX6_write 49 = .ok (.aload_n 0, 1) := by decide +kernel
theorem dX6_write_50 : decode cX6_write 50 = .ok (.iload_n 1, 1) := by decide +kernel
theorem dX6_write_51 : decode cX6_write 51 = .ok (.iconst 0, 1) := by decide +kernel
theorem dX6_write_52 : decode cX6_write 52 = .ok (.invokevirtual 56, 3) := by decide +kernel
theorem dX6_write_55 : decode cX6_write 55 = .ok (.invokevirtual 161, 3) := by decide +kernel
theorem dX6_write_58 : decode cX6_write 58 = .ok (.aload_n 0, 1) := by decide +kernel
theorem dX6_write_59 : decode cX6_write 59 = .ok (.bipush 42, 2) := by decide +kernel
theorem dX6_write_61 : decode cX6_write 61 = .ok (.invokevirtual 158, 3) := by decide +kernel
theorem dX6_write_64 : decode cX6_write 64 = .ok (.aload_n 0, 1) := by decide +kernel
theorem dX6_write_65 : decode cX6_write 65 = .ok (.aload_n 0, 1) := by decide +kernel
theorem dX6_write_66 : decode cX6_write 66 = .ok (.iload_n 1, 1) := by decide +kernel
theorem dX6_write_67 : decode cX6_write 67 = .ok (.iconst 1, 1) := by decide +kernel
theorem dX6_write_68 : decode cX6_write 68 = .ok (.invokevirtual 56, 3) := by decide +kernel
theorem dX6_write_71 : decode cX6_write 71 = .ok (.invokevirtual 161, 3) := by decide +kernel
theorem dX6_write_74 : decode cX6_write 74 = .ok (.aload_n 0, 1) := by decide +kernel
theorem dX6_write_75 : decode cX6_write 75 = .ok (.iload_n 1, 1) := by decide +kernel
theorem dX6_write_76 : decode cX6_write 76 = .ok (.iconst 2, 1) := by decide +kernel
theorem dX6_write_77 : decode cX6_write 77 = .ok (.invokevirtual 56, 3) := by decide +kernel
theorem dX6_write_80 : decode cX6_write 80 = .ok (.ifCond .eq 55, 3) := by decide +kernel
theorem dX6_write_83 : decode cX6_write 83 = .ok (.aload_n 0, 1) := by decide +kernel
theorem dX6_write_84 : decode cX6_write 84 = .ok (.aload_n 0, 1) := by decide +kernel
theorem dX6_write_85 : decode cX6_write 85 = .ok (.iload_n 1, 1) := by decide +kernel
theorem dX6_write_86 : decode cX6_write 86 = .ok (.iconst 2, 1) := by decide +kernel
theorem dX6_write_87 : decode cX6_write 87 = .ok (.invokevirtual 56, 3) := by decide +kernel
theorem dX6_write_90 : decode cX6_write 90 = .ok (.ifCond .ge 8, 3) := by decide +kernel
theorem dX6_write_93 : decode cX6_write 93 = .ok (.bipush 45, 2) := by decide +kernel
theorem dX6_write_95 : decode cX6_write 95 = .ok (.goto 5, 3) := by decide +kernel
theorem dX6_write_98 : decode cX6_write 98 = .ok (.bipush 43, 2) := by decide +kernel
theorem dX6_write_100 : decode cX6_write 100 = .ok (.invokevirtual 158, 3) := by decide +kernel
theorem dX6_write_103 : decode cX6_write 103 = .ok (.aload_n 0, 1) := by decide +kernel
theorem dX6_write_104 : decode cX6_write 104 = .ok (.bipush 48, 2) := by decide +kernel
theorem dX6_write_106 : decode cX6_write 106 = .ok (.aload_n 0, 1) := by decide +kernel
theorem dX6_write_107 : decode cX6_write 107 = .ok (.iload_n 1, 1) := by decide +kernel
theorem dX6_write_108 : decode cX6_write 108 = .ok (.iconst 2, 1) := by decide +kernel
theorem dX6_write_109 : decode cX6_write 109 = .ok (.invokevirtual 56, 3) := by decide +kernel
theorem dX6_write_112 : decode cX6_write 112 = .ok (.ifCond .ge 13, 3) := by decide +kernel
theorem dX6_write_115 : decode cX6_write 115 = .ok (.aload_n 0, 1) := by decide +kernel
theorem dX6_write_116 : decode cX6_write 116 = .ok (.iload_n 1, 1) := by decide +kernel
theorem dX6_write_117 : decode cX6_write 117 = .ok (.iconst 2, 1) := by decide +kernel
theorem dX6_write_118 : decode cX6_write 118 = .ok (.invokevirtual 56, 3) := by decide +kernel
theorem dX6_write_121 : decode cX6_write 121 = .ok (.ineg, 1) := by decide +kernel
theorem dX6_write_122 : decode cX6_write 122 = .ok (.goto 9, 3) := by decide +kernel
theorem dX6_write_125 : decode cX6_write 125 = .ok (.aload_n 0, 1) := by decide +kernel
theorem dX6_write_126 : decode cX6_write 126 = .ok (.iload_n 1, 1) := by decide +kernel
theorem dX6_write_127 : decode cX6_write 127 = .ok (.iconst 2, 1) := by decide +kernel
theorem dX6_write_128 : decode cX6_write 128 = .ok (.invokevirtual 56, 3) := by decide +kernel
theorem dX6_write_131 : decode cX6_write 131 = .ok (.iadd, 1) := by decide +kernel
theorem dX6_write_132 : decode cX6_write 132 = .ok (.invokevirtual 158, 3) := by decide +kernel
theorem dX6_write_135 : decode cX6_write 135 = .ok (.iinc 1 1, 3) := by decide +kernel
theorem dX6_write_138 : decode cX6_write 138 = .ok (.goto (-131), 3) := by decide +kernel
theorem dX6_write_141 : decode cX6_write 141 = .ok (.iconst 0, 1) := by decide +kernel
theorem dX6_write_142 : decode cX6_write 142 = .ok (.istore_n 1, 1) := by decide +kernel
theorem dX6_write_143 : decode cX6_write 143 = .ok (.iload_n 1, 1) := by decide +kernel
theorem dX6_write_144 : decode cX6_write 144 = .ok (.aload_n 0, 1) := by decide +kernel
theorem dX6_write_145 : decode cX6_write 145 = .ok (.getfield 7, 3) := by decide +kernel
theorem dX6_write_148 : decode cX6_write 148 = .ok (.iconst 1, 1) := by decide +kernel
theorem dX6_write_149 : decode cX6_write 149 = .ok (.iaload, 1) := by decide +kernel
theorem dX6_write_150 : decode cX6_write 150 = .ok (.if_icmp .ge 45, 3) := by decide +kernel
theorem dX6_write_153 : decode cX6_write 153 = .ok (.aload_n 0, 1) := by decide +kernel
theorem dX6_write_154 : decode cX6_write 154 = .ok (.getfield 7, 3) := by decide +kernel
theorem dX6_write_157 : decode cX6_write 157 = .ok (.iconst 0, 1) := by decide +kernel
theorem dX6_write_158 : decode cX6_write 158 = .ok (.iaload, 1) := by decide +kernel
theorem dX6_write_159 : decode cX6_write 159 = .ok (.ifCond .le 36, 3) := by decide +kernel
theorem dX6_write_162 : decode cX6_write 162 = .ok (.aload_n 0, 1) := by decide +kernel
theorem dX6_write_163 : decode cX6_write 163 = .ok (.iload_n 1, 1) := by decide +kernel
theorem dX6_write_164 : decode cX6_write 164 = .ok (.ifCond .ne 8, 3) := by decide +kernel
theorem dX6_write_167 : decode cX6_write 167 = .ok (.bipush 59, 2) := by decide +kernel
theorem dX6_write_169 : decode cX6_write 169 = .ok (.goto 5, 3) := by decide +kernel
theorem dX6_write_172 : decode cX6_write 172 = .ok (.bipush 47, 2) := by decide +kernel
theorem dX6_write_174 : decode cX6_write 174 = .ok (.invokevirtual 158, 3) := by decide +kernel
theorem dX6_write_177 : decode cX6_write 177 = .ok (.aload_n 0, 1) := by decide +kernel
theorem dX6_write_178 : decode cX6_write 178 = .ok (.aload_n 0, 1) := by decide +kernel
theorem dX6_write_179 : decode cX6_write 179 = .ok (.getfield 7, 3) := by decide +kernel
theorem dX6_write_182 : decode cX6_write 182 = .ok (.iconst 2, 1) := by decide +kernel
theorem dX6_write_183 : decode cX6_write 183 = .ok (.iload_n 1, 1) := by decide +kernel
theorem dX6_write_184 : decode cX6_write 184 = .ok (.iadd, 1) := by decide +kernel
theorem dX6_write_185 : decode cX6_write 185 = .ok (.iaload, 1) := by decide +kernel
theorem dX6_write_186 : decode cX6_write 186 = .ok (.invokevirtual 161, 3) := by decide +kernel
theorem dX6_write_189 : decode cX6_write 189 = .ok (.iinc 1 1, 3) := by decide +kernel
theorem dX6_write_192 : decode cX6_write 192 = .ok (.goto (-49), 3) := by decide +kernel
theorem dX6_write_195 : decode cX6_write 195 = .ok (.return_, 1) := by decide +kernel
theorem dX6_sign_0 : decode cX6_sign 0 = .ok (.iload_n 1, 1) := by decide +kernel
theorem dX6_sign_1 : decode cX6_sign 1 = .ok (.ifCond .ge 5, 3) := by decide +kernel
theorem dX6_sign_4 : decode cX6_sign 4 = .ok (.iconst (-1), 1) := by decide +kernel
theorem dX6_sign_5 : decode cX6_sign 5 = .ok (.ireturn, 1) := by decide +kernel
theorem dX6_sign_6 : decode cX6_sign 6 = .ok (.aload_n 0, 1) := by decide +kernel
theorem dX6_sign_7 : decode cX6_sign 7 = .ok (.invokevirtual 146, 3) := by decide +kernel
theorem dX6_sign_10 : decode cX6_sign 10 = .ok (.iload_n 1, 1) := by decide +kernel
theorem dX6_sign_11 : decode cX6_sign 11 = .ok (.aload_n 0, 1) := by decide +kernel
theorem dX6_sign_12 : decode cX6_sign 12 = .ok (.getfield 149, 3) := by decide +kernel
theorem dX6_sign_15 : decode cX6_sign 15 = .ok (.if_icmp .ge 12, 3) := by decide +kernel
theorem dX6_sign_18 : decode cX6_sign 18 = .ok (.aload_n 0, 1) := by decide +kernel
theorem dX6_sign_19 : decode cX6_sign 19 = .ok (.getfield 32, 3) := by decide +kernel
theorem dX6_sign_22 : decode cX6_sign 22 = .ok (.iload_n 1, 1) := by decide +kernel
theorem dX6_sign_23 : decode cX6_sign 23 = .ok (.caload, 1) := by decide +kernel
theorem dX6_sign_24 : decode cX6_sign 24 = .ok (.goto 5, 3) := by decide +kernel
theorem dX6_sign_27 : decode cX6_sign 27 = .ok (.bipush (-4), 2) := by decide +kernel
theorem dX6_sign_29 : decode cX6_sign 29 = .ok (.ireturn, 1) := by decide +kernel
theorem dX6_append_0 : decode cX6_append 0 = .ok (.iload_n 1, 1) := by decide +kernel
theorem dX6_append_1 : decode cX6_append 1 = .ok (.bipush 33, 2) := by decide +kernel
theorem dX6_append_3 : decode cX6_append 3 = .ok (.bipush 126, 2) := by decide +kernel
theorem dX6_append_5 : decode cX6_append 5 = .ok (.invokestatic 41, 3) := by decide +kernel
theorem dX6_append_8 : decode cX6_append 8 = .ok (.ifCond .ne 5, 3) := by decide +kernel
theorem dX6_append_11 : decode cX6_append 11 = .ok (.iconst (-1), 1) := by decide +kernel
theorem dX6_append_12 : decode cX6_append 12 = .ok (.ireturn, 1) := by decide +kernel
theorem dX6_append_13 : decode cX6_append 13 = .ok (.aload_n 0, 1) := by decide +kernel
theorem dX6_append_14 : decode cX6_append 14 = .ok (.getfield 152, 3) := by decide +kernel
theorem dX6_append_17 : decode cX6_append 17 = .ok (.bipush 60, 2) := by decide +kernel
theorem dX6_append_19 : decode cX6_append 19 = .ok (.if_icmp .ne 6, 3) := by decide +kernel
theorem dX6_append_22 : decode cX6_append 22 = .ok (.bipush (-3), 2) := by decide +kernel
theorem dX6_append_24 : decode cX6_append 24 = .ok (.ireturn, 1) := by decide +kernel
theorem dX6_append_25 : decode cX6_append 25 = .ok (.aload_n 0, 1) := by decide +kernel
theorem dX6_append_26 : decode cX6_append 26 = .ok (.getfield 19, 3) := by decide +kernel
theorem dX6_append_29 : decode cX6_append 29 = .ok (.aload_n 0, 1) := by decide +kernel
theorem dX6_append_30 : decode cX6_append 30 = .ok (.getfield 152, 3) := by decide +kernel
theorem dX6_append_33 : decode cX6_append 33 = .ok (.iload_n 1, 1) := by decide +kernel
theorem dX6_append_34 : decode cX6_append 34 = .ok (.i2c, 1) := by decide +kernel
theorem dX6_append_35 : decode cX6_append 35 = .ok (.castore, 1) := by decide +kernel
theorem dX6_append_36 : decode cX6_append 36 = .ok (.aload_n 0, 1) := by decide +kernel
theorem dX6_append_37 : decode cX6_append 37 = .ok (.dup, 1) := by decide +kernel
theorem dX6_append_38 : decode cX6_append 38 = .ok (.getfield 152, 3) := by decide +kernel
theorem dX6_append_41 : decode cX6_append 41 = .ok (.iconst 1, 1) := by decide +kernel
theorem dX6_append_42 : decode cX6_append 42 = .ok (.iadd, 1) := by decide +kernel
theorem dX6_append_43 : decode cX6_append 43 = .ok (.putfield 152, 3) := by decide +kernel
theorem dX6_append_46 : decode cX6_append 46 = .ok (.aload_n 0, 1) := by decide +kernel
theorem dX6_append_47 : decode cX6_append 47 = .ok (.getfield 152, 3) := by decide +kernel
theorem dX6_append_50 : decode cX6_append 50 = .ok (.ireturn, 1) := by decide +kernel
theorem dX6_clear_0 : decode cX6_clear 0 = .ok (.aload_n 0, 1) := by decide +kernel
theorem dX6_clear_1 : decode cX6_clear 1 = .ok (.getfield 152, 3) := by decide +kernel
theorem dX6_clear_4 : decode cX6_clear 4 = .ok (.istore_n 1, 1) := by decide +kernel
theorem dX6_clear_5 : decode cX6_clear 5 = .ok (.aload_n 0, 1) := by decide +kernel
theorem dX6_clear_6 : decode cX6_clear 6 = .ok (.iconst 0, 1) := by decide +kernel
theorem dX6_clear_7 : decode cX6_clear 7 = .ok (.putfield 152, 3) := by decide +kernel
theorem dX6_clear_10 : decode cX6_clear 10 = .ok (.iload_n 1, 1) := by decide +kernel
theorem dX6_clear_11 : decode cX6_clear 11 = .ok (.ireturn, 1) := by decide +kernel
theorem dX6_letter_0 : decode cX6_letter 0 = .ok (.aload_n 0, 1) := by decide +kernel
theorem dX6_letter_1 : decode cX6_letter 1 = .ok (.getfield 164, 3) := by decide +kernel
theorem dX6_letter_4 : decode cX6_letter 4 = .ok (.aload_n 0, 1) := by decide +kernel
theorem dX6_letter_5 : decode cX6_letter 5 = .ok (.getfield 152, 3) := by decide +kernel
theorem dX6_letter_8 : decode cX6_letter 8 = .ok (.if_icmp .ge 15, 3) := by decide +kernel
theorem dX6_letter_11 : decode cX6_letter 11 = .ok (.aload_n 0, 1) := by decide +kernel
theorem dX6_letter_12 : decode cX6_letter 12 = .ok (.getfield 19, 3) := by decide +kernel
theorem dX6_letter_15 : decode cX6_letter 15 = .ok (.aload_n 0, 1) := by decide +kernel
theorem dX6_letter_16 : decode cX6_letter 16 = .ok (.getfield 164, 3) := by decide +kernel
theorem dX6_letter_19 : decode cX6_letter 19 = .ok (.caload, 1) := by decide +kernel
theorem dX6_letter_20 : decode cX6_letter 20 = .ok (.goto 5, 3) := by decide +kernel
theorem dX6_letter_23 : decode cX6_letter 23 = .ok (.bipush (-4), 2) := by decide +kernel
theorem dX6_letter_25 : decode cX6_letter 25 = .ok (.ireturn, 1) := by decide +kernel
theorem dX6_figure_0 : decode cX6_figure 0 = .ok (.aload_n 0, 1) := by decide +kernel
theorem dX6_figure_1 : decode cX6_figure 1 = .ok (.invokevirtual 167, 3) := by decide +kernel
theorem dX6_figure_4 : decode cX6_figure 4 = .ok (.bipush 48, 2) := by decide +kernel
theorem dX6_figure_6 : decode cX6_figure 6 = .ok (.isub, 1) := by decide +kernel
theorem dX6_figure_7 : decode cX6_figure 7 = .ok (.istore_n 1, 1) := by decide +kernel
theorem dX6_figure_8 : decode cX6_figure 8 = .ok (.iload_n 1, 1) := by decide +kernel
theorem dX6_figure_9 : decode cX6_figure 9 = .ok (.iconst 0, 1) := by decide +kernel
theorem dX6_figure_10 : decode cX6_figure 10 = .ok (.bipush 9, 2) := by decide +kernel
theorem dX6_figure_12 : decode cX6_figure 12 = .ok (.invokestatic 41, 3) := by decide +kernel
theorem dX6_figure_15 : decode cX6_figure 15 = .ok (.ifCond .eq 7, 3) := by decide +kernel
theorem dX6_figure_18 : decode cX6_figure 18 = .ok (.iload_n 1, 1) := by decide +kernel
theorem dX6_figure_19 : decode cX6_figure 19 = .ok (.goto 5, 3) := by decide +kernel
theorem dX6_figure_22 : decode cX6_figure 22 = .ok (.bipush (-4), 2) := by decide +kernel
theorem dX6_figure_24 : decode cX6_figure 24 = .ok (.ireturn, 1) := by decide +kernel
theorem dX6_wants_0 : decode cX6_wants 0 = .ok (.aload_n 0, 1) := by decide +kernel
theorem dX6_wants_1 : decode cX6_wants 1 = .ok (.getfield 170, 3) := by decide +kernel
theorem dX6_wants_4 : decode cX6_wants 4 = .ok (.bipush (-4), 2) := by decide +kernel
theorem dX6_wants_6 : decode cX6_wants 6 = .ok (.if_icmp .ne 30, 3) := by decide +kernel
theorem dX6_wants_9 : decode cX6_wants 9 = .ok (.aload_n 0, 1) := by decide +kernel
theorem dX6_wants_10 : decode cX6_wants 10 = .ok (.iload_n 1, 1) := by decide +kernel
theorem dX6_wants_11 : decode cX6_wants 11 = .ok (.ifCond .eq 8, 3) := by decide +kernel
theorem dX6_wants_14 : decode cX6_wants 14 = .ok (.bipush (-4), 2) := by decide +kernel
theorem dX6_wants_16 : decode cX6_wants 16 = .ok (.goto 7, 3) := by decide +kernel
theorem dX6_wants_19 : decode cX6_wants 19 = .ok (.aload_n 0, 1) := by decide +kernel
theorem dX6_wants_20 : decode cX6_wants 20 = .ok (.getfield 164, 3) := by decide +kernel
theorem dX6_wants_23 : decode cX6_wants 23 = .ok (.putfield 170, 3) := by decide +kernel
theorem dX6_wants_26 : decode cX6_wants 26 = .ok (.aload_n 0, 1) := by decide +kernel
theorem dX6_wants_27 : decode cX6_wants 27 = .ok (.dup, 1) := by decide +kernel
theorem dX6_wants_28 : decode cX6_wants 28 = .ok (.getfield 164, 3) := by decide +kernel
theorem dX6_wants_31 : decode cX6_wants 31 = .ok (.iconst 1, 1) := by decide +kernel
theorem dX6_wants_32 : decode cX6_wants 32 = .ok (.iadd, 1) := by decide +kernel
theorem dX6_wants_33 : decode cX6_wants 33 = .ok (.putfield 164, 3) := by decide +kernel
theorem dX6_wants_36 : decode cX6_wants 36 = .ok (.return_, 1) := by decide +kernel
theorem dX6_number_0 : decode cX6_number 0 = .ok (.aload_n 0, 1) := by decide +kernel
theorem dX6_number_1 : decode cX6_number 1 = .ok (.invokevirtual 173, 3) := by decide +kernel
theorem dX6_number_4 : decode cX6_number 4 = .ok (.istore_n 2, 1) := by decide +kernel
theorem dX6_number_5 : decode cX6_number 5 = .ok (.aload_n 0, 1) := by decide +kernel
theorem dX6_number_6 : decode cX6_number 6 = .ok (.iload_n 2, 1) := by decide +kernel
theorem dX6_number_7 : decode cX6_number 7 = .ok (.ifCond .le 7, 3) := by decide +kernel
theorem dX6_number_10 : decode cX6_number 10 = .ok (.iconst 1, 1) := by decide +kernel
theorem dX6_number_11 : decode cX6_number 11 = .ok (.goto 4, 3) := by decide +kernel
theorem dX6_number_14 : decode cX6_number 14 = .ok (.iconst 0, 1) := by decide +kernel
theorem dX6_number_15 : decode cX6_number 15 = .ok (.invokevirtual 176, 3) := by decide +kernel
theorem dX6_number_18 : decode cX6_number 18 = .ok (.aload_n 0, 1) := by decide +kernel
theorem dX6_number_19 : decode cX6_number 19 = .ok (.getfield 170, 3) := by decide +kernel
theorem dX6_number_22 : decode cX6_number 22 = .ok (.bipush (-4), 2) := by decide +kernel
theorem dX6_number_24 : decode cX6_number 24 = .ok (.if_icmp .ne 48, 3) := by decide +kernel
theorem dX6_number_27 : decode cX6_number 27 = .ok (.aload_n 0, 1) := by decide +kernel
theorem dX6_number_28 : decode cX6_number 28 = .ok (.invokevirtual 173, 3) := by decide +kernel
theorem dX6_number_31 : decode cX6_number 31 = .ok (.bipush (-4), 2) := by decide +kernel
theorem dX6_number_33 : decode cX6_number 33 = .ok (.if_icmp .eq 39, 3) := by decide +kernel
theorem dX6_number_36 : decode cX6_number 36 = .ok (.bipush 10, 2) := by decide +kernel
theorem dX6_number_38 : decode cX6_number 38 = .ok (.iload_n 2, 1) := by decide +kernel
theorem dX6_number_39 : decode cX6_number 39 = .ok (.imul, 1) := by decide +kernel
theorem dX6_number_40 : decode cX6_number 40 = .ok (.aload_n 0, 1) := by decide +kernel
theorem dX6_number_41 : decode cX6_number 41 = .ok (.invokevirtual 173, 3) := by decide +kernel
theorem dX6_number_44 : decode cX6_number 44 = .ok (.iadd, 1) := by decide +kernel
theorem dX6_number_45 : decode cX6_number 45 = .ok (.iload_n 1, 1) := by decide +kernel
theorem dX6_number_46 : decode cX6_number 46 = .ok (.if_icmp .gt 26, 3) := by decide +kernel
theorem dX6_number_49 : decode cX6_number 49 = .ok (.bipush 10, 2) := by decide +kernel
theorem dX6_number_51 : decode cX6_number 51 = .ok (.iload_n 2, 1) := by decide +kernel
theorem dX6_number_52 : decode cX6_number 52 = .ok (.imul, 1) := by decide +kernel
theorem dX6_number_53 : decode cX6_number 53 = .ok (.aload_n 0, 1) := by decide +kernel
theorem dX6_number_54 : decode cX6_number 54 = .ok (.invokevirtual 173, 3) := by decide +kernel
theorem dX6_number_57 : decode cX6_number 57 = .ok (.iadd, 1) := by decide +kernel
theorem dX6_number_58 : decode cX6_number 58 = .ok (.istore_n 2, 1) := by decide +kernel
theorem dX6_number_59 : decode cX6_number 59 = .ok (.aload_n 0, 1) := by decide +kernel
theorem dX6_number_60 : decode cX6_number 60 = .ok (.dup, 1) := by decide +kernel
theorem dX6_number_61 : decode cX6_number 61 = .ok (.getfield 164, 3) := by decide +kernel
theorem dX6_number_64 : decode cX6_number 64 = .ok (.iconst 1, 1) := by decide +kernel
theorem dX6_number_65 : decode cX6_number 65 = .ok (.iadd, 1) := by decide +kernel
theorem dX6_number_66 : decode cX6_number 66 = .ok (.putfield 164, 3) := by decide +kernel
theorem dX6_number_69 : decode cX6_number 69 = .ok (.goto (-51), 3) := by decide +kernel
theorem dX6_number_72 : decode cX6_number 72 = .ok (.iload_n 2, 1) := by decide +kernel
theorem dX6_number_73 : decode cX6_number 73 = .ok (.ireturn, 1) := by decide +kernel
theorem dX6_readTarget_0 : decode cX6_readTarget 0 = .ok (.aload_n 0, 1) := by decide +kernel
theorem dX6_readTarget_1 : decode cX6_readTarget 1 = .ok (.invokevirtual 167, 3) := by decide +kernel
theorem dX6_readTarget_4 : decode cX6_readTarget 4 = .ok (.bipush 119, 2) := by decide +kernel
theorem dX6_readTarget_6 : decode cX6_readTarget 6 = .ok (.if_icmp .ne 7, 3) := by decide +kernel
theorem dX6_readTarget_9 : decode cX6_readTarget 9 = .ok (.iconst 1, 1) := by decide +kernel
theorem dX6_readTarget_10 : decode cX6_readTarget 10 = .ok (.goto 4, 3) := by decide +kernel
theorem dX6_readTarget_13 : decode cX6_readTarget 13 = .ok (.iconst 0, 1) := by decide +kernel
theorem dX6_readTarget_14 : decode cX6_readTarget 14 = .ok (.istore_n 1, 1) := by decide +kernel
theorem dX6_readTarget_15 : decode cX6_readTarget 15 = .ok (.aload_n 0, 1) := by decide +kernel
theorem dX6_readTarget_16 : decode cX6_readTarget 16 = .ok (.iload_n 1, 1) := by decide +kernel
theorem dX6_readTarget_17 : decode cX6_readTarget 17 = .ok (.ifCond .ne 12, 3) := by decide +kernel
theorem dX6_readTarget_20 : decode cX6_readTarget 20 = .ok (.aload_n 0, 1) := by decide +kernel
theorem dX6_readTarget_21 : decode cX6_readTarget 21 = .ok (.invokevirtual 167, 3) := by decide +kernel
theorem dX6_readTarget_24 : decode cX6_readTarget 24 = .ok (.bipush 116, 2) := by decide +kernel
theorem dX6_readTarget_26 : decode cX6_readTarget 26 = .ok (.if_icmp .ne 7, 3) := by decide +kernel
theorem dX6_readTarget_29 : decode cX6_readTarget 29 = .ok (.iconst 1, 1) := by decide +kernel
theorem dX6_readTarget_30 : decode cX6_readTarget 30 = .ok (.goto 4, 3) := by decide +kernel
theorem dX6_readTarget_33 : decode cX6_readTarget 33 = .ok (.iconst 0, 1) := by decide +kernel
theorem dX6_readTarget_34 : decode cX6_readTarget 34 = .ok (.invokevirtual 176, 3) := by decide +kernel
theorem dX6_readTarget_37 : decode cX6_readTarget 37 = .ok (.aload_n 0, 1) := by decide +kernel
theorem dX6_readTarget_38 : decode cX6_readTarget 38 = .ok (.sipush 300, 3) := by decide +kernel
theorem dX6_readTarget_41 : decode cX6_readTarget 41 = .ok (.invokevirtual 180, 3) := by decide +kernel
theorem dX6_readTarget_44 : decode cX6_readTarget 44 = .ok (.istore_n 2, 1) := by decide +kernel
theorem dX6_readTarget_45 : decode cX6_readTarget 45 = .ok (.aload_n 0, 1) := by decide +kernel
theorem dX6_readTarget_46 : decode cX6_readTarget 46 = .ok (.aload_n 0, 1) := by decide +kernel
theorem dX6_readTarget_47 : decode cX6_readTarget 47 = .ok (.invokevirtual 167, 3) := by decide +kernel
theorem dX6_readTarget_50 : decode cX6_readTarget 50 = .ok (.bipush 42, 2) := by decide +kernel
theorem dX6_readTarget_52 : decode cX6_readTarget 52 = .ok (.if_icmp .ne 7, 3) := by decide +kernel
theorem dX6_readTarget_55 : decode cX6_readTarget 55 = .ok (.iconst 1, 1) := by decide +kernel
theorem dX6_readTarget_56 : decode cX6_readTarget 56 = .ok (.goto 4, 3) := by decide +kernel
theorem dX6_readTarget_59 : decode cX6_readTarget 59 = .ok (.iconst 0, 1) := by decide +kernel
theorem dX6_readTarget_60 : decode cX6_readTarget 60 = .ok (.invokevirtual 176, 3) := by decide +kernel
theorem dX6_readTarget_63 : decode cX6_readTarget 63 = .ok (.aload_n 0, 1) := by decide +kernel
theorem dX6_readTarget_64 : decode cX6_readTarget 64 = .ok (.bipush 99, 2) := by decide +kernel
theorem dX6_readTarget_66 : decode cX6_readTarget 66 = .ok (.invokevirtual 180, 3) := by decide +kernel
theorem dX6_readTarget_69 : decode cX6_readTarget 69 = .ok (.istore_n 3, 1) := by decide +kernel
theorem dX6_readTarget_70 : decode cX6_readTarget 70 = .ok (.iconst 0, 1) := by decide +kernel
theorem dX6_readTarget_71 : decode cX6_readTarget 71 = .ok (.istore 4, 2) := by decide +kernel
theorem dX6_readTarget_73 : decode cX6_readTarget 73 = .ok (.aload_n 0, 1) := by decide +kernel
theorem dX6_readTarget_74 : decode cX6_readTarget 74 = .ok (.getfield 170, 3) := by decide +kernel
theorem dX6_readTarget_77 : decode cX6_readTarget 77 = .ok (.bipush (-4), 2) := by decide +kernel
theorem dX6_readTarget_79 : decode cX6_readTarget 79 = .ok (.if_icmp .ne 73, 3) := by decide +kernel
theorem dX6_readTarget_82 : decode cX6_readTarget 82 = .ok (.iload_n 1, 1) := by decide +kernel
theorem dX6_readTarget_83 : decode cX6_readTarget 83 = .ok (.ifCond .ne 69, 3) := by decide +kernel
theorem dX6_readTarget_86 : decode cX6_readTarget 86 = .ok (.aload_n 0, 1) := by decide +kernel
theorem dX6_readTarget_87 : decode cX6_readTarget 87 = .ok (.invokevirtual 167, 3) := by decide +kernel
theorem dX6_readTarget_90 : decode cX6_readTarget 90 = .ok (.bipush 43, 2) := by decide +kernel
theorem dX6_readTarget_92 : decode cX6_readTarget 92 = .ok (.if_icmp .eq 12, 3) := by decide +kernel
theorem dX6_readTarget_95 : decode cX6_readTarget 95 = .ok (.aload_n 0, 1) := by decide +kernel
theorem dX6_readTarget_96 : decode cX6_readTarget 96 = .ok (.invokevirtual 167, 3) := by decide +kernel
theorem dX6_readTarget_99 : decode cX6_readTarget 99 = .ok (.bipush 45, 2) := by decide +kernel
theorem dX6_readTarget_101 : decode cX6_readTarget 101 = .ok (.if_icmp .ne 51, 3) := by decide +kernel
theorem dX6_readTarget_104 : decode cX6_readTarget 104 = .ok (.aload_n 0, 1) := by decide +kernel
theorem dX6_readTarget_105 : decode cX6_readTarget 105 = .ok (.invokevirtual 167, 3) := by decide +kernel
theorem dX6_readTarget_108 : decode cX6_readTarget 108 = .ok (.bipush 43, 2) := by decide +kernel
theorem dX6_readTarget_110 : decode cX6_readTarget 110 = .ok (.if_icmp .ne 7, 3) := by decide +kernel
theorem dX6_readTarget_113 : decode cX6_readTarget 113 = .ok (.iconst 1, 1) := by decide +kernel
theorem dX6_readTarget_114 : decode cX6_readTarget 114 = .ok (.goto 4, 3) := by decide +kernel
theorem dX6_readTarget_117 : decode cX6_readTarget 117 = .ok (.iconst (-1), 1) := by decide +kernel
theorem dX6_readTarget_118 : decode cX6_readTarget 118 = .ok (.istore 5, 2) := by decide +kernel
theorem dX6_readTarget_120 : decode cX6_readTarget 120 = .ok (.aload_n 0, 1) := by decide +kernel
theorem dX6_readTarget_121 : decode cX6_readTarget 121 = .ok (.dup, 1) := by decide +kernel
theorem dX6_readTarget_122 : decode cX6_readTarget 122 = .ok (.getfield 164, 3) := by decide +kernel
theorem dX6_readTarget_125 : decode cX6_readTarget 125 = .ok (.iconst 1, 1) := by decide +kernel
theorem dX6_readTarget_126 : decode cX6_readTarget 126 = .ok (.iadd, 1) := by decide +kernel
theorem dX6_readTarget_127 : decode cX6_readTarget 127 = .ok (.putfield 164, 3) := by decide +kernel
theorem dX6_readTarget_130 : decode cX6_readTarget 130 = .ok (.aload_n 0, 1) := by decide +kernel
theorem dX6_readTarget_131 : decode cX6_readTarget 131 = .ok (.invokevirtual 173, 3) := by decide +kernel
theorem dX6_readTarget_134 : decode cX6_readTarget 134 = .ok (.iload 5, 2) := by decide +kernel
theorem dX6_readTarget_136 : decode cX6_readTarget 136 = .ok (.imul, 1) := by decide +kernel
theorem dX6_readTarget_137 : decode cX6_readTarget 137 = .ok (.istore 4, 2) := by decide +kernel
theorem dX6_readTarget_139 : decode cX6_readTarget 139 = .ok (.aload_n 0, 1) := by decide +kernel
theorem dX6_readTarget_140 : decode cX6_readTarget 140 = .ok (.aload_n 0, 1) := by decide +kernel
theorem dX6_readTarget_141 : decode cX6_readTarget 141 = .ok (.invokevirtual 173, 3) := by decide +kernel
theorem dX6_readTarget_144 : decode cX6_readTarget 144 = .ok (.iconst 1, 1) := by decide +kernel
theorem dX6_readTarget_145 : decode cX6_readTarget 145 = .ok (.iconst 5, 1) := by decide +kernel
theorem dX6_readTarget_146 : decode cX6_readTarget 146 = .ok (.invokestatic 41, 3) := by decide +kernel
theorem dX6_readTarget_149 : decode cX6_readTarget 149 = .ok (.invokevirtual 176, 3) := by decide +kernel
theorem dX6_readTarget_152 : decode cX6_readTarget 152 = .ok (.aload_n 0, 1) := by decide +kernel
theorem dX6_readTarget_153 : decode cX6_readTarget 153 = .ok (.getfield 170, 3) := by decide +kernel
theorem dX6_readTarget_156 : decode cX6_readTarget 156 = .ok (.bipush (-4), 2) := by decide +kernel
theorem dX6_readTarget_158 : decode cX6_readTarget 158 = .ok (.if_icmp .ne 68, 3) := by decide +kernel
theorem dX6_readTarget_161 : decode cX6_readTarget 161 = .ok (.iconst 4, 1) := by decide +kernel
theorem dX6_readTarget_162 : decode cX6_readTarget 162 = .ok (.aload_n 0, 1) := by decide +kernel
theorem dX6_readTarget_163 : decode cX6_readTarget 163 = .ok (.getfield 184, 3) := by decide +kernel
theorem dX6_readTarget_166 : decode cX6_readTarget 166 = .ok (.imul, 1) := by decide +kernel
theorem dX6_readTarget_167 : decode cX6_readTarget 167 = .ok (.istore 5, 2) := by decide +kernel
theorem dX6_readTarget_169 : decode cX6_readTarget 169 = .ok (.aload_n 0, 1) := by decide +kernel
theorem dX6_readTarget_170 : decode cX6_readTarget 170 = .ok (.getfield 35, 3) := by decide +kernel
theorem dX6_readTarget_173 : decode cX6_readTarget 173 = .ok (.iload 5, 2) := by decide +kernel
theorem dX6_readTarget_175 : decode cX6_readTarget 175 = .ok (.iload_n 2, 1) := by decide +kernel
theorem dX6_readTarget_176 : decode cX6_readTarget 176 = .ok (.iastore, 1) := by decide +kernel
theorem dX6_readTarget_177 : decode cX6_readTarget 177 = .ok (.aload_n 0, 1) := by decide +kernel
theorem dX6_readTarget_178 : decode cX6_readTarget 178 = .ok (.getfield 35, 3) := by decide +kernel
theorem dX6_readTarget_181 : decode cX6_readTarget 181 = .ok (.iload 5, 2) := by decide +kernel
theorem dX6_readTarget_183 : decode cX6_readTarget 183 = .ok (.iconst 1, 1) := by decide +kernel
theorem dX6_readTarget_184 : decode cX6_readTarget 184 = .ok (.iadd, 1) := by decide +kernel
theorem dX6_readTarget_185 : decode cX6_readTarget 185 = .ok (.iload_n 3, 1) := by decide +kernel
theorem dX6_readTarget_186 : decode cX6_readTarget 186 = .ok (.iastore, 1) := by decide +kernel
theorem dX6_readTarget_187 : decode cX6_readTarget 187 = .ok (.aload_n 0, 1) := by decide +kernel
theorem dX6_readTarget_188 : decode cX6_readTarget 188 = .ok (.getfield 35, 3) := by decide +kernel
theorem dX6_readTarget_191 : decode cX6_readTarget 191 = .ok (.iload 5, 2) := by decide +kernel
theorem dX6_readTarget_193 : decode cX6_readTarget 193 = .ok (.iconst 2, 1) := by decide +kernel
theorem dX6_readTarget_194 : decode cX6_readTarget 194 = .ok (.iadd, 1) := by decide +kernel
theorem dX6_readTarget_195 : decode cX6_readTarget 195 = .ok (.iload 4, 2) := by decide +kernel
theorem dX6_readTarget_197 : decode cX6_readTarget 197 = .ok (.iastore, 1) := by decide +kernel
theorem dX6_readTarget_198 : decode cX6_readTarget 198 = .ok (.aload_n 0, 1) := by decide +kernel
theorem dX6_readTarget_199 : decode cX6_readTarget 199 = .ok (.getfield 35, 3) := by decide +kernel
theorem dX6_readTarget_202 : decode cX6_readTarget 202 = .ok (.iload 5, 2) := by decide +kernel
theorem dX6_readTarget_204 : decode cX6_readTarget 204 = .ok (.iconst 3, 1) := by decide +kernel
theorem dX6_readTarget_205 : decode cX6_readTarget 205 = .ok (.iadd, 1) := by decide +kernel
theorem dX6_readTarget_206 : decode cX6_readTarget 206 = .ok (.iload_n 1, 1) := by decide +kernel
theorem dX6_readTarget_207 : decode cX6_readTarget 207 = .ok (.ifCond .eq 7, 3) := by decide +kernel
theorem dX6_readTarget_210 : decode cX6_readTarget 210 = .ok (.iconst 1, 1) := by decide +kernel
theorem dX6_readTarget_211 : decode cX6_readTarget 211 = .ok (.goto 4, 3) := by decide +kernel
theorem dX6_readTarget_214 : decode cX6_readTarget 214 = .ok (.iconst 0, 1) := by decide +kernel
theorem dX6_readTarget_215 : decode cX6_readTarget 215 = .ok (.iastore, 1) := by decide +kernel
theorem dX6_readTarget_216 : decode cX6_readTarget 216 = .ok (.aload_n 0, 1) := by decide +kernel
theorem dX6_readTarget_217 : decode cX6_readTarget 217 = .ok (.dup, 1) := by decide +kernel
theorem dX6_readTarget_218 : decode cX6_readTarget 218 = .ok (.getfield 184, 3) := by decide +kernel
theorem dX6_readTarget_221 : decode cX6_readTarget 221 = .ok (.iconst 1, 1) := by decide +kernel
theorem dX6_readTarget_222 : decode cX6_readTarget 222 = .ok (.iadd, 1) := by decide +kernel
theorem dX6_readTarget_223 : decode cX6_readTarget 223 = .ok (.putfield 184, 3) := by decide +kernel
theorem dX6_readTarget_226 : decode cX6_readTarget 226 = .ok (.return_, 1) := by decide +kernel
theorem dX6_readSpacing_0 : decode cX6_readSpacing 0 = .ok (.aload_n 0, 1) := by decide +kernel
theorem dX6_readSpacing_1 : decode cX6_readSpacing 1 = .ok (.invokevirtual 173, 3) := by decide +kernel
theorem dX6_readSpacing_4 : decode cX6_readSpacing 4 = .ok (.istore_n 1, 1) := by decide +kernel
theorem dX6_readSpacing_5 : decode cX6_readSpacing 5 = .ok (.aload_n 0, 1) := by decide +kernel
theorem dX6_readSpacing_6 : decode cX6_readSpacing 6 = .ok (.iload_n 1, 1) := by decide +kernel
theorem dX6_readSpacing_7 : decode cX6_readSpacing 7 = .ok (.iconst 1, 1) := by decide +kernel
theorem dX6_readSpacing_8 : decode cX6_readSpacing 8 = .ok (.iconst 5, 1) := by decide +kernel
theorem dX6_readSpacing_9 : decode cX6_readSpacing 9 = .ok (.invokestatic 41, 3) := by decide +kernel
theorem dX6_readSpacing_12 : decode cX6_readSpacing 12 = .ok (.invokevirtual 176, 3) := by decide +kernel
theorem dX6_readSpacing_15 : decode cX6_readSpacing 15 = .ok (.aload_n 0, 1) := by decide +kernel
theorem dX6_readSpacing_16 : decode cX6_readSpacing 16 = .ok (.invokevirtual 173, 3) := by decide +kernel
theorem dX6_readSpacing_19 : decode cX6_readSpacing 19 = .ok (.istore_n 2, 1) := by decide +kernel
theorem dX6_readSpacing_20 : decode cX6_readSpacing 20 = .ok (.aload_n 0, 1) := by decide +kernel
theorem dX6_readSpacing_21 : decode cX6_readSpacing 21 = .ok (.iload_n 2, 1) := by decide +kernel
theorem dX6_readSpacing_22 : decode cX6_readSpacing 22 = .ok (.bipush (-4), 2) := by decide +kernel
theorem dX6_readSpacing_24 : decode cX6_readSpacing 24 = .ok (.if_icmp .eq 18, 3) := by decide +kernel
theorem dX6_readSpacing_27 : decode cX6_readSpacing 27 = .ok (.bipush 10, 2) := by decide +kernel
theorem dX6_readSpacing_29 : decode cX6_readSpacing 29 = .ok (.iload_n 1, 1) := by decide +kernel
theorem dX6_readSpacing_30 : decode cX6_readSpacing 30 = .ok (.imul, 1) := by decide +kernel
theorem dX6_readSpacing_31 : decode cX6_readSpacing 31 = .ok (.iload_n 2, 1) := by decide +kernel
theorem dX6_readSpacing_32 : decode cX6_readSpacing 32 = .ok (.iadd, 1) := by decide +kernel
theorem dX6_readSpacing_33 : decode cX6_readSpacing 33 = .ok (.bipush 50, 2) := by decide +kernel
theorem dX6_readSpacing_35 : decode cX6_readSpacing 35 = .ok (.if_icmp .gt 7, 3) := by decide +kernel
theorem dX6_readSpacing_38 : decode cX6_readSpacing 38 = .ok (.iconst 1, 1) := by decide +kernel
theorem dX6_readSpacing_39 : decode cX6_readSpacing 39 = .ok (.goto 4, 3) := by decide +kernel
theorem dX6_readSpacing_42 : decode cX6_readSpacing 42 = .ok (.iconst 0, 1) := by decide +kernel
theorem dX6_readSpacing_43 : decode cX6_readSpacing 43 = .ok (.invokevirtual 176, 3) := by decide +kernel
theorem dX6_readSpacing_46 : decode cX6_readSpacing 46 = .ok (.aload_n 0, 1) := by decide +kernel
theorem dX6_readSpacing_47 : decode cX6_readSpacing 47 = .ok (.getfield 170, 3) := by decide +kernel
theorem dX6_readSpacing_50 : decode cX6_readSpacing 50 = .ok (.bipush (-4), 2) := by decide +kernel
theorem dX6_readSpacing_52 : decode cX6_readSpacing 52 = .ok (.if_icmp .ne 28, 3) := by decide +kernel
theorem dX6_readSpacing_55 : decode cX6_readSpacing 55 = .ok (.aload_n 0, 1) := by decide +kernel
theorem dX6_readSpacing_56 : decode cX6_readSpacing 56 = .ok (.getfield 38, 3) := by decide +kernel
theorem dX6_readSpacing_59 : decode cX6_readSpacing 59 = .ok (.aload_n 0, 1) := by decide +kernel
theorem dX6_readSpacing_60 : decode cX6_readSpacing 60 = .ok (.getfield 187, 3) := by decide +kernel
theorem dX6_readSpacing_63 : decode cX6_readSpacing 63 = .ok (.bipush 10, 2) := by decide +kernel
theorem dX6_readSpacing_65 : decode cX6_readSpacing 65 = .ok (.iload_n 1, 1) := by decide +kernel
theorem dX6_readSpacing_66 : decode cX6_readSpacing 66 = .ok (.imul, 1) := by decide +kernel
theorem dX6_readSpacing_67 : decode cX6_readSpacing 67 = .ok (.iload_n 2, 1) := by decide +kernel
theorem dX6_readSpacing_68 : decode cX6_readSpacing 68 = .ok (.iadd, 1) := by decide +kernel
theorem dX6_readSpacing_69 : decode cX6_readSpacing 69 = .ok (.iastore, 1) := by decide +kernel
theorem dX6_readSpacing_70 : decode cX6_readSpacing 70 = .ok (.aload_n 0, 1) := by decide +kernel
theorem dX6_readSpacing_71 : decode cX6_readSpacing 71 = .ok (.dup, 1) := by decide +kernel
theorem dX6_readSpacing_72 : decode cX6_readSpacing 72 = .ok (.getfield 187, 3) := by decide +kernel
theorem dX6_readSpacing_75 : decode cX6_readSpacing 75 = .ok (.iconst 1, 1) := by decide +kernel
theorem dX6_readSpacing_76 : decode cX6_readSpacing 76 = .ok (.iadd, 1) := by decide +kernel
theorem dX6_readSpacing_77 : decode cX6_readSpacing 77 = .ok (.putfield 187, 3) := by decide +kernel
theorem dX6_readSpacing_80 : decode cX6_readSpacing 80 = .ok (.return_, 1) := by decide +kernel
theorem dX6_fault_0 : decode cX6_fault 0 = .ok (.aload_n 0, 1) := by decide +kernel
theorem dX6_fault_1 : decode cX6_fault 1 = .ok (.iconst 0, 1) := by decide +kernel
theorem dX6_fault_2 : decode cX6_fault 2 = .ok (.putfield 184, 3) := by decide +kernel
theorem dX6_fault_5 : decode cX6_fault 5 = .ok (.aload_n 0, 1) := by decide +kernel
theorem dX6_fault_6 : decode cX6_fault 6 = .ok (.iconst 0, 1) := by decide +kernel
theorem dX6_fault_7 : decode cX6_fault 7 = .ok (.putfield 187, 3) := by decide +kernel
theorem dX6_fault_10 : decode cX6_fault 10 = .ok (.aload_n 0, 1) := by decide +kernel
theorem dX6_fault_11 : decode cX6_fault 11 = .ok (.iconst 0, 1) := by decide +kernel
theorem dX6_fault_12 : decode cX6_fault 12 = .ok (.putfield 164, 3) := by decide +kernel
theorem dX6_fault_15 : decode cX6_fault 15 = .ok (.aload_n 0, 1) := by decide +kernel
theorem dX6_fault_16 : decode cX6_fault 16 = .ok (.bipush (-4), 2) := by decide +kernel
theorem dX6_fault_18 : decode cX6_fault 18 = .ok (.putfield 170, 3) := by decide +kernel
theorem dX6_fault_21 : decode cX6_fault 21 = .ok (.aload_n 0, 1) := by decide +kernel
theorem dX6_fault_22 : decode cX6_fault 22 = .ok (.invokevirtual 190, 3) := by decide +kernel
theorem dX6_fault_25 : decode cX6_fault 25 = .ok (.aload_n 0, 1) := by decide +kernel
theorem dX6_fault_26 : decode cX6_fault 26 = .ok (.getfield 170, 3) := by decide +kernel
theorem dX6_fault_29 : decode cX6_fault 29 = .ok (.bipush (-4), 2) := by decide +kernel
theorem dX6_fault_31 : decode cX6_fault 31 = .ok (.if_icmp .ne 29, 3) := by decide +kernel
theorem dX6_fault_34 : decode cX6_fault 34 = .ok (.aload_n 0, 1) := by decide +kernel
theorem dX6_fault_35 : decode cX6_fault 35 = .ok (.invokevirtual 167, 3) := by decide +kernel
theorem dX6_fault_38 : decode cX6_fault 38 = .ok (.bipush 44, 2) := by decide +kernel
theorem dX6_fault_40 : decode cX6_fault 40 = .ok (.if_icmp .ne 20, 3) := by decide +kernel
theorem dX6_fault_43 : decode cX6_fault 43 = .ok (.aload_n 0, 1) := by decide +kernel
theorem dX6_fault_44 : decode cX6_fault 44 = .ok (.dup, 1) := by decide +kernel
theorem dX6_fault_45 : decode cX6_fault 45 = .ok (.getfield 164, 3) := by decide +kernel
theorem dX6_fault_48 : decode cX6_fault 48 = .ok (.iconst 1, 1) := by decide +kernel
theorem dX6_fault_49 : decode cX6_fault 49 = .ok (.iadd, 1) := by decide +kernel
theorem dX6_fault_50 : decode cX6_fault 50 = .ok (.putfield 164, 3) := by decide +kernel
theorem dX6_fault_53 : decode cX6_fault 53 = .ok (.aload_n 0, 1) := by decide +kernel
theorem dX6_fault_54 : decode cX6_fault 54 = .ok (.invokevirtual 190, 3) := by decide +kernel
theorem dX6_fault_57 : decode cX6_fault 57 = .ok (.goto (-32), 3) := by decide +kernel
theorem dX6_fault_60 : decode cX6_fault 60 = .ok (.aload_n 0, 1) := by decide +kernel
theorem dX6_fault_61 : decode cX6_fault 61 = .ok (.getfield 170, 3) := by decide +kernel
theorem dX6_fault_64 : decode cX6_fault 64 = .ok (.bipush (-4), 2) := by decide +kernel
theorem dX6_fault_66 : decode cX6_fault 66 = .ok (.if_icmp .ne 107, 3) := by decide +kernel
theorem dX6_fault_69 : decode cX6_fault 69 = .ok (.aload_n 0, 1) := by decide +kernel
theorem dX6_fault_70 : decode cX6_fault 70 = .ok (.getfield 164, 3) := by decide +kernel
theorem dX6_fault_73 : decode cX6_fault 73 = .ok (.aload_n 0, 1) := by decide +kernel
theorem dX6_fault_74 : decode cX6_fault 74 = .ok (.getfield 152, 3) := by decide +kernel
theorem dX6_fault_77 : decode cX6_fault 77 = .ok (.if_icmp .ge 96, 3) := by decide +kernel
theorem dX6_fault_80 : decode cX6_fault 80 = .ok (.aload_n 0, 1) := by decide +kernel
theorem dX6_fault_81 : decode cX6_fault 81 = .ok (.aload_n 0, 1) := by decide +kernel
theorem dX6_fault_82 : decode cX6_fault 82 = .ok (.invokevirtual 167, 3) := by decide +kernel
theorem dX6_fault_85 : decode cX6_fault 85 = .ok (.bipush 59, 2) := by decide +kernel
theorem dX6_fault_87 : decode cX6_fault 87 = .ok (.if_icmp .ne 7, 3) := by decide +kernel
theorem dX6_fault_90 : decode cX6_fault 90 = .ok (.iconst 1, 1) := by decide +kernel
theorem dX6_fault_91 : decode cX6_fault 91 = .ok (.goto 4, 3) := by decide +kernel
theorem dX6_fault_94 : decode cX6_fault 94 = .ok (.iconst 0, 1) := by decide +kernel
theorem dX6_fault_95 : decode cX6_fault 95 = .ok (.invokevirtual 176, 3) := by decide +kernel
theorem dX6_fault_98 : decode cX6_fault 98 = .ok (.aload_n 0, 1) := by decide +kernel
theorem dX6_fault_99 : decode cX6_fault 99 = .ok (.getfield 170, 3) := by decide +kernel
theorem dX6_fault_102 : decode cX6_fault 102 = .ok (.bipush (-4), 2) := by decide +kernel
theorem dX6_fault_104 : decode cX6_fault 104 = .ok (.if_icmp .ne 7, 3) := by decide +kernel
theorem dX6_fault_107 : decode cX6_fault 107 = .ok (.aload_n 0, 1) := by decide +kernel
theorem dX6_fault_108 : decode cX6_fault 108 = .ok (.invokevirtual 193, 3) := by decide +kernel
theorem dX6_fault_111 : decode cX6_fault 111 = .ok (.aload_n 0, 1) := by decide +kernel
theorem dX6_fault_112 : decode cX6_fault 112 = .ok (.getfield 170, 3) := by decide +kernel
theorem dX6_fault_115 : decode cX6_fault 115 = .ok (.bipush (-4), 2) := by decide +kernel
theorem dX6_fault_117 : decode cX6_fault 117 = .ok (.if_icmp .ne 56, 3) := by decide +kernel
theorem dX6_fault_120 : decode cX6_fault 120 = .ok (.aload_n 0, 1) := by decide +kernel
theorem dX6_fault_121 : decode cX6_fault 121 = .ok (.getfield 164, 3) := by decide +kernel
theorem dX6_fault_124 : decode cX6_fault 124 = .ok (.aload_n 0, 1) := by decide +kernel
theorem dX6_fault_125 : decode cX6_fault 125 = .ok (.getfield 152, 3) := by decide +kernel
theorem dX6_fault_128 : decode cX6_fault 128 = .ok (.if_icmp .ge 45, 3) := by decide +kernel
theorem dX6_fault_131 : decode cX6_fault 131 = .ok (.aload_n 0, 1) := by decide +kernel
theorem dX6_fault_132 : decode cX6_fault 132 = .ok (.aload_n 0, 1) := by decide +kernel
theorem dX6_fault_133 : decode cX6_fault 133 = .ok (.invokevirtual 167, 3) := by decide +kernel
theorem dX6_fault_136 : decode cX6_fault 136 = .ok (.bipush 47, 2) := by decide +kernel
theorem dX6_fault_138 : decode cX6_fault 138 = .ok (.if_icmp .ne 15, 3) := by decide +kernel
theorem dX6_fault_141 : decode cX6_fault 141 = .ok (.aload_n 0, 1) := by decide +kernel
theorem dX6_fault_142 : decode cX6_fault 142 = .ok (.getfield 187, 3) := by decide +kernel
theorem dX6_fault_145 : decode cX6_fault 145 = .ok (.iconst 4, 1) := by decide +kernel
theorem dX6_fault_146 : decode cX6_fault 146 = .ok (.if_icmp .ge 7, 3) := by decide +kernel
theorem dX6_fault_149 : decode cX6_fault 149 = .ok (.iconst 1, 1) := by decide +kernel
theorem dX6_fault_150 : decode cX6_fault 150 = .ok (.goto 4, 3) := by decide +kernel
theorem dX6_fault_153 : decode cX6_fault 153 = .ok (.iconst 0, 1) := by decide +kernel
theorem dX6_fault_154 : decode cX6_fault 154 = .ok (.invokevirtual 176, 3) := by decide +kernel
theorem dX6_fault_157 : decode cX6_fault 157 = .ok (.aload_n 0, 1) := by decide +kernel
theorem dX6_fault_158 : decode cX6_fault 158 = .ok (.getfield 170, 3) := by decide +kernel
theorem dX6_fault_161 : decode cX6_fault 161 = .ok (.bipush (-4), 2) := by decide +kernel
theorem dX6_fault_163 : decode cX6_fault 163 = .ok (.if_icmp .ne (-52), 3) := by decide +kernel
theorem dX6_fault_166 : decode cX6_fault 166 = .ok (.aload_n 0, 1) := by decide +kernel
theorem dX6_fault_167 : decode cX6_fault 167 = .ok (.invokevirtual 193, 3) := by decide +kernel
theorem dX6_fault_170 : decode cX6_fault 170 = .ok (.goto (-59), 3) := by decide +kernel
theorem dX6_fault_173 : decode cX6_fault 173 = .ok (.aload_n 0, 1) := by decide +kernel
theorem dX6_fault_174 : decode cX6_fault 174 = .ok (.getfield 170, 3) := by decide +kernel
theorem dX6_fault_177 : decode cX6_fault 177 = .ok (.ireturn, 1) := by decide +kernel
theorem dX6_load_0 : decode cX6_load 0 = .ok (.aload_n 0, 1) := by decide +kernel
theorem dX6_load_1 : decode cX6_load 1 = .ok (.invokevirtual 196, 3) := by decide +kernel
theorem dX6_load_4 : decode cX6_load 4 = .ok (.bipush (-4), 2) := by decide +kernel
theorem dX6_load_6 : decode cX6_load 6 = .ok (.if_icmp .eq 6, 3) := by decide +kernel
theorem dX6_load_9 : decode cX6_load 9 = .ok (.bipush (-2), 2) := by decide +kernel
theorem dX6_load_11 : decode cX6_load 11 = .ok (.ireturn, 1) := by decide +kernel
theorem dX6_load_12 : decode cX6_load 12 = .ok (.iconst 0, 1) := by decide +kernel
theorem dX6_load_13 : decode cX6_load 13 = .ok (.istore_n 1, 1) := by decide +kernel
theorem dX6_load_14 : decode cX6_load 14 = .ok (.iconst 0, 1) := by decide +kernel
theorem dX6_load_15 : decode cX6_load 15 = .ok (.istore_n 2, 1) := by decide +kernel
theorem dX6_load_16 : decode cX6_load 16 = .ok (.iload_n 2, 1) := by decide +kernel
theorem dX6_load_17 : decode cX6_load 17 = .ok (.aload_n 0, 1) := by decide +kernel
theorem dX6_load_18 : decode cX6_load 18 = .ok (.getfield 184, 3) := by decide +kernel
theorem dX6_load_21 : decode cX6_load 21 = .ok (.if_icmp .ge 74, 3) := by decide +kernel
theorem dX6_load_24 : decode cX6_load 24 = .ok (.iconst 0, 1) := by decide +kernel
theorem dX6_load_25 : decode cX6_load 25 = .ok (.istore_n 3, 1) := by decide +kernel
theorem dX6_load_26 : decode cX6_load 26 = .ok (.iload_n 3, 1) := by decide +kernel
theorem dX6_load_27 : decode cX6_load 27 = .ok (.iload_n 2, 1) := by decide +kernel
theorem dX6_load_28 : decode cX6_load 28 = .ok (.if_icmp .ge 61, 3) := by decide +kernel
theorem dX6_load_31 : decode cX6_load 31 = .ok (.iload_n 1, 1) := by decide +kernel
theorem dX6_load_32 : decode cX6_load 32 = .ok (.ifCond .ne 45, 3) := by decide +kernel
theorem dX6_load_35 : decode cX6_load 35 = .ok (.aload_n 0, 1) := by decide +kernel
theorem dX6_load_36 : decode cX6_load 36 = .ok (.getfield 35, 3) := by decide +kernel
theorem dX6_load_39 : decode cX6_load 39 = .ok (.iconst 4, 1) := by decide +kernel
theorem dX6_load_40 : decode cX6_load 40 = .ok (.iload_n 2, 1) := by decide +kernel
theorem dX6_load_41 : decode cX6_load 41 = .ok (.imul, 1) := by decide +kernel
theorem dX6_load_42 : decode cX6_load 42 = .ok (.iaload, 1) := by decide +kernel
theorem dX6_load_43 : decode cX6_load 43 = .ok (.aload_n 0, 1) := by decide +kernel
theorem dX6_load_44 : decode cX6_load 44 = .ok (.getfield 35, 3) := by decide +kernel
theorem dX6_load_47 : decode cX6_load 47 = .ok (.iconst 4, 1) := by decide +kernel
theorem dX6_load_48 : decode cX6_load 48 = .ok (.iload_n 3, 1) := by decide +kernel
theorem dX6_load_49 : decode cX6_load 49 = .ok (.imul, 1) := by decide +kernel
theorem dX6_load_50 : decode cX6_load 50 = .ok (.iaload, 1) := by decide +kernel
theorem dX6_load_51 : decode cX6_load 51 = .ok (.if_icmp .ne 30, 3) := by decide +kernel
theorem dX6_load_54 : decode cX6_load 54 = .ok (.aload_n 0, 1) := by decide +kernel
theorem dX6_load_55 : decode cX6_load 55 = .ok (.getfield 35, 3) := by decide +kernel
theorem dX6_load_58 : decode cX6_load 58 = .ok (.iconst 4, 1) := by decide +kernel
theorem dX6_load_59 : decode cX6_load 59 = .ok (.iload_n 2, 1) := by decide +kernel
theorem dX6_load_60 : decode cX6_load 60 = .ok (.imul, 1) := by decide +kernel
theorem dX6_load_61 : decode cX6_load 61 = .ok (.iconst 2, 1) := by decide +kernel
theorem dX6_load_62 : decode cX6_load 62 = .ok (.iadd, 1) := by decide +kernel
theorem dX6_load_63 : decode cX6_load 63 = .ok (.iaload, 1) := by decide +kernel
theorem dX6_load_64 : decode cX6_load 64 = .ok (.aload_n 0, 1) := by decide +kernel
theorem dX6_load_65 : decode cX6_load 65 = .ok (.getfield 35, 3) := by decide +kernel
theorem dX6_load_68 : decode cX6_load 68 = .ok (.iconst 4, 1) := by decide +kernel
theorem dX6_load_69 : decode cX6_load 69 = .ok (.iload_n 3, 1) := by decide +kernel
theorem dX6_load_70 : decode cX6_load 70 = .ok (.imul, 1) := by decide +kernel
theorem dX6_load_71 : decode cX6_load 71 = .ok (.iconst 2, 1) := by decide +kernel
theorem dX6_load_72 : decode cX6_load 72 = .ok (.iadd, 1) := by decide +kernel
theorem dX6_load_73 : decode cX6_load 73 = .ok (.iaload, 1) := by decide +kernel
theorem dX6_load_74 : decode cX6_load 74 = .ok (.if_icmp .ne 7, 3) := by decide +kernel
theorem dX6_load_77 : decode cX6_load 77 = .ok (.iconst 1, 1) := by decide +kernel
theorem dX6_load_78 : decode cX6_load 78 = .ok (.goto 4, 3) := by decide +kernel
theorem dX6_load_81 : decode cX6_load 81 = .ok (.iconst 0, 1) := by decide +kernel
theorem dX6_load_82 : decode cX6_load 82 = .ok (.istore_n 1, 1) := by decide +kernel
theorem dX6_load_83 : decode cX6_load 83 = .ok (.iinc 3 1, 3) := by decide +kernel
theorem dX6_load_86 : decode cX6_load 86 = .ok (.goto (-60), 3) := by decide +kernel
theorem dX6_load_89 : decode cX6_load 89 = .ok (.iinc 2 1, 3) := by decide +kernel
theorem dX6_load_92 : decode cX6_load 92 = .ok (.goto (-76), 3) := by decide +kernel
theorem dX6_load_95 : decode cX6_load 95 = .ok (.iload_n 1, 1) := by decide +kernel
theorem dX6_load_96 : decode cX6_load 96 = .ok (.ifCond .eq 6, 3) := by decide +kernel
theorem dX6_load_99 : decode cX6_load 99 = .ok (.bipush (-2), 2) := by decide +kernel
theorem dX6_load_101 : decode cX6_load 101 = .ok (.ireturn, 1) := by decide +kernel
theorem dX6_load_102 : decode cX6_load 102 = .ok (.aload_n 0, 1) := by decide +kernel
theorem dX6_load_103 : decode cX6_load 103 = .ok (.getfield 184, 3) := by decide +kernel
theorem dX6_load_106 : decode cX6_load 106 = .ok (.bipush 6, 2) := by decide +kernel
theorem dX6_load_108 : decode cX6_load 108 = .ok (.if_icmp .le 6, 3) := by decide +kernel
theorem dX6_load_111 : decode cX6_load 111 = .ok (.bipush (-3), 2) := by decide +kernel
theorem dX6_load_113 : decode cX6_load 113 = .ok (.ireturn, 1) := by decide +kernel
theorem dX6_load_114 : decode cX6_load 114 = .ok (.aload_n 0, 1) := by decide +kernel
theorem dX6_load_115 : decode cX6_load 115 = .ok (.invokevirtual 53, 3) := by decide +kernel
theorem dX6_load_118 : decode cX6_load 118 = .ok (.aload_n 0, 1) := by decide +kernel
theorem dX6_load_119 : decode cX6_load 119 = .ok (.getfield 7, 3) := by decide +kernel
theorem dX6_load_122 : decode cX6_load 122 = .ok (.iconst 0, 1) := by decide +kernel
theorem dX6_load_123 : decode cX6_load 123 = .ok (.iconst 0, 1) := by decide +kernel
theorem dX6_load_124 : decode cX6_load 124 = .ok (.iastore, 1) := by decide +kernel
theorem dX6_load_125 : decode cX6_load 125 = .ok (.iconst 0, 1) := by decide +kernel
theorem dX6_load_126 : decode cX6_load 126 = .ok (.istore_n 2, 1) := by decide +kernel
theorem dX6_load_127 : decode cX6_load 127 = .ok (.iload_n 2, 1) := by decide +kernel
theorem dX6_load_128 : decode cX6_load 128 = .ok (.aload_n 0, 1) := by decide +kernel
theorem dX6_load_129 : decode cX6_load 129 = .ok (.getfield 184, 3) := by decide +kernel
theorem dX6_load_132 : decode cX6_load 132 = .ok (.if_icmp .ge 51, 3) := by decide +kernel
theorem dX6_load_135 : decode cX6_load 135 = .ok (.aload_n 0, 1) := by decide +kernel
theorem dX6_load_136 : decode cX6_load 136 = .ok (.aload_n 0, 1) := by decide +kernel
theorem dX6_load_137 : decode cX6_load 137 = .ok (.getfield 35, 3) := by decide +kernel
theorem dX6_load_140 : decode cX6_load 140 = .ok (.iconst 4, 1) := by decide +kernel
theorem dX6_load_141 : decode cX6_load 141 = .ok (.iload_n 2, 1) := by decide +kernel
theorem dX6_load_142 : decode cX6_load 142 = .ok (.imul, 1) := by decide +kernel
theorem dX6_load_143 : decode cX6_load 143 = .ok (.iaload, 1) := by decide +kernel
theorem dX6_load_144 : decode cX6_load 144 = .ok (.aload_n 0, 1) := by decide +kernel
theorem dX6_load_145 : decode cX6_load 145 = .ok (.getfield 35, 3) := by decide +kernel
theorem dX6_load_148 : decode cX6_load 148 = .ok (.iconst 4, 1) := by decide +kernel
theorem dX6_load_149 : decode cX6_load 149 = .ok (.iload_n 2, 1) := by decide +kernel
theorem dX6_load_150 : decode cX6_load 150 = .ok (.imul, 1) := by decide +kernel
theorem dX6_load_151 : decode cX6_load 151 = .ok (.iconst 1, 1) := by decide +kernel
theorem dX6_load_152 : decode cX6_load 152 = .ok (.iadd, 1) := by decide +kernel
theorem dX6_load_153 : decode cX6_load 153 = .ok (.iaload, 1) := by decide +kernel
theorem dX6_load_154 : decode cX6_load 154 = .ok (.aload_n 0, 1) := by decide +kernel
theorem dX6_load_155 : decode cX6_load 155 = .ok (.getfield 35, 3) := by decide +kernel
theorem dX6_load_158 : decode cX6_load 158 = .ok (.iconst 4, 1) := by decide +kernel
theorem dX6_load_159 : decode cX6_load 159 = .ok (.iload_n 2, 1) := by decide +kernel
theorem dX6_load_160 : decode cX6_load 160 = .ok (.imul, 1) := by decide +kernel
theorem dX6_load_161 : decode cX6_load 161 = .ok (.iconst 2, 1) := by decide +kernel
theorem dX6_load_162 : decode cX6_load 162 = .ok (.iadd, 1) := by decide +kernel
theorem dX6_load_163 : decode cX6_load 163 = .ok (.iaload, 1) := by decide +kernel
theorem dX6_load_164 : decode cX6_load 164 = .ok (.aload_n 0, 1) := by decide +kernel
theorem dX6_load_165 : decode cX6_load 165 = .ok (.getfield 35, 3) := by decide +kernel
theorem dX6_load_168 : decode cX6_load 168 = .ok (.iconst 4, 1) := by decide +kernel
theorem dX6_load_169 : decode cX6_load 169 = .ok (.iload_n 2, 1) := by decide +kernel
theorem dX6_load_170 : decode cX6_load 170 = .ok (.imul, 1) := by decide +kernel
theorem dX6_load_171 : decode cX6_load 171 = .ok (.iconst 3, 1) := by decide +kernel
theorem dX6_load_172 : decode cX6_load 172 = .ok (.iadd, 1) := by decide +kernel
theorem dX6_load_173 : decode cX6_load 173 = .ok (.iaload, 1) := by decide +kernel
theorem dX6_load_174 : decode cX6_load 174 = .ok (.invokevirtual 67, 3) := by decide +kernel
theorem dX6_load_177 : decode cX6_load 177 = .ok (.iinc 2 1, 3) := by decide +kernel
theorem dX6_load_180 : decode cX6_load 180 = .ok (.goto (-53), 3) := by decide +kernel
theorem dX6_load_183 : decode cX6_load 183 = .ok (.iconst 0, 1) := by decide +kernel
theorem dX6_load_184 : decode cX6_load 184 = .ok (.istore_n 2, 1) := by decide +kernel
theorem dX6_load_185 : decode cX6_load 185 = .ok (.iload_n 2, 1) := by decide +kernel
theorem dX6_load_186 : decode cX6_load 186 = .ok (.iconst 4, 1) := by decide +kernel
theorem dX6_load_187 : decode cX6_load 187 = .ok (.if_icmp .ge 42, 3) := by decide +kernel
theorem dX6_load_190 : decode cX6_load 190 = .ok (.aload_n 0, 1) := by decide +kernel
theorem dX6_load_191 : decode cX6_load 191 = .ok (.getfield 187, 3) := by decide +kernel
theorem dX6_load_194 : decode cX6_load 194 = .ok (.ifCond .le 35, 3) := by decide +kernel
theorem dX6_load_197 : decode cX6_load 197 = .ok (.aload_n 0, 1) := by decide +kernel
theorem dX6_load_198 : decode cX6_load 198 = .ok (.getfield 7, 3) := by decide +kernel
theorem dX6_load_201 : decode cX6_load 201 = .ok (.iconst 2, 1) := by decide +kernel
theorem dX6_load_202 : decode cX6_load 202 = .ok (.iload_n 2, 1) := by decide +kernel
theorem dX6_load_203 : decode cX6_load 203 = .ok (.iadd, 1) := by decide +kernel
theorem dX6_load_204 : decode cX6_load 204 = .ok (.iload_n 2, 1) := by decide +kernel
theorem dX6_load_205 : decode cX6_load 205 = .ok (.aload_n 0, 1) := by decide +kernel
theorem dX6_load_206 : decode cX6_load 206 = .ok (.getfield 187, 3) := by decide +kernel
theorem dX6_load_209 : decode cX6_load 209 = .ok (.if_icmp .ge 12, 3) := by decide +kernel
theorem dX6_load_212 : decode cX6_load 212 = .ok (.aload_n 0, 1) := by decide +kernel
theorem dX6_load_213 : decode cX6_load 213 = .ok (.getfield 38, 3) := by decide +kernel
theorem dX6_load_216 : decode cX6_load 216 = .ok (.iload_n 2, 1) := by decide +kernel
theorem dX6_load_217 : decode cX6_load 217 = .ok (.iaload, 1) := by decide +kernel
theorem dX6_load_218 : decode cX6_load 218 = .ok (.goto 4, 3) := by decide +kernel
theorem dX6_load_221 : decode cX6_load 221 = .ok (.iconst 0, 1) := by decide +kernel
theorem dX6_load_222 : decode cX6_load 222 = .ok (.iastore, 1) := by decide +kernel
theorem dX6_load_223 : decode cX6_load 223 = .ok (.iinc 2 1, 3) := by decide +kernel
theorem dX6_load_226 : decode cX6_load 226 = .ok (.goto (-41), 3) := by decide +kernel
theorem dX6_load_229 : decode cX6_load 229 = .ok (.aload_n 0, 1) := by decide +kernel
theorem dX6_load_230 : decode cX6_load 230 = .ok (.getfield 7, 3) := by decide +kernel
theorem dX6_load_233 : decode cX6_load 233 = .ok (.iconst 1, 1) := by decide +kernel
theorem dX6_load_234 : decode cX6_load 234 = .ok (.aload_n 0, 1) := by decide +kernel
theorem dX6_load_235 : decode cX6_load 235 = .ok (.getfield 187, 3) := by decide +kernel
theorem dX6_load_238 : decode cX6_load 238 = .ok (.ifCond .le 10, 3) := by decide +kernel
theorem dX6_load_241 : decode cX6_load 241 = .ok (.aload_n 0, 1) := by decide +kernel
theorem dX6_load_242 : decode cX6_load 242 = .ok (.getfield 187, 3) := by decide +kernel
theorem dX6_load_245 : decode cX6_load 245 = .ok (.goto 9, 3) := by decide +kernel
theorem dX6_load_248 : decode cX6_load 248 = .ok (.aload_n 0, 1) := by decide +kernel
theorem dX6_load_249 : decode cX6_load 249 = .ok (.getfield 7, 3) := by decide +kernel
theorem dX6_load_252 : decode cX6_load 252 = .ok (.iconst 1, 1) := by decide +kernel
theorem dX6_load_253 : decode cX6_load 253 = .ok (.iaload, 1) := by decide +kernel
theorem dX6_load_254 : decode cX6_load 254 = .ok (.iastore, 1) := by decide +kernel
theorem dX6_load_255 : decode cX6_load 255 = .ok (.aload_n 0, 1) := by decide +kernel
theorem dX6_load_256 : decode cX6_load 256 = .ok (.iconst 0, 1) := by decide +kernel
theorem dX6_load_257 : decode cX6_load 257 = .ok (.putfield 152, 3) := by decide +kernel
theorem dX6_load_260 : decode cX6_load 260 = .ok (.aload_n 0, 1) := by decide +kernel
theorem dX6_load_261 : decode cX6_load 261 = .ok (.getfield 7, 3) := by decide +kernel
theorem dX6_load_264 : decode cX6_load 264 = .ok (.iconst 0, 1) := by decide +kernel
theorem dX6_load_265 : decode cX6_load 265 = .ok (.iaload, 1) := by decide +kernel
theorem dX6_load_266 : decode cX6_load 266 = .ok (.ireturn, 1) := by decide +kernel
