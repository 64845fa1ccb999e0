theorem dX3_become_0 : decode cX3_become 0 = .ok (.aload_n 1, 1) := by decide +kernel
theorem dX3_become_1 : decode cX3_become 1 = .ok (.getfield 9, 3) := by decide +kernel
theorem dX3_become_4 : decode cX3_become 4 = .ok (.iconst 0, 1) := by decide +kernel
theorem dX3_become_5 : decode cX3_become 5 = .ok (.aload_n 0, 1) := by decide +kernel
theorem dX3_become_6 : decode cX3_become 6 = .ok (.getfield 9, 3) := by decide +kernel
theorem dX3_become_9 : decode cX3_become 9 = .ok (.iconst 0, 1) := by decide +kernel
theorem dX3_become_10 : decode cX3_become 10 = .ok (.bipush 6, 2) := by decide +kernel
theorem dX3_become_12 : decode cX3_become 12 = .ok (.invokestatic 41, 3) := by decide +kernel
theorem dX3_become_15 : decode cX3_become 15 = .ok (.aload_n 1, 1) := by decide +kernel
theorem dX3_become_16 : decode cX3_become 16 = .ok (.getfield 15, 3) := by decide +kernel
theorem dX3_become_19 : decode cX3_become 19 = .ok (.iconst 0, 1) := by decide +kernel
theorem dX3_become_20 : decode cX3_become 20 = .ok (.aload_n 0, 1) := by decide +kernel
theorem dX3_become_21 : decode cX3_become 21 = .ok (.getfield 15, 3) := by decide +kernel
theorem dX3_become_24 : decode cX3_become 24 = .ok (.iconst 0, 1) := by decide +kernel
theorem dX3_become_25 : decode cX3_become 25 = .ok (.bipush 6, 2) := by decide +kernel
theorem dX3_become_27 : decode cX3_become 27 = .ok (.invokestatic 41, 3) := by decide +kernel
theorem dX3_become_30 : decode cX3_become 30 = .ok (.aload_n 1, 1) := by decide +kernel
theorem dX3_become_31 : decode cX3_become 31 = .ok (.getfield 18, 3) := by decide +kernel
theorem dX3_become_34 : decode cX3_become 34 = .ok (.iconst 0, 1) := by decide +kernel
theorem dX3_become_35 : decode cX3_become 35 = .ok (.aload_n 0, 1) := by decide +kernel
theorem dX3_become_36 : decode cX3_become 36 = .ok (.getfield 18, 3) := by decide +kernel
theorem dX3_become_39 : decode cX3_become 39 = .ok (.iconst 0, 1) := by decide +kernel
theorem dX3_become_40 : decode cX3_become 40 = .ok (.bipush 6, 2) := by decide +kernel
theorem dX3_become_42 : decode cX3_become 42 = .ok (.invokestatic 41, 3) := by decide +kernel
theorem dX3_become_45 : decode cX3_become 45 = .ok (.aload_n 1, 1) := by decide +kernel
theorem dX3_become_46 : decode cX3_become 46 = .ok (.getfield 25, 3) := by decide +kernel
theorem dX3_become_49 : decode cX3_become 49 = .ok (.iconst 0, 1) := by decide +kernel
theorem dX3_become_50 : decode cX3_become 50 = .ok (.aload_n 0, 1) := by decide +kernel
theorem dX3_become_51 : decode cX3_become 51 = .ok (.getfield 25, 3) := by decide +kernel
theorem dX3_become_54 : decode cX3_become 54 = .ok (.iconst 0, 1) := by decide +kernel
theorem dX3_become_55 : decode cX3_become 55 = .ok (.iconst 4, 1) := by decide +kernel
theorem dX3_become_56 : decode cX3_become 56 = .ok (.invokestatic 41, 3) := by decide +kernel
theorem dX3_become_59 : decode cX3_become 59 = .ok (.iconst 0, 1) := by decide +kernel
theorem dX3_become_60 : decode cX3_become 60 = .ok (.istore_n 2, 1) := by decide +kernel
theorem dX3_become_61 : decode cX3_become 61 = .ok (.iload_n 2, 1) := by decide +kernel
theorem dX3_become_62 : decode cX3_become 62 = .ok (.bipush 6, 2) := by decide +kernel
theorem dX3_become_64 : decode cX3_become 64 = .ok (.if_icmp .ge 21, 3) := by decide +kernel
theorem dX3_become_67 : decode cX3_become 67 = .ok (.aload_n 0, 1) := by decide +kernel
theorem dX3_become_68 : decode cX3_become 68 = .ok (.getfield 21, 3) := by decide +kernel
theorem dX3_become_71 : decode cX3_become 71 = .ok (.iload_n 2, 1) := by decide +kernel
theorem dX3_become_72 : decode cX3_become 72 = .ok (.aload_n 1, 1) := by decide +kernel
theorem dX3_become_73 : decode cX3_become 73 = .ok (.getfield 21, 3) := by decide +kernel
theorem dX3_become_76 : decode cX3_become 76 = .ok (.iload_n 2, 1) := by decide +kernel
theorem dX3_become_77 : decode cX3_become 77 = .ok (.baload, 1) := by decide +kernel
theorem dX3_become_78 : decode cX3_become 78 = .ok (.bastore, 1) := by decide +kernel
theorem dX3_become_79 : decode cX3_become 79 = .ok (.iinc 2 1, 3) := by decide +kernel
theorem dX3_become_82 : decode cX3_become 82 = .ok (.goto (-21), 3) := by decide +kernel
theorem dX3_become_85 : decode cX3_become 85 = .ok (.aload_n 0, 1) := by decide +kernel
theorem dX3_become_86 : decode cX3_become 86 = .ok (.aload_n 1, 1) := by decide +kernel
theorem dX3_become_87 : decode cX3_become 87 = .ok (.getfield 28, 3) := by decide +kernel
theorem dX3_become_90 : decode cX3_become 90 = .ok (.putfield 28, 3) := by decide +kernel
theorem dX3_become_93 : decode cX3_become 93 = .ok (.aload_n 0, 1) := by decide +kernel
theorem dX3_become_94 : decode cX3_become 94 = .ok (.aload_n 1, 1) := by decide +kernel
theorem dX3_become_95 : decode cX3_become 95 = .ok (.getfield 32, 3) := by decide +kernel
theorem dX3_become_98 : decode cX3_become 98 = .ok (.putfield 32, 3) := by decide +kernel
theorem dX3_become_101 : decode cX3_become 101 = .ok (.aload_n 0, 1) := by decide +kernel
theorem dX3_become_102 : decode cX3_become 102 = .ok (.aload_n 1, 1) := by decide +kernel
theorem dX3_become_103 : decode cX3_become 103 = .ok (.getfield 35, 3) := by decide +kernel
theorem dX3_become_106 : decode cX3_become 106 = .ok (.putfield 35, 3) := by decide +kernel
theorem dX3_become_109 : decode cX3_become 109 = .ok (.aload_n 0, 1) := by decide +kernel
theorem dX3_become_110 : decode cX3_become 110 = .ok (.aload_n 1, 1) := by decide +kernel
theorem dX3_become_111 : decode cX3_become 111 = .ok (.getfield 38, 3) := by decide +kernel
theorem dX3_become_114 : decode cX3_become 114 = .ok (.putfield 38, 3) := by decide +kernel
theorem dX3_become_117 : decode cX3_become 117 = .ok (.return_, 1) := by decide +kernel
theorem dX3_targetCount_0 : decode cX3_targetCount 0 = .ok (.aload_n 0, 1) := by decide +kernel
theorem dX3_targetCount_1 : decode cX3_targetCount 1 = .ok (.getfield 28, 3) := by decide +kernel
theorem dX3_targetCount_4 : decode cX3_targetCount 4 = .ok (.ireturn, 1) := by decide +kernel
theorem dX3_turnCount_0 : decode cX3_turnCount 0 = .ok (.aload_n 0, 1) := by decide +kernel
theorem dX3_turnCount_1 : decode cX3_turnCount 1 = .ok (.getfield 32, 3) := by decide +kernel
theorem dX3_turnCount_4 : decode cX3_turnCount 4 = .ok (.ireturn, 1) := by decide +kernel
theorem dX3_blindBelow_0 : decode cX3_blindBelow 0 = .ok (.aload_n 0, 1) := by decide +kernel
theorem dX3_blindBelow_1 : decode cX3_blindBelow 1 = .ok (.getfield 35, 3) := by decide +kernel
theorem dX3_blindBelow_4 : decode cX3_blindBelow 4 = .ok (.ireturn, 1) := by decide +kernel
theorem dX3_loudFrom_0 : decode cX3_loudFrom 0 = .ok (.aload_n 0, 1) := by decide +kernel
theorem dX3_loudFrom_1 : decode cX3_loudFrom 1 = .ok (.getfield 38, 3) := by decide +kernel
theorem dX3_loudFrom_4 : decode cX3_loudFrom 4 = .ok (.ireturn, 1) := by decide +kernel
theorem dX3_has_0 : decode cX3_has 0 = .ok (.iload_n 1, 1) := by decide +kernel
theorem dX3_has_1 : decode cX3_has 1 = .ok (.ifCond .lt 21, 3) := by decide +kernel
theorem dX3_has_4 : decode cX3_has 4 = .ok (.iload_n 1, 1) := by decide +kernel
theorem dX3_has_5 : decode cX3_has 5 = .ok (.aload_n 0, 1) := by decide +kernel
theorem dX3_has_6 : decode cX3_has 6 = .ok (.getfield 28, 3) := by decide +kernel
theorem dX3_has_9 : decode cX3_has 9 = .ok (.if_icmp .ge 13, 3) := by decide +kernel
theorem dX3_has_12 : decode cX3_has 12 = .ok (.iload_n 1, 1) := by decide +kernel
theorem dX3_has_13 : decode cX3_has 13 = .ok (.bipush 6, 2) := by decide +kernel
theorem dX3_has_15 : decode cX3_has 15 = .ok (.if_icmp .ge 7, 3) := by decide +kernel
theorem dX3_has_18 : decode cX3_has 18 = .ok (.iconst 1, 1) := by decide +kernel
theorem dX3_has_19 : decode cX3_has 19 = .ok (.goto 4, 3) := by decide +kernel
theorem dX3_has_22 : decode cX3_has 22 = .ok (.iconst 0, 1) := by decide +kernel
theorem dX3_has_23 : decode cX3_has 23 = .ok (.ireturn, 1) := by decide +kernel
theorem dX3_hasTurn_0 : decode cX3_hasTurn 0 = .ok (.iload_n 1, 1) := by decide +kernel
theorem dX3_hasTurn_1 : decode cX3_hasTurn 1 = .ok (.ifCond .lt 20, 3) := by decide +kernel
theorem dX3_hasTurn_4 : decode cX3_hasTurn 4 = .ok (.iload_n 1, 1) := by decide +kernel
theorem dX3_hasTurn_5 : decode cX3_hasTurn 5 = .ok (.aload_n 0, 1) := by decide +kernel
theorem dX3_hasTurn_6 : decode cX3_hasTurn 6 = .ok (.getfield 32, 3) := by decide +kernel
theorem dX3_hasTurn_9 : decode cX3_hasTurn 9 = .ok (.if_icmp .ge 12, 3) := by decide +kernel
theorem dX3_hasTurn_12 : decode cX3_hasTurn 12 = .ok (.iload_n 1, 1) := by decide +kernel
theorem dX3_hasTurn_13 : decode cX3_hasTurn 13 = .ok (.iconst 4, 1) := by decide +kernel
theorem dX3_hasTurn_14 : decode cX3_hasTurn 14 = .ok (.if_icmp .ge 7, 3) := by decide +kernel
theorem dX3_hasTurn_17 : decode cX3_hasTurn 17 = .ok (.iconst 1, 1) := by decide +kernel
theorem dX3_hasTurn_18 : decode cX3_hasTurn 18 = .ok (.goto 4, 3) := by decide +kernel
theorem dX3_hasTurn_21 : decode cX3_hasTurn 21 = .ok (.iconst 0, 1) := by decide +kernel
theorem dX3_hasTurn_22 : decode cX3_hasTurn 22 = .ok (.ireturn, 1) := by decide +kernel
theorem dX3_distanceOf_0 : decode cX3_distanceOf 0 = .ok (.aload_n 0, 1) := by decide +kernel
theorem dX3_distanceOf_1 : decode cX3_distanceOf 1 = .ok (.iload_n 1, 1) := by decide +kernel
theorem dX3_distanceOf_2 : decode cX3_distanceOf 2 = .ok (.invokevirtual 47, 3) := by decide +kernel
theorem dX3_distanceOf_5 : decode cX3_distanceOf 5 = .ok (.ifCond .eq 12, 3) := by decide +kernel
theorem dX3_distanceOf_8 : decode cX3_distanceOf 8 = .ok (.aload_n 0, 1) := by decide +kernel
theorem dX3_distanceOf_9 : decode cX3_distanceOf 9 = .ok (.getfield 9, 3) := by decide +kernel
theorem dX3_distanceOf_12 : decode cX3_distanceOf 12 = .ok (.iload_n 1, 1) := by decide +kernel
theorem dX3_distanceOf_13 : decode cX3_distanceOf 13 = .ok (.iaload, 1) := by decide +kernel
theorem dX3_distanceOf_14 : decode cX3_distanceOf 14 = .ok (.goto 4, 3) := by decide +kernel
theorem dX3_distanceOf_17 : decode cX3_distanceOf 17 = .ok (.iconst 0, 1) := by decide +kernel
theorem dX3_distanceOf_18 : decode cX3_distanceOf 18 = .ok (.ireturn, 1) := by decide +kernel
theorem dX3_strengthOf_0 : decode cX3_strengthOf 0 = .ok (.aload_n 0, 1) := by decide +kernel
theorem dX3_strengthOf_1 : decode cX3_strengthOf 1 = .ok (.iload_n 1, 1) := by decide +kernel
theorem dX3_strengthOf_2 : decode cX3_strengthOf 2 = .ok (.invokevirtual 47, 3) := by decide +kernel
theorem dX3_strengthOf_5 : decode cX3_strengthOf 5 = .ok (.ifCond .eq 12, 3) := by decide +kernel
theorem dX3_strengthOf_8 : decode cX3_strengthOf 8 = .ok (.aload_n 0, 1) := by decide +kernel
theorem dX3_strengthOf_9 : decode cX3_strengthOf 9 = .ok (.getfield 15, 3) := by decide +kernel
theorem dX3_strengthOf_12 : decode cX3_strengthOf 12 = .ok (.iload_n 1, 1) := by decide +kernel
theorem dX3_strengthOf_13 : decode cX3_strengthOf 13 = .ok (.iaload, 1) := by decide +kernel
theorem dX3_strengthOf_14 : decode cX3_strengthOf 14 = .ok (.goto 4, 3) := by decide +kernel
theorem dX3_strengthOf_17 : decode cX3_strengthOf 17 = .ok (.iconst 0, 1) := by decide +kernel
theorem dX3_strengthOf_18 : decode cX3_strengthOf 18 = .ok (.ireturn, 1) := by decide +kernel
theorem dX3_movementOf_0 : decode cX3_movementOf 0 = .ok (.aload_n 0, 1) := by decide +kernel
theorem dX3_movementOf_1 : decode cX3_movementOf 1 = .ok (.iload_n 1, 1) := by decide +kernel
theorem dX3_movementOf_2 : decode cX3_movementOf 2 = .ok (.invokevirtual 47, 3) := by decide +kernel
theorem dX3_movementOf_5 : decode cX3_movementOf 5 = .ok (.ifCond .eq 12, 3) := by decide +kernel
theorem dX3_movementOf_8 : decode cX3_movementOf 8 = .ok (.aload_n 0, 1) := by decide +kernel
theorem dX3_movementOf_9 : decode cX3_movementOf 9 = .ok (.getfield 18, 3) := by decide +kernel
theorem dX3_movementOf_12 : decode cX3_movementOf 12 = .ok (.iload_n 1, 1) := by decide +kernel
theorem dX3_movementOf_13 : decode cX3_movementOf 13 = .ok (.iaload, 1) := by decide +kernel
theorem dX3_movementOf_14 : decode cX3_movementOf 14 = .ok (.goto 4, 3) := by decide +kernel
theorem dX3_movementOf_17 : decode cX3_movementOf 17 = .ok (.iconst 0, 1) := by decide +kernel
theorem dX3_movementOf_18 : decode cX3_movementOf 18 = .ok (.ireturn, 1) := by decide +kernel
theorem dX3_isWall_0 : decode cX3_isWall 0 = .ok (.aload_n 0, 1) := by decide +kernel
theorem dX3_isWall_1 : decode cX3_isWall 1 = .ok (.iload_n 1, 1) := by decide +kernel
theorem dX3_isWall_2 : decode cX3_isWall 2 = .ok (.invokevirtual 47, 3) := by decide +kernel
theorem dX3_isWall_5 : decode cX3_isWall 5 = .ok (.ifCond .eq 16, 3) := by decide +kernel
theorem dX3_isWall_8 : decode cX3_isWall 8 = .ok (.aload_n 0, 1) := by decide +kernel
theorem dX3_isWall_9 : decode cX3_isWall 9 = .ok (.getfield 21, 3) := by decide +kernel
theorem dX3_isWall_12 : decode cX3_isWall 12 = .ok (.iload_n 1, 1) := by decide +kernel
theorem dX3_isWall_13 : decode cX3_isWall 13 = .ok (.baload, 1) := by decide +kernel
theorem dX3_isWall_14 : decode cX3_isWall 14 = .ok (.ifCond .eq 7, 3) := by decide +kernel
theorem dX3_isWall_17 : decode cX3_isWall 17 = .ok (.iconst 1, 1) := by decide +kernel
theorem dX3_isWall_18 : decode cX3_isWall 18 = .ok (.goto 4, 3) := by decide +kernel
theorem dX3_isWall_21 : decode cX3_isWall 21 = .ok (.iconst 0, 1) := by decide +kernel
theorem dX3_isWall_22 : decode cX3_isWall 22 = .ok (.ireturn, 1) := by decide +kernel
theorem dX3_spacingOf_0 : decode cX3_spacingOf 0 = .ok (.aload_n 0, 1) := by decide +kernel
theorem dX3_spacingOf_1 : decode cX3_spacingOf 1 = .ok (.iload_n 1, 1) := by decide +kernel
theorem dX3_spacingOf_2 : decode cX3_spacingOf 2 = .ok (.invokevirtual 51, 3) := by decide +kernel
theorem dX3_spacingOf_5 : decode cX3_spacingOf 5 = .ok (.ifCond .eq 12, 3) := by decide +kernel
theorem dX3_spacingOf_8 : decode cX3_spacingOf 8 = .ok (.aload_n 0, 1) := by decide +kernel
theorem dX3_spacingOf_9 : decode cX3_spacingOf 9 = .ok (.getfield 25, 3) := by decide +kernel
theorem dX3_spacingOf_12 : decode cX3_spacingOf 12 = .ok (.iload_n 1, 1) := by decide +kernel
theorem dX3_spacingOf_13 : decode cX3_spacingOf 13 = .ok (.iaload, 1) := by decide +kernel
theorem dX3_spacingOf_14 : decode cX3_spacingOf 14 = .ok (.goto 4, 3) := by decide +kernel
theorem dX3_spacingOf_17 : decode cX3_spacingOf 17 = .ok (.iconst 0, 1) := by decide +kernel
theorem dX3_spacingOf_18 : decode cX3_spacingOf 18 = .ok (.ireturn, 1) := by decide +kernel
theorem dX3_wallCount_0 : decode cX3_wallCount 0 = .ok (.iconst 0, 1) := by decide +kernel
theorem dX3_wallCount_1 : decode cX3_wallCount 1 = .ok (.istore_n 1, 1) := by decide +kernel
theorem dX3_wallCount_2 : decode cX3_wallCount 2 = .ok (.iconst 0, 1) := by decide +kernel
theorem dX3_wallCount_3 : decode cX3_wallCount 3 = .ok (.istore_n 2, 1) := by decide +kernel
theorem dX3_wallCount_4 : decode cX3_wallCount 4 = .ok (.iload_n 2, 1) := by decide +kernel
theorem dX3_wallCount_5 : decode cX3_wallCount 5 = .ok (.aload_n 0, 1) := by decide +kernel
theorem dX3_wallCount_6 : decode cX3_wallCount 6 = .ok (.getfield 28, 3) := by decide +kernel
theorem dX3_wallCount_9 : decode cX3_wallCount 9 = .ok (.if_icmp .ge 25, 3) := by decide +kernel
theorem dX3_wallCount_12 : decode cX3_wallCount 12 = .ok (.iload_n 1, 1) := by decide +kernel
theorem dX3_wallCount_13 : decode cX3_wallCount 13 = .ok (.aload_n 0, 1) := by decide +kernel
theorem dX3_wallCount_14 : decode cX3_wallCount 14 = .ok (.iload_n 2, 1) := by decide +kernel
theorem dX3_wallCount_15 : decode cX3_wallCount 15 = .ok (.invokevirtual 54, 3) := by decide +kernel
theorem dX3_wallCount_18 : decode cX3_wallCount 18 = .ok (.ifCond .eq 7, 3) := by decide +kernel
theorem dX3_wallCount_21 : decode cX3_wallCount 21 = .ok (.iconst 1, 1) := by decide +kernel
theorem dX3_wallCount_22 : decode cX3_wallCount 22 = .ok (.goto 4, 3) := by decide +kernel
theorem dX3_wallCount_25 : decode cX3_wallCount 25 = .ok (.iconst 0, 1) := by decide +kernel
theorem dX3_wallCount_26 : decode cX3_wallCount 26 = .ok (.iadd, 1) := by decide +kernel
theorem dX3_wallCount_27 : decode cX3_wallCount 27 = .ok (.istore_n 1, 1) := by decide +kernel
theorem dX3_wallCount_28 : decode cX3_wallCount 28 = .ok (.iinc 2 1, 3) := by decide +kernel
theorem dX3_wallCount_31 : decode cX3_wallCount 31 = .ok (.goto (-27), 3) := by decide +kernel
theorem dX3_wallCount_34 : decode cX3_wallCount 34 = .ok (.iload_n 1, 1) := by decide +kernel
theorem dX3_wallCount_35 : decode cX3_wallCount 35 = .ok (.ireturn, 1) := by decide +kernel
theorem dX3_holds_0 : decode cX3_holds 0 = .ok (.iconst 0, 1) := by decide +kernel
theorem dX3_holds_1 : decode cX3_holds 1 = .ok (.istore_n 3, 1) := by decide +kernel
theorem dX3_holds_2 : decode cX3_holds 2 = .ok (.iload_n 3, 1) := by decide +kernel
theorem dX3_holds_3 : decode cX3_holds 3 = .ok (.aload_n 0, 1) := by decide +kernel
theorem dX3_holds_4 : decode cX3_holds 4 = .ok (.getfield 28, 3) := by decide +kernel
theorem dX3_holds_7 : decode cX3_holds 7 = .ok (.if_icmp .ge 29, 3) := by decide +kernel
theorem dX3_holds_10 : decode cX3_holds 10 = .ok (.aload_n 0, 1) := by decide +kernel
theorem dX3_holds_11 : decode cX3_holds 11 = .ok (.iload_n 3, 1) := by decide +kernel
theorem dX3_holds_12 : decode cX3_holds 12 = .ok (.invokevirtual 57, 3) := by decide +kernel
theorem dX3_holds_15 : decode cX3_holds 15 = .ok (.iload_n 1, 1) := by decide +kernel
theorem dX3_holds_16 : decode cX3_holds 16 = .ok (.if_icmp .ne 14, 3) := by decide +kernel
theorem dX3_holds_19 : decode cX3_holds 19 = .ok (.aload_n 0, 1) := by decide +kernel
theorem dX3_holds_20 : decode cX3_holds 20 = .ok (.iload_n 3, 1) := by decide +kernel
theorem dX3_holds_21 : decode cX3_holds 21 = .ok (.invokevirtual 61, 3) := by decide +kernel
theorem dX3_holds_24 : decode cX3_holds 24 = .ok (.iload_n 2, 1) := by decide +kernel
theorem dX3_holds_25 : decode cX3_holds 25 = .ok (.if_icmp .ne 5, 3) := by decide +kernel
theorem dX3_holds_28 : decode cX3_holds 28 = .ok (.iconst 1, 1) := by decide +kernel
theorem dX3_holds_29 : decode cX3_holds 29 = .ok (.ireturn, 1) := by decide +kernel
theorem dX3_holds_30 : decode cX3_holds 30 = .ok (.iinc 3 1, 3) := by decide +kernel
theorem dX3_holds_33 : decode cX3_holds 33 = .ok (.goto (-31), 3) := by decide +kernel
theorem dX3_holds_36 : decode cX3_holds 36 = .ok (.iconst 0, 1) := by decide +kernel
theorem dX3_holds_37 : decode cX3_holds 37 = .ok (.ireturn, 1) := by decide +kernel
theorem dX3_join_0 : decode cX3_join 0 = .ok (.aload_n 0, 1) := by decide +kernel
theorem dX3_join_1 : decode cX3_join 1 = .ok (.getfield 28, 3) := by decide +kernel
theorem dX3_join_4 : decode cX3_join 4 = .ok (.bipush 6, 2) := by decide +kernel
theorem dX3_join_6 : decode cX3_join 6 = .ok (.if_icmp .lt 6, 3) := by decide +kernel
theorem dX3_join_9 : decode cX3_join 9 = .ok (.bipush (-3), 2) := by decide +kernel
theorem dX3_join_11 : decode cX3_join 11 = .ok (.ireturn, 1) := by decide +kernel
theorem dX3_join_12 : decode cX3_join 12 = .ok (.aload_n 0, 1) := by decide +kernel
theorem dX3_join_13 : decode cX3_join 13 = .ok (.dup, 1) := by decide +kernel
theorem dX3_join_14 : decode cX3_join 14 = .ok (.getfield 28, 3) := by decide +kernel
theorem dX3_join_17 : decode cX3_join 17 = .ok (.iconst 1, 1) := by decide +kernel
theorem dX3_join_18 : decode cX3_join 18 = .ok (.iadd, 1) := by decide +kernel
theorem dX3_join_19 : decode cX3_join 19 = .ok (.putfield 28, 3) := by decide +kernel
theorem dX3_join_22 : decode cX3_join 22 = .ok (.aload_n 0, 1) := by decide +kernel
theorem dX3_join_23 : decode cX3_join 23 = .ok (.aload_n 0, 1) := by decide +kernel
theorem dX3_join_24 : decode cX3_join 24 = .ok (.getfield 28, 3) := by decide +kernel
theorem dX3_join_27 : decode cX3_join 27 = .ok (.iconst 1, 1) := by decide +kernel
theorem dX3_join_28 : decode cX3_join 28 = .ok (.isub, 1) := by decide +kernel
theorem dX3_join_29 : decode cX3_join 29 = .ok (.iload_n 1, 1) := by decide +kernel
theorem dX3_join_30 : decode cX3_join 30 = .ok (.iload_n 2, 1) := by decide +kernel
theorem dX3_join_31 : decode cX3_join 31 = .ok (.iload_n 3, 1) := by decide +kernel
theorem dX3_join_32 : decode cX3_join 32 = .ok (.iload 4, 2) := by decide +kernel
theorem dX3_join_34 : decode cX3_join 34 = .ok (.invokevirtual 64, 3) := by decide +kernel
theorem dX3_join_37 : decode cX3_join 37 = .ok (.aload_n 0, 1) := by decide +kernel
theorem dX3_join_38 : decode cX3_join 38 = .ok (.getfield 28, 3) := by decide +kernel
theorem dX3_join_41 : decode cX3_join 41 = .ok (.iconst 1, 1) := by decide +kernel
theorem dX3_join_42 : decode cX3_join 42 = .ok (.isub, 1) := by decide +kernel
theorem dX3_join_43 : decode cX3_join 43 = .ok (.ireturn, 1) := by decide +kernel
theorem dX3_put_0 : decode cX3_put 0 = .ok (.aload_n 0, 1) := by decide +kernel
theorem dX3_put_1 : decode cX3_put 1 = .ok (.iload_n 1, 1) := by decide +kernel
theorem dX3_put_2 : decode cX3_put 2 = .ok (.invokevirtual 47, 3) := by decide +kernel
theorem dX3_put_5 : decode cX3_put 5 = .ok (.ifCond .eq 33, 3) := by decide +kernel
theorem dX3_put_8 : decode cX3_put 8 = .ok (.aload_n 0, 1) := by decide +kernel
theorem dX3_put_9 : decode cX3_put 9 = .ok (.getfield 9, 3) := by decide +kernel
theorem dX3_put_12 : decode cX3_put 12 = .ok (.iload_n 1, 1) := by decide +kernel
theorem dX3_put_13 : decode cX3_put 13 = .ok (.iload_n 2, 1) := by decide +kernel
theorem dX3_put_14 : decode cX3_put 14 = .ok (.iastore, 1) := by decide +kernel
theorem dX3_put_15 : decode cX3_put 15 = .ok (.aload_n 0, 1) := by decide +kernel
theorem dX3_put_16 : decode cX3_put 16 = .ok (.getfield 15, 3) := by decide +kernel
theorem dX3_put_19 : decode cX3_put 19 = .ok (.iload_n 1, 1) := by decide +kernel
theorem dX3_put_20 : decode cX3_put 20 = .ok (.iload_n 3, 1) := by decide +kernel
theorem dX3_put_21 : decode cX3_put 21 = .ok (.iastore, 1) := by decide +kernel
theorem dX3_put_22 : decode cX3_put 22 = .ok (.aload_n 0, 1) := by decide +kernel
theorem dX3_put_23 : decode cX3_put 23 = .ok (.getfield 18, 3) := by decide +kernel
theorem dX3_put_26 : decode cX3_put 26 = .ok (.iload_n 1, 1) := by decide +kernel
theorem dX3_put_27 : decode cX3_put 27 = .ok (.iload 4, 2) := by decide +kernel
theorem dX3_put_29 : decode cX3_put 29 = .ok (.iastore, 1) := by decide +kernel
theorem dX3_put_30 : decode cX3_put 30 = .ok (.aload_n 0, 1) := by decide +kernel
theorem dX3_put_31 : decode cX3_put 31 = .ok (.getfield 21, 3) := by decide +kernel
theorem dX3_put_34 : decode cX3_put 34 = .ok (.iload_n 1, 1) := by decide +kernel
theorem dX3_put_35 : decode cX3_put 35 = .ok (.iload 5, 2) := by decide +kernel
theorem dX3_put_37 : decode cX3_put 37 = .ok (.bastore, 1) := by decide +kernel
theorem dX3_put_38 : decode cX3_put 38 = .ok (.return_, 1) := by decide +kernel
theorem dX3_putAs_0 : decode cX3_putAs 0 = .ok (.aload_n 0, 1) := by decide +kernel
theorem dX3_putAs_1 : decode cX3_putAs 1 = .ok (.iload_n 2, 1) := by decide +kernel
theorem dX3_putAs_2 : decode cX3_putAs 2 = .ok (.iload_n 3, 1) := by decide +kernel
theorem dX3_putAs_3 : decode cX3_putAs 3 = .ok (.aload_n 0, 1) := by decide +kernel
theorem dX3_putAs_4 : decode cX3_putAs 4 = .ok (.iload_n 1, 1) := by decide +kernel
theorem dX3_putAs_5 : decode cX3_putAs 5 = .ok (.invokevirtual 68, 3) := by decide +kernel
theorem dX3_putAs_8 : decode cX3_putAs 8 = .ok (.aload_n 0, 1) := by decide +kernel
theorem dX3_putAs_9 : decode cX3_putAs 9 = .ok (.iload_n 1, 1) := by decide +kernel
theorem dX3_putAs_10 : decode cX3_putAs 10 = .ok (.invokevirtual 61, 3) := by decide +kernel
theorem dX3_putAs_13 : decode cX3_putAs 13 = .ok (.aload_n 0, 1) := by decide +kernel
theorem dX3_putAs_14 : decode cX3_putAs 14 = .ok (.iload_n 1, 1) := by decide +kernel
theorem dX3_putAs_15 : decode cX3_putAs 15 = .ok (.invokevirtual 54, 3) := by decide +kernel
theorem dX3_putAs_18 : decode cX3_putAs 18 = .ok (.invokevirtual 64, 3) := by decide +kernel
theorem dX3_putAs_21 : decode cX3_putAs 21 = .ok (.return_, 1) := by decide +kernel
theorem dX3_leave_0 : decode cX3_leave 0 = .ok (.aload_n 0, 1) := by decide +kernel
theorem dX3_leave_1 : decode cX3_leave 1 = .ok (.iload_n 1, 1) := by decide +kernel
theorem dX3_leave_2 : decode cX3_leave 2 = .ok (.invokevirtual 47, 3) := by decide +kernel
theorem dX3_leave_5 : decode cX3_leave 5 = .ok (.ifCond .ne 4, 3) := by decide +kernel
theorem dX3_leave_8 : decode cX3_leave 8 = .ok (.return_, 1) := by decide +kernel
theorem dX3_leave_9 : decode cX3_leave 9 = .ok (.iload_n 1, 1) := by decide +kernel
theorem dX3_leave_10 : decode cX3_leave 10 = .ok (.iconst 1, 1) := by decide +kernel
theorem dX3_leave_11 : decode cX3_leave 11 = .ok (.iadd, 1) := by decide +kernel
theorem dX3_leave_12 : decode cX3_leave 12 = .ok (.istore_n 2, 1) := by decide +kernel
theorem dX3_leave_13 : decode cX3_leave 13 = .ok (.iload_n 2, 1) := by decide +kernel
theorem dX3_leave_14 : decode cX3_leave 14 = .ok (.aload_n 0, 1) := by decide +kernel
theorem dX3_leave_15 : decode cX3_leave 15 = .ok (.getfield 28, 3) := by decide +kernel
theorem dX3_leave_18 : decode cX3_leave 18 = .ok (.if_icmp .ge 22, 3) := by decide +kernel
theorem dX3_leave_21 : decode cX3_leave 21 = .ok (.aload_n 0, 1) := by decide +kernel
theorem dX3_leave_22 : decode cX3_leave 22 = .ok (.iload_n 2, 1) := by decide +kernel
theorem dX3_leave_23 : decode cX3_leave 23 = .ok (.iload_n 2, 1) := by decide +kernel
theorem dX3_leave_24 : decode cX3_leave 24 = .ok (.iconst 1, 1) := by decide +kernel
theorem dX3_leave_25 : decode cX3_leave 25 = .ok (.isub, 1) := by decide +kernel
theorem dX3_leave_26 : decode cX3_leave 26 = .ok (.aload_n 0, 1) := by decide +kernel
theorem dX3_leave_27 : decode cX3_leave 27 = .ok (.iload_n 2, 1) := by decide +kernel
theorem dX3_leave_28 : decode cX3_leave 28 = .ok (.invokevirtual 57, 3) := by decide +kernel
theorem dX3_leave_31 : decode cX3_leave 31 = .ok (.invokevirtual 71, 3) := by decide +kernel
theorem dX3_leave_34 : decode cX3_leave 34 = .ok (.iinc 2 1, 3) := by decide +kernel
theorem dX3_leave_37 : decode cX3_leave 37 = .ok (.goto (-24), 3) := by decide +kernel
theorem dX3_leave_40 : decode cX3_leave 40 = .ok (.aload_n 0, 1) := by decide +kernel
theorem dX3_leave_41 : decode cX3_leave 41 = .ok (.dup, 1) := by decide +kernel
theorem dX3_leave_42 : decode cX3_leave 42 = .ok (.getfield 28, 3) := by decide +kernel
theorem dX3_leave_45 : decode cX3_leave 45 = .ok (.iconst 1, 1) := by decide +kernel
theorem dX3_leave_46 : decode cX3_leave 46 = .ok (.isub, 1) := by decide +kernel
theorem dX3_leave_47 : decode cX3_leave 47 = .ok (.putfield 28, 3) := by decide +kernel
theorem dX3_leave_50 : decode cX3_leave 50 = .ok (.return_, 1) := by decide +kernel
theorem dX3_moveAll_0 : decode cX3_moveAll 0 = .ok (.iconst 0, 1) := by decide +kernel
theorem dX3_moveAll_1 : decode cX3_moveAll 1 = .ok (.istore_n 1, 1) := by decide +kernel
theorem dX3_moveAll_2 : decode cX3_moveAll 2 = .ok (.iconst 0, 1) := by decide +kernel
theorem dX3_moveAll_3 : decode cX3_moveAll 3 = .ok (.istore_n 2, 1) := by decide +kernel
theorem dX3_moveAll_4 : decode cX3_moveAll 4 = .ok (.iload_n 2, 1) := by decide +kernel
theorem dX3_moveAll_5 : decode cX3_moveAll 5 = .ok (.aload_n 0, 1) := by decide +kernel
theorem dX3_moveAll_6 : decode cX3_moveAll 6 = .ok (.getfield 28, 3) := by decide +kernel
theorem dX3_moveAll_9 : decode cX3_moveAll 9 = .ok (.if_icmp .ge 47, 3) := by decide +kernel
theorem dX3_moveAll_12 : decode cX3_moveAll 12 = .ok (.aload_n 0, 1) := by decide +kernel
theorem dX3_moveAll_13 : decode cX3_moveAll 13 = .ok (.iload_n 2, 1) := by decide +kernel
theorem dX3_moveAll_14 : decode cX3_moveAll 14 = .ok (.invokevirtual 57, 3) := by decide +kernel
theorem dX3_moveAll_17 : decode cX3_moveAll 17 = .ok (.aload_n 0, 1) := by decide +kernel
theorem dX3_moveAll_18 : decode cX3_moveAll 18 = .ok (.iload_n 2, 1) := by decide +kernel
theorem dX3_moveAll_19 : decode cX3_moveAll 19 = .ok (.invokevirtual 61, 3) := by decide +kernel
theorem dX3_moveAll_22 : decode cX3_moveAll 22 = .ok (.aload_n 0, 1) := by decide +kernel
theorem dX3_moveAll_23 : decode cX3_moveAll 23 = .ok (.getfield 32, 3) := by decide +kernel
theorem dX3_moveAll_26 : decode cX3_moveAll 26 = .ok (.imul, 1) := by decide +kernel
theorem dX3_moveAll_27 : decode cX3_moveAll 27 = .ok (.iadd, 1) := by decide +kernel
theorem dX3_moveAll_28 : decode cX3_moveAll 28 = .ok (.istore_n 3, 1) := by decide +kernel
theorem dX3_moveAll_29 : decode cX3_moveAll 29 = .ok (.iload_n 3, 1) := by decide +kernel
theorem dX3_moveAll_30 : decode cX3_moveAll 30 = .ok (.iconst 1, 1) := by decide +kernel
theorem dX3_moveAll_31 : decode cX3_moveAll 31 = .ok (.sipush 300, 3) := by decide +kernel
theorem dX3_moveAll_34 : decode cX3_moveAll 34 = .ok (.invokestatic 75, 3) := by decide +kernel
theorem dX3_moveAll_37 : decode cX3_moveAll 37 = .ok (.ifCond .eq 13, 3) := by decide +kernel
theorem dX3_moveAll_40 : decode cX3_moveAll 40 = .ok (.aload_n 0, 1) := by decide +kernel
theorem dX3_moveAll_41 : decode cX3_moveAll 41 = .ok (.iload_n 2, 1) := by decide +kernel
theorem dX3_moveAll_42 : decode cX3_moveAll 42 = .ok (.iload_n 1, 1) := by decide +kernel
theorem dX3_moveAll_43 : decode cX3_moveAll 43 = .ok (.iload_n 3, 1) := by decide +kernel
theorem dX3_moveAll_44 : decode cX3_moveAll 44 = .ok (.invokevirtual 71, 3) := by decide +kernel
theorem dX3_moveAll_47 : decode cX3_moveAll 47 = .ok (.iinc 1 1, 3) := by decide +kernel
theorem dX3_moveAll_50 : decode cX3_moveAll 50 = .ok (.iinc 2 1, 3) := by decide +kernel
theorem dX3_moveAll_53 : decode cX3_moveAll 53 = .ok (.goto (-49), 3) := by decide +kernel
theorem dX3_moveAll_56 : decode cX3_moveAll 56 = .ok (.aload_n 0, 1) := by decide +kernel
theorem dX3_moveAll_57 : decode cX3_moveAll 57 = .ok (.iload_n 1, 1) := by decide +kernel
theorem dX3_moveAll_58 : decode cX3_moveAll 58 = .ok (.putfield 28, 3) := by decide +kernel
theorem dX3_moveAll_61 : decode cX3_moveAll 61 = .ok (.return_, 1) := by decide +kernel
theorem dX3_forgetTurns_0 : decode cX3_forgetTurns 0 = .ok (.aload_n 0, 1) := by decide +kernel
theorem dX3_forgetTurns_1 : decode cX3_forgetTurns 1 = .ok (.iconst 0, 1) := by decide +kernel
theorem dX3_forgetTurns_2 : decode cX3_forgetTurns 2 = .ok (.putfield 32, 3) := by decide +kernel
theorem dX3_forgetTurns_5 : decode cX3_forgetTurns 5 = .ok (.return_, 1) := by decide +kernel
theorem dX3_addTurn_0 : decode cX3_addTurn 0 = .ok (.iload_n 1, 1) := by decide +kernel
theorem dX3_addTurn_1 : decode cX3_addTurn 1 = .ok (.ifCond .le 38, 3) := by decide +kernel
theorem dX3_addTurn_4 : decode cX3_addTurn 4 = .ok (.aload_n 0, 1) := by decide +kernel
theorem dX3_addTurn_5 : decode cX3_addTurn 5 = .ok (.getfield 32, 3) := by decide +kernel
theorem dX3_addTurn_8 : decode cX3_addTurn 8 = .ok (.ifCond .lt 31, 3) := by decide +kernel
theorem dX3_addTurn_11 : decode cX3_addTurn 11 = .ok (.aload_n 0, 1) := by decide +kernel
theorem dX3_addTurn_12 : decode cX3_addTurn 12 = .ok (.getfield 32, 3) := by decide +kernel
theorem dX3_addTurn_15 : decode cX3_addTurn 15 = .ok (.iconst 4, 1) := by decide +kernel
theorem dX3_addTurn_16 : decode cX3_addTurn 16 = .ok (.if_icmp .ge 23, 3) := by decide +kernel
theorem dX3_addTurn_19 : decode cX3_addTurn 19 = .ok (.aload_n 0, 1) := by decide +kernel
theorem dX3_addTurn_20 : decode cX3_addTurn 20 = .ok (.getfield 25, 3) := by decide +kernel
theorem dX3_addTurn_23 : decode cX3_addTurn 23 = .ok (.aload_n 0, 1) := by decide +kernel
theorem dX3_addTurn_24 : decode cX3_addTurn 24 = .ok (.getfield 32, 3) := by decide +kernel
theorem dX3_addTurn_27 : decode cX3_addTurn 27 = .ok (.iload_n 1, 1) := by decide +kernel
theorem dX3_addTurn_28 : decode cX3_addTurn 28 = .ok (.iastore, 1) := by decide +kernel
theorem dX3_addTurn_29 : decode cX3_addTurn 29 = .ok (.aload_n 0, 1) := by decide +kernel
theorem dX3_addTurn_30 : decode cX3_addTurn 30 = .ok (.dup, 1) := by decide +kernel
theorem dX3_addTurn_31 : decode cX3_addTurn 31 = .ok (.getfield 32, 3) := by decide +kernel
theorem dX3_addTurn_34 : decode cX3_addTurn 34 = .ok (.iconst 1, 1) := by decide +kernel
theorem dX3_addTurn_35 : decode cX3_addTurn 35 = .ok (.iadd, 1) := by decide +kernel
theorem dX3_addTurn_36 : decode cX3_addTurn 36 = .ok (.putfield 32, 3) := by decide +kernel
theorem dX3_addTurn_39 : decode cX3_addTurn 39 = .ok (.return_, 1) := by decide +kernel
theorem dX3_changeBlind_0 : decode cX3_changeBlind 0 = .ok (.aload_n 0, 1) := by decide +kernel
theorem dX3_changeBlind_1 : decode cX3_changeBlind 1 = .ok (.getfield 35, 3) := by decide +kernel
theorem dX3_changeBlind_4 : decode cX3_changeBlind 4 = .ok (.istore_n 2, 1) := by decide +kernel
theorem dX3_changeBlind_5 : decode cX3_changeBlind 5 = .ok (.aload_n 0, 1) := by decide +kernel
theorem dX3_changeBlind_6 : decode cX3_changeBlind 6 = .ok (.iload_n 1, 1) := by decide +kernel
theorem dX3_changeBlind_7 : decode cX3_changeBlind 7 = .ok (.putfield 35, 3) := by decide +kernel
theorem dX3_changeBlind_10 : decode cX3_changeBlind 10 = .ok (.iload_n 2, 1) := by decide +kernel
theorem dX3_changeBlind_11 : decode cX3_changeBlind 11 = .ok (.ireturn, 1) := by decide +kernel
theorem dX3_changeLoud_0 : decode cX3_changeLoud 0 = .ok (.aload_n 0, 1) := by decide +kernel
theorem dX3_changeLoud_1 : decode cX3_changeLoud 1 = .ok (.getfield 38, 3) := by decide +kernel
theorem dX3_changeLoud_4 : decode cX3_changeLoud 4 = .ok (.istore_n 2, 1) := by decide +kernel
theorem dX3_changeLoud_5 : decode cX3_changeLoud 5 = .ok (.aload_n 0, 1) := by decide +kernel
theorem dX3_changeLoud_6 : decode cX3_changeLoud 6 = .ok (.iload_n 1, 1) := by decide +kernel
theorem dX3_changeLoud_7 : decode cX3_changeLoud 7 = .ok (.putfield 38, 3) := by decide +kernel
theorem dX3_changeLoud_10 : decode cX3_changeLoud 10 = .ok (.iload_n 2, 1) := by decide +kernel
theorem dX3_changeLoud_11 : decode cX3_changeLoud 11 = .ok (.ireturn, 1) := by decide +kernel
