theorem dX0_listen_0 : decode cX0_listen 0 = .ok (.aload_n 0, 1) := by decide +kernel
theorem dX0_listen_1 : decode cX0_listen 1 = .ok (.iconst 0, 1) := by decide +kernel
theorem dX0_listen_2 : decode cX0_listen 2 = .ok (.putfield 40, 3) := by decide +kernel
theorem dX0_listen_5 : decode cX0_listen 5 = .ok (.aload_n 0, 1) := by decide +kernel
theorem dX0_listen_6 : decode cX0_listen 6 = .ok (.iconst 0, 1) := by decide +kernel
theorem dX0_listen_7 : decode cX0_listen 7 = .ok (.putfield 44, 3) := by decide +kernel
theorem dX0_listen_10 : decode cX0_listen 10 = .ok (.aload_n 0, 1) := by decide +kernel
theorem dX0_listen_11 : decode cX0_listen 11 = .ok (.aload_n 1, 1) := by decide +kernel
theorem dX0_listen_12 : decode cX0_listen 12 = .ok (.invokevirtual 47, 3) := by decide +kernel
theorem dX0_listen_15 : decode cX0_listen 15 = .ok (.putfield 53, 3) := by decide +kernel
theorem dX0_listen_18 : decode cX0_listen 18 = .ok (.aload_n 0, 1) := by decide +kernel
theorem dX0_listen_19 : decode cX0_listen 19 = .ok (.aload_n 1, 1) := by decide +kernel
theorem dX0_listen_20 : decode cX0_listen 20 = .ok (.invokevirtual 56, 3) := by decide +kernel
theorem dX0_listen_23 : decode cX0_listen 23 = .ok (.putfield 59, 3) := by decide +kernel
theorem dX0_listen_26 : decode cX0_listen 26 = .ok (.aload_n 0, 1) := by decide +kernel
theorem dX0_listen_27 : decode cX0_listen 27 = .ok (.aload_n 1, 1) := by decide +kernel
theorem dX0_listen_28 : decode cX0_listen 28 = .ok (.invokevirtual 62, 3) := by decide +kernel
theorem dX0_listen_31 : decode cX0_listen 31 = .ok (.aload_n 0, 1) := by decide +kernel
theorem dX0_listen_32 : decode cX0_listen 32 = .ok (.aload_n 0, 1) := by decide +kernel
theorem dX0_listen_33 : decode cX0_listen 33 = .ok (.getfield 40, 3) := by decide +kernel
theorem dX0_listen_36 : decode cX0_listen 36 = .ok (.putfield 66, 3) := by decide +kernel
theorem dX0_listen_39 : decode cX0_listen 39 = .ok (.aload_n 0, 1) := by decide +kernel
theorem dX0_listen_40 : decode cX0_listen 40 = .ok (.aload_n 1, 1) := by decide +kernel
theorem dX0_listen_41 : decode cX0_listen 41 = .ok (.invokevirtual 69, 3) := by decide +kernel
theorem dX0_listen_44 : decode cX0_listen 44 = .ok (.aload_n 0, 1) := by decide +kernel
theorem dX0_listen_45 : decode cX0_listen 45 = .ok (.invokevirtual 72, 3) := by decide +kernel
theorem dX0_listen_48 : decode cX0_listen 48 = .ok (.iconst 0, 1) := by decide +kernel
theorem dX0_listen_49 : decode cX0_listen 49 = .ok (.istore_n 2, 1) := by decide +kernel
theorem dX0_listen_50 : decode cX0_listen 50 = .ok (.iload_n 2, 1) := by decide +kernel
theorem dX0_listen_51 : decode cX0_listen 51 = .ok (.aload_n 1, 1) := by decide +kernel
theorem dX0_listen_52 : decode cX0_listen 52 = .ok (.invokevirtual 75, 3) := by decide +kernel
theorem dX0_listen_55 : decode cX0_listen 55 = .ok (.if_icmp .ge 19, 3) := by decide +kernel
theorem dX0_listen_58 : decode cX0_listen 58 = .ok (.aload_n 0, 1) := by decide +kernel
theorem dX0_listen_59 : decode cX0_listen 59 = .ok (.iload_n 2, 1) := by decide +kernel
theorem dX0_listen_60 : decode cX0_listen 60 = .ok (.aload_n 1, 1) := by decide +kernel
theorem dX0_listen_61 : decode cX0_listen 61 = .ok (.iload_n 2, 1) := by decide +kernel
theorem dX0_listen_62 : decode cX0_listen 62 = .ok (.invokevirtual 78, 3) := by decide +kernel
theorem dX0_listen_65 : decode cX0_listen 65 = .ok (.invokevirtual 82, 3) := by decide +kernel
theorem dX0_listen_68 : decode cX0_listen 68 = .ok (.iinc 2 1, 3) := by decide +kernel
theorem dX0_listen_71 : decode cX0_listen 71 = .ok (.goto (-21), 3) := by decide +kernel
theorem dX0_listen_74 : decode cX0_listen 74 = .ok (.aload_n 0, 1) := by decide +kernel
theorem dX0_listen_75 : decode cX0_listen 75 = .ok (.aload_n 1, 1) := by decide +kernel
theorem dX0_listen_76 : decode cX0_listen 76 = .ok (.invokevirtual 75, 3) := by decide +kernel
theorem dX0_listen_79 : decode cX0_listen 79 = .ok (.putfield 44, 3) := by decide +kernel
theorem dX0_listen_82 : decode cX0_listen 82 = .ok (.return_, 1) := by decide +kernel
theorem dX0_takeTargets_0 : decode cX0_takeTargets 0 = .ok (.iconst 0, 1) := by decide +kernel
theorem dX0_takeTargets_1 : decode cX0_takeTargets 1 = .ok (.istore_n 2, 1) := by decide +kernel
theorem dX0_takeTargets_2 : decode cX0_takeTargets 2 = .ok (.iload_n 2, 1) := by decide +kernel
theorem dX0_takeTargets_3 : decode cX0_takeTargets 3 = .ok (.aload_n 1, 1) := by decide +kernel
theorem dX0_takeTargets_4 : decode cX0_takeTargets 4 = .ok (.invokevirtual 86, 3) := by decide +kernel
theorem dX0_takeTargets_7 : decode cX0_takeTargets 7 = .ok (.if_icmp .ge 30, 3) := by decide +kernel
theorem dX0_takeTargets_10 : decode cX0_takeTargets 10 = .ok (.aload_n 0, 1) := by decide +kernel
theorem dX0_takeTargets_11 : decode cX0_takeTargets 11 = .ok (.aload_n 1, 1) := by decide +kernel
theorem dX0_takeTargets_12 : decode cX0_takeTargets 12 = .ok (.iload_n 2, 1) := by decide +kernel
theorem dX0_takeTargets_13 : decode cX0_takeTargets 13 = .ok (.invokevirtual 89, 3) := by decide +kernel
theorem dX0_takeTargets_16 : decode cX0_takeTargets 16 = .ok (.aload_n 1, 1) := by decide +kernel
theorem dX0_takeTargets_17 : decode cX0_takeTargets 17 = .ok (.iload_n 2, 1) := by decide +kernel
theorem dX0_takeTargets_18 : decode cX0_takeTargets 18 = .ok (.invokevirtual 92, 3) := by decide +kernel
theorem dX0_takeTargets_21 : decode cX0_takeTargets 21 = .ok (.aload_n 1, 1) := by decide +kernel
theorem dX0_takeTargets_22 : decode cX0_takeTargets 22 = .ok (.iload_n 2, 1) := by decide +kernel
theorem dX0_takeTargets_23 : decode cX0_takeTargets 23 = .ok (.invokevirtual 95, 3) := by decide +kernel
theorem dX0_takeTargets_26 : decode cX0_takeTargets 26 = .ok (.iload_n 2, 1) := by decide +kernel
theorem dX0_takeTargets_27 : decode cX0_takeTargets 27 = .ok (.iload_n 2, 1) := by decide +kernel
theorem dX0_takeTargets_28 : decode cX0_takeTargets 28 = .ok (.invokevirtual 98, 3) := by decide +kernel
theorem dX0_takeTargets_31 : decode cX0_takeTargets 31 = .ok (.iinc 2 1, 3) := by decide +kernel
theorem dX0_takeTargets_34 : decode cX0_takeTargets 34 = .ok (.goto (-32), 3) := by decide +kernel
theorem dX0_takeTargets_37 : decode cX0_takeTargets 37 = .ok (.return_, 1) := by decide +kernel
theorem dX0_takeGhosts_0 : decode cX0_takeGhosts 0 = .ok (.iconst 0, 1) := by decide +kernel
theorem dX0_takeGhosts_1 : decode cX0_takeGhosts 1 = .ok (.istore_n 2, 1) := by decide +kernel
theorem dX0_takeGhosts_2 : decode cX0_takeGhosts 2 = .ok (.iload_n 2, 1) := by decide +kernel
theorem dX0_takeGhosts_3 : decode cX0_takeGhosts 3 = .ok (.aload_n 1, 1) := by decide +kernel
theorem dX0_takeGhosts_4 : decode cX0_takeGhosts 4 = .ok (.invokevirtual 86, 3) := by decide +kernel
theorem dX0_takeGhosts_7 : decode cX0_takeGhosts 7 = .ok (.if_icmp .ge 50, 3) := by decide +kernel
theorem dX0_takeGhosts_10 : decode cX0_takeGhosts 10 = .ok (.iload_n 2, 1) := by decide +kernel
theorem dX0_takeGhosts_11 : decode cX0_takeGhosts 11 = .ok (.iconst 1, 1) := by decide +kernel
theorem dX0_takeGhosts_12 : decode cX0_takeGhosts 12 = .ok (.iadd, 1) := by decide +kernel
theorem dX0_takeGhosts_13 : decode cX0_takeGhosts 13 = .ok (.istore_n 3, 1) := by decide +kernel
theorem dX0_takeGhosts_14 : decode cX0_takeGhosts 14 = .ok (.iload_n 3, 1) := by decide +kernel
theorem dX0_takeGhosts_15 : decode cX0_takeGhosts 15 = .ok (.aload_n 1, 1) := by decide +kernel
theorem dX0_takeGhosts_16 : decode cX0_takeGhosts 16 = .ok (.invokevirtual 86, 3) := by decide +kernel
theorem dX0_takeGhosts_19 : decode cX0_takeGhosts 19 = .ok (.if_icmp .ge 32, 3) := by decide +kernel
theorem dX0_takeGhosts_22 : decode cX0_takeGhosts 22 = .ok (.aload_n 1, 1) := by decide +kernel
theorem dX0_takeGhosts_23 : decode cX0_takeGhosts 23 = .ok (.iload_n 2, 1) := by decide +kernel
theorem dX0_takeGhosts_24 : decode cX0_takeGhosts 24 = .ok (.invokevirtual 102, 3) := by decide +kernel
theorem dX0_takeGhosts_27 : decode cX0_takeGhosts 27 = .ok (.ifCond .eq 18, 3) := by decide +kernel
theorem dX0_takeGhosts_30 : decode cX0_takeGhosts 30 = .ok (.aload_n 1, 1) := by decide +kernel
theorem dX0_takeGhosts_31 : decode cX0_takeGhosts 31 = .ok (.iload_n 3, 1) := by decide +kernel
theorem dX0_takeGhosts_32 : decode cX0_takeGhosts 32 = .ok (.invokevirtual 102, 3) := by decide +kernel
theorem dX0_takeGhosts_35 : decode cX0_takeGhosts 35 = .ok (.ifCond .eq 10, 3) := by decide +kernel
theorem dX0_takeGhosts_38 : decode cX0_takeGhosts 38 = .ok (.aload_n 0, 1) := by decide +kernel
theorem dX0_takeGhosts_39 : decode cX0_takeGhosts 39 = .ok (.aload_n 1, 1) := by decide +kernel
theorem dX0_takeGhosts_40 : decode cX0_takeGhosts 40 = .ok (.iload_n 2, 1) := by decide +kernel
theorem dX0_takeGhosts_41 : decode cX0_takeGhosts 41 = .ok (.iload_n 3, 1) := by decide +kernel
theorem dX0_takeGhosts_42 : decode cX0_takeGhosts 42 = .ok (.invokevirtual 106, 3) := by decide +kernel
theorem dX0_takeGhosts_45 : decode cX0_takeGhosts 45 = .ok (.iinc 3 1, 3) := by decide +kernel
theorem dX0_takeGhosts_48 : decode cX0_takeGhosts 48 = .ok (.goto (-34), 3) := by decide +kernel
theorem dX0_takeGhosts_51 : decode cX0_takeGhosts 51 = .ok (.iinc 2 1, 3) := by decide +kernel
theorem dX0_takeGhosts_54 : decode cX0_takeGhosts 54 = .ok (.goto (-52), 3) := by decide +kernel
theorem dX0_takeGhosts_57 : decode cX0_takeGhosts 57 = .ok (.return_, 1) := by decide +kernel
theorem dX0_takeGhost_0 : decode cX0_takeGhost 0 = .ok (.aload_n 1, 1) := by decide +kernel
theorem dX0_takeGhost_1 : decode cX0_takeGhost 1 = .ok (.iload_n 2, 1) := by decide +kernel
theorem dX0_takeGhost_2 : decode cX0_takeGhost 2 = .ok (.invokevirtual 89, 3) := by decide +kernel
theorem dX0_takeGhost_5 : decode cX0_takeGhost 5 = .ok (.aload_n 1, 1) := by decide +kernel
theorem dX0_takeGhost_6 : decode cX0_takeGhost 6 = .ok (.iload_n 3, 1) := by decide +kernel
theorem dX0_takeGhost_7 : decode cX0_takeGhost 7 = .ok (.invokevirtual 89, 3) := by decide +kernel
theorem dX0_takeGhost_10 : decode cX0_takeGhost 10 = .ok (.invokestatic 110, 3) := by decide +kernel
theorem dX0_takeGhost_13 : decode cX0_takeGhost 13 = .ok (.istore 4, 2) := by decide +kernel
theorem dX0_takeGhost_15 : decode cX0_takeGhost 15 = .ok (.aload_n 1, 1) := by decide +kernel
theorem dX0_takeGhost_16 : decode cX0_takeGhost 16 = .ok (.iload_n 2, 1) := by decide +kernel
theorem dX0_takeGhost_17 : decode cX0_takeGhost 17 = .ok (.invokevirtual 89, 3) := by decide +kernel
theorem dX0_takeGhost_20 : decode cX0_takeGhost 20 = .ok (.aload_n 1, 1) := by decide +kernel
theorem dX0_takeGhost_21 : decode cX0_takeGhost 21 = .ok (.iload_n 3, 1) := by decide +kernel
theorem dX0_takeGhost_22 : decode cX0_takeGhost 22 = .ok (.invokevirtual 89, 3) := by decide +kernel
theorem dX0_takeGhost_25 : decode cX0_takeGhost 25 = .ok (.invokestatic 116, 3) := by decide +kernel
theorem dX0_takeGhost_28 : decode cX0_takeGhost 28 = .ok (.istore 5, 2) := by decide +kernel
theorem dX0_takeGhost_30 : decode cX0_takeGhost 30 = .ok (.aload_n 1, 1) := by decide +kernel
theorem dX0_takeGhost_31 : decode cX0_takeGhost 31 = .ok (.iload_n 2, 1) := by decide +kernel
theorem dX0_takeGhost_32 : decode cX0_takeGhost 32 = .ok (.invokevirtual 92, 3) := by decide +kernel
theorem dX0_takeGhost_35 : decode cX0_takeGhost 35 = .ok (.aload_n 1, 1) := by decide +kernel
theorem dX0_takeGhost_36 : decode cX0_takeGhost 36 = .ok (.iload_n 3, 1) := by decide +kernel
theorem dX0_takeGhost_37 : decode cX0_takeGhost 37 = .ok (.invokevirtual 92, 3) := by decide +kernel
theorem dX0_takeGhost_40 : decode cX0_takeGhost 40 = .ok (.imul, 1) := by decide +kernel
theorem dX0_takeGhost_41 : decode cX0_takeGhost 41 = .ok (.sipush 200, 3) := by decide +kernel
theorem dX0_takeGhost_44 : decode cX0_takeGhost 44 = .ok (.idiv, 1) := by decide +kernel
theorem dX0_takeGhost_45 : decode cX0_takeGhost 45 = .ok (.istore 6, 2) := by decide +kernel
theorem dX0_takeGhost_47 : decode cX0_takeGhost 47 = .ok (.iload 6, 2) := by decide +kernel
theorem dX0_takeGhost_49 : decode cX0_takeGhost 49 = .ok (.ifCond .le 19, 3) := by decide +kernel
theorem dX0_takeGhost_52 : decode cX0_takeGhost 52 = .ok (.aload_n 0, 1) := by decide +kernel
theorem dX0_takeGhost_53 : decode cX0_takeGhost 53 = .ok (.iconst 2, 1) := by decide +kernel
theorem dX0_takeGhost_54 : decode cX0_takeGhost 54 = .ok (.iload 5, 2) := by decide +kernel
theorem dX0_takeGhost_56 : decode cX0_takeGhost 56 = .ok (.imul, 1) := by decide +kernel
theorem dX0_takeGhost_57 : decode cX0_takeGhost 57 = .ok (.iload 4, 2) := by decide +kernel
theorem dX0_takeGhost_59 : decode cX0_takeGhost 59 = .ok (.isub, 1) := by decide +kernel
theorem dX0_takeGhost_60 : decode cX0_takeGhost 60 = .ok (.iload 6, 2) := by decide +kernel
theorem dX0_takeGhost_62 : decode cX0_takeGhost 62 = .ok (.iconst 0, 1) := by decide +kernel
theorem dX0_takeGhost_63 : decode cX0_takeGhost 63 = .ok (.iload_n 2, 1) := by decide +kernel
theorem dX0_takeGhost_64 : decode cX0_takeGhost 64 = .ok (.iload_n 3, 1) := by decide +kernel
theorem dX0_takeGhost_65 : decode cX0_takeGhost 65 = .ok (.invokevirtual 98, 3) := by decide +kernel
theorem dX0_takeGhost_68 : decode cX0_takeGhost 68 = .ok (.return_, 1) := by decide +kernel
theorem dX0_take_0 : decode cX0_take 0 = .ok (.aload_n 0, 1) := by decide +kernel
theorem dX0_take_1 : decode cX0_take 1 = .ok (.getfield 40, 3) := by decide +kernel
theorem dX0_take_4 : decode cX0_take 4 = .ok (.ifCond .lt 74, 3) := by decide +kernel
theorem dX0_take_7 : decode cX0_take 7 = .ok (.aload_n 0, 1) := by decide +kernel
theorem dX0_take_8 : decode cX0_take 8 = .ok (.getfield 40, 3) := by decide +kernel
theorem dX0_take_11 : decode cX0_take 11 = .ok (.bipush 21, 2) := by decide +kernel
theorem dX0_take_13 : decode cX0_take 13 = .ok (.if_icmp .ge 65, 3) := by decide +kernel
theorem dX0_take_16 : decode cX0_take 16 = .ok (.aload_n 0, 1) := by decide +kernel
theorem dX0_take_17 : decode cX0_take 17 = .ok (.getfield 11, 3) := by decide +kernel
theorem dX0_take_20 : decode cX0_take 20 = .ok (.aload_n 0, 1) := by decide +kernel
theorem dX0_take_21 : decode cX0_take 21 = .ok (.getfield 40, 3) := by decide +kernel
theorem dX0_take_24 : decode cX0_take 24 = .ok (.iload_n 1, 1) := by decide +kernel
theorem dX0_take_25 : decode cX0_take 25 = .ok (.iastore, 1) := by decide +kernel
theorem dX0_take_26 : decode cX0_take 26 = .ok (.aload_n 0, 1) := by decide +kernel
theorem dX0_take_27 : decode cX0_take 27 = .ok (.getfield 15, 3) := by decide +kernel
theorem dX0_take_30 : decode cX0_take 30 = .ok (.aload_n 0, 1) := by decide +kernel
theorem dX0_take_31 : decode cX0_take 31 = .ok (.getfield 40, 3) := by decide +kernel
theorem dX0_take_34 : decode cX0_take 34 = .ok (.iload_n 2, 1) := by decide +kernel
theorem dX0_take_35 : decode cX0_take 35 = .ok (.iastore, 1) := by decide +kernel
theorem dX0_take_36 : decode cX0_take 36 = .ok (.aload_n 0, 1) := by decide +kernel
theorem dX0_take_37 : decode cX0_take 37 = .ok (.getfield 18, 3) := by decide +kernel
theorem dX0_take_40 : decode cX0_take 40 = .ok (.aload_n 0, 1) := by decide +kernel
theorem dX0_take_41 : decode cX0_take 41 = .ok (.getfield 40, 3) := by decide +kernel
theorem dX0_take_44 : decode cX0_take 44 = .ok (.iload_n 3, 1) := by decide +kernel
theorem dX0_take_45 : decode cX0_take 45 = .ok (.iastore, 1) := by decide +kernel
theorem dX0_take_46 : decode cX0_take 46 = .ok (.aload_n 0, 1) := by decide +kernel
theorem dX0_take_47 : decode cX0_take 47 = .ok (.getfield 21, 3) := by decide +kernel
theorem dX0_take_50 : decode cX0_take 50 = .ok (.aload_n 0, 1) := by decide +kernel
theorem dX0_take_51 : decode cX0_take 51 = .ok (.getfield 40, 3) := by decide +kernel
theorem dX0_take_54 : decode cX0_take 54 = .ok (.iload 4, 2) := by decide +kernel
theorem dX0_take_56 : decode cX0_take 56 = .ok (.iastore, 1) := by decide +kernel
theorem dX0_take_57 : decode cX0_take 57 = .ok (.aload_n 0, 1) := by decide +kernel
theorem dX0_take_58 : decode cX0_take 58 = .ok (.getfield 24, 3) := by decide +kernel
theorem dX0_take_61 : decode cX0_take 61 = .ok (.aload_n 0, 1) := by decide +kernel
theorem dX0_take_62 : decode cX0_take 62 = .ok (.getfield 40, 3) := by decide +kernel
theorem dX0_take_65 : decode cX0_take 65 = .ok (.iload 5, 2) := by decide +kernel
theorem dX0_take_67 : decode cX0_take 67 = .ok (.iastore, 1) := by decide +kernel
theorem dX0_take_68 : decode cX0_take 68 = .ok (.aload_n 0, 1) := by decide +kernel
theorem dX0_take_69 : decode cX0_take 69 = .ok (.dup, 1) := by decide +kernel
theorem dX0_take_70 : decode cX0_take 70 = .ok (.getfield 40, 3) := by decide +kernel
theorem dX0_take_73 : decode cX0_take 73 = .ok (.iconst 1, 1) := by decide +kernel
theorem dX0_take_74 : decode cX0_take 74 = .ok (.iadd, 1) := by decide +kernel
theorem dX0_take_75 : decode cX0_take 75 = .ok (.putfield 40, 3) := by decide +kernel
theorem dX0_take_78 : decode cX0_take 78 = .ok (.return_, 1) := by decide +kernel
theorem dX0_takePitches_0 : decode cX0_takePitches 0 = .ok (.aload_n 0, 1) := by decide +kernel
theorem dX0_takePitches_1 : decode cX0_takePitches 1 = .ok (.iconst 0, 1) := by decide +kernel
theorem dX0_takePitches_2 : decode cX0_takePitches 2 = .ok (.putfield 119, 3) := by decide +kernel
theorem dX0_takePitches_5 : decode cX0_takePitches 5 = .ok (.bipush (-5), 2) := by decide +kernel
theorem dX0_takePitches_7 : decode cX0_takePitches 7 = .ok (.istore_n 1, 1) := by decide +kernel
theorem dX0_takePitches_8 : decode cX0_takePitches 8 = .ok (.iload_n 1, 1) := by decide +kernel
theorem dX0_takePitches_9 : decode cX0_takePitches 9 = .ok (.iconst 5, 1) := by decide +kernel
theorem dX0_takePitches_10 : decode cX0_takePitches 10 = .ok (.if_icmp .gt 56, 3) := by decide +kernel
theorem dX0_takePitches_13 : decode cX0_takePitches 13 = .ok (.aload_n 0, 1) := by decide +kernel
theorem dX0_takePitches_14 : decode cX0_takePitches 14 = .ok (.iload_n 1, 1) := by decide +kernel
theorem dX0_takePitches_15 : decode cX0_takePitches 15 = .ok (.invokevirtual 122, 3) := by decide +kernel
theorem dX0_takePitches_18 : decode cX0_takePitches 18 = .ok (.ifCond .eq 42, 3) := by decide +kernel
theorem dX0_takePitches_21 : decode cX0_takePitches 21 = .ok (.aload_n 0, 1) := by decide +kernel
theorem dX0_takePitches_22 : decode cX0_takePitches 22 = .ok (.getfield 119, 3) := by decide +kernel
theorem dX0_takePitches_25 : decode cX0_takePitches 25 = .ok (.ifCond .lt 35, 3) := by decide +kernel
theorem dX0_takePitches_28 : decode cX0_takePitches 28 = .ok (.aload_n 0, 1) := by decide +kernel
theorem dX0_takePitches_29 : decode cX0_takePitches 29 = .ok (.getfield 119, 3) := by decide +kernel
theorem dX0_takePitches_32 : decode cX0_takePitches 32 = .ok (.aload_n 0, 1) := by decide +kernel
theorem dX0_takePitches_33 : decode cX0_takePitches 33 = .ok (.getfield 34, 3) := by decide +kernel
theorem dX0_takePitches_36 : decode cX0_takePitches 36 = .ok (.arraylength, 1) := by decide +kernel
theorem dX0_takePitches_37 : decode cX0_takePitches 37 = .ok (.if_icmp .ge 23, 3) := by decide +kernel
theorem dX0_takePitches_40 : decode cX0_takePitches 40 = .ok (.aload_n 0, 1) := by decide +kernel
theorem dX0_takePitches_41 : decode cX0_takePitches 41 = .ok (.getfield 34, 3) := by decide +kernel
theorem dX0_takePitches_44 : decode cX0_takePitches 44 = .ok (.aload_n 0, 1) := by decide +kernel
theorem dX0_takePitches_45 : decode cX0_takePitches 45 = .ok (.getfield 119, 3) := by decide +kernel
theorem dX0_takePitches_48 : decode cX0_takePitches 48 = .ok (.iload_n 1, 1) := by decide +kernel
theorem dX0_takePitches_49 : decode cX0_takePitches 49 = .ok (.iastore, 1) := by decide +kernel
theorem dX0_takePitches_50 : decode cX0_takePitches 50 = .ok (.aload_n 0, 1) := by decide +kernel
theorem dX0_takePitches_51 : decode cX0_takePitches 51 = .ok (.dup, 1) := by decide +kernel
theorem dX0_takePitches_52 : decode cX0_takePitches 52 = .ok (.getfield 119, 3) := by decide +kernel
theorem dX0_takePitches_55 : decode cX0_takePitches 55 = .ok (.iconst 1, 1) := by decide +kernel
theorem dX0_takePitches_56 : decode cX0_takePitches 56 = .ok (.iadd, 1) := by decide +kernel
theorem dX0_takePitches_57 : decode cX0_takePitches 57 = .ok (.putfield 119, 3) := by decide +kernel
theorem dX0_takePitches_60 : decode cX0_takePitches 60 = .ok (.iinc 1 1, 3) := by decide +kernel
theorem dX0_takePitches_63 : decode cX0_takePitches 63 = .ok (.goto (-55), 3) := by decide +kernel
theorem dX0_takePitches_66 : decode cX0_takePitches 66 = .ok (.return_, 1) := by decide +kernel
theorem dX0_sounds_0 : decode cX0_sounds 0 = .ok (.iconst 0, 1) := by decide +kernel
theorem dX0_sounds_1 : decode cX0_sounds 1 = .ok (.istore_n 2, 1) := by decide +kernel
theorem dX0_sounds_2 : decode cX0_sounds 2 = .ok (.iload_n 2, 1) := by decide +kernel
theorem dX0_sounds_3 : decode cX0_sounds 3 = .ok (.aload_n 0, 1) := by decide +kernel
theorem dX0_sounds_4 : decode cX0_sounds 4 = .ok (.getfield 40, 3) := by decide +kernel
theorem dX0_sounds_7 : decode cX0_sounds 7 = .ok (.if_icmp .ge 28, 3) := by decide +kernel
theorem dX0_sounds_10 : decode cX0_sounds 10 = .ok (.aload_n 0, 1) := by decide +kernel
theorem dX0_sounds_11 : decode cX0_sounds 11 = .ok (.iload_n 2, 1) := by decide +kernel
theorem dX0_sounds_12 : decode cX0_sounds 12 = .ok (.invokevirtual 125, 3) := by decide +kernel
theorem dX0_sounds_15 : decode cX0_sounds 15 = .ok (.iload_n 1, 1) := by decide +kernel
theorem dX0_sounds_16 : decode cX0_sounds 16 = .ok (.if_icmp .ne 13, 3) := by decide +kernel
theorem dX0_sounds_19 : decode cX0_sounds 19 = .ok (.aload_n 0, 1) := by decide +kernel
theorem dX0_sounds_20 : decode cX0_sounds 20 = .ok (.iload_n 2, 1) := by decide +kernel
theorem dX0_sounds_21 : decode cX0_sounds 21 = .ok (.invokevirtual 126, 3) := by decide +kernel
theorem dX0_sounds_24 : decode cX0_sounds 24 = .ok (.ifCond .ne 5, 3) := by decide +kernel
theorem dX0_sounds_27 : decode cX0_sounds 27 = .ok (.iconst 1, 1) := by decide +kernel
theorem dX0_sounds_28 : decode cX0_sounds 28 = .ok (.ireturn, 1) := by decide +kernel
theorem dX0_sounds_29 : decode cX0_sounds 29 = .ok (.iinc 2 1, 3) := by decide +kernel
theorem dX0_sounds_32 : decode cX0_sounds 32 = .ok (.goto (-30), 3) := by decide +kernel
theorem dX0_sounds_35 : decode cX0_sounds 35 = .ok (.iconst 0, 1) := by decide +kernel
theorem dX0_sounds_36 : decode cX0_sounds 36 = .ok (.ireturn, 1) := by decide +kernel
theorem dX0_hearTurn_0 : decode cX0_hearTurn 0 = .ok (.iload_n 1, 1) := by decide +kernel
theorem dX0_hearTurn_1 : decode cX0_hearTurn 1 = .ok (.ifCond .lt 8, 3) := by decide +kernel
theorem dX0_hearTurn_4 : decode cX0_hearTurn 4 = .ok (.iload_n 1, 1) := by decide +kernel
theorem dX0_hearTurn_5 : decode cX0_hearTurn 5 = .ok (.iconst 4, 1) := by decide +kernel
theorem dX0_hearTurn_6 : decode cX0_hearTurn 6 = .ok (.if_icmp .lt 4, 3) := by decide +kernel
theorem dX0_hearTurn_9 : decode cX0_hearTurn 9 = .ok (.return_, 1) := by decide +kernel
theorem dX0_hearTurn_10 : decode cX0_hearTurn 10 = .ok (.aload_n 0, 1) := by decide +kernel
theorem dX0_hearTurn_11 : decode cX0_hearTurn 11 = .ok (.getfield 27, 3) := by decide +kernel
theorem dX0_hearTurn_14 : decode cX0_hearTurn 14 = .ok (.iload_n 1, 1) := by decide +kernel
theorem dX0_hearTurn_15 : decode cX0_hearTurn 15 = .ok (.iload_n 2, 1) := by decide +kernel
theorem dX0_hearTurn_16 : decode cX0_hearTurn 16 = .ok (.iastore, 1) := by decide +kernel
theorem dX0_hearTurn_17 : decode cX0_hearTurn 17 = .ok (.iconst 0, 1) := by decide +kernel
theorem dX0_hearTurn_18 : decode cX0_hearTurn 18 = .ok (.istore_n 3, 1) := by decide +kernel
theorem dX0_hearTurn_19 : decode cX0_hearTurn 19 = .ok (.iload_n 3, 1) := by decide +kernel
theorem dX0_hearTurn_20 : decode cX0_hearTurn 20 = .ok (.bipush 11, 2) := by decide +kernel
theorem dX0_hearTurn_22 : decode cX0_hearTurn 22 = .ok (.if_icmp .ge 21, 3) := by decide +kernel
theorem dX0_hearTurn_25 : decode cX0_hearTurn 25 = .ok (.aload_n 0, 1) := by decide +kernel
theorem dX0_hearTurn_26 : decode cX0_hearTurn 26 = .ok (.getfield 30, 3) := by decide +kernel
theorem dX0_hearTurn_29 : decode cX0_hearTurn 29 = .ok (.iload_n 1, 1) := by decide +kernel
theorem dX0_hearTurn_30 : decode cX0_hearTurn 30 = .ok (.bipush 11, 2) := by decide +kernel
theorem dX0_hearTurn_32 : decode cX0_hearTurn 32 = .ok (.imul, 1) := by decide +kernel
theorem dX0_hearTurn_33 : decode cX0_hearTurn 33 = .ok (.iload_n 3, 1) := by decide +kernel
theorem dX0_hearTurn_34 : decode cX0_hearTurn 34 = .ok (.iadd, 1) := by decide +kernel
theorem dX0_hearTurn_35 : decode cX0_hearTurn 35 = .ok (.lconst 0, 1) := by decide +kernel
theorem dX0_hearTurn_36 : decode cX0_hearTurn 36 = .ok (.lastore, 1) := by decide +kernel
theorem dX0_hearTurn_37 : decode cX0_hearTurn 37 = .ok (.iinc 3 1, 3) := by decide +kernel
theorem dX0_hearTurn_40 : decode cX0_hearTurn 40 = .ok (.goto (-21), 3) := by decide +kernel
theorem dX0_hearTurn_43 : decode cX0_hearTurn 43 = .ok (.iconst 0, 1) := by decide +kernel
theorem dX0_hearTurn_44 : decode cX0_hearTurn 44 = .ok (.istore_n 3, 1) := by decide +kernel
theorem dX0_hearTurn_45 : decode cX0_hearTurn 45 = .ok (.iload_n 3, 1) := by decide +kernel
theorem dX0_hearTurn_46 : decode cX0_hearTurn 46 = .ok (.aload_n 0, 1) := by decide +kernel
theorem dX0_hearTurn_47 : decode cX0_hearTurn 47 = .ok (.getfield 40, 3) := by decide +kernel
theorem dX0_hearTurn_50 : decode cX0_hearTurn 50 = .ok (.if_icmp .ge 83, 3) := by decide +kernel
theorem dX0_hearTurn_53 : decode cX0_hearTurn 53 = .ok (.aload_n 0, 1) := by decide +kernel
theorem dX0_hearTurn_54 : decode cX0_hearTurn 54 = .ok (.aload_n 0, 1) := by decide +kernel
theorem dX0_hearTurn_55 : decode cX0_hearTurn 55 = .ok (.iload_n 3, 1) := by decide +kernel
theorem dX0_hearTurn_56 : decode cX0_hearTurn 56 = .ok (.invokevirtual 129, 3) := by decide +kernel
theorem dX0_hearTurn_59 : decode cX0_hearTurn 59 = .ok (.aload_n 0, 1) := by decide +kernel
theorem dX0_hearTurn_60 : decode cX0_hearTurn 60 = .ok (.iload_n 3, 1) := by decide +kernel
theorem dX0_hearTurn_61 : decode cX0_hearTurn 61 = .ok (.invokevirtual 125, 3) := by decide +kernel
theorem dX0_hearTurn_64 : decode cX0_hearTurn 64 = .ok (.iload_n 1, 1) := by decide +kernel
theorem dX0_hearTurn_65 : decode cX0_hearTurn 65 = .ok (.invokevirtual 130, 3) := by decide +kernel
theorem dX0_hearTurn_68 : decode cX0_hearTurn 68 = .ok (.istore 4, 2) := by decide +kernel
theorem dX0_hearTurn_70 : decode cX0_hearTurn 70 = .ok (.iload_n 1, 1) := by decide +kernel
theorem dX0_hearTurn_71 : decode cX0_hearTurn 71 = .ok (.aload_n 0, 1) := by decide +kernel
theorem dX0_hearTurn_72 : decode cX0_hearTurn 72 = .ok (.iload_n 3, 1) := by decide +kernel
theorem dX0_hearTurn_73 : decode cX0_hearTurn 73 = .ok (.invokevirtual 125, 3) := by decide +kernel
theorem dX0_hearTurn_76 : decode cX0_hearTurn 76 = .ok (.invokestatic 134, 3) := by decide +kernel
theorem dX0_hearTurn_79 : decode cX0_hearTurn 79 = .ok (.istore 5, 2) := by decide +kernel
theorem dX0_hearTurn_81 : decode cX0_hearTurn 81 = .ok (.aload_n 0, 1) := by decide +kernel
theorem dX0_hearTurn_82 : decode cX0_hearTurn 82 = .ok (.iload_n 3, 1) := by decide +kernel
theorem dX0_hearTurn_83 : decode cX0_hearTurn 83 = .ok (.invokevirtual 126, 3) := by decide +kernel
theorem dX0_hearTurn_86 : decode cX0_hearTurn 86 = .ok (.ifCond .ne 41, 3) := by decide +kernel
theorem dX0_hearTurn_89 : decode cX0_hearTurn 89 = .ok (.iload 4, 2) := by decide +kernel
theorem dX0_hearTurn_91 : decode cX0_hearTurn 91 = .ok (.aload_n 0, 1) := by decide +kernel
theorem dX0_hearTurn_92 : decode cX0_hearTurn 92 = .ok (.getfield 53, 3) := by decide +kernel
theorem dX0_hearTurn_95 : decode cX0_hearTurn 95 = .ok (.if_icmp .lt 32, 3) := by decide +kernel
theorem dX0_hearTurn_98 : decode cX0_hearTurn 98 = .ok (.iload 5, 2) := by decide +kernel
theorem dX0_hearTurn_100 : decode cX0_hearTurn 100 = .ok (.ifCond .lt 27, 3) := by decide +kernel
theorem dX0_hearTurn_103 : decode cX0_hearTurn 103 = .ok (.iload 5, 2) := by decide +kernel
theorem dX0_hearTurn_105 : decode cX0_hearTurn 105 = .ok (.aload_n 0, 1) := by decide +kernel
theorem dX0_hearTurn_106 : decode cX0_hearTurn 106 = .ok (.getfield 30, 3) := by decide +kernel
theorem dX0_hearTurn_109 : decode cX0_hearTurn 109 = .ok (.arraylength, 1) := by decide +kernel
theorem dX0_hearTurn_110 : decode cX0_hearTurn 110 = .ok (.if_icmp .ge 17, 3) := by decide +kernel
theorem dX0_hearTurn_113 : decode cX0_hearTurn 113 = .ok (.aload_n 0, 1) := by decide +kernel
theorem dX0_hearTurn_114 : decode cX0_hearTurn 114 = .ok (.getfield 30, 3) := by decide +kernel
theorem dX0_hearTurn_117 : decode cX0_hearTurn 117 = .ok (.iload 5, 2) := by decide +kernel
theorem dX0_hearTurn_119 : decode cX0_hearTurn 119 = .ok (.dup2, 1) := by decide +kernel
theorem dX0_hearTurn_120 : decode cX0_hearTurn 120 = .ok (.laload, 1) := by decide +kernel
theorem dX0_hearTurn_121 : decode cX0_hearTurn 121 = .ok (.lconst 1, 1) := by decide +kernel
theorem dX0_hearTurn_122 : decode cX0_hearTurn 122 = .ok (.iload 4, 2) := by decide +kernel
theorem dX0_hearTurn_124 : decode cX0_hearTurn 124 = .ok (.lshl, 1) := by decide +kernel
theorem dX0_hearTurn_125 : decode cX0_hearTurn 125 = .ok (.lor, 1) := by decide +kernel
theorem dX0_hearTurn_126 : decode cX0_hearTurn 126 = .ok (.lastore, 1) := by decide +kernel
theorem dX0_hearTurn_127 : decode cX0_hearTurn 127 = .ok (.iinc 3 1, 3) := by decide +kernel
theorem dX0_hearTurn_130 : decode cX0_hearTurn 130 = .ok (.goto (-85), 3) := by decide +kernel
theorem dX0_hearTurn_133 : decode cX0_hearTurn 133 = .ok (.return_, 1) := by decide +kernel
theorem dX0_has_0 : decode cX0_has 0 = .ok (.iload_n 1, 1) := by decide +kernel
theorem dX0_has_1 : decode cX0_has 1 = .ok (.ifCond .lt 21, 3) := by decide +kernel
theorem dX0_has_4 : decode cX0_has 4 = .ok (.iload_n 1, 1) := by decide +kernel
theorem dX0_has_5 : decode cX0_has 5 = .ok (.aload_n 0, 1) := by decide +kernel
theorem dX0_has_6 : decode cX0_has 6 = .ok (.getfield 40, 3) := by decide +kernel
theorem dX0_has_9 : decode cX0_has 9 = .ok (.if_icmp .ge 13, 3) := by decide +kernel
theorem dX0_has_12 : decode cX0_has 12 = .ok (.iload_n 1, 1) := by decide +kernel
theorem dX0_has_13 : decode cX0_has 13 = .ok (.bipush 21, 2) := by decide +kernel
theorem dX0_has_15 : decode cX0_has 15 = .ok (.if_icmp .ge 7, 3) := by decide +kernel
theorem dX0_has_18 : decode cX0_has 18 = .ok (.iconst 1, 1) := by decide +kernel
theorem dX0_has_19 : decode cX0_has 19 = .ok (.goto 4, 3) := by decide +kernel
theorem dX0_has_22 : decode cX0_has 22 = .ok (.iconst 0, 1) := by decide +kernel
theorem dX0_has_23 : decode cX0_has 23 = .ok (.ireturn, 1) := by decide +kernel
theorem dX0_distanceOf_0 : decode cX0_distanceOf 0 = .ok (.aload_n 0, 1) := by decide +kernel
theorem dX0_distanceOf_1 : decode cX0_distanceOf 1 = .ok (.iload_n 1, 1) := by decide +kernel
theorem dX0_distanceOf_2 : decode cX0_distanceOf 2 = .ok (.invokevirtual 137, 3) := by decide +kernel
theorem dX0_distanceOf_5 : decode cX0_distanceOf 5 = .ok (.ifCond .eq 12, 3) := by decide +kernel
theorem dX0_distanceOf_8 : decode cX0_distanceOf 8 = .ok (.aload_n 0, 1) := by decide +kernel
theorem dX0_distanceOf_9 : decode cX0_distanceOf 9 = .ok (.getfield 11, 3) := by decide +kernel
theorem dX0_distanceOf_12 : decode cX0_distanceOf 12 = .ok (.iload_n 1, 1) := by decide +kernel
theorem dX0_distanceOf_13 : decode cX0_distanceOf 13 = .ok (.iaload, 1) := by decide +kernel
theorem dX0_distanceOf_14 : decode cX0_distanceOf 14 = .ok (.goto 4, 3) := by decide +kernel
theorem dX0_distanceOf_17 : decode cX0_distanceOf 17 = .ok (.iconst 0, 1) := by decide +kernel
theorem dX0_distanceOf_18 : decode cX0_distanceOf 18 = .ok (.ireturn, 1) := by decide +kernel
theorem dX0_strengthOf_0 : decode cX0_strengthOf 0 = .ok (.aload_n 0, 1) := by decide +kernel
theorem dX0_strengthOf_1 : decode cX0_strengthOf 1 = .ok (.iload_n 1, 1) := by decide +kernel
theorem dX0_strengthOf_2 : decode cX0_strengthOf 2 = .ok (.invokevirtual 137, 3) := by decide +kernel
theorem dX0_strengthOf_5 : decode cX0_strengthOf 5 = .ok (.ifCond .eq 12, 3) := by decide +kernel
theorem dX0_strengthOf_8 : decode cX0_strengthOf 8 = .ok (.aload_n 0, 1) := by decide +kernel
theorem dX0_strengthOf_9 : decode cX0_strengthOf 9 = .ok (.getfield 15, 3) := by decide +kernel
theorem dX0_strengthOf_12 : decode cX0_strengthOf 12 = .ok (.iload_n 1, 1) := by decide +kernel
theorem dX0_strengthOf_13 : decode cX0_strengthOf 13 = .ok (.iaload, 1) := by decide +kernel
theorem dX0_strengthOf_14 : decode cX0_strengthOf 14 = .ok (.goto 4, 3) := by decide +kernel
theorem dX0_strengthOf_17 : decode cX0_strengthOf 17 = .ok (.iconst 0, 1) := by decide +kernel
theorem dX0_strengthOf_18 : decode cX0_strengthOf 18 = .ok (.ireturn, 1) := by decide +kernel
theorem dX0_movementOf_0 : decode cX0_movementOf 0 = .ok (.aload_n 0, 1) := by decide +kernel
theorem dX0_movementOf_1 : decode cX0_movementOf 1 = .ok (.iload_n 1, 1) := by decide +kernel
theorem dX0_movementOf_2 : decode cX0_movementOf 2 = .ok (.invokevirtual 137, 3) := by decide +kernel
theorem dX0_movementOf_5 : decode cX0_movementOf 5 = .ok (.ifCond .eq 12, 3) := by decide +kernel
theorem dX0_movementOf_8 : decode cX0_movementOf 8 = .ok (.aload_n 0, 1) := by decide +kernel
theorem dX0_movementOf_9 : decode cX0_movementOf 9 = .ok (.getfield 18, 3) := by decide +kernel
theorem dX0_movementOf_12 : decode cX0_movementOf 12 = .ok (.iload_n 1, 1) := by decide +kernel
theorem dX0_movementOf_13 : decode cX0_movementOf 13 = .ok (.iaload, 1) := by decide +kernel
theorem dX0_movementOf_14 : decode cX0_movementOf 14 = .ok (.goto 4, 3) := by decide +kernel
theorem dX0_movementOf_17 : decode cX0_movementOf 17 = .ok (.iconst 0, 1) := by decide +kernel
theorem dX0_movementOf_18 : decode cX0_movementOf 18 = .ok (.ireturn, 1) := by decide +kernel
theorem dX0_lesserWall_0 : decode cX0_lesserWall 0 = .ok (.aload_n 0, 1) := by decide +kernel
theorem dX0_lesserWall_1 : decode cX0_lesserWall 1 = .ok (.iload_n 1, 1) := by decide +kernel
theorem dX0_lesserWall_2 : decode cX0_lesserWall 2 = .ok (.invokevirtual 137, 3) := by decide +kernel
theorem dX0_lesserWall_5 : decode cX0_lesserWall 5 = .ok (.ifCond .eq 12, 3) := by decide +kernel
theorem dX0_lesserWall_8 : decode cX0_lesserWall 8 = .ok (.aload_n 0, 1) := by decide +kernel
theorem dX0_lesserWall_9 : decode cX0_lesserWall 9 = .ok (.getfield 21, 3) := by decide +kernel
theorem dX0_lesserWall_12 : decode cX0_lesserWall 12 = .ok (.iload_n 1, 1) := by decide +kernel
theorem dX0_lesserWall_13 : decode cX0_lesserWall 13 = .ok (.iaload, 1) := by decide +kernel
theorem dX0_lesserWall_14 : decode cX0_lesserWall 14 = .ok (.goto 4, 3) := by decide +kernel
theorem dX0_lesserWall_17 : decode cX0_lesserWall 17 = .ok (.iconst 0, 1) := by decide +kernel
theorem dX0_lesserWall_18 : decode cX0_lesserWall 18 = .ok (.ireturn, 1) := by decide +kernel
theorem dX0_greaterWall_0 : decode cX0_greaterWall 0 = .ok (.aload_n 0, 1) := by decide +kernel
theorem dX0_greaterWall_1 : decode cX0_greaterWall 1 = .ok (.iload_n 1, 1) := by decide +kernel
theorem dX0_greaterWall_2 : decode cX0_greaterWall 2 = .ok (.invokevirtual 137, 3) := by decide +kernel
theorem dX0_greaterWall_5 : decode cX0_greaterWall 5 = .ok (.ifCond .eq 12, 3) := by decide +kernel
theorem dX0_greaterWall_8 : decode cX0_greaterWall 8 = .ok (.aload_n 0, 1) := by decide +kernel
theorem dX0_greaterWall_9 : decode cX0_greaterWall 9 = .ok (.getfield 24, 3) := by decide +kernel
theorem dX0_greaterWall_12 : decode cX0_greaterWall 12 = .ok (.iload_n 1, 1) := by decide +kernel
theorem dX0_greaterWall_13 : decode cX0_greaterWall 13 = .ok (.iaload, 1) := by decide +kernel
theorem dX0_greaterWall_14 : decode cX0_greaterWall 14 = .ok (.goto 4, 3) := by decide +kernel
theorem dX0_greaterWall_17 : decode cX0_greaterWall 17 = .ok (.iconst 0, 1) := by decide +kernel
theorem dX0_greaterWall_18 : decode cX0_greaterWall 18 = .ok (.ireturn, 1) := by decide +kernel
theorem dX0_isFaint_0 : decode cX0_isFaint 0 = .ok (.aload_n 0, 1) := by decide +kernel
theorem dX0_isFaint_1 : decode cX0_isFaint 1 = .ok (.iload_n 1, 1) := by decide +kernel
theorem dX0_isFaint_2 : decode cX0_isFaint 2 = .ok (.invokevirtual 140, 3) := by decide +kernel
theorem dX0_isFaint_5 : decode cX0_isFaint 5 = .ok (.aload_n 0, 1) := by decide +kernel
theorem dX0_isFaint_6 : decode cX0_isFaint 6 = .ok (.getfield 59, 3) := by decide +kernel
theorem dX0_isFaint_9 : decode cX0_isFaint 9 = .ok (.if_icmp .ge 7, 3) := by decide +kernel
theorem dX0_isFaint_12 : decode cX0_isFaint 12 = .ok (.iconst 1, 1) := by decide +kernel
theorem dX0_isFaint_13 : decode cX0_isFaint 13 = .ok (.goto 4, 3) := by decide +kernel
theorem dX0_isFaint_16 : decode cX0_isFaint 16 = .ok (.iconst 0, 1) := by decide +kernel
theorem dX0_isFaint_17 : decode cX0_isFaint 17 = .ok (.ireturn, 1) := by decide +kernel
theorem dX0_placeOf_0 : decode cX0_placeOf 0 = .ok (.iload_n 3, 1) := by decide +kernel
theorem dX0_placeOf_1 : decode cX0_placeOf 1 = .ok (.ifCond .lt 17, 3) := by decide +kernel
theorem dX0_placeOf_4 : decode cX0_placeOf 4 = .ok (.iload_n 3, 1) := by decide +kernel
theorem dX0_placeOf_5 : decode cX0_placeOf 5 = .ok (.iconst 4, 1) := by decide +kernel
theorem dX0_placeOf_6 : decode cX0_placeOf 6 = .ok (.if_icmp .ge 12, 3) := by decide +kernel
theorem dX0_placeOf_9 : decode cX0_placeOf 9 = .ok (.aload_n 0, 1) := by decide +kernel
theorem dX0_placeOf_10 : decode cX0_placeOf 10 = .ok (.getfield 27, 3) := by decide +kernel
theorem dX0_placeOf_13 : decode cX0_placeOf 13 = .ok (.iload_n 3, 1) := by decide +kernel
theorem dX0_placeOf_14 : decode cX0_placeOf 14 = .ok (.iaload, 1) := by decide +kernel
theorem dX0_placeOf_15 : decode cX0_placeOf 15 = .ok (.goto 4, 3) := by decide +kernel
theorem dX0_placeOf_18 : decode cX0_placeOf 18 = .ok (.iconst 0, 1) := by decide +kernel
theorem dX0_placeOf_19 : decode cX0_placeOf 19 = .ok (.istore 4, 2) := by decide +kernel
theorem dX0_placeOf_21 : decode cX0_placeOf 21 = .ok (.iload_n 1, 1) := by decide +kernel
theorem dX0_placeOf_22 : decode cX0_placeOf 22 = .ok (.iload_n 2, 1) := by decide +kernel
theorem dX0_placeOf_23 : decode cX0_placeOf 23 = .ok (.iload_n 3, 1) := by decide +kernel
theorem dX0_placeOf_24 : decode cX0_placeOf 24 = .ok (.imul, 1) := by decide +kernel
theorem dX0_placeOf_25 : decode cX0_placeOf 25 = .ok (.iadd, 1) := by decide +kernel
theorem dX0_placeOf_26 : decode cX0_placeOf 26 = .ok (.istore 5, 2) := by decide +kernel
theorem dX0_placeOf_28 : decode cX0_placeOf 28 = .ok (.iload 5, 2) := by decide +kernel
theorem dX0_placeOf_30 : decode cX0_placeOf 30 = .ok (.ifCond .le 16, 3) := by decide +kernel
theorem dX0_placeOf_33 : decode cX0_placeOf 33 = .ok (.iload 4, 2) := by decide +kernel
theorem dX0_placeOf_35 : decode cX0_placeOf 35 = .ok (.ifCond .le 11, 3) := by decide +kernel
theorem dX0_placeOf_38 : decode cX0_placeOf 38 = .ok (.iload 5, 2) := by decide +kernel
theorem dX0_placeOf_40 : decode cX0_placeOf 40 = .ok (.iload 4, 2) := by decide +kernel
theorem dX0_placeOf_42 : decode cX0_placeOf 42 = .ok (.irem, 1) := by decide +kernel
theorem dX0_placeOf_43 : decode cX0_placeOf 43 = .ok (.goto 4, 3) := by decide +kernel
theorem dX0_placeOf_46 : decode cX0_placeOf 46 = .ok (.iconst 0, 1) := by decide +kernel
theorem dX0_placeOf_47 : decode cX0_placeOf 47 = .ok (.ireturn, 1) := by decide +kernel
theorem dX0_codeOf_0 : decode cX0_codeOf 0 = .ok (.iload_n 0, 1) := by decide +kernel
theorem dX0_codeOf_1 : decode cX0_codeOf 1 = .ok (.bipush 11, 2) := by decide +kernel
theorem dX0_codeOf_3 : decode cX0_codeOf 3 = .ok (.imul, 1) := by decide +kernel
theorem dX0_codeOf_4 : decode cX0_codeOf 4 = .ok (.iload_n 1, 1) := by decide +kernel
theorem dX0_codeOf_5 : decode cX0_codeOf 5 = .ok (.iadd, 1) := by decide +kernel
theorem dX0_codeOf_6 : decode cX0_codeOf 6 = .ok (.iconst 5, 1) := by decide +kernel
theorem dX0_codeOf_7 : decode cX0_codeOf 7 = .ok (.iadd, 1) := by decide +kernel
theorem dX0_codeOf_8 : decode cX0_codeOf 8 = .ok (.ireturn, 1) := by decide +kernel
theorem dX0_isHeard_0 : decode cX0_isHeard 0 = .ok (.iload_n 1, 1) := by decide +kernel
theorem dX0_isHeard_1 : decode cX0_isHeard 1 = .ok (.bipush 11, 2) := by decide +kernel
theorem dX0_isHeard_3 : decode cX0_isHeard 3 = .ok (.imul, 1) := by decide +kernel
theorem dX0_isHeard_4 : decode cX0_isHeard 4 = .ok (.iload_n 2, 1) := by decide +kernel
theorem dX0_isHeard_5 : decode cX0_isHeard 5 = .ok (.iadd, 1) := by decide +kernel
theorem dX0_isHeard_6 : decode cX0_isHeard 6 = .ok (.iconst 5, 1) := by decide +kernel
theorem dX0_isHeard_7 : decode cX0_isHeard 7 = .ok (.iadd, 1) := by decide +kernel
theorem dX0_isHeard_8 : decode cX0_isHeard 8 = .ok (.istore 4, 2) := by decide +kernel
theorem dX0_isHeard_10 : decode cX0_isHeard 10 = .ok (.iload 4, 2) := by decide +kernel
theorem dX0_isHeard_12 : decode cX0_isHeard 12 = .ok (.ifCond .lt 33, 3) := by decide +kernel
theorem dX0_isHeard_15 : decode cX0_isHeard 15 = .ok (.iload 4, 2) := by decide +kernel
theorem dX0_isHeard_17 : decode cX0_isHeard 17 = .ok (.aload_n 0, 1) := by decide +kernel
theorem dX0_isHeard_18 : decode cX0_isHeard 18 = .ok (.getfield 30, 3) := by decide +kernel
theorem dX0_isHeard_21 : decode cX0_isHeard 21 = .ok (.arraylength, 1) := by decide +kernel
theorem dX0_isHeard_22 : decode cX0_isHeard 22 = .ok (.if_icmp .ge 23, 3) := by decide +kernel
theorem dX0_isHeard_25 : decode cX0_isHeard 25 = .ok (.aload_n 0, 1) := by decide +kernel
theorem dX0_isHeard_26 : decode cX0_isHeard 26 = .ok (.getfield 30, 3) := by decide +kernel
theorem dX0_isHeard_29 : decode cX0_isHeard 29 = .ok (.iload 4, 2) := by decide +kernel
theorem dX0_isHeard_31 : decode cX0_isHeard 31 = .ok (.laload, 1) := by decide +kernel
theorem dX0_isHeard_32 : decode cX0_isHeard 32 = .ok (.iload_n 3, 1) := by decide +kernel
theorem dX0_isHeard_33 : decode cX0_isHeard 33 = .ok (.lshr, 1) := by decide +kernel
theorem dX0_isHeard_34 : decode cX0_isHeard 34 = .ok (.lconst 1, 1) := by decide +kernel
theorem dX0_isHeard_35 : decode cX0_isHeard 35 = .ok (.land, 1) := by decide +kernel
theorem dX0_isHeard_36 : decode cX0_isHeard 36 = .ok (.lconst 0, 1) := by decide +kernel
theorem dX0_isHeard_37 : decode cX0_isHeard 37 = .ok (.lcmp, 1) := by decide +kernel
theorem dX0_isHeard_38 : decode cX0_isHeard 38 = .ok (.ifCond .eq 7, 3) := by decide +kernel
theorem dX0_isHeard_41 : decode cX0_isHeard 41 = .ok (.iconst 1, 1) := by decide +kernel
theorem dX0_isHeard_42 : decode cX0_isHeard 42 = .ok (.goto 4, 3) := by decide +kernel
theorem dX0_isHeard_45 : decode cX0_isHeard 45 = .ok (.iconst 0, 1) := by decide +kernel
theorem dX0_isHeard_46 : decode cX0_isHeard 46 = .ok (.ireturn, 1) := by decide +kernel
theorem dX0_ghostCount_0 : decode cX0_ghostCount 0 = .ok (.aload_n 0, 1) := by decide +kernel
theorem dX0_ghostCount_1 : decode cX0_ghostCount 1 = .ok (.getfield 40, 3) := by decide +kernel
theorem dX0_ghostCount_4 : decode cX0_ghostCount 4 = .ok (.aload_n 0, 1) := by decide +kernel
theorem dX0_ghostCount_5 : decode cX0_ghostCount 5 = .ok (.getfield 66, 3) := by decide +kernel
theorem dX0_ghostCount_8 : decode cX0_ghostCount 8 = .ok (.isub, 1) := by decide +kernel
theorem dX0_ghostCount_9 : decode cX0_ghostCount 9 = .ok (.ireturn, 1) := by decide +kernel
theorem dX0_ghostsOf_0 : decode cX0_ghostsOf 0 = .ok (.iconst 0, 1) := by decide +kernel
theorem dX0_ghostsOf_1 : decode cX0_ghostsOf 1 = .ok (.istore_n 2, 1) := by decide +kernel
theorem dX0_ghostsOf_2 : decode cX0_ghostsOf 2 = .ok (.aload_n 0, 1) := by decide +kernel
theorem dX0_ghostsOf_3 : decode cX0_ghostsOf 3 = .ok (.getfield 66, 3) := by decide +kernel
theorem dX0_ghostsOf_6 : decode cX0_ghostsOf 6 = .ok (.istore_n 3, 1) := by decide +kernel
theorem dX0_ghostsOf_7 : decode cX0_ghostsOf 7 = .ok (.iload_n 3, 1) := by decide +kernel
theorem dX0_ghostsOf_8 : decode cX0_ghostsOf 8 = .ok (.aload_n 0, 1) := by decide +kernel
theorem dX0_ghostsOf_9 : decode cX0_ghostsOf 9 = .ok (.getfield 40, 3) := by decide +kernel
theorem dX0_ghostsOf_12 : decode cX0_ghostsOf 12 = .ok (.if_icmp .ge 30, 3) := by decide +kernel
theorem dX0_ghostsOf_15 : decode cX0_ghostsOf 15 = .ok (.aload_n 0, 1) := by decide +kernel
theorem dX0_ghostsOf_16 : decode cX0_ghostsOf 16 = .ok (.iload_n 3, 1) := by decide +kernel
theorem dX0_ghostsOf_17 : decode cX0_ghostsOf 17 = .ok (.invokevirtual 141, 3) := by decide +kernel
theorem dX0_ghostsOf_20 : decode cX0_ghostsOf 20 = .ok (.iload_n 1, 1) := by decide +kernel
theorem dX0_ghostsOf_21 : decode cX0_ghostsOf 21 = .ok (.if_icmp .eq 12, 3) := by decide +kernel
theorem dX0_ghostsOf_24 : decode cX0_ghostsOf 24 = .ok (.aload_n 0, 1) := by decide +kernel
theorem dX0_ghostsOf_25 : decode cX0_ghostsOf 25 = .ok (.iload_n 3, 1) := by decide +kernel
theorem dX0_ghostsOf_26 : decode cX0_ghostsOf 26 = .ok (.invokevirtual 144, 3) := by decide +kernel
theorem dX0_ghostsOf_29 : decode cX0_ghostsOf 29 = .ok (.iload_n 1, 1) := by decide +kernel
theorem dX0_ghostsOf_30 : decode cX0_ghostsOf 30 = .ok (.if_icmp .ne 6, 3) := by decide +kernel
theorem dX0_ghostsOf_33 : decode cX0_ghostsOf 33 = .ok (.iinc 2 1, 3) := by decide +kernel
theorem dX0_ghostsOf_36 : decode cX0_ghostsOf 36 = .ok (.iinc 3 1, 3) := by decide +kernel
theorem dX0_ghostsOf_39 : decode cX0_ghostsOf 39 = .ok (.goto (-32), 3) := by decide +kernel
theorem dX0_ghostsOf_42 : decode cX0_ghostsOf 42 = .ok (.iload_n 2, 1) := by decide +kernel
theorem dX0_ghostsOf_43 : decode cX0_ghostsOf 43 = .ok (.ireturn, 1) := by decide +kernel
theorem dX0_echoCount_0 : decode cX0_echoCount 0 = .ok (.iconst 0, 1) := by decide +kernel
theorem dX0_echoCount_1 : decode cX0_echoCount 1 = .ok (.istore_n 1, 1) := by decide +kernel
theorem dX0_echoCount_2 : decode cX0_echoCount 2 = .ok (.iconst 0, 1) := by decide +kernel
theorem dX0_echoCount_3 : decode cX0_echoCount 3 = .ok (.istore_n 2, 1) := by decide +kernel
theorem dX0_echoCount_4 : decode cX0_echoCount 4 = .ok (.iload_n 2, 1) := by decide +kernel
theorem dX0_echoCount_5 : decode cX0_echoCount 5 = .ok (.aload_n 0, 1) := by decide +kernel
theorem dX0_echoCount_6 : decode cX0_echoCount 6 = .ok (.getfield 44, 3) := by decide +kernel
theorem dX0_echoCount_9 : decode cX0_echoCount 9 = .ok (.bipush 11, 2) := by decide +kernel
theorem dX0_echoCount_11 : decode cX0_echoCount 11 = .ok (.imul, 1) := by decide +kernel
theorem dX0_echoCount_12 : decode cX0_echoCount 12 = .ok (.if_icmp .ge 30, 3) := by decide +kernel
theorem dX0_echoCount_15 : decode cX0_echoCount 15 = .ok (.iload_n 2, 1) := by decide +kernel
theorem dX0_echoCount_16 : decode cX0_echoCount 16 = .ok (.aload_n 0, 1) := by decide +kernel
theorem dX0_echoCount_17 : decode cX0_echoCount 17 = .ok (.getfield 30, 3) := by decide +kernel
theorem dX0_echoCount_20 : decode cX0_echoCount 20 = .ok (.arraylength, 1) := by decide +kernel
theorem dX0_echoCount_21 : decode cX0_echoCount 21 = .ok (.if_icmp .ge 21, 3) := by decide +kernel
theorem dX0_echoCount_24 : decode cX0_echoCount 24 = .ok (.iload_n 1, 1) := by decide +kernel
theorem dX0_echoCount_25 : decode cX0_echoCount 25 = .ok (.aload_n 0, 1) := by decide +kernel
theorem dX0_echoCount_26 : decode cX0_echoCount 26 = .ok (.getfield 30, 3) := by decide +kernel
theorem dX0_echoCount_29 : decode cX0_echoCount 29 = .ok (.iload_n 2, 1) := by decide +kernel
theorem dX0_echoCount_30 : decode cX0_echoCount 30 = .ok (.laload, 1) := by decide +kernel
theorem dX0_echoCount_31 : decode cX0_echoCount 31 = .ok (.invokestatic 147, 3) := by decide +kernel
theorem dX0_echoCount_34 : decode cX0_echoCount 34 = .ok (.iadd, 1) := by decide +kernel
theorem dX0_echoCount_35 : decode cX0_echoCount 35 = .ok (.istore_n 1, 1) := by decide +kernel
theorem dX0_echoCount_36 : decode cX0_echoCount 36 = .ok (.iinc 2 1, 3) := by decide +kernel
theorem dX0_echoCount_39 : decode cX0_echoCount 39 = .ok (.goto (-35), 3) := by decide +kernel
theorem dX0_echoCount_42 : decode cX0_echoCount 42 = .ok (.iload_n 1, 1) := by decide +kernel
theorem dX0_echoCount_43 : decode cX0_echoCount 43 = .ok (.ireturn, 1) := by decide +kernel
theorem dX0_lostCount_0 : decode cX0_lostCount 0 = .ok (.iconst 0, 1) := by decide +kernel
theorem dX0_lostCount_1 : decode cX0_lostCount 1 = .ok (.istore_n 1, 1) := by decide +kernel
theorem dX0_lostCount_2 : decode cX0_lostCount 2 = .ok (.iconst 0, 1) := by decide +kernel
theorem dX0_lostCount_3 : decode cX0_lostCount 3 = .ok (.istore_n 2, 1) := by decide +kernel
theorem dX0_lostCount_4 : decode cX0_lostCount 4 = .ok (.iload_n 2, 1) := by decide +kernel
theorem dX0_lostCount_5 : decode cX0_lostCount 5 = .ok (.aload_n 0, 1) := by decide +kernel
theorem dX0_lostCount_6 : decode cX0_lostCount 6 = .ok (.getfield 40, 3) := by decide +kernel
theorem dX0_lostCount_9 : decode cX0_lostCount 9 = .ok (.if_icmp .ge 17, 3) := by decide +kernel
theorem dX0_lostCount_12 : decode cX0_lostCount 12 = .ok (.iload_n 1, 1) := by decide +kernel
theorem dX0_lostCount_13 : decode cX0_lostCount 13 = .ok (.aload_n 0, 1) := by decide +kernel
theorem dX0_lostCount_14 : decode cX0_lostCount 14 = .ok (.iload_n 2, 1) := by decide +kernel
theorem dX0_lostCount_15 : decode cX0_lostCount 15 = .ok (.invokevirtual 153, 3) := by decide +kernel
theorem dX0_lostCount_18 : decode cX0_lostCount 18 = .ok (.iadd, 1) := by decide +kernel
theorem dX0_lostCount_19 : decode cX0_lostCount 19 = .ok (.istore_n 1, 1) := by decide +kernel
theorem dX0_lostCount_20 : decode cX0_lostCount 20 = .ok (.iinc 2 1, 3) := by decide +kernel
theorem dX0_lostCount_23 : decode cX0_lostCount 23 = .ok (.goto (-19), 3) := by decide +kernel
theorem dX0_lostCount_26 : decode cX0_lostCount 26 = .ok (.iload_n 1, 1) := by decide +kernel
theorem dX0_lostCount_27 : decode cX0_lostCount 27 = .ok (.ireturn, 1) := by decide +kernel
theorem dX0_lostTurns_0 : decode cX0_lostTurns 0 = .ok (.iconst 0, 1) := by decide +kernel
theorem dX0_lostTurns_1 : decode cX0_lostTurns 1 = .ok (.istore_n 2, 1) := by decide +kernel
theorem dX0_lostTurns_2 : decode cX0_lostTurns 2 = .ok (.iconst 0, 1) := by decide +kernel
theorem dX0_lostTurns_3 : decode cX0_lostTurns 3 = .ok (.istore_n 3, 1) := by decide +kernel
theorem dX0_lostTurns_4 : decode cX0_lostTurns 4 = .ok (.iload_n 3, 1) := by decide +kernel
theorem dX0_lostTurns_5 : decode cX0_lostTurns 5 = .ok (.aload_n 0, 1) := by decide +kernel
theorem dX0_lostTurns_6 : decode cX0_lostTurns 6 = .ok (.getfield 44, 3) := by decide +kernel
theorem dX0_lostTurns_9 : decode cX0_lostTurns 9 = .ok (.if_icmp .ge 42, 3) := by decide +kernel
theorem dX0_lostTurns_12 : decode cX0_lostTurns 12 = .ok (.aload_n 0, 1) := by decide +kernel
theorem dX0_lostTurns_13 : decode cX0_lostTurns 13 = .ok (.iload_n 1, 1) := by decide +kernel
theorem dX0_lostTurns_14 : decode cX0_lostTurns 14 = .ok (.invokevirtual 126, 3) := by decide +kernel
theorem dX0_lostTurns_17 : decode cX0_lostTurns 17 = .ok (.ifCond .ne 34, 3) := by decide +kernel
theorem dX0_lostTurns_20 : decode cX0_lostTurns 20 = .ok (.aload_n 0, 1) := by decide +kernel
theorem dX0_lostTurns_21 : decode cX0_lostTurns 21 = .ok (.aload_n 0, 1) := by decide +kernel
theorem dX0_lostTurns_22 : decode cX0_lostTurns 22 = .ok (.iload_n 1, 1) := by decide +kernel
theorem dX0_lostTurns_23 : decode cX0_lostTurns 23 = .ok (.invokevirtual 129, 3) := by decide +kernel
theorem dX0_lostTurns_26 : decode cX0_lostTurns 26 = .ok (.aload_n 0, 1) := by decide +kernel
theorem dX0_lostTurns_27 : decode cX0_lostTurns 27 = .ok (.iload_n 1, 1) := by decide +kernel
theorem dX0_lostTurns_28 : decode cX0_lostTurns 28 = .ok (.invokevirtual 125, 3) := by decide +kernel
theorem dX0_lostTurns_31 : decode cX0_lostTurns 31 = .ok (.iload_n 3, 1) := by decide +kernel
theorem dX0_lostTurns_32 : decode cX0_lostTurns 32 = .ok (.invokevirtual 130, 3) := by decide +kernel
theorem dX0_lostTurns_35 : decode cX0_lostTurns 35 = .ok (.aload_n 0, 1) := by decide +kernel
theorem dX0_lostTurns_36 : decode cX0_lostTurns 36 = .ok (.getfield 53, 3) := by decide +kernel
theorem dX0_lostTurns_39 : decode cX0_lostTurns 39 = .ok (.if_icmp .ge 6, 3) := by decide +kernel
theorem dX0_lostTurns_42 : decode cX0_lostTurns 42 = .ok (.iinc 2 1, 3) := by decide +kernel
theorem dX0_lostTurns_45 : decode cX0_lostTurns 45 = .ok (.iinc 3 1, 3) := by decide +kernel
theorem dX0_lostTurns_48 : decode cX0_lostTurns 48 = .ok (.goto (-44), 3) := by decide +kernel
theorem dX0_lostTurns_51 : decode cX0_lostTurns 51 = .ok (.iload_n 2, 1) := by decide +kernel
theorem dX0_lostTurns_52 : decode cX0_lostTurns 52 = .ok (.ireturn, 1) := by decide +kernel
theorem dX0_faintCount_0 : decode cX0_faintCount 0 = .ok (.iconst 0, 1) := by decide +kernel
theorem dX0_faintCount_1 : decode cX0_faintCount 1 = .ok (.istore_n 1, 1) := by decide +kernel
theorem dX0_faintCount_2 : decode cX0_faintCount 2 = .ok (.iconst 0, 1) := by decide +kernel
theorem dX0_faintCount_3 : decode cX0_faintCount 3 = .ok (.istore_n 2, 1) := by decide +kernel
theorem dX0_faintCount_4 : decode cX0_faintCount 4 = .ok (.iload_n 2, 1) := by decide +kernel
theorem dX0_faintCount_5 : decode cX0_faintCount 5 = .ok (.aload_n 0, 1) := by decide +kernel
theorem dX0_faintCount_6 : decode cX0_faintCount 6 = .ok (.getfield 40, 3) := by decide +kernel
theorem dX0_faintCount_9 : decode cX0_faintCount 9 = .ok (.if_icmp .ge 25, 3) := by decide +kernel
theorem dX0_faintCount_12 : decode cX0_faintCount 12 = .ok (.iload_n 1, 1) := by decide +kernel
theorem dX0_faintCount_13 : decode cX0_faintCount 13 = .ok (.aload_n 0, 1) := by decide +kernel
theorem dX0_faintCount_14 : decode cX0_faintCount 14 = .ok (.iload_n 2, 1) := by decide +kernel
theorem dX0_faintCount_15 : decode cX0_faintCount 15 = .ok (.invokevirtual 126, 3) := by decide +kernel
theorem dX0_faintCount_18 : decode cX0_faintCount 18 = .ok (.ifCond .eq 7, 3) := by decide +kernel
theorem dX0_faintCount_21 : decode cX0_faintCount 21 = .ok (.iconst 1, 1) := by decide +kernel
theorem dX0_faintCount_22 : decode cX0_faintCount 22 = .ok (.goto 4, 3) := by decide +kernel
theorem dX0_faintCount_25 : decode cX0_faintCount 25 = .ok (.iconst 0, 1) := by decide +kernel
theorem dX0_faintCount_26 : decode cX0_faintCount 26 = .ok (.iadd, 1) := by decide +kernel
theorem dX0_faintCount_27 : decode cX0_faintCount 27 = .ok (.istore_n 1, 1) := by decide +kernel
theorem dX0_faintCount_28 : decode cX0_faintCount 28 = .ok (.iinc 2 1, 3) := by decide +kernel
theorem dX0_faintCount_31 : decode cX0_faintCount 31 = .ok (.goto (-27), 3) := by decide +kernel
theorem dX0_faintCount_34 : decode cX0_faintCount 34 = .ok (.iload_n 1, 1) := by decide +kernel
theorem dX0_faintCount_35 : decode cX0_faintCount 35 = .ok (.ireturn, 1) := by decide +kernel
theorem dX0_findEcho_0 : decode cX0_findEcho 0 = .ok (.iload_n 2, 1) := by decide +kernel
theorem dX0_findEcho_1 : decode cX0_findEcho 1 = .ok (.istore_n 3, 1) := by decide +kernel
theorem dX0_findEcho_2 : decode cX0_findEcho 2 = .ok (.iconst 0, 1) := by decide +kernel
theorem dX0_findEcho_3 : decode cX0_findEcho 3 = .ok (.istore 4, 2) := by decide +kernel
theorem dX0_findEcho_5 : decode cX0_findEcho 5 = .ok (.iload 4, 2) := by decide +kernel
theorem dX0_findEcho_7 : decode cX0_findEcho 7 = .ok (.bipush 50, 2) := by decide +kernel
theorem dX0_findEcho_9 : decode cX0_findEcho 9 = .ok (.if_icmp .ge 52, 3) := by decide +kernel
theorem dX0_findEcho_12 : decode cX0_findEcho 12 = .ok (.bipush (-5), 2) := by decide +kernel
theorem dX0_findEcho_14 : decode cX0_findEcho 14 = .ok (.istore 5, 2) := by decide +kernel
theorem dX0_findEcho_16 : decode cX0_findEcho 16 = .ok (.iload 5, 2) := by decide +kernel
theorem dX0_findEcho_18 : decode cX0_findEcho 18 = .ok (.iconst 5, 1) := by decide +kernel
theorem dX0_findEcho_19 : decode cX0_findEcho 19 = .ok (.if_icmp .gt 36, 3) := by decide +kernel
theorem dX0_findEcho_22 : decode cX0_findEcho 22 = .ok (.aload_n 0, 1) := by decide +kernel
theorem dX0_findEcho_23 : decode cX0_findEcho 23 = .ok (.iload_n 1, 1) := by decide +kernel
theorem dX0_findEcho_24 : decode cX0_findEcho 24 = .ok (.iload 5, 2) := by decide +kernel
theorem dX0_findEcho_26 : decode cX0_findEcho 26 = .ok (.iload 4, 2) := by decide +kernel
theorem dX0_findEcho_28 : decode cX0_findEcho 28 = .ok (.invokevirtual 156, 3) := by decide +kernel
theorem dX0_findEcho_31 : decode cX0_findEcho 31 = .ok (.ifCond .eq 18, 3) := by decide +kernel
theorem dX0_findEcho_34 : decode cX0_findEcho 34 = .ok (.iload_n 3, 1) := by decide +kernel
theorem dX0_findEcho_35 : decode cX0_findEcho 35 = .ok (.ifCond .ne 11, 3) := by decide +kernel
theorem dX0_findEcho_38 : decode cX0_findEcho 38 = .ok (.iload 4, 2) := by decide +kernel
theorem dX0_findEcho_40 : decode cX0_findEcho 40 = .ok (.iload 5, 2) := by decide +kernel
theorem dX0_findEcho_42 : decode cX0_findEcho 42 = .ok (.invokestatic 134, 3) := by decide +kernel
theorem dX0_findEcho_45 : decode cX0_findEcho 45 = .ok (.ireturn, 1) := by decide +kernel
theorem dX0_findEcho_46 : decode cX0_findEcho 46 = .ok (.iinc 3 (-1), 3) := by decide +kernel
theorem dX0_findEcho_49 : decode cX0_findEcho 49 = .ok (.iinc 5 1, 3) := by decide +kernel
theorem dX0_findEcho_52 : decode cX0_findEcho 52 = .ok (.goto (-36), 3) := by decide +kernel
theorem dX0_findEcho_55 : decode cX0_findEcho 55 = .ok (.iinc 4 1, 3) := by decide +kernel
theorem dX0_findEcho_58 : decode cX0_findEcho 58 = .ok (.goto (-53), 3) := by decide +kernel
theorem dX0_findEcho_61 : decode cX0_findEcho 61 = .ok (.bipush (-4), 2) := by decide +kernel
theorem dX0_findEcho_63 : decode cX0_findEcho 63 = .ok (.ireturn, 1) := by decide +kernel
theorem dX0_strengthTogether_0 : decode cX0_strengthTogether 0 = .ok (.iconst 0, 1) := by decide +kernel
theorem dX0_strengthTogether_1 : decode cX0_strengthTogether 1 = .ok (.istore 4, 2) := by decide +kernel
theorem dX0_strengthTogether_3 : decode cX0_strengthTogether 3 = .ok (.iconst 0, 1) := by decide +kernel
theorem dX0_strengthTogether_4 : decode cX0_strengthTogether 4 = .ok (.istore 5, 2) := by decide +kernel
theorem dX0_strengthTogether_6 : decode cX0_strengthTogether 6 = .ok (.iload 5, 2) := by decide +kernel
theorem dX0_strengthTogether_8 : decode cX0_strengthTogether 8 = .ok (.aload_n 0, 1) := by decide +kernel
theorem dX0_strengthTogether_9 : decode cX0_strengthTogether 9 = .ok (.getfield 40, 3) := by decide +kernel
theorem dX0_strengthTogether_12 : decode cX0_strengthTogether 12 = .ok (.if_icmp .ge 32, 3) := by decide +kernel
theorem dX0_strengthTogether_15 : decode cX0_strengthTogether 15 = .ok (.aload_n 0, 1) := by decide +kernel
theorem dX0_strengthTogether_16 : decode cX0_strengthTogether 16 = .ok (.iload 5, 2) := by decide +kernel
theorem dX0_strengthTogether_18 : decode cX0_strengthTogether 18 = .ok (.iload_n 1, 1) := by decide +kernel
theorem dX0_strengthTogether_19 : decode cX0_strengthTogether 19 = .ok (.iload_n 2, 1) := by decide +kernel
theorem dX0_strengthTogether_20 : decode cX0_strengthTogether 20 = .ok (.iload_n 3, 1) := by decide +kernel
theorem dX0_strengthTogether_21 : decode cX0_strengthTogether 21 = .ok (.invokevirtual 160, 3) := by decide +kernel
theorem dX0_strengthTogether_24 : decode cX0_strengthTogether 24 = .ok (.ifCond .eq 14, 3) := by decide +kernel
theorem dX0_strengthTogether_27 : decode cX0_strengthTogether 27 = .ok (.iload 4, 2) := by decide +kernel
theorem dX0_strengthTogether_29 : decode cX0_strengthTogether 29 = .ok (.aload_n 0, 1) := by decide +kernel
theorem dX0_strengthTogether_30 : decode cX0_strengthTogether 30 = .ok (.iload 5, 2) := by decide +kernel
theorem dX0_strengthTogether_32 : decode cX0_strengthTogether 32 = .ok (.invokevirtual 140, 3) := by decide +kernel
theorem dX0_strengthTogether_35 : decode cX0_strengthTogether 35 = .ok (.iadd, 1) := by decide +kernel
theorem dX0_strengthTogether_36 : decode cX0_strengthTogether 36 = .ok (.istore 4, 2) := by decide +kernel
theorem dX0_strengthTogether_38 : decode cX0_strengthTogether 38 = .ok (.iinc 5 1, 3) := by decide +kernel
theorem dX0_strengthTogether_41 : decode cX0_strengthTogether 41 = .ok (.goto (-35), 3) := by decide +kernel
theorem dX0_strengthTogether_44 : decode cX0_strengthTogether 44 = .ok (.iload 4, 2) := by decide +kernel
theorem dX0_strengthTogether_46 : decode cX0_strengthTogether 46 = .ok (.ireturn, 1) := by decide +kernel
theorem dX0_sourcesTogether_0 : decode cX0_sourcesTogether 0 = .ok (.iconst 0, 1) := by decide +kernel
theorem dX0_sourcesTogether_1 : decode cX0_sourcesTogether 1 = .ok (.istore 4, 2) := by decide +kernel
theorem dX0_sourcesTogether_3 : decode cX0_sourcesTogether 3 = .ok (.iconst 0, 1) := by decide +kernel
theorem dX0_sourcesTogether_4 : decode cX0_sourcesTogether 4 = .ok (.istore 5, 2) := by decide +kernel
theorem dX0_sourcesTogether_6 : decode cX0_sourcesTogether 6 = .ok (.iload 5, 2) := by decide +kernel
theorem dX0_sourcesTogether_8 : decode cX0_sourcesTogether 8 = .ok (.aload_n 0, 1) := by decide +kernel
theorem dX0_sourcesTogether_9 : decode cX0_sourcesTogether 9 = .ok (.getfield 40, 3) := by decide +kernel
theorem dX0_sourcesTogether_12 : decode cX0_sourcesTogether 12 = .ok (.if_icmp .ge 24, 3) := by decide +kernel
theorem dX0_sourcesTogether_15 : decode cX0_sourcesTogether 15 = .ok (.aload_n 0, 1) := by decide +kernel
theorem dX0_sourcesTogether_16 : decode cX0_sourcesTogether 16 = .ok (.iload 5, 2) := by decide +kernel
theorem dX0_sourcesTogether_18 : decode cX0_sourcesTogether 18 = .ok (.iload_n 1, 1) := by decide +kernel
theorem dX0_sourcesTogether_19 : decode cX0_sourcesTogether 19 = .ok (.iload_n 2, 1) := by decide +kernel
theorem dX0_sourcesTogether_20 : decode cX0_sourcesTogether 20 = .ok (.iload_n 3, 1) := by decide +kernel
theorem dX0_sourcesTogether_21 : decode cX0_sourcesTogether 21 = .ok (.invokevirtual 160, 3) := by decide +kernel
theorem dX0_sourcesTogether_24 : decode cX0_sourcesTogether 24 = .ok (.ifCond .eq 6, 3) := by decide +kernel
theorem dX0_sourcesTogether_27 : decode cX0_sourcesTogether 27 = .ok (.iinc 4 1, 3) := by decide +kernel
theorem dX0_sourcesTogether_30 : decode cX0_sourcesTogether 30 = .ok (.iinc 5 1, 3) := by decide +kernel
theorem dX0_sourcesTogether_33 : decode cX0_sourcesTogether 33 = .ok (.goto (-27), 3) := by decide +kernel
theorem dX0_sourcesTogether_36 : decode cX0_sourcesTogether 36 = .ok (.iload 4, 2) := by decide +kernel
theorem dX0_sourcesTogether_38 : decode cX0_sourcesTogether 38 = .ok (.ireturn, 1) := by decide +kernel
theorem dX0_isPartOf_0 : decode cX0_isPartOf 0 = .ok (.aload_n 0, 1) := by decide +kernel
theorem dX0_isPartOf_1 : decode cX0_isPartOf 1 = .ok (.iload_n 1, 1) := by decide +kernel
theorem dX0_isPartOf_2 : decode cX0_isPartOf 2 = .ok (.invokevirtual 126, 3) := by decide +kernel
theorem dX0_isPartOf_5 : decode cX0_isPartOf 5 = .ok (.ifCond .ne 33, 3) := by decide +kernel
theorem dX0_isPartOf_8 : decode cX0_isPartOf 8 = .ok (.aload_n 0, 1) := by decide +kernel
theorem dX0_isPartOf_9 : decode cX0_isPartOf 9 = .ok (.iload_n 1, 1) := by decide +kernel
theorem dX0_isPartOf_10 : decode cX0_isPartOf 10 = .ok (.invokevirtual 125, 3) := by decide +kernel
theorem dX0_isPartOf_13 : decode cX0_isPartOf 13 = .ok (.iload 4, 2) := by decide +kernel
theorem dX0_isPartOf_15 : decode cX0_isPartOf 15 = .ok (.if_icmp .ne 23, 3) := by decide +kernel
theorem dX0_isPartOf_18 : decode cX0_isPartOf 18 = .ok (.aload_n 0, 1) := by decide +kernel
theorem dX0_isPartOf_19 : decode cX0_isPartOf 19 = .ok (.aload_n 0, 1) := by decide +kernel
theorem dX0_isPartOf_20 : decode cX0_isPartOf 20 = .ok (.iload_n 1, 1) := by decide +kernel
theorem dX0_isPartOf_21 : decode cX0_isPartOf 21 = .ok (.invokevirtual 129, 3) := by decide +kernel
theorem dX0_isPartOf_24 : decode cX0_isPartOf 24 = .ok (.iload 4, 2) := by decide +kernel
theorem dX0_isPartOf_26 : decode cX0_isPartOf 26 = .ok (.iload_n 2, 1) := by decide +kernel
theorem dX0_isPartOf_27 : decode cX0_isPartOf 27 = .ok (.invokevirtual 130, 3) := by decide +kernel
theorem dX0_isPartOf_30 : decode cX0_isPartOf 30 = .ok (.iload_n 3, 1) := by decide +kernel
theorem dX0_isPartOf_31 : decode cX0_isPartOf 31 = .ok (.if_icmp .ne 7, 3) := by decide +kernel
theorem dX0_isPartOf_34 : decode cX0_isPartOf 34 = .ok (.iconst 1, 1) := by decide +kernel
theorem dX0_isPartOf_35 : decode cX0_isPartOf 35 = .ok (.goto 4, 3) := by decide +kernel
theorem dX0_isPartOf_38 : decode cX0_isPartOf 38 = .ok (.iconst 0, 1) := by decide +kernel
theorem dX0_isPartOf_39 : decode cX0_isPartOf 39 = .ok (.ireturn, 1) := by decide +kernel
theorem dX0_fitOf_0 : decode cX0_fitOf 0 = .ok (.aload_n 0, 1) := by decide +kernel
theorem dX0_fitOf_1 : decode cX0_fitOf 1 = .ok (.iload_n 1, 1) := by decide +kernel
theorem dX0_fitOf_2 : decode cX0_fitOf 2 = .ok (.iload_n 2, 1) := by decide +kernel
theorem dX0_fitOf_3 : decode cX0_fitOf 3 = .ok (.iload_n 3, 1) := by decide +kernel
theorem dX0_fitOf_4 : decode cX0_fitOf 4 = .ok (.invokevirtual 130, 3) := by decide +kernel
theorem dX0_fitOf_7 : decode cX0_fitOf 7 = .ok (.istore 4, 2) := by decide +kernel
theorem dX0_fitOf_9 : decode cX0_fitOf 9 = .ok (.iload 4, 2) := by decide +kernel
theorem dX0_fitOf_11 : decode cX0_fitOf 11 = .ok (.aload_n 0, 1) := by decide +kernel
theorem dX0_fitOf_12 : decode cX0_fitOf 12 = .ok (.getfield 53, 3) := by decide +kernel
theorem dX0_fitOf_15 : decode cX0_fitOf 15 = .ok (.if_icmp .ge 5, 3) := by decide +kernel
theorem dX0_fitOf_18 : decode cX0_fitOf 18 = .ok (.iconst 2, 1) := by decide +kernel
theorem dX0_fitOf_19 : decode cX0_fitOf 19 = .ok (.ireturn, 1) := by decide +kernel
theorem dX0_fitOf_20 : decode cX0_fitOf 20 = .ok (.aload_n 0, 1) := by decide +kernel
theorem dX0_fitOf_21 : decode cX0_fitOf 21 = .ok (.iload_n 3, 1) := by decide +kernel
theorem dX0_fitOf_22 : decode cX0_fitOf 22 = .ok (.iload_n 2, 1) := by decide +kernel
theorem dX0_fitOf_23 : decode cX0_fitOf 23 = .ok (.iload 4, 2) := by decide +kernel
theorem dX0_fitOf_25 : decode cX0_fitOf 25 = .ok (.invokevirtual 156, 3) := by decide +kernel
theorem dX0_fitOf_28 : decode cX0_fitOf 28 = .ok (.ifCond .eq 7, 3) := by decide +kernel
theorem dX0_fitOf_31 : decode cX0_fitOf 31 = .ok (.iconst 1, 1) := by decide +kernel
theorem dX0_fitOf_32 : decode cX0_fitOf 32 = .ok (.goto 4, 3) := by decide +kernel
theorem dX0_fitOf_35 : decode cX0_fitOf 35 = .ok (.iconst 0, 1) := by decide +kernel
theorem dX0_fitOf_36 : decode cX0_fitOf 36 = .ok (.ireturn, 1) := by decide +kernel
theorem dX0_turnsThatFit_0 : decode cX0_turnsThatFit 0 = .ok (.iconst 0, 1) := by decide +kernel
theorem dX0_turnsThatFit_1 : decode cX0_turnsThatFit 1 = .ok (.istore_n 3, 1) := by decide +kernel
theorem dX0_turnsThatFit_2 : decode cX0_turnsThatFit 2 = .ok (.iconst 0, 1) := by decide +kernel
theorem dX0_turnsThatFit_3 : decode cX0_turnsThatFit 3 = .ok (.istore 4, 2) := by decide +kernel
theorem dX0_turnsThatFit_5 : decode cX0_turnsThatFit 5 = .ok (.iload 4, 2) := by decide +kernel
theorem dX0_turnsThatFit_7 : decode cX0_turnsThatFit 7 = .ok (.aload_n 0, 1) := by decide +kernel
theorem dX0_turnsThatFit_8 : decode cX0_turnsThatFit 8 = .ok (.getfield 44, 3) := by decide +kernel
theorem dX0_turnsThatFit_11 : decode cX0_turnsThatFit 11 = .ok (.if_icmp .ge 40, 3) := by decide +kernel
theorem dX0_turnsThatFit_14 : decode cX0_turnsThatFit 14 = .ok (.aload_n 0, 1) := by decide +kernel
theorem dX0_turnsThatFit_15 : decode cX0_turnsThatFit 15 = .ok (.iload_n 1, 1) := by decide +kernel
theorem dX0_turnsThatFit_16 : decode cX0_turnsThatFit 16 = .ok (.iload_n 2, 1) := by decide +kernel
theorem dX0_turnsThatFit_17 : decode cX0_turnsThatFit 17 = .ok (.iload 4, 2) := by decide +kernel
theorem dX0_turnsThatFit_19 : decode cX0_turnsThatFit 19 = .ok (.invokevirtual 164, 3) := by decide +kernel
theorem dX0_turnsThatFit_22 : decode cX0_turnsThatFit 22 = .ok (.istore 5, 2) := by decide +kernel
theorem dX0_turnsThatFit_24 : decode cX0_turnsThatFit 24 = .ok (.iload 5, 2) := by decide +kernel
theorem dX0_turnsThatFit_26 : decode cX0_turnsThatFit 26 = .ok (.ifCond .ne 5, 3) := by decide +kernel
theorem dX0_turnsThatFit_29 : decode cX0_turnsThatFit 29 = .ok (.iconst (-1), 1) := by decide +kernel
theorem dX0_turnsThatFit_30 : decode cX0_turnsThatFit 30 = .ok (.ireturn, 1) := by decide +kernel
theorem dX0_turnsThatFit_31 : decode cX0_turnsThatFit 31 = .ok (.iload_n 3, 1) := by decide +kernel
theorem dX0_turnsThatFit_32 : decode cX0_turnsThatFit 32 = .ok (.iload 5, 2) := by decide +kernel
theorem dX0_turnsThatFit_34 : decode cX0_turnsThatFit 34 = .ok (.iconst 1, 1) := by decide +kernel
theorem dX0_turnsThatFit_35 : decode cX0_turnsThatFit 35 = .ok (.if_icmp .ne 7, 3) := by decide +kernel
theorem dX0_turnsThatFit_38 : decode cX0_turnsThatFit 38 = .ok (.iconst 1, 1) := by decide +kernel
theorem dX0_turnsThatFit_39 : decode cX0_turnsThatFit 39 = .ok (.goto 4, 3) := by decide +kernel
theorem dX0_turnsThatFit_42 : decode cX0_turnsThatFit 42 = .ok (.iconst 0, 1) := by decide +kernel
theorem dX0_turnsThatFit_43 : decode cX0_turnsThatFit 43 = .ok (.iadd, 1) := by decide +kernel
theorem dX0_turnsThatFit_44 : decode cX0_turnsThatFit 44 = .ok (.istore_n 3, 1) := by decide +kernel
theorem dX0_turnsThatFit_45 : decode cX0_turnsThatFit 45 = .ok (.iinc 4 1, 3) := by decide +kernel
theorem dX0_turnsThatFit_48 : decode cX0_turnsThatFit 48 = .ok (.goto (-43), 3) := by decide +kernel
theorem dX0_turnsThatFit_51 : decode cX0_turnsThatFit 51 = .ok (.iload_n 3, 1) := by decide +kernel
theorem dX0_turnsThatFit_52 : decode cX0_turnsThatFit 52 = .ok (.ireturn, 1) := by decide +kernel
theorem dX0_isToldSource_0 : decode cX0_isToldSource 0 = .ok (.aload_n 0, 1) := by decide +kernel
theorem dX0_isToldSource_1 : decode cX0_isToldSource 1 = .ok (.aload_n 0, 1) := by decide +kernel
theorem dX0_isToldSource_2 : decode cX0_isToldSource 2 = .ok (.iload_n 1, 1) := by decide +kernel
theorem dX0_isToldSource_3 : decode cX0_isToldSource 3 = .ok (.invokevirtual 129, 3) := by decide +kernel
theorem dX0_isToldSource_6 : decode cX0_isToldSource 6 = .ok (.aload_n 0, 1) := by decide +kernel
theorem dX0_isToldSource_7 : decode cX0_isToldSource 7 = .ok (.iload_n 1, 1) := by decide +kernel
theorem dX0_isToldSource_8 : decode cX0_isToldSource 8 = .ok (.invokevirtual 125, 3) := by decide +kernel
theorem dX0_isToldSource_11 : decode cX0_isToldSource 11 = .ok (.invokevirtual 167, 3) := by decide +kernel
theorem dX0_isToldSource_14 : decode cX0_isToldSource 14 = .ok (.ifCond .le 7, 3) := by decide +kernel
theorem dX0_isToldSource_17 : decode cX0_isToldSource 17 = .ok (.iconst 1, 1) := by decide +kernel
theorem dX0_isToldSource_18 : decode cX0_isToldSource 18 = .ok (.goto 4, 3) := by decide +kernel
theorem dX0_isToldSource_21 : decode cX0_isToldSource 21 = .ok (.iconst 0, 1) := by decide +kernel
theorem dX0_isToldSource_22 : decode cX0_isToldSource 22 = .ok (.ireturn, 1) := by decide +kernel
theorem dX0_isTrue_0 : decode cX0_isTrue 0 = .ok (.aload_n 0, 1) := by decide +kernel
theorem dX0_isTrue_1 : decode cX0_isTrue 1 = .ok (.iload_n 1, 1) := by decide +kernel
theorem dX0_isTrue_2 : decode cX0_isTrue 2 = .ok (.iload_n 2, 1) := by decide +kernel
theorem dX0_isTrue_3 : decode cX0_isTrue 3 = .ok (.aload_n 0, 1) := by decide +kernel
theorem dX0_isTrue_4 : decode cX0_isTrue 4 = .ok (.getfield 40, 3) := by decide +kernel
theorem dX0_isTrue_7 : decode cX0_isTrue 7 = .ok (.invokevirtual 170, 3) := by decide +kernel
theorem dX0_isTrue_10 : decode cX0_isTrue 10 = .ok (.ifCond .le 7, 3) := by decide +kernel
theorem dX0_isTrue_13 : decode cX0_isTrue 13 = .ok (.iconst 1, 1) := by decide +kernel
theorem dX0_isTrue_14 : decode cX0_isTrue 14 = .ok (.goto 4, 3) := by decide +kernel
theorem dX0_isTrue_17 : decode cX0_isTrue 17 = .ok (.iconst 0, 1) := by decide +kernel
theorem dX0_isTrue_18 : decode cX0_isTrue 18 = .ok (.ireturn, 1) := by decide +kernel
theorem dX0_sourcesAt_0 : decode cX0_sourcesAt 0 = .ok (.iconst 0, 1) := by decide +kernel
theorem dX0_sourcesAt_1 : decode cX0_sourcesAt 1 = .ok (.istore 4, 2) := by decide +kernel
theorem dX0_sourcesAt_3 : decode cX0_sourcesAt 3 = .ok (.iconst 0, 1) := by decide +kernel
theorem dX0_sourcesAt_4 : decode cX0_sourcesAt 4 = .ok (.istore 5, 2) := by decide +kernel
theorem dX0_sourcesAt_6 : decode cX0_sourcesAt 6 = .ok (.iload 5, 2) := by decide +kernel
theorem dX0_sourcesAt_8 : decode cX0_sourcesAt 8 = .ok (.iload_n 3, 1) := by decide +kernel
theorem dX0_sourcesAt_9 : decode cX0_sourcesAt 9 = .ok (.if_icmp .ge 32, 3) := by decide +kernel
theorem dX0_sourcesAt_12 : decode cX0_sourcesAt 12 = .ok (.aload_n 0, 1) := by decide +kernel
theorem dX0_sourcesAt_13 : decode cX0_sourcesAt 13 = .ok (.iload 5, 2) := by decide +kernel
theorem dX0_sourcesAt_15 : decode cX0_sourcesAt 15 = .ok (.invokevirtual 129, 3) := by decide +kernel
theorem dX0_sourcesAt_18 : decode cX0_sourcesAt 18 = .ok (.iload_n 1, 1) := by decide +kernel
theorem dX0_sourcesAt_19 : decode cX0_sourcesAt 19 = .ok (.if_icmp .ne 16, 3) := by decide +kernel
theorem dX0_sourcesAt_22 : decode cX0_sourcesAt 22 = .ok (.aload_n 0, 1) := by decide +kernel
theorem dX0_sourcesAt_23 : decode cX0_sourcesAt 23 = .ok (.iload 5, 2) := by decide +kernel
theorem dX0_sourcesAt_25 : decode cX0_sourcesAt 25 = .ok (.invokevirtual 125, 3) := by decide +kernel
theorem dX0_sourcesAt_28 : decode cX0_sourcesAt 28 = .ok (.iload_n 2, 1) := by decide +kernel
theorem dX0_sourcesAt_29 : decode cX0_sourcesAt 29 = .ok (.if_icmp .ne 6, 3) := by decide +kernel
theorem dX0_sourcesAt_32 : decode cX0_sourcesAt 32 = .ok (.iinc 4 1, 3) := by decide +kernel
theorem dX0_sourcesAt_35 : decode cX0_sourcesAt 35 = .ok (.iinc 5 1, 3) := by decide +kernel
theorem dX0_sourcesAt_38 : decode cX0_sourcesAt 38 = .ok (.goto (-32), 3) := by decide +kernel
theorem dX0_sourcesAt_41 : decode cX0_sourcesAt 41 = .ok (.iload 4, 2) := by decide +kernel
theorem dX0_sourcesAt_43 : decode cX0_sourcesAt 43 = .ok (.ireturn, 1) := by decide +kernel
theorem dX0_toldCount_0 : decode cX0_toldCount 0 = .ok (.iconst 0, 1) := by decide +kernel
theorem dX0_toldCount_1 : decode cX0_toldCount 1 = .ok (.istore_n 1, 1) := by decide +kernel
theorem dX0_toldCount_2 : decode cX0_toldCount 2 = .ok (.iconst 1, 1) := by decide +kernel
theorem dX0_toldCount_3 : decode cX0_toldCount 3 = .ok (.istore_n 2, 1) := by decide +kernel
theorem dX0_toldCount_4 : decode cX0_toldCount 4 = .ok (.iload_n 2, 1) := by decide +kernel
theorem dX0_toldCount_5 : decode cX0_toldCount 5 = .ok (.sipush 600, 3) := by decide +kernel
theorem dX0_toldCount_8 : decode cX0_toldCount 8 = .ok (.if_icmp .gt 51, 3) := by decide +kernel
theorem dX0_toldCount_11 : decode cX0_toldCount 11 = .ok (.iconst 0, 1) := by decide +kernel
theorem dX0_toldCount_12 : decode cX0_toldCount 12 = .ok (.istore_n 3, 1) := by decide +kernel
theorem dX0_toldCount_13 : decode cX0_toldCount 13 = .ok (.iload_n 3, 1) := by decide +kernel
theorem dX0_toldCount_14 : decode cX0_toldCount 14 = .ok (.aload_n 0, 1) := by decide +kernel
theorem dX0_toldCount_15 : decode cX0_toldCount 15 = .ok (.getfield 119, 3) := by decide +kernel
theorem dX0_toldCount_18 : decode cX0_toldCount 18 = .ok (.if_icmp .ge 35, 3) := by decide +kernel
theorem dX0_toldCount_21 : decode cX0_toldCount 21 = .ok (.iload_n 3, 1) := by decide +kernel
theorem dX0_toldCount_22 : decode cX0_toldCount 22 = .ok (.aload_n 0, 1) := by decide +kernel
theorem dX0_toldCount_23 : decode cX0_toldCount 23 = .ok (.getfield 34, 3) := by decide +kernel
theorem dX0_toldCount_26 : decode cX0_toldCount 26 = .ok (.arraylength, 1) := by decide +kernel
theorem dX0_toldCount_27 : decode cX0_toldCount 27 = .ok (.if_icmp .ge 26, 3) := by decide +kernel
theorem dX0_toldCount_30 : decode cX0_toldCount 30 = .ok (.aload_n 0, 1) := by decide +kernel
theorem dX0_toldCount_31 : decode cX0_toldCount 31 = .ok (.iload_n 2, 1) := by decide +kernel
theorem dX0_toldCount_32 : decode cX0_toldCount 32 = .ok (.aload_n 0, 1) := by decide +kernel
theorem dX0_toldCount_33 : decode cX0_toldCount 33 = .ok (.getfield 34, 3) := by decide +kernel
theorem dX0_toldCount_36 : decode cX0_toldCount 36 = .ok (.iload_n 3, 1) := by decide +kernel
theorem dX0_toldCount_37 : decode cX0_toldCount 37 = .ok (.iaload, 1) := by decide +kernel
theorem dX0_toldCount_38 : decode cX0_toldCount 38 = .ok (.invokevirtual 167, 3) := by decide +kernel
theorem dX0_toldCount_41 : decode cX0_toldCount 41 = .ok (.ifCond .le 6, 3) := by decide +kernel
theorem dX0_toldCount_44 : decode cX0_toldCount 44 = .ok (.iinc 1 1, 3) := by decide +kernel
theorem dX0_toldCount_47 : decode cX0_toldCount 47 = .ok (.iinc 3 1, 3) := by decide +kernel
theorem dX0_toldCount_50 : decode cX0_toldCount 50 = .ok (.goto (-37), 3) := by decide +kernel
theorem dX0_toldCount_53 : decode cX0_toldCount 53 = .ok (.iinc 2 1, 3) := by decide +kernel
theorem dX0_toldCount_56 : decode cX0_toldCount 56 = .ok (.goto (-52), 3) := by decide +kernel
theorem dX0_toldCount_59 : decode cX0_toldCount 59 = .ok (.iload_n 1, 1) := by decide +kernel
theorem dX0_toldCount_60 : decode cX0_toldCount 60 = .ok (.ireturn, 1) := by decide +kernel
theorem dX0_findTold_0 : decode cX0_findTold 0 = .ok (.iload_n 1, 1) := by decide +kernel
theorem dX0_findTold_1 : decode cX0_findTold 1 = .ok (.istore_n 2, 1) := by decide +kernel
theorem dX0_findTold_2 : decode cX0_findTold 2 = .ok (.iconst 1, 1) := by decide +kernel
theorem dX0_findTold_3 : decode cX0_findTold 3 = .ok (.istore_n 3, 1) := by decide +kernel
theorem dX0_findTold_4 : decode cX0_findTold 4 = .ok (.iload_n 3, 1) := by decide +kernel
theorem dX0_findTold_5 : decode cX0_findTold 5 = .ok (.sipush 600, 3) := by decide +kernel
theorem dX0_findTold_8 : decode cX0_findTold 8 = .ok (.if_icmp .gt 71, 3) := by decide +kernel
theorem dX0_findTold_11 : decode cX0_findTold 11 = .ok (.iconst 0, 1) := by decide +kernel
theorem dX0_findTold_12 : decode cX0_findTold 12 = .ok (.istore 4, 2) := by decide +kernel
theorem dX0_findTold_14 : decode cX0_findTold 14 = .ok (.iload 4, 2) := by decide +kernel
theorem dX0_findTold_16 : decode cX0_findTold 16 = .ok (.aload_n 0, 1) := by decide +kernel
theorem dX0_findTold_17 : decode cX0_findTold 17 = .ok (.getfield 119, 3) := by decide +kernel
theorem dX0_findTold_20 : decode cX0_findTold 20 = .ok (.if_icmp .ge 53, 3) := by decide +kernel
theorem dX0_findTold_23 : decode cX0_findTold 23 = .ok (.iload 4, 2) := by decide +kernel
theorem dX0_findTold_25 : decode cX0_findTold 25 = .ok (.aload_n 0, 1) := by decide +kernel
theorem dX0_findTold_26 : decode cX0_findTold 26 = .ok (.getfield 34, 3) := by decide +kernel
theorem dX0_findTold_29 : decode cX0_findTold 29 = .ok (.arraylength, 1) := by decide +kernel
theorem dX0_findTold_30 : decode cX0_findTold 30 = .ok (.if_icmp .ge 43, 3) := by decide +kernel
theorem dX0_findTold_33 : decode cX0_findTold 33 = .ok (.aload_n 0, 1) := by decide +kernel
theorem dX0_findTold_34 : decode cX0_findTold 34 = .ok (.iload_n 3, 1) := by decide +kernel
theorem dX0_findTold_35 : decode cX0_findTold 35 = .ok (.aload_n 0, 1) := by decide +kernel
theorem dX0_findTold_36 : decode cX0_findTold 36 = .ok (.getfield 34, 3) := by decide +kernel
theorem dX0_findTold_39 : decode cX0_findTold 39 = .ok (.iload 4, 2) := by decide +kernel
theorem dX0_findTold_41 : decode cX0_findTold 41 = .ok (.iaload, 1) := by decide +kernel
theorem dX0_findTold_42 : decode cX0_findTold 42 = .ok (.invokevirtual 167, 3) := by decide +kernel
theorem dX0_findTold_45 : decode cX0_findTold 45 = .ok (.ifCond .le 22, 3) := by decide +kernel
theorem dX0_findTold_48 : decode cX0_findTold 48 = .ok (.iload_n 2, 1) := by decide +kernel
theorem dX0_findTold_49 : decode cX0_findTold 49 = .ok (.ifCond .ne 15, 3) := by decide +kernel
theorem dX0_findTold_52 : decode cX0_findTold 52 = .ok (.iload_n 3, 1) := by decide +kernel
theorem dX0_findTold_53 : decode cX0_findTold 53 = .ok (.aload_n 0, 1) := by decide +kernel
theorem dX0_findTold_54 : decode cX0_findTold 54 = .ok (.getfield 34, 3) := by decide +kernel
theorem dX0_findTold_57 : decode cX0_findTold 57 = .ok (.iload 4, 2) := by decide +kernel
theorem dX0_findTold_59 : decode cX0_findTold 59 = .ok (.iaload, 1) := by decide +kernel
theorem dX0_findTold_60 : decode cX0_findTold 60 = .ok (.invokestatic 134, 3) := by decide +kernel
theorem dX0_findTold_63 : decode cX0_findTold 63 = .ok (.ireturn, 1) := by decide +kernel
theorem dX0_findTold_64 : decode cX0_findTold 64 = .ok (.iinc 2 (-1), 3) := by decide +kernel
theorem dX0_findTold_67 : decode cX0_findTold 67 = .ok (.iinc 4 1, 3) := by decide +kernel
theorem dX0_findTold_70 : decode cX0_findTold 70 = .ok (.goto (-56), 3) := by decide +kernel
theorem dX0_findTold_73 : decode cX0_findTold 73 = .ok (.iinc 3 1, 3) := by decide +kernel
theorem dX0_findTold_76 : decode cX0_findTold 76 = .ok (.goto (-72), 3) := by decide +kernel
theorem dX0_findTold_79 : decode cX0_findTold 79 = .ok (.bipush (-4), 2) := by decide +kernel
theorem dX0_findTold_81 : decode cX0_findTold 81 = .ok (.ireturn, 1) := by decide +kernel
theorem dX0_trueCount_0 : decode cX0_trueCount 0 = .ok (.iconst 0, 1) := by decide +kernel
theorem dX0_trueCount_1 : decode cX0_trueCount 1 = .ok (.istore_n 1, 1) := by decide +kernel
theorem dX0_trueCount_2 : decode cX0_trueCount 2 = .ok (.iconst 0, 1) := by decide +kernel
theorem dX0_trueCount_3 : decode cX0_trueCount 3 = .ok (.istore_n 2, 1) := by decide +kernel
theorem dX0_trueCount_4 : decode cX0_trueCount 4 = .ok (.iload_n 2, 1) := by decide +kernel
theorem dX0_trueCount_5 : decode cX0_trueCount 5 = .ok (.aload_n 0, 1) := by decide +kernel
theorem dX0_trueCount_6 : decode cX0_trueCount 6 = .ok (.getfield 40, 3) := by decide +kernel
theorem dX0_trueCount_9 : decode cX0_trueCount 9 = .ok (.if_icmp .ge 38, 3) := by decide +kernel
theorem dX0_trueCount_12 : decode cX0_trueCount 12 = .ok (.aload_n 0, 1) := by decide +kernel
theorem dX0_trueCount_13 : decode cX0_trueCount 13 = .ok (.iload_n 2, 1) := by decide +kernel
theorem dX0_trueCount_14 : decode cX0_trueCount 14 = .ok (.invokevirtual 173, 3) := by decide +kernel
theorem dX0_trueCount_17 : decode cX0_trueCount 17 = .ok (.ifCond .eq 24, 3) := by decide +kernel
theorem dX0_trueCount_20 : decode cX0_trueCount 20 = .ok (.aload_n 0, 1) := by decide +kernel
theorem dX0_trueCount_21 : decode cX0_trueCount 21 = .ok (.aload_n 0, 1) := by decide +kernel
theorem dX0_trueCount_22 : decode cX0_trueCount 22 = .ok (.iload_n 2, 1) := by decide +kernel
theorem dX0_trueCount_23 : decode cX0_trueCount 23 = .ok (.invokevirtual 129, 3) := by decide +kernel
theorem dX0_trueCount_26 : decode cX0_trueCount 26 = .ok (.aload_n 0, 1) := by decide +kernel
theorem dX0_trueCount_27 : decode cX0_trueCount 27 = .ok (.iload_n 2, 1) := by decide +kernel
theorem dX0_trueCount_28 : decode cX0_trueCount 28 = .ok (.invokevirtual 125, 3) := by decide +kernel
theorem dX0_trueCount_31 : decode cX0_trueCount 31 = .ok (.iload_n 2, 1) := by decide +kernel
theorem dX0_trueCount_32 : decode cX0_trueCount 32 = .ok (.invokevirtual 170, 3) := by decide +kernel
theorem dX0_trueCount_35 : decode cX0_trueCount 35 = .ok (.ifCond .ne 6, 3) := by decide +kernel
theorem dX0_trueCount_38 : decode cX0_trueCount 38 = .ok (.iinc 1 1, 3) := by decide +kernel
theorem dX0_trueCount_41 : decode cX0_trueCount 41 = .ok (.iinc 2 1, 3) := by decide +kernel
theorem dX0_trueCount_44 : decode cX0_trueCount 44 = .ok (.goto (-40), 3) := by decide +kernel
theorem dX0_trueCount_47 : decode cX0_trueCount 47 = .ok (.iload_n 1, 1) := by decide +kernel
theorem dX0_trueCount_48 : decode cX0_trueCount 48 = .ok (.ireturn, 1) := by decide +kernel
theorem dX0_missedCount_0 : decode cX0_missedCount 0 = .ok (.iconst 0, 1) := by decide +kernel
theorem dX0_missedCount_1 : decode cX0_missedCount 1 = .ok (.istore_n 1, 1) := by decide +kernel
theorem dX0_missedCount_2 : decode cX0_missedCount 2 = .ok (.iconst 0, 1) := by decide +kernel
theorem dX0_missedCount_3 : decode cX0_missedCount 3 = .ok (.istore_n 2, 1) := by decide +kernel
theorem dX0_missedCount_4 : decode cX0_missedCount 4 = .ok (.iload_n 2, 1) := by decide +kernel
theorem dX0_missedCount_5 : decode cX0_missedCount 5 = .ok (.aload_n 0, 1) := by decide +kernel
theorem dX0_missedCount_6 : decode cX0_missedCount 6 = .ok (.getfield 40, 3) := by decide +kernel
theorem dX0_missedCount_9 : decode cX0_missedCount 9 = .ok (.if_icmp .ge 25, 3) := by decide +kernel
theorem dX0_missedCount_12 : decode cX0_missedCount 12 = .ok (.iload_n 1, 1) := by decide +kernel
theorem dX0_missedCount_13 : decode cX0_missedCount 13 = .ok (.aload_n 0, 1) := by decide +kernel
theorem dX0_missedCount_14 : decode cX0_missedCount 14 = .ok (.iload_n 2, 1) := by decide +kernel
theorem dX0_missedCount_15 : decode cX0_missedCount 15 = .ok (.invokevirtual 173, 3) := by decide +kernel
theorem dX0_missedCount_18 : decode cX0_missedCount 18 = .ok (.ifCond .eq 7, 3) := by decide +kernel
theorem dX0_missedCount_21 : decode cX0_missedCount 21 = .ok (.iconst 0, 1) := by decide +kernel
theorem dX0_missedCount_22 : decode cX0_missedCount 22 = .ok (.goto 4, 3) := by decide +kernel
theorem dX0_missedCount_25 : decode cX0_missedCount 25 = .ok (.iconst 1, 1) := by decide +kernel
theorem dX0_missedCount_26 : decode cX0_missedCount 26 = .ok (.iadd, 1) := by decide +kernel
theorem dX0_missedCount_27 : decode cX0_missedCount 27 = .ok (.istore_n 1, 1) := by decide +kernel
theorem dX0_missedCount_28 : decode cX0_missedCount 28 = .ok (.iinc 2 1, 3) := by decide +kernel
theorem dX0_missedCount_31 : decode cX0_missedCount 31 = .ok (.goto (-27), 3) := by decide +kernel
theorem dX0_missedCount_34 : decode cX0_missedCount 34 = .ok (.iload_n 1, 1) := by decide +kernel
theorem dX0_missedCount_35 : decode cX0_missedCount 35 = .ok (.ireturn, 1) := by decide +kernel
