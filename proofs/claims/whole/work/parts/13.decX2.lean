theorem dX2_read_0 : decode cX2_read 0 = .ok (.aload_n 0, 1) := by decide +kernel
theorem dX2_read_1 : decode cX2_read 1 = .ok (.iconst 0, 1) := by decide +kernel
theorem dX2_read_2 : decode cX2_read 2 = .ok (.putfield 28, 3) := by decide +kernel
theorem dX2_read_5 : decode cX2_read 5 = .ok (.aload_n 0, 1) := by decide +kernel
theorem dX2_read_6 : decode cX2_read 6 = .ok (.iconst 0, 1) := by decide +kernel
theorem dX2_read_7 : decode cX2_read 7 = .ok (.putfield 32, 3) := by decide +kernel
theorem dX2_read_10 : decode cX2_read 10 = .ok (.aload_n 0, 1) := by decide +kernel
theorem dX2_read_11 : decode cX2_read 11 = .ok (.iconst 0, 1) := by decide +kernel
theorem dX2_read_12 : decode cX2_read 12 = .ok (.putfield 35, 3) := by decide +kernel
theorem dX2_read_15 : decode cX2_read 15 = .ok (.iconst 0, 1) := by decide +kernel
theorem dX2_read_16 : decode cX2_read 16 = .ok (.istore_n 2, 1) := by decide +kernel
theorem dX2_read_17 : decode cX2_read 17 = .ok (.iload_n 2, 1) := by decide +kernel
theorem dX2_read_18 : decode cX2_read 18 = .ok (.aload_n 1, 1) := by decide +kernel
theorem dX2_read_19 : decode cX2_read 19 = .ok (.invokevirtual 38, 3) := by decide +kernel
theorem dX2_read_22 : decode cX2_read 22 = .ok (.if_icmp .ge 23, 3) := by decide +kernel
theorem dX2_read_25 : decode cX2_read 25 = .ok (.aload_n 0, 1) := by decide +kernel
theorem dX2_read_26 : decode cX2_read 26 = .ok (.aload_n 1, 1) := by decide +kernel
theorem dX2_read_27 : decode cX2_read 27 = .ok (.iload_n 2, 1) := by decide +kernel
theorem dX2_read_28 : decode cX2_read 28 = .ok (.invokevirtual 44, 3) := by decide +kernel
theorem dX2_read_31 : decode cX2_read 31 = .ok (.invokevirtual 48, 3) := by decide +kernel
theorem dX2_read_34 : decode cX2_read 34 = .ok (.ifCond .ne 5, 3) := by decide +kernel
theorem dX2_read_37 : decode cX2_read 37 = .ok (.iload_n 2, 1) := by decide +kernel
theorem dX2_read_38 : decode cX2_read 38 = .ok (.ireturn, 1) := by decide +kernel
theorem dX2_read_39 : decode cX2_read 39 = .ok (.iinc 2 1, 3) := by decide +kernel
theorem dX2_read_42 : decode cX2_read 42 = .ok (.goto (-25), 3) := by decide +kernel
theorem dX2_read_45 : decode cX2_read 45 = .ok (.aload_n 0, 1) := by decide +kernel
theorem dX2_read_46 : decode cX2_read 46 = .ok (.invokevirtual 52, 3) := by decide +kernel
theorem dX2_read_49 : decode cX2_read 49 = .ok (.ifCond .ne 8, 3) := by decide +kernel
theorem dX2_read_52 : decode cX2_read 52 = .ok (.aload_n 1, 1) := by decide +kernel
theorem dX2_read_53 : decode cX2_read 53 = .ok (.invokevirtual 38, 3) := by decide +kernel
theorem dX2_read_56 : decode cX2_read 56 = .ok (.ireturn, 1) := by decide +kernel
theorem dX2_read_57 : decode cX2_read 57 = .ok (.aload_n 0, 1) := by decide +kernel
theorem dX2_read_58 : decode cX2_read 58 = .ok (.getfield 35, 3) := by decide +kernel
theorem dX2_read_61 : decode cX2_read 61 = .ok (.iconst 4, 1) := by decide +kernel
theorem dX2_read_62 : decode cX2_read 62 = .ok (.if_icmp .ne 12, 3) := by decide +kernel
theorem dX2_read_65 : decode cX2_read 65 = .ok (.aload_n 0, 1) := by decide +kernel
theorem dX2_read_66 : decode cX2_read 66 = .ok (.aload_n 0, 1) := by decide +kernel
theorem dX2_read_67 : decode cX2_read 67 = .ok (.getfield 56, 3) := by decide +kernel
theorem dX2_read_70 : decode cX2_read 70 = .ok (.iconst 0, 1) := by decide +kernel
theorem dX2_read_71 : decode cX2_read 71 = .ok (.invokevirtual 59, 3) := by decide +kernel
theorem dX2_read_74 : decode cX2_read 74 = .ok (.bipush (-4), 2) := by decide +kernel
theorem dX2_read_76 : decode cX2_read 76 = .ok (.ireturn, 1) := by decide +kernel
theorem dX2_targetCount_0 : decode cX2_targetCount 0 = .ok (.aload_n 0, 1) := by decide +kernel
theorem dX2_targetCount_1 : decode cX2_targetCount 1 = .ok (.getfield 28, 3) := by decide +kernel
theorem dX2_targetCount_4 : decode cX2_targetCount 4 = .ok (.ireturn, 1) := by decide +kernel
theorem dX2_hasTwins_0 : decode cX2_hasTwins 0 = .ok (.iconst 0, 1) := by decide +kernel
theorem dX2_hasTwins_1 : decode cX2_hasTwins 1 = .ok (.istore_n 1, 1) := by decide +kernel
theorem dX2_hasTwins_2 : decode cX2_hasTwins 2 = .ok (.iload_n 1, 1) := by decide +kernel
theorem dX2_hasTwins_3 : decode cX2_hasTwins 3 = .ok (.aload_n 0, 1) := by decide +kernel
theorem dX2_hasTwins_4 : decode cX2_hasTwins 4 = .ok (.getfield 28, 3) := by decide +kernel
theorem dX2_hasTwins_7 : decode cX2_hasTwins 7 = .ok (.if_icmp .ge 60, 3) := by decide +kernel
theorem dX2_hasTwins_10 : decode cX2_hasTwins 10 = .ok (.iload_n 1, 1) := by decide +kernel
theorem dX2_hasTwins_11 : decode cX2_hasTwins 11 = .ok (.bipush 12, 2) := by decide +kernel
theorem dX2_hasTwins_13 : decode cX2_hasTwins 13 = .ok (.if_icmp .ge 54, 3) := by decide +kernel
theorem dX2_hasTwins_16 : decode cX2_hasTwins 16 = .ok (.iconst 0, 1) := by decide +kernel
theorem dX2_hasTwins_17 : decode cX2_hasTwins 17 = .ok (.istore_n 2, 1) := by decide +kernel
theorem dX2_hasTwins_18 : decode cX2_hasTwins 18 = .ok (.iload_n 2, 1) := by decide +kernel
theorem dX2_hasTwins_19 : decode cX2_hasTwins 19 = .ok (.iload_n 1, 1) := by decide +kernel
theorem dX2_hasTwins_20 : decode cX2_hasTwins 20 = .ok (.if_icmp .ge 41, 3) := by decide +kernel
theorem dX2_hasTwins_23 : decode cX2_hasTwins 23 = .ok (.aload_n 0, 1) := by decide +kernel
theorem dX2_hasTwins_24 : decode cX2_hasTwins 24 = .ok (.getfield 11, 3) := by decide +kernel
theorem dX2_hasTwins_27 : decode cX2_hasTwins 27 = .ok (.iload_n 1, 1) := by decide +kernel
theorem dX2_hasTwins_28 : decode cX2_hasTwins 28 = .ok (.iaload, 1) := by decide +kernel
theorem dX2_hasTwins_29 : decode cX2_hasTwins 29 = .ok (.aload_n 0, 1) := by decide +kernel
theorem dX2_hasTwins_30 : decode cX2_hasTwins 30 = .ok (.getfield 11, 3) := by decide +kernel
theorem dX2_hasTwins_33 : decode cX2_hasTwins 33 = .ok (.iload_n 2, 1) := by decide +kernel
theorem dX2_hasTwins_34 : decode cX2_hasTwins 34 = .ok (.iaload, 1) := by decide +kernel
theorem dX2_hasTwins_35 : decode cX2_hasTwins 35 = .ok (.if_icmp .ne 20, 3) := by decide +kernel
theorem dX2_hasTwins_38 : decode cX2_hasTwins 38 = .ok (.aload_n 0, 1) := by decide +kernel
theorem dX2_hasTwins_39 : decode cX2_hasTwins 39 = .ok (.getfield 18, 3) := by decide +kernel
theorem dX2_hasTwins_42 : decode cX2_hasTwins 42 = .ok (.iload_n 1, 1) := by decide +kernel
theorem dX2_hasTwins_43 : decode cX2_hasTwins 43 = .ok (.iaload, 1) := by decide +kernel
theorem dX2_hasTwins_44 : decode cX2_hasTwins 44 = .ok (.aload_n 0, 1) := by decide +kernel
theorem dX2_hasTwins_45 : decode cX2_hasTwins 45 = .ok (.getfield 18, 3) := by decide +kernel
theorem dX2_hasTwins_48 : decode cX2_hasTwins 48 = .ok (.iload_n 2, 1) := by decide +kernel
theorem dX2_hasTwins_49 : decode cX2_hasTwins 49 = .ok (.iaload, 1) := by decide +kernel
theorem dX2_hasTwins_50 : decode cX2_hasTwins 50 = .ok (.if_icmp .ne 5, 3) := by decide +kernel
theorem dX2_hasTwins_53 : decode cX2_hasTwins 53 = .ok (.iconst 1, 1) := by decide +kernel
theorem dX2_hasTwins_54 : decode cX2_hasTwins 54 = .ok (.ireturn, 1) := by decide +kernel
theorem dX2_hasTwins_55 : decode cX2_hasTwins 55 = .ok (.iinc 2 1, 3) := by decide +kernel
theorem dX2_hasTwins_58 : decode cX2_hasTwins 58 = .ok (.goto (-40), 3) := by decide +kernel
theorem dX2_hasTwins_61 : decode cX2_hasTwins 61 = .ok (.iinc 1 1, 3) := by decide +kernel
theorem dX2_hasTwins_64 : decode cX2_hasTwins 64 = .ok (.goto (-62), 3) := by decide +kernel
theorem dX2_hasTwins_67 : decode cX2_hasTwins 67 = .ok (.iconst 0, 1) := by decide +kernel
theorem dX2_hasTwins_68 : decode cX2_hasTwins 68 = .ok (.ireturn, 1) := by decide +kernel
theorem dX2_putInto_0 : decode cX2_putInto 0 = .ok (.aload_n 1, 1) := by decide +kernel
theorem dX2_putInto_1 : decode cX2_putInto 1 = .ok (.invokevirtual 63, 3) := by decide +kernel
theorem dX2_putInto_4 : decode cX2_putInto 4 = .ok (.iconst 0, 1) := by decide +kernel
theorem dX2_putInto_5 : decode cX2_putInto 5 = .ok (.istore_n 2, 1) := by decide +kernel
theorem dX2_putInto_6 : decode cX2_putInto 6 = .ok (.iload_n 2, 1) := by decide +kernel
theorem dX2_putInto_7 : decode cX2_putInto 7 = .ok (.aload_n 0, 1) := by decide +kernel
theorem dX2_putInto_8 : decode cX2_putInto 8 = .ok (.getfield 28, 3) := by decide +kernel
theorem dX2_putInto_11 : decode cX2_putInto 11 = .ok (.if_icmp .ge 44, 3) := by decide +kernel
theorem dX2_putInto_14 : decode cX2_putInto 14 = .ok (.iload_n 2, 1) := by decide +kernel
theorem dX2_putInto_15 : decode cX2_putInto 15 = .ok (.bipush 12, 2) := by decide +kernel
theorem dX2_putInto_17 : decode cX2_putInto 17 = .ok (.if_icmp .ge 38, 3) := by decide +kernel
theorem dX2_putInto_20 : decode cX2_putInto 20 = .ok (.aload_n 1, 1) := by decide +kernel
theorem dX2_putInto_21 : decode cX2_putInto 21 = .ok (.aload_n 0, 1) := by decide +kernel
theorem dX2_putInto_22 : decode cX2_putInto 22 = .ok (.getfield 11, 3) := by decide +kernel
theorem dX2_putInto_25 : decode cX2_putInto 25 = .ok (.iload_n 2, 1) := by decide +kernel
theorem dX2_putInto_26 : decode cX2_putInto 26 = .ok (.iaload, 1) := by decide +kernel
theorem dX2_putInto_27 : decode cX2_putInto 27 = .ok (.aload_n 0, 1) := by decide +kernel
theorem dX2_putInto_28 : decode cX2_putInto 28 = .ok (.getfield 15, 3) := by decide +kernel
theorem dX2_putInto_31 : decode cX2_putInto 31 = .ok (.iload_n 2, 1) := by decide +kernel
theorem dX2_putInto_32 : decode cX2_putInto 32 = .ok (.iaload, 1) := by decide +kernel
theorem dX2_putInto_33 : decode cX2_putInto 33 = .ok (.aload_n 0, 1) := by decide +kernel
theorem dX2_putInto_34 : decode cX2_putInto 34 = .ok (.getfield 18, 3) := by decide +kernel
theorem dX2_putInto_37 : decode cX2_putInto 37 = .ok (.iload_n 2, 1) := by decide +kernel
theorem dX2_putInto_38 : decode cX2_putInto 38 = .ok (.iaload, 1) := by decide +kernel
theorem dX2_putInto_39 : decode cX2_putInto 39 = .ok (.aload_n 0, 1) := by decide +kernel
theorem dX2_putInto_40 : decode cX2_putInto 40 = .ok (.getfield 21, 3) := by decide +kernel
theorem dX2_putInto_43 : decode cX2_putInto 43 = .ok (.iload_n 2, 1) := by decide +kernel
theorem dX2_putInto_44 : decode cX2_putInto 44 = .ok (.baload, 1) := by decide +kernel
theorem dX2_putInto_45 : decode cX2_putInto 45 = .ok (.invokevirtual 68, 3) := by decide +kernel
theorem dX2_putInto_48 : decode cX2_putInto 48 = .ok (.pop, 1) := by decide +kernel
theorem dX2_putInto_49 : decode cX2_putInto 49 = .ok (.iinc 2 1, 3) := by decide +kernel
theorem dX2_putInto_52 : decode cX2_putInto 52 = .ok (.goto (-46), 3) := by decide +kernel
theorem dX2_putInto_55 : decode cX2_putInto 55 = .ok (.aload_n 0, 1) := by decide +kernel
theorem dX2_putInto_56 : decode cX2_putInto 56 = .ok (.getfield 32, 3) := by decide +kernel
theorem dX2_putInto_59 : decode cX2_putInto 59 = .ok (.ifCond .le 7, 3) := by decide +kernel
theorem dX2_putInto_62 : decode cX2_putInto 62 = .ok (.aload_n 1, 1) := by decide +kernel
theorem dX2_putInto_63 : decode cX2_putInto 63 = .ok (.invokevirtual 72, 3) := by decide +kernel
theorem dX2_putInto_66 : decode cX2_putInto 66 = .ok (.iconst 0, 1) := by decide +kernel
theorem dX2_putInto_67 : decode cX2_putInto 67 = .ok (.istore_n 2, 1) := by decide +kernel
theorem dX2_putInto_68 : decode cX2_putInto 68 = .ok (.iload_n 2, 1) := by decide +kernel
theorem dX2_putInto_69 : decode cX2_putInto 69 = .ok (.aload_n 0, 1) := by decide +kernel
theorem dX2_putInto_70 : decode cX2_putInto 70 = .ok (.getfield 32, 3) := by decide +kernel
theorem dX2_putInto_73 : decode cX2_putInto 73 = .ok (.if_icmp .ge 24, 3) := by decide +kernel
theorem dX2_putInto_76 : decode cX2_putInto 76 = .ok (.iload_n 2, 1) := by decide +kernel
theorem dX2_putInto_77 : decode cX2_putInto 77 = .ok (.iconst 4, 1) := by decide +kernel
theorem dX2_putInto_78 : decode cX2_putInto 78 = .ok (.if_icmp .ge 19, 3) := by decide +kernel
theorem dX2_putInto_81 : decode cX2_putInto 81 = .ok (.aload_n 1, 1) := by decide +kernel
theorem dX2_putInto_82 : decode cX2_putInto 82 = .ok (.aload_n 0, 1) := by decide +kernel
theorem dX2_putInto_83 : decode cX2_putInto 83 = .ok (.getfield 25, 3) := by decide +kernel
theorem dX2_putInto_86 : decode cX2_putInto 86 = .ok (.iload_n 2, 1) := by decide +kernel
theorem dX2_putInto_87 : decode cX2_putInto 87 = .ok (.iaload, 1) := by decide +kernel
theorem dX2_putInto_88 : decode cX2_putInto 88 = .ok (.invokevirtual 75, 3) := by decide +kernel
theorem dX2_putInto_91 : decode cX2_putInto 91 = .ok (.iinc 2 1, 3) := by decide +kernel
theorem dX2_putInto_94 : decode cX2_putInto 94 = .ok (.goto (-26), 3) := by decide +kernel
theorem dX2_putInto_97 : decode cX2_putInto 97 = .ok (.return_, 1) := by decide +kernel
theorem dX2_isComplete_0 : decode cX2_isComplete 0 = .ok (.aload_n 0, 1) := by decide +kernel
theorem dX2_isComplete_1 : decode cX2_isComplete 1 = .ok (.getfield 35, 3) := by decide +kernel
theorem dX2_isComplete_4 : decode cX2_isComplete 4 = .ok (.iconst 4, 1) := by decide +kernel
theorem dX2_isComplete_5 : decode cX2_isComplete 5 = .ok (.if_icmp .eq 21, 3) := by decide +kernel
theorem dX2_isComplete_8 : decode cX2_isComplete 8 = .ok (.aload_n 0, 1) := by decide +kernel
theorem dX2_isComplete_9 : decode cX2_isComplete 9 = .ok (.getfield 35, 3) := by decide +kernel
theorem dX2_isComplete_12 : decode cX2_isComplete 12 = .ok (.bipush 6, 2) := by decide +kernel
theorem dX2_isComplete_14 : decode cX2_isComplete 14 = .ok (.if_icmp .eq 12, 3) := by decide +kernel
theorem dX2_isComplete_17 : decode cX2_isComplete 17 = .ok (.aload_n 0, 1) := by decide +kernel
theorem dX2_isComplete_18 : decode cX2_isComplete 18 = .ok (.getfield 35, 3) := by decide +kernel
theorem dX2_isComplete_21 : decode cX2_isComplete 21 = .ok (.bipush 9, 2) := by decide +kernel
theorem dX2_isComplete_23 : decode cX2_isComplete 23 = .ok (.if_icmp .ne 7, 3) := by decide +kernel
theorem dX2_isComplete_26 : decode cX2_isComplete 26 = .ok (.iconst 1, 1) := by decide +kernel
theorem dX2_isComplete_27 : decode cX2_isComplete 27 = .ok (.goto 4, 3) := by decide +kernel
theorem dX2_isComplete_30 : decode cX2_isComplete 30 = .ok (.iconst 0, 1) := by decide +kernel
theorem dX2_isComplete_31 : decode cX2_isComplete 31 = .ok (.ireturn, 1) := by decide +kernel
theorem dX2_accepts_0 : decode cX2_accepts 0 = .ok (.aload_n 0, 1) := by decide +kernel
theorem dX2_accepts_1 : decode cX2_accepts 1 = .ok (.getfield 35, 3) := by decide +kernel
theorem dX2_accepts_4 : decode cX2_accepts 4 = .ok (.tableswitch 151 0 8 #[52, 58, 67, 90, 99, 105, 111, 117, 126], 52) := by decide +kernel
theorem dX2_accepts_56 : decode cX2_accepts 56 = .ok (.aload_n 0, 1) := by decide +kernel
theorem dX2_accepts_57 : decode cX2_accepts 57 = .ok (.iload_n 1, 1) := by decide +kernel
theorem dX2_accepts_58 : decode cX2_accepts 58 = .ok (.invokevirtual 79, 3) := by decide +kernel
theorem dX2_accepts_61 : decode cX2_accepts 61 = .ok (.ireturn, 1) := by decide +kernel
theorem dX2_accepts_62 : decode cX2_accepts 62 = .ok (.aload_n 0, 1) := by decide +kernel
theorem dX2_accepts_63 : decode cX2_accepts 63 = .ok (.iload_n 1, 1) := by decide +kernel
theorem dX2_accepts_64 : decode cX2_accepts 64 = .ok (.bipush 9, 2) := by decide +kernel
theorem dX2_accepts_66 : decode cX2_accepts 66 = .ok (.iconst 2, 1) := by decide +kernel
theorem dX2_accepts_67 : decode cX2_accepts 67 = .ok (.invokevirtual 82, 3) := by decide +kernel
theorem dX2_accepts_70 : decode cX2_accepts 70 = .ok (.ireturn, 1) := by decide +kernel
theorem dX2_accepts_71 : decode cX2_accepts 71 = .ok (.iload_n 1, 1) := by decide +kernel
theorem dX2_accepts_72 : decode cX2_accepts 72 = .ok (.bipush 42, 2) := by decide +kernel
theorem dX2_accepts_74 : decode cX2_accepts 74 = .ok (.if_icmp .ne 10, 3) := by decide +kernel
theorem dX2_accepts_77 : decode cX2_accepts 77 = .ok (.aload_n 0, 1) := by decide +kernel
theorem dX2_accepts_78 : decode cX2_accepts 78 = .ok (.invokevirtual 86, 3) := by decide +kernel
theorem dX2_accepts_81 : decode cX2_accepts 81 = .ok (.goto 12, 3) := by decide +kernel
theorem dX2_accepts_84 : decode cX2_accepts 84 = .ok (.aload_n 0, 1) := by decide +kernel
theorem dX2_accepts_85 : decode cX2_accepts 85 = .ok (.iload_n 1, 1) := by decide +kernel
theorem dX2_accepts_86 : decode cX2_accepts 86 = .ok (.sipush 300, 3) := by decide +kernel
theorem dX2_accepts_89 : decode cX2_accepts 89 = .ok (.iconst 2, 1) := by decide +kernel
theorem dX2_accepts_90 : decode cX2_accepts 90 = .ok (.invokevirtual 89, 3) := by decide +kernel
theorem dX2_accepts_93 : decode cX2_accepts 93 = .ok (.ireturn, 1) := by decide +kernel
theorem dX2_accepts_94 : decode cX2_accepts 94 = .ok (.aload_n 0, 1) := by decide +kernel
theorem dX2_accepts_95 : decode cX2_accepts 95 = .ok (.iload_n 1, 1) := by decide +kernel
theorem dX2_accepts_96 : decode cX2_accepts 96 = .ok (.bipush 9, 2) := by decide +kernel
theorem dX2_accepts_98 : decode cX2_accepts 98 = .ok (.iconst 4, 1) := by decide +kernel
theorem dX2_accepts_99 : decode cX2_accepts 99 = .ok (.invokevirtual 82, 3) := by decide +kernel
theorem dX2_accepts_102 : decode cX2_accepts 102 = .ok (.ireturn, 1) := by decide +kernel
theorem dX2_accepts_103 : decode cX2_accepts 103 = .ok (.aload_n 0, 1) := by decide +kernel
theorem dX2_accepts_104 : decode cX2_accepts 104 = .ok (.iload_n 1, 1) := by decide +kernel
theorem dX2_accepts_105 : decode cX2_accepts 105 = .ok (.invokevirtual 92, 3) := by decide +kernel
theorem dX2_accepts_108 : decode cX2_accepts 108 = .ok (.ireturn, 1) := by decide +kernel
theorem dX2_accepts_109 : decode cX2_accepts 109 = .ok (.aload_n 0, 1) := by decide +kernel
theorem dX2_accepts_110 : decode cX2_accepts 110 = .ok (.iload_n 1, 1) := by decide +kernel
theorem dX2_accepts_111 : decode cX2_accepts 111 = .ok (.invokevirtual 95, 3) := by decide +kernel
theorem dX2_accepts_114 : decode cX2_accepts 114 = .ok (.ireturn, 1) := by decide +kernel
theorem dX2_accepts_115 : decode cX2_accepts 115 = .ok (.aload_n 0, 1) := by decide +kernel
theorem dX2_accepts_116 : decode cX2_accepts 116 = .ok (.iload_n 1, 1) := by decide +kernel
theorem dX2_accepts_117 : decode cX2_accepts 117 = .ok (.invokevirtual 98, 3) := by decide +kernel
theorem dX2_accepts_120 : decode cX2_accepts 120 = .ok (.ireturn, 1) := by decide +kernel
theorem dX2_accepts_121 : decode cX2_accepts 121 = .ok (.aload_n 0, 1) := by decide +kernel
theorem dX2_accepts_122 : decode cX2_accepts 122 = .ok (.iload_n 1, 1) := by decide +kernel
theorem dX2_accepts_123 : decode cX2_accepts 123 = .ok (.iconst 5, 1) := by decide +kernel
theorem dX2_accepts_124 : decode cX2_accepts 124 = .ok (.bipush 8, 2) := by decide +kernel
theorem dX2_accepts_126 : decode cX2_accepts 126 = .ok (.invokevirtual 82, 3) := by decide +kernel
theorem dX2_accepts_129 : decode cX2_accepts 129 = .ok (.ireturn, 1) := by decide +kernel
theorem dX2_accepts_130 : decode cX2_accepts 130 = .ok (.aload_n 0, 1) := by decide +kernel
theorem dX2_accepts_131 : decode cX2_accepts 131 = .ok (.iload_n 1, 1) := by decide +kernel
theorem dX2_accepts_132 : decode cX2_accepts 132 = .ok (.bipush 50, 2) := by decide +kernel
theorem dX2_accepts_134 : decode cX2_accepts 134 = .ok (.bipush 9, 2) := by decide +kernel
theorem dX2_accepts_136 : decode cX2_accepts 136 = .ok (.invokevirtual 89, 3) := by decide +kernel
theorem dX2_accepts_139 : decode cX2_accepts 139 = .ok (.ifCond .eq 14, 3) := by decide +kernel
theorem dX2_accepts_142 : decode cX2_accepts 142 = .ok (.aload_n 0, 1) := by decide +kernel
theorem dX2_accepts_143 : decode cX2_accepts 143 = .ok (.invokevirtual 101, 3) := by decide +kernel
theorem dX2_accepts_146 : decode cX2_accepts 146 = .ok (.ifCond .eq 7, 3) := by decide +kernel
theorem dX2_accepts_149 : decode cX2_accepts 149 = .ok (.iconst 1, 1) := by decide +kernel
theorem dX2_accepts_150 : decode cX2_accepts 150 = .ok (.goto 4, 3) := by decide +kernel
theorem dX2_accepts_153 : decode cX2_accepts 153 = .ok (.iconst 0, 1) := by decide +kernel
theorem dX2_accepts_154 : decode cX2_accepts 154 = .ok (.ireturn, 1) := by decide +kernel
theorem dX2_accepts_155 : decode cX2_accepts 155 = .ok (.aload_n 0, 1) := by decide +kernel
theorem dX2_accepts_156 : decode cX2_accepts 156 = .ok (.iload_n 1, 1) := by decide +kernel
theorem dX2_accepts_157 : decode cX2_accepts 157 = .ok (.invokevirtual 104, 3) := by decide +kernel
theorem dX2_accepts_160 : decode cX2_accepts 160 = .ok (.ireturn, 1) := by decide +kernel
theorem dX2_acceptsKind_0 : decode cX2_acceptsKind 0 = .ok (.aload_n 0, 1) := by decide +kernel
theorem dX2_acceptsKind_1 : decode cX2_acceptsKind 1 = .ok (.iload_n 1, 1) := by decide +kernel
theorem dX2_acceptsKind_2 : decode cX2_acceptsKind 2 = .ok (.bipush 119, 2) := by decide +kernel
theorem dX2_acceptsKind_4 : decode cX2_acceptsKind 4 = .ok (.if_icmp .ne 7, 3) := by decide +kernel
theorem dX2_acceptsKind_7 : decode cX2_acceptsKind 7 = .ok (.iconst 1, 1) := by decide +kernel
theorem dX2_acceptsKind_8 : decode cX2_acceptsKind 8 = .ok (.goto 4, 3) := by decide +kernel
theorem dX2_acceptsKind_11 : decode cX2_acceptsKind 11 = .ok (.iconst 0, 1) := by decide +kernel
theorem dX2_acceptsKind_12 : decode cX2_acceptsKind 12 = .ok (.putfield 107, 3) := by decide +kernel
theorem dX2_acceptsKind_15 : decode cX2_acceptsKind 15 = .ok (.aload_n 0, 1) := by decide +kernel
theorem dX2_acceptsKind_16 : decode cX2_acceptsKind 16 = .ok (.iconst 1, 1) := by decide +kernel
theorem dX2_acceptsKind_17 : decode cX2_acceptsKind 17 = .ok (.putfield 35, 3) := by decide +kernel
theorem dX2_acceptsKind_20 : decode cX2_acceptsKind 20 = .ok (.iload_n 1, 1) := by decide +kernel
theorem dX2_acceptsKind_21 : decode cX2_acceptsKind 21 = .ok (.bipush 116, 2) := by decide +kernel
theorem dX2_acceptsKind_23 : decode cX2_acceptsKind 23 = .ok (.if_icmp .eq 9, 3) := by decide +kernel
theorem dX2_acceptsKind_26 : decode cX2_acceptsKind 26 = .ok (.iload_n 1, 1) := by decide +kernel
theorem dX2_acceptsKind_27 : decode cX2_acceptsKind 27 = .ok (.bipush 119, 2) := by decide +kernel
theorem dX2_acceptsKind_29 : decode cX2_acceptsKind 29 = .ok (.if_icmp .ne 7, 3) := by decide +kernel
theorem dX2_acceptsKind_32 : decode cX2_acceptsKind 32 = .ok (.iconst 1, 1) := by decide +kernel
theorem dX2_acceptsKind_33 : decode cX2_acceptsKind 33 = .ok (.goto 4, 3) := by decide +kernel
theorem dX2_acceptsKind_36 : decode cX2_acceptsKind 36 = .ok (.iconst 0, 1) := by decide +kernel
theorem dX2_acceptsKind_37 : decode cX2_acceptsKind 37 = .ok (.ireturn, 1) := by decide +kernel
theorem dX2_acceptsBegin_0 : decode cX2_acceptsBegin 0 = .ok (.aload_n 0, 1) := by decide +kernel
theorem dX2_acceptsBegin_1 : decode cX2_acceptsBegin 1 = .ok (.iload_n 1, 1) := by decide +kernel
theorem dX2_acceptsBegin_2 : decode cX2_acceptsBegin 2 = .ok (.bipush 48, 2) := by decide +kernel
theorem dX2_acceptsBegin_4 : decode cX2_acceptsBegin 4 = .ok (.isub, 1) := by decide +kernel
theorem dX2_acceptsBegin_5 : decode cX2_acceptsBegin 5 = .ok (.putfield 56, 3) := by decide +kernel
theorem dX2_acceptsBegin_8 : decode cX2_acceptsBegin 8 = .ok (.aload_n 0, 1) := by decide +kernel
theorem dX2_acceptsBegin_9 : decode cX2_acceptsBegin 9 = .ok (.iload_n 3, 1) := by decide +kernel
theorem dX2_acceptsBegin_10 : decode cX2_acceptsBegin 10 = .ok (.putfield 35, 3) := by decide +kernel
theorem dX2_acceptsBegin_13 : decode cX2_acceptsBegin 13 = .ok (.aload_n 0, 1) := by decide +kernel
theorem dX2_acceptsBegin_14 : decode cX2_acceptsBegin 14 = .ok (.getfield 56, 3) := by decide +kernel
theorem dX2_acceptsBegin_17 : decode cX2_acceptsBegin 17 = .ok (.iconst 1, 1) := by decide +kernel
theorem dX2_acceptsBegin_18 : decode cX2_acceptsBegin 18 = .ok (.iload_n 2, 1) := by decide +kernel
theorem dX2_acceptsBegin_19 : decode cX2_acceptsBegin 19 = .ok (.invokestatic 111, 3) := by decide +kernel
theorem dX2_acceptsBegin_22 : decode cX2_acceptsBegin 22 = .ok (.ireturn, 1) := by decide +kernel
theorem dX2_acceptsDigit_0 : decode cX2_acceptsDigit 0 = .ok (.iload_n 1, 1) := by decide +kernel
theorem dX2_acceptsDigit_1 : decode cX2_acceptsDigit 1 = .ok (.bipush 48, 2) := by decide +kernel
theorem dX2_acceptsDigit_3 : decode cX2_acceptsDigit 3 = .ok (.isub, 1) := by decide +kernel
theorem dX2_acceptsDigit_4 : decode cX2_acceptsDigit 4 = .ok (.istore 4, 2) := by decide +kernel
theorem dX2_acceptsDigit_6 : decode cX2_acceptsDigit 6 = .ok (.iload 4, 2) := by decide +kernel
theorem dX2_acceptsDigit_8 : decode cX2_acceptsDigit 8 = .ok (.iconst 0, 1) := by decide +kernel
theorem dX2_acceptsDigit_9 : decode cX2_acceptsDigit 9 = .ok (.bipush 9, 2) := by decide +kernel
theorem dX2_acceptsDigit_11 : decode cX2_acceptsDigit 11 = .ok (.invokestatic 111, 3) := by decide +kernel
theorem dX2_acceptsDigit_14 : decode cX2_acceptsDigit 14 = .ok (.ifCond .eq 17, 3) := by decide +kernel
theorem dX2_acceptsDigit_17 : decode cX2_acceptsDigit 17 = .ok (.aload_n 0, 1) := by decide +kernel
theorem dX2_acceptsDigit_18 : decode cX2_acceptsDigit 18 = .ok (.getfield 56, 3) := by decide +kernel
theorem dX2_acceptsDigit_21 : decode cX2_acceptsDigit 21 = .ok (.bipush 10, 2) := by decide +kernel
theorem dX2_acceptsDigit_23 : decode cX2_acceptsDigit 23 = .ok (.imul, 1) := by decide +kernel
theorem dX2_acceptsDigit_24 : decode cX2_acceptsDigit 24 = .ok (.iload 4, 2) := by decide +kernel
theorem dX2_acceptsDigit_26 : decode cX2_acceptsDigit 26 = .ok (.iadd, 1) := by decide +kernel
theorem dX2_acceptsDigit_27 : decode cX2_acceptsDigit 27 = .ok (.iload_n 2, 1) := by decide +kernel
theorem dX2_acceptsDigit_28 : decode cX2_acceptsDigit 28 = .ok (.if_icmp .le 5, 3) := by decide +kernel
theorem dX2_acceptsDigit_31 : decode cX2_acceptsDigit 31 = .ok (.iconst 0, 1) := by decide +kernel
theorem dX2_acceptsDigit_32 : decode cX2_acceptsDigit 32 = .ok (.ireturn, 1) := by decide +kernel
theorem dX2_acceptsDigit_33 : decode cX2_acceptsDigit 33 = .ok (.aload_n 0, 1) := by decide +kernel
theorem dX2_acceptsDigit_34 : decode cX2_acceptsDigit 34 = .ok (.aload_n 0, 1) := by decide +kernel
theorem dX2_acceptsDigit_35 : decode cX2_acceptsDigit 35 = .ok (.getfield 56, 3) := by decide +kernel
theorem dX2_acceptsDigit_38 : decode cX2_acceptsDigit 38 = .ok (.bipush 10, 2) := by decide +kernel
theorem dX2_acceptsDigit_40 : decode cX2_acceptsDigit 40 = .ok (.imul, 1) := by decide +kernel
theorem dX2_acceptsDigit_41 : decode cX2_acceptsDigit 41 = .ok (.iload 4, 2) := by decide +kernel
theorem dX2_acceptsDigit_43 : decode cX2_acceptsDigit 43 = .ok (.iadd, 1) := by decide +kernel
theorem dX2_acceptsDigit_44 : decode cX2_acceptsDigit 44 = .ok (.putfield 56, 3) := by decide +kernel
theorem dX2_acceptsDigit_47 : decode cX2_acceptsDigit 47 = .ok (.aload_n 0, 1) := by decide +kernel
theorem dX2_acceptsDigit_48 : decode cX2_acceptsDigit 48 = .ok (.iload_n 3, 1) := by decide +kernel
theorem dX2_acceptsDigit_49 : decode cX2_acceptsDigit 49 = .ok (.putfield 35, 3) := by decide +kernel
theorem dX2_acceptsDigit_52 : decode cX2_acceptsDigit 52 = .ok (.iconst 1, 1) := by decide +kernel
theorem dX2_acceptsDigit_53 : decode cX2_acceptsDigit 53 = .ok (.ireturn, 1) := by decide +kernel
theorem dX2_endDistance_0 : decode cX2_endDistance 0 = .ok (.aload_n 0, 1) := by decide +kernel
theorem dX2_endDistance_1 : decode cX2_endDistance 1 = .ok (.aload_n 0, 1) := by decide +kernel
theorem dX2_endDistance_2 : decode cX2_endDistance 2 = .ok (.getfield 56, 3) := by decide +kernel
theorem dX2_endDistance_5 : decode cX2_endDistance 5 = .ok (.putfield 115, 3) := by decide +kernel
theorem dX2_endDistance_8 : decode cX2_endDistance 8 = .ok (.aload_n 0, 1) := by decide +kernel
theorem dX2_endDistance_9 : decode cX2_endDistance 9 = .ok (.iconst 3, 1) := by decide +kernel
theorem dX2_endDistance_10 : decode cX2_endDistance 10 = .ok (.putfield 35, 3) := by decide +kernel
theorem dX2_endDistance_13 : decode cX2_endDistance 13 = .ok (.iconst 1, 1) := by decide +kernel
theorem dX2_endDistance_14 : decode cX2_endDistance 14 = .ok (.ireturn, 1) := by decide +kernel
theorem dX2_acceptsBehindStrength_0 : decode cX2_acceptsBehindStrength 0 = .ok (.aload_n 0, 1) := by decide +kernel
theorem dX2_acceptsBehindStrength_1 : decode cX2_acceptsBehindStrength 1 = .ok (.iload_n 1, 1) := by decide +kernel
theorem dX2_acceptsBehindStrength_2 : decode cX2_acceptsBehindStrength 2 = .ok (.bipush 99, 2) := by decide +kernel
theorem dX2_acceptsBehindStrength_4 : decode cX2_acceptsBehindStrength 4 = .ok (.iconst 4, 1) := by decide +kernel
theorem dX2_acceptsBehindStrength_5 : decode cX2_acceptsBehindStrength 5 = .ok (.invokevirtual 89, 3) := by decide +kernel
theorem dX2_acceptsBehindStrength_8 : decode cX2_acceptsBehindStrength 8 = .ok (.ifCond .eq 5, 3) := by decide +kernel
theorem dX2_acceptsBehindStrength_11 : decode cX2_acceptsBehindStrength 11 = .ok (.iconst 1, 1) := by decide +kernel
theorem dX2_acceptsBehindStrength_12 : decode cX2_acceptsBehindStrength 12 = .ok (.ireturn, 1) := by decide +kernel
theorem dX2_acceptsBehindStrength_13 : decode cX2_acceptsBehindStrength 13 = .ok (.aload_n 0, 1) := by decide +kernel
theorem dX2_acceptsBehindStrength_14 : decode cX2_acceptsBehindStrength 14 = .ok (.getfield 107, 3) := by decide +kernel
theorem dX2_acceptsBehindStrength_17 : decode cX2_acceptsBehindStrength 17 = .ok (.ifCond .ne 45, 3) := by decide +kernel
theorem dX2_acceptsBehindStrength_20 : decode cX2_acceptsBehindStrength 20 = .ok (.iload_n 1, 1) := by decide +kernel
theorem dX2_acceptsBehindStrength_21 : decode cX2_acceptsBehindStrength 21 = .ok (.bipush 43, 2) := by decide +kernel
theorem dX2_acceptsBehindStrength_23 : decode cX2_acceptsBehindStrength 23 = .ok (.if_icmp .eq 9, 3) := by decide +kernel
theorem dX2_acceptsBehindStrength_26 : decode cX2_acceptsBehindStrength 26 = .ok (.iload_n 1, 1) := by decide +kernel
theorem dX2_acceptsBehindStrength_27 : decode cX2_acceptsBehindStrength 27 = .ok (.bipush 45, 2) := by decide +kernel
theorem dX2_acceptsBehindStrength_29 : decode cX2_acceptsBehindStrength 29 = .ok (.if_icmp .ne 33, 3) := by decide +kernel
theorem dX2_acceptsBehindStrength_32 : decode cX2_acceptsBehindStrength 32 = .ok (.aload_n 0, 1) := by decide +kernel
theorem dX2_acceptsBehindStrength_33 : decode cX2_acceptsBehindStrength 33 = .ok (.aload_n 0, 1) := by decide +kernel
theorem dX2_acceptsBehindStrength_34 : decode cX2_acceptsBehindStrength 34 = .ok (.getfield 56, 3) := by decide +kernel
theorem dX2_acceptsBehindStrength_37 : decode cX2_acceptsBehindStrength 37 = .ok (.putfield 118, 3) := by decide +kernel
theorem dX2_acceptsBehindStrength_40 : decode cX2_acceptsBehindStrength 40 = .ok (.aload_n 0, 1) := by decide +kernel
theorem dX2_acceptsBehindStrength_41 : decode cX2_acceptsBehindStrength 41 = .ok (.iload_n 1, 1) := by decide +kernel
theorem dX2_acceptsBehindStrength_42 : decode cX2_acceptsBehindStrength 42 = .ok (.bipush 45, 2) := by decide +kernel
theorem dX2_acceptsBehindStrength_44 : decode cX2_acceptsBehindStrength 44 = .ok (.if_icmp .ne 7, 3) := by decide +kernel
theorem dX2_acceptsBehindStrength_47 : decode cX2_acceptsBehindStrength 47 = .ok (.iconst 1, 1) := by decide +kernel
theorem dX2_acceptsBehindStrength_48 : decode cX2_acceptsBehindStrength 48 = .ok (.goto 4, 3) := by decide +kernel
theorem dX2_acceptsBehindStrength_51 : decode cX2_acceptsBehindStrength 51 = .ok (.iconst 0, 1) := by decide +kernel
theorem dX2_acceptsBehindStrength_52 : decode cX2_acceptsBehindStrength 52 = .ok (.putfield 121, 3) := by decide +kernel
theorem dX2_acceptsBehindStrength_55 : decode cX2_acceptsBehindStrength 55 = .ok (.aload_n 0, 1) := by decide +kernel
theorem dX2_acceptsBehindStrength_56 : decode cX2_acceptsBehindStrength 56 = .ok (.iconst 5, 1) := by decide +kernel
theorem dX2_acceptsBehindStrength_57 : decode cX2_acceptsBehindStrength 57 = .ok (.putfield 35, 3) := by decide +kernel
theorem dX2_acceptsBehindStrength_60 : decode cX2_acceptsBehindStrength 60 = .ok (.iconst 1, 1) := by decide +kernel
theorem dX2_acceptsBehindStrength_61 : decode cX2_acceptsBehindStrength 61 = .ok (.ireturn, 1) := by decide +kernel
theorem dX2_acceptsBehindStrength_62 : decode cX2_acceptsBehindStrength 62 = .ok (.iload_n 1, 1) := by decide +kernel
theorem dX2_acceptsBehindStrength_63 : decode cX2_acceptsBehindStrength 63 = .ok (.bipush 44, 2) := by decide +kernel
theorem dX2_acceptsBehindStrength_65 : decode cX2_acceptsBehindStrength 65 = .ok (.if_icmp .eq 11, 3) := by decide +kernel
theorem dX2_acceptsBehindStrength_68 : decode cX2_acceptsBehindStrength 68 = .ok (.iload_n 1, 1) := by decide +kernel
theorem dX2_acceptsBehindStrength_69 : decode cX2_acceptsBehindStrength 69 = .ok (.bipush 59, 2) := by decide +kernel
theorem dX2_acceptsBehindStrength_71 : decode cX2_acceptsBehindStrength 71 = .ok (.if_icmp .eq 5, 3) := by decide +kernel
theorem dX2_acceptsBehindStrength_74 : decode cX2_acceptsBehindStrength 74 = .ok (.iconst 0, 1) := by decide +kernel
theorem dX2_acceptsBehindStrength_75 : decode cX2_acceptsBehindStrength 75 = .ok (.ireturn, 1) := by decide +kernel
theorem dX2_acceptsBehindStrength_76 : decode cX2_acceptsBehindStrength 76 = .ok (.aload_n 0, 1) := by decide +kernel
theorem dX2_acceptsBehindStrength_77 : decode cX2_acceptsBehindStrength 77 = .ok (.aload_n 0, 1) := by decide +kernel
theorem dX2_acceptsBehindStrength_78 : decode cX2_acceptsBehindStrength 78 = .ok (.getfield 56, 3) := by decide +kernel
theorem dX2_acceptsBehindStrength_81 : decode cX2_acceptsBehindStrength 81 = .ok (.iconst 0, 1) := by decide +kernel
theorem dX2_acceptsBehindStrength_82 : decode cX2_acceptsBehindStrength 82 = .ok (.invokevirtual 59, 3) := by decide +kernel
theorem dX2_acceptsBehindStrength_85 : decode cX2_acceptsBehindStrength 85 = .ok (.aload_n 0, 1) := by decide +kernel
theorem dX2_acceptsBehindStrength_86 : decode cX2_acceptsBehindStrength 86 = .ok (.iload_n 1, 1) := by decide +kernel
theorem dX2_acceptsBehindStrength_87 : decode cX2_acceptsBehindStrength 87 = .ok (.invokevirtual 98, 3) := by decide +kernel
theorem dX2_acceptsBehindStrength_90 : decode cX2_acceptsBehindStrength 90 = .ok (.ireturn, 1) := by decide +kernel
theorem dX2_acceptsMovement_0 : decode cX2_acceptsMovement 0 = .ok (.iload_n 1, 1) := by decide +kernel
theorem dX2_acceptsMovement_1 : decode cX2_acceptsMovement 1 = .ok (.bipush 48, 2) := by decide +kernel
theorem dX2_acceptsMovement_3 : decode cX2_acceptsMovement 3 = .ok (.isub, 1) := by decide +kernel
theorem dX2_acceptsMovement_4 : decode cX2_acceptsMovement 4 = .ok (.istore_n 2, 1) := by decide +kernel
theorem dX2_acceptsMovement_5 : decode cX2_acceptsMovement 5 = .ok (.iload_n 2, 1) := by decide +kernel
theorem dX2_acceptsMovement_6 : decode cX2_acceptsMovement 6 = .ok (.iconst 1, 1) := by decide +kernel
theorem dX2_acceptsMovement_7 : decode cX2_acceptsMovement 7 = .ok (.iconst 5, 1) := by decide +kernel
theorem dX2_acceptsMovement_8 : decode cX2_acceptsMovement 8 = .ok (.invokestatic 111, 3) := by decide +kernel
theorem dX2_acceptsMovement_11 : decode cX2_acceptsMovement 11 = .ok (.ifCond .ne 5, 3) := by decide +kernel
theorem dX2_acceptsMovement_14 : decode cX2_acceptsMovement 14 = .ok (.iconst 0, 1) := by decide +kernel
theorem dX2_acceptsMovement_15 : decode cX2_acceptsMovement 15 = .ok (.ireturn, 1) := by decide +kernel
theorem dX2_acceptsMovement_16 : decode cX2_acceptsMovement 16 = .ok (.aload_n 0, 1) := by decide +kernel
theorem dX2_acceptsMovement_17 : decode cX2_acceptsMovement 17 = .ok (.aload_n 0, 1) := by decide +kernel
theorem dX2_acceptsMovement_18 : decode cX2_acceptsMovement 18 = .ok (.getfield 118, 3) := by decide +kernel
theorem dX2_acceptsMovement_21 : decode cX2_acceptsMovement 21 = .ok (.aload_n 0, 1) := by decide +kernel
theorem dX2_acceptsMovement_22 : decode cX2_acceptsMovement 22 = .ok (.getfield 121, 3) := by decide +kernel
theorem dX2_acceptsMovement_25 : decode cX2_acceptsMovement 25 = .ok (.ifCond .eq 8, 3) := by decide +kernel
theorem dX2_acceptsMovement_28 : decode cX2_acceptsMovement 28 = .ok (.iload_n 2, 1) := by decide +kernel
theorem dX2_acceptsMovement_29 : decode cX2_acceptsMovement 29 = .ok (.ineg, 1) := by decide +kernel
theorem dX2_acceptsMovement_30 : decode cX2_acceptsMovement 30 = .ok (.goto 4, 3) := by decide +kernel
theorem dX2_acceptsMovement_33 : decode cX2_acceptsMovement 33 = .ok (.iload_n 2, 1) := by decide +kernel
theorem dX2_acceptsMovement_34 : decode cX2_acceptsMovement 34 = .ok (.invokevirtual 59, 3) := by decide +kernel
theorem dX2_acceptsMovement_37 : decode cX2_acceptsMovement 37 = .ok (.aload_n 0, 1) := by decide +kernel
theorem dX2_acceptsMovement_38 : decode cX2_acceptsMovement 38 = .ok (.bipush 6, 2) := by decide +kernel
theorem dX2_acceptsMovement_40 : decode cX2_acceptsMovement 40 = .ok (.putfield 35, 3) := by decide +kernel
theorem dX2_acceptsMovement_43 : decode cX2_acceptsMovement 43 = .ok (.iconst 1, 1) := by decide +kernel
theorem dX2_acceptsMovement_44 : decode cX2_acceptsMovement 44 = .ok (.ireturn, 1) := by decide +kernel
theorem dX2_acceptsTargetEnd_0 : decode cX2_acceptsTargetEnd 0 = .ok (.aload_n 0, 1) := by decide +kernel
theorem dX2_acceptsTargetEnd_1 : decode cX2_acceptsTargetEnd 1 = .ok (.iload_n 1, 1) := by decide +kernel
theorem dX2_acceptsTargetEnd_2 : decode cX2_acceptsTargetEnd 2 = .ok (.bipush 44, 2) := by decide +kernel
theorem dX2_acceptsTargetEnd_4 : decode cX2_acceptsTargetEnd 4 = .ok (.if_icmp .ne 7, 3) := by decide +kernel
theorem dX2_acceptsTargetEnd_7 : decode cX2_acceptsTargetEnd 7 = .ok (.iconst 0, 1) := by decide +kernel
theorem dX2_acceptsTargetEnd_8 : decode cX2_acceptsTargetEnd 8 = .ok (.goto 5, 3) := by decide +kernel
theorem dX2_acceptsTargetEnd_11 : decode cX2_acceptsTargetEnd 11 = .ok (.bipush 7, 2) := by decide +kernel
theorem dX2_acceptsTargetEnd_13 : decode cX2_acceptsTargetEnd 13 = .ok (.putfield 35, 3) := by decide +kernel
theorem dX2_acceptsTargetEnd_16 : decode cX2_acceptsTargetEnd 16 = .ok (.iload_n 1, 1) := by decide +kernel
theorem dX2_acceptsTargetEnd_17 : decode cX2_acceptsTargetEnd 17 = .ok (.bipush 44, 2) := by decide +kernel
theorem dX2_acceptsTargetEnd_19 : decode cX2_acceptsTargetEnd 19 = .ok (.if_icmp .eq 9, 3) := by decide +kernel
theorem dX2_acceptsTargetEnd_22 : decode cX2_acceptsTargetEnd 22 = .ok (.iload_n 1, 1) := by decide +kernel
theorem dX2_acceptsTargetEnd_23 : decode cX2_acceptsTargetEnd 23 = .ok (.bipush 59, 2) := by decide +kernel
theorem dX2_acceptsTargetEnd_25 : decode cX2_acceptsTargetEnd 25 = .ok (.if_icmp .ne 7, 3) := by decide +kernel
theorem dX2_acceptsTargetEnd_28 : decode cX2_acceptsTargetEnd 28 = .ok (.iconst 1, 1) := by decide +kernel
theorem dX2_acceptsTargetEnd_29 : decode cX2_acceptsTargetEnd 29 = .ok (.goto 4, 3) := by decide +kernel
theorem dX2_acceptsTargetEnd_32 : decode cX2_acceptsTargetEnd 32 = .ok (.iconst 0, 1) := by decide +kernel
theorem dX2_acceptsTargetEnd_33 : decode cX2_acceptsTargetEnd 33 = .ok (.ireturn, 1) := by decide +kernel
theorem dX2_acceptsSlash_0 : decode cX2_acceptsSlash 0 = .ok (.aload_n 0, 1) := by decide +kernel
theorem dX2_acceptsSlash_1 : decode cX2_acceptsSlash 1 = .ok (.bipush 7, 2) := by decide +kernel
theorem dX2_acceptsSlash_3 : decode cX2_acceptsSlash 3 = .ok (.putfield 35, 3) := by decide +kernel
theorem dX2_acceptsSlash_6 : decode cX2_acceptsSlash 6 = .ok (.iload_n 1, 1) := by decide +kernel
theorem dX2_acceptsSlash_7 : decode cX2_acceptsSlash 7 = .ok (.bipush 47, 2) := by decide +kernel
theorem dX2_acceptsSlash_9 : decode cX2_acceptsSlash 9 = .ok (.if_icmp .ne 15, 3) := by decide +kernel
theorem dX2_acceptsSlash_12 : decode cX2_acceptsSlash 12 = .ok (.aload_n 0, 1) := by decide +kernel
theorem dX2_acceptsSlash_13 : decode cX2_acceptsSlash 13 = .ok (.getfield 32, 3) := by decide +kernel
theorem dX2_acceptsSlash_16 : decode cX2_acceptsSlash 16 = .ok (.iconst 4, 1) := by decide +kernel
theorem dX2_acceptsSlash_17 : decode cX2_acceptsSlash 17 = .ok (.if_icmp .ge 7, 3) := by decide +kernel
theorem dX2_acceptsSlash_20 : decode cX2_acceptsSlash 20 = .ok (.iconst 1, 1) := by decide +kernel
theorem dX2_acceptsSlash_21 : decode cX2_acceptsSlash 21 = .ok (.goto 4, 3) := by decide +kernel
theorem dX2_acceptsSlash_24 : decode cX2_acceptsSlash 24 = .ok (.iconst 0, 1) := by decide +kernel
theorem dX2_acceptsSlash_25 : decode cX2_acceptsSlash 25 = .ok (.ireturn, 1) := by decide +kernel
theorem dX2_keepTarget_0 : decode cX2_keepTarget 0 = .ok (.aload_n 0, 1) := by decide +kernel
theorem dX2_keepTarget_1 : decode cX2_keepTarget 1 = .ok (.getfield 28, 3) := by decide +kernel
theorem dX2_keepTarget_4 : decode cX2_keepTarget 4 = .ok (.ifCond .lt 68, 3) := by decide +kernel
theorem dX2_keepTarget_7 : decode cX2_keepTarget 7 = .ok (.aload_n 0, 1) := by decide +kernel
theorem dX2_keepTarget_8 : decode cX2_keepTarget 8 = .ok (.getfield 28, 3) := by decide +kernel
theorem dX2_keepTarget_11 : decode cX2_keepTarget 11 = .ok (.bipush 12, 2) := by decide +kernel
theorem dX2_keepTarget_13 : decode cX2_keepTarget 13 = .ok (.if_icmp .ge 59, 3) := by decide +kernel
theorem dX2_keepTarget_16 : decode cX2_keepTarget 16 = .ok (.aload_n 0, 1) := by decide +kernel
theorem dX2_keepTarget_17 : decode cX2_keepTarget 17 = .ok (.getfield 11, 3) := by decide +kernel
theorem dX2_keepTarget_20 : decode cX2_keepTarget 20 = .ok (.aload_n 0, 1) := by decide +kernel
theorem dX2_keepTarget_21 : decode cX2_keepTarget 21 = .ok (.getfield 28, 3) := by decide +kernel
theorem dX2_keepTarget_24 : decode cX2_keepTarget 24 = .ok (.aload_n 0, 1) := by decide +kernel
theorem dX2_keepTarget_25 : decode cX2_keepTarget 25 = .ok (.getfield 115, 3) := by decide +kernel
theorem dX2_keepTarget_28 : decode cX2_keepTarget 28 = .ok (.iastore, 1) := by decide +kernel
theorem dX2_keepTarget_29 : decode cX2_keepTarget 29 = .ok (.aload_n 0, 1) := by decide +kernel
theorem dX2_keepTarget_30 : decode cX2_keepTarget 30 = .ok (.getfield 15, 3) := by decide +kernel
theorem dX2_keepTarget_33 : decode cX2_keepTarget 33 = .ok (.aload_n 0, 1) := by decide +kernel
theorem dX2_keepTarget_34 : decode cX2_keepTarget 34 = .ok (.getfield 28, 3) := by decide +kernel
theorem dX2_keepTarget_37 : decode cX2_keepTarget 37 = .ok (.iload_n 1, 1) := by decide +kernel
theorem dX2_keepTarget_38 : decode cX2_keepTarget 38 = .ok (.iastore, 1) := by decide +kernel
theorem dX2_keepTarget_39 : decode cX2_keepTarget 39 = .ok (.aload_n 0, 1) := by decide +kernel
theorem dX2_keepTarget_40 : decode cX2_keepTarget 40 = .ok (.getfield 18, 3) := by decide +kernel
theorem dX2_keepTarget_43 : decode cX2_keepTarget 43 = .ok (.aload_n 0, 1) := by decide +kernel
theorem dX2_keepTarget_44 : decode cX2_keepTarget 44 = .ok (.getfield 28, 3) := by decide +kernel
theorem dX2_keepTarget_47 : decode cX2_keepTarget 47 = .ok (.iload_n 2, 1) := by decide +kernel
theorem dX2_keepTarget_48 : decode cX2_keepTarget 48 = .ok (.iastore, 1) := by decide +kernel
theorem dX2_keepTarget_49 : decode cX2_keepTarget 49 = .ok (.aload_n 0, 1) := by decide +kernel
theorem dX2_keepTarget_50 : decode cX2_keepTarget 50 = .ok (.getfield 21, 3) := by decide +kernel
theorem dX2_keepTarget_53 : decode cX2_keepTarget 53 = .ok (.aload_n 0, 1) := by decide +kernel
theorem dX2_keepTarget_54 : decode cX2_keepTarget 54 = .ok (.getfield 28, 3) := by decide +kernel
theorem dX2_keepTarget_57 : decode cX2_keepTarget 57 = .ok (.aload_n 0, 1) := by decide +kernel
theorem dX2_keepTarget_58 : decode cX2_keepTarget 58 = .ok (.getfield 107, 3) := by decide +kernel
theorem dX2_keepTarget_61 : decode cX2_keepTarget 61 = .ok (.bastore, 1) := by decide +kernel
theorem dX2_keepTarget_62 : decode cX2_keepTarget 62 = .ok (.aload_n 0, 1) := by decide +kernel
theorem dX2_keepTarget_63 : decode cX2_keepTarget 63 = .ok (.dup, 1) := by decide +kernel
theorem dX2_keepTarget_64 : decode cX2_keepTarget 64 = .ok (.getfield 28, 3) := by decide +kernel
theorem dX2_keepTarget_67 : decode cX2_keepTarget 67 = .ok (.iconst 1, 1) := by decide +kernel
theorem dX2_keepTarget_68 : decode cX2_keepTarget 68 = .ok (.iadd, 1) := by decide +kernel
theorem dX2_keepTarget_69 : decode cX2_keepTarget 69 = .ok (.putfield 28, 3) := by decide +kernel
theorem dX2_keepTarget_72 : decode cX2_keepTarget 72 = .ok (.return_, 1) := by decide +kernel
theorem dX2_keepSpacing_0 : decode cX2_keepSpacing 0 = .ok (.aload_n 0, 1) := by decide +kernel
theorem dX2_keepSpacing_1 : decode cX2_keepSpacing 1 = .ok (.getfield 32, 3) := by decide +kernel
theorem dX2_keepSpacing_4 : decode cX2_keepSpacing 4 = .ok (.ifCond .lt 11, 3) := by decide +kernel
theorem dX2_keepSpacing_7 : decode cX2_keepSpacing 7 = .ok (.aload_n 0, 1) := by decide +kernel
theorem dX2_keepSpacing_8 : decode cX2_keepSpacing 8 = .ok (.getfield 32, 3) := by decide +kernel
theorem dX2_keepSpacing_11 : decode cX2_keepSpacing 11 = .ok (.iconst 4, 1) := by decide +kernel
theorem dX2_keepSpacing_12 : decode cX2_keepSpacing 12 = .ok (.if_icmp .lt 5, 3) := by decide +kernel
theorem dX2_keepSpacing_15 : decode cX2_keepSpacing 15 = .ok (.iconst 0, 1) := by decide +kernel
theorem dX2_keepSpacing_16 : decode cX2_keepSpacing 16 = .ok (.ireturn, 1) := by decide +kernel
theorem dX2_keepSpacing_17 : decode cX2_keepSpacing 17 = .ok (.aload_n 0, 1) := by decide +kernel
theorem dX2_keepSpacing_18 : decode cX2_keepSpacing 18 = .ok (.getfield 25, 3) := by decide +kernel
theorem dX2_keepSpacing_21 : decode cX2_keepSpacing 21 = .ok (.aload_n 0, 1) := by decide +kernel
theorem dX2_keepSpacing_22 : decode cX2_keepSpacing 22 = .ok (.getfield 32, 3) := by decide +kernel
theorem dX2_keepSpacing_25 : decode cX2_keepSpacing 25 = .ok (.aload_n 0, 1) := by decide +kernel
theorem dX2_keepSpacing_26 : decode cX2_keepSpacing 26 = .ok (.getfield 56, 3) := by decide +kernel
theorem dX2_keepSpacing_29 : decode cX2_keepSpacing 29 = .ok (.iastore, 1) := by decide +kernel
theorem dX2_keepSpacing_30 : decode cX2_keepSpacing 30 = .ok (.aload_n 0, 1) := by decide +kernel
theorem dX2_keepSpacing_31 : decode cX2_keepSpacing 31 = .ok (.dup, 1) := by decide +kernel
theorem dX2_keepSpacing_32 : decode cX2_keepSpacing 32 = .ok (.getfield 32, 3) := by decide +kernel
theorem dX2_keepSpacing_35 : decode cX2_keepSpacing 35 = .ok (.iconst 1, 1) := by decide +kernel
theorem dX2_keepSpacing_36 : decode cX2_keepSpacing 36 = .ok (.iadd, 1) := by decide +kernel
theorem dX2_keepSpacing_37 : decode cX2_keepSpacing 37 = .ok (.putfield 32, 3) := by decide +kernel
theorem dX2_keepSpacing_40 : decode cX2_keepSpacing 40 = .ok (.iconst 1, 1) := by decide +kernel
theorem dX2_keepSpacing_41 : decode cX2_keepSpacing 41 = .ok (.ireturn, 1) := by decide +kernel
