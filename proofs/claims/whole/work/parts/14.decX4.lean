theorem dX4_length_0 : decode cX4_length 0 = .ok (.aload_n 0, 1) := by decide +kernel
theorem dX4_length_1 : decode cX4_length 1 = .ok (.getfield 15, 3) := by decide +kernel
theorem dX4_length_4 : decode cX4_length 4 = .ok (.ireturn, 1) := by decide +kernel
theorem dX4_codeAt_0 : decode cX4_codeAt 0 = .ok (.iload_n 1, 1) := by decide +kernel
theorem dX4_codeAt_1 : decode cX4_codeAt 1 = .ok (.ifCond .lt 21, 3) := by decide +kernel
theorem dX4_codeAt_4 : decode cX4_codeAt 4 = .ok (.iload_n 1, 1) := by decide +kernel
theorem dX4_codeAt_5 : decode cX4_codeAt 5 = .ok (.aload_n 0, 1) := by decide +kernel
theorem dX4_codeAt_6 : decode cX4_codeAt 6 = .ok (.getfield 9, 3) := by decide +kernel
theorem dX4_codeAt_9 : decode cX4_codeAt 9 = .ok (.arraylength, 1) := by decide +kernel
theorem dX4_codeAt_10 : decode cX4_codeAt 10 = .ok (.if_icmp .ge 12, 3) := by decide +kernel
theorem dX4_codeAt_13 : decode cX4_codeAt 13 = .ok (.aload_n 0, 1) := by decide +kernel
theorem dX4_codeAt_14 : decode cX4_codeAt 14 = .ok (.getfield 9, 3) := by decide +kernel
theorem dX4_codeAt_17 : decode cX4_codeAt 17 = .ok (.iload_n 1, 1) := by decide +kernel
theorem dX4_codeAt_18 : decode cX4_codeAt 18 = .ok (.caload, 1) := by decide +kernel
theorem dX4_codeAt_19 : decode cX4_codeAt 19 = .ok (.goto 4, 3) := by decide +kernel
theorem dX4_codeAt_22 : decode cX4_codeAt 22 = .ok (.iconst 0, 1) := by decide +kernel
theorem dX4_codeAt_23 : decode cX4_codeAt 23 = .ok (.ireturn, 1) := by decide +kernel
theorem dX4_write_0 : decode cX4_write 0 = .ok (.aload_n 0, 1) := by decide +kernel
theorem dX4_write_1 : decode cX4_write 1 = .ok (.iconst 0, 1) := by decide +kernel
theorem dX4_write_2 : decode cX4_write 2 = .ok (.putfield 15, 3) := by decide +kernel
theorem dX4_write_5 : decode cX4_write 5 = .ok (.aload_n 1, 1) := by decide +kernel
theorem dX4_write_6 : decode cX4_write 6 = .ok (.invokevirtual 19, 3) := by decide +kernel
theorem dX4_write_9 : decode cX4_write 9 = .ok (.ifCond .ne 4, 3) := by decide +kernel
theorem dX4_write_12 : decode cX4_write 12 = .ok (.return_, 1) := by decide +kernel
theorem dX4_write_13 : decode cX4_write 13 = .ok (.iconst 0, 1) := by decide +kernel
theorem dX4_write_14 : decode cX4_write 14 = .ok (.istore_n 2, 1) := by decide +kernel
theorem dX4_write_15 : decode cX4_write 15 = .ok (.iload_n 2, 1) := by decide +kernel
theorem dX4_write_16 : decode cX4_write 16 = .ok (.aload_n 1, 1) := by decide +kernel
theorem dX4_write_17 : decode cX4_write 17 = .ok (.invokevirtual 19, 3) := by decide +kernel
theorem dX4_write_20 : decode cX4_write 20 = .ok (.if_icmp .ge 25, 3) := by decide +kernel
theorem dX4_write_23 : decode cX4_write 23 = .ok (.iload_n 2, 1) := by decide +kernel
theorem dX4_write_24 : decode cX4_write 24 = .ok (.ifCond .le 9, 3) := by decide +kernel
theorem dX4_write_27 : decode cX4_write 27 = .ok (.aload_n 0, 1) := by decide +kernel
theorem dX4_write_28 : decode cX4_write 28 = .ok (.bipush 44, 2) := by decide +kernel
theorem dX4_write_30 : decode cX4_write 30 = .ok (.invokevirtual 25, 3) := by decide +kernel
theorem dX4_write_33 : decode cX4_write 33 = .ok (.aload_n 0, 1) := by decide +kernel
theorem dX4_write_34 : decode cX4_write 34 = .ok (.aload_n 1, 1) := by decide +kernel
theorem dX4_write_35 : decode cX4_write 35 = .ok (.iload_n 2, 1) := by decide +kernel
theorem dX4_write_36 : decode cX4_write 36 = .ok (.invokevirtual 29, 3) := by decide +kernel
theorem dX4_write_39 : decode cX4_write 39 = .ok (.iinc 2 1, 3) := by decide +kernel
theorem dX4_write_42 : decode cX4_write 42 = .ok (.goto (-27), 3) := by decide +kernel
theorem dX4_write_45 : decode cX4_write 45 = .ok (.iconst 0, 1) := by decide +kernel
theorem dX4_write_46 : decode cX4_write 46 = .ok (.istore_n 2, 1) := by decide +kernel
theorem dX4_write_47 : decode cX4_write 47 = .ok (.iload_n 2, 1) := by decide +kernel
theorem dX4_write_48 : decode cX4_write 48 = .ok (.aload_n 1, 1) := by decide +kernel
theorem dX4_write_49 : decode cX4_write 49 = .ok (.invokevirtual 33, 3) := by decide +kernel
theorem dX4_write_52 : decode cX4_write 52 = .ok (.if_icmp .ge 33, 3) := by decide +kernel
theorem dX4_write_55 : decode cX4_write 55 = .ok (.aload_n 0, 1) := by decide +kernel
theorem dX4_write_56 : decode cX4_write 56 = .ok (.iload_n 2, 1) := by decide +kernel
theorem dX4_write_57 : decode cX4_write 57 = .ok (.ifCond .ne 8, 3) := by decide +kernel
theorem dX4_write_60 : decode cX4_write 60 = .ok (.bipush 59, 2) := by decide +kernel
theorem dX4_write_62 : decode cX4_write 62 = .ok (.goto 5, 3) := by decide +kernel
theorem dX4_write_65 : decode cX4_write 65 = .ok (.bipush 47, 2) := by decide +kernel
theorem dX4_write_67 : decode cX4_write 67 = .ok (.invokevirtual 25, 3) := by decide +kernel
theorem dX4_write_70 : decode cX4_write 70 = .ok (.aload_n 0, 1) := by decide +kernel
theorem dX4_write_71 : decode cX4_write 71 = .ok (.aload_n 1, 1) := by decide +kernel
theorem dX4_write_72 : decode cX4_write 72 = .ok (.iload_n 2, 1) := by decide +kernel
theorem dX4_write_73 : decode cX4_write 73 = .ok (.invokevirtual 36, 3) := by decide +kernel
theorem dX4_write_76 : decode cX4_write 76 = .ok (.invokevirtual 40, 3) := by decide +kernel
theorem dX4_write_79 : decode cX4_write 79 = .ok (.iinc 2 1, 3) := by decide +kernel
theorem dX4_write_82 : decode cX4_write 82 = .ok (.goto (-35), 3) := by decide +kernel
theorem dX4_write_85 : decode cX4_write 85 = .ok (.return_, 1) := by decide +kernel
theorem dX4_writeTarget_0 : decode cX4_writeTarget 0 = .ok (.aload_n 1, 1) := by decide +kernel
theorem dX4_writeTarget_1 : decode cX4_writeTarget 1 = .ok (.iload_n 2, 1) := by decide +kernel
theorem dX4_writeTarget_2 : decode cX4_writeTarget 2 = .ok (.invokevirtual 44, 3) := by decide +kernel
theorem dX4_writeTarget_5 : decode cX4_writeTarget 5 = .ok (.istore_n 3, 1) := by decide +kernel
theorem dX4_writeTarget_6 : decode cX4_writeTarget 6 = .ok (.aload_n 0, 1) := by decide +kernel
theorem dX4_writeTarget_7 : decode cX4_writeTarget 7 = .ok (.aload_n 1, 1) := by decide +kernel
theorem dX4_writeTarget_8 : decode cX4_writeTarget 8 = .ok (.iload_n 2, 1) := by decide +kernel
theorem dX4_writeTarget_9 : decode cX4_writeTarget 9 = .ok (.invokevirtual 47, 3) := by decide +kernel
theorem dX4_writeTarget_12 : decode cX4_writeTarget 12 = .ok (.ifCond .eq 8, 3) := by decide +kernel
theorem dX4_writeTarget_15 : decode cX4_writeTarget 15 = .ok (.bipush 119, 2) := by decide +kernel
theorem dX4_writeTarget_17 : decode cX4_writeTarget 17 = .ok (.goto 5, 3) := by decide +kernel
theorem dX4_writeTarget_20 : decode cX4_writeTarget 20 = .ok (.bipush 116, 2) := by decide +kernel
theorem dX4_writeTarget_22 : decode cX4_writeTarget 22 = .ok (.invokevirtual 25, 3) := by decide +kernel
theorem dX4_writeTarget_25 : decode cX4_writeTarget 25 = .ok (.aload_n 0, 1) := by decide +kernel
theorem dX4_writeTarget_26 : decode cX4_writeTarget 26 = .ok (.aload_n 1, 1) := by decide +kernel
theorem dX4_writeTarget_27 : decode cX4_writeTarget 27 = .ok (.iload_n 2, 1) := by decide +kernel
theorem dX4_writeTarget_28 : decode cX4_writeTarget 28 = .ok (.invokevirtual 51, 3) := by decide +kernel
theorem dX4_writeTarget_31 : decode cX4_writeTarget 31 = .ok (.invokevirtual 40, 3) := by decide +kernel
theorem dX4_writeTarget_34 : decode cX4_writeTarget 34 = .ok (.aload_n 0, 1) := by decide +kernel
theorem dX4_writeTarget_35 : decode cX4_writeTarget 35 = .ok (.bipush 42, 2) := by decide +kernel
theorem dX4_writeTarget_37 : decode cX4_writeTarget 37 = .ok (.invokevirtual 25, 3) := by decide +kernel
theorem dX4_writeTarget_40 : decode cX4_writeTarget 40 = .ok (.aload_n 0, 1) := by decide +kernel
theorem dX4_writeTarget_41 : decode cX4_writeTarget 41 = .ok (.aload_n 1, 1) := by decide +kernel
theorem dX4_writeTarget_42 : decode cX4_writeTarget 42 = .ok (.iload_n 2, 1) := by decide +kernel
theorem dX4_writeTarget_43 : decode cX4_writeTarget 43 = .ok (.invokevirtual 54, 3) := by decide +kernel
theorem dX4_writeTarget_46 : decode cX4_writeTarget 46 = .ok (.invokevirtual 40, 3) := by decide +kernel
theorem dX4_writeTarget_49 : decode cX4_writeTarget 49 = .ok (.iload_n 3, 1) := by decide +kernel
theorem dX4_writeTarget_50 : decode cX4_writeTarget 50 = .ok (.ifCond .eq 32, 3) := by decide +kernel
theorem dX4_writeTarget_53 : decode cX4_writeTarget 53 = .ok (.aload_n 0, 1) := by decide +kernel
theorem dX4_writeTarget_54 : decode cX4_writeTarget 54 = .ok (.iload_n 3, 1) := by decide +kernel
theorem dX4_writeTarget_55 : decode cX4_writeTarget 55 = .ok (.ifCond .ge 8, 3) := by decide +kernel
theorem dX4_writeTarget_58 : decode cX4_writeTarget 58 = .ok (.bipush 45, 2) := by decide +kernel
theorem dX4_writeTarget_60 : decode cX4_writeTarget 60 = .ok (.goto 5, 3) := by decide +kernel
theorem dX4_writeTarget_63 : decode cX4_writeTarget 63 = .ok (.bipush 43, 2) := by decide +kernel
theorem dX4_writeTarget_65 : decode cX4_writeTarget 65 = .ok (.invokevirtual 25, 3) := by decide +kernel
theorem dX4_writeTarget_68 : decode cX4_writeTarget 68 = .ok (.aload_n 0, 1) := by decide +kernel
theorem dX4_writeTarget_69 : decode cX4_writeTarget 69 = .ok (.iload_n 3, 1) := by decide +kernel
theorem dX4_writeTarget_70 : decode cX4_writeTarget 70 = .ok (.ifCond .ge 8, 3) := by decide +kernel
theorem dX4_writeTarget_73 : decode cX4_writeTarget 73 = .ok (.iload_n 3, 1) := by decide +kernel
theorem dX4_writeTarget_74 : decode cX4_writeTarget 74 = .ok (.ineg, 1) := by decide +kernel
theorem dX4_writeTarget_75 : decode cX4_writeTarget 75 = .ok (.goto 4, 3) := by decide +kernel
theorem dX4_writeTarget_78 : decode cX4_writeTarget 78 = .ok (.iload_n 3, 1) := by decide +kernel
theorem dX4_writeTarget_79 : decode cX4_writeTarget 79 = .ok (.invokevirtual 40, 3) := by decide +kernel
theorem dX4_writeTarget_82 : decode cX4_writeTarget 82 = .ok (.return_, 1) := by decide +kernel
theorem dX4_writeNumber_0 : decode cX4_writeNumber 0 = .ok (.iload_n 1, 1) := by decide +kernel
theorem dX4_writeNumber_1 : decode cX4_writeNumber 1 = .ok (.bipush 100, 2) := by decide +kernel
theorem dX4_writeNumber_3 : decode cX4_writeNumber 3 = .ok (.if_icmp .lt 14, 3) := by decide +kernel
theorem dX4_writeNumber_6 : decode cX4_writeNumber 6 = .ok (.aload_n 0, 1) := by decide +kernel
theorem dX4_writeNumber_7 : decode cX4_writeNumber 7 = .ok (.iload_n 1, 1) := by decide +kernel
theorem dX4_writeNumber_8 : decode cX4_writeNumber 8 = .ok (.bipush 100, 2) := by decide +kernel
theorem dX4_writeNumber_10 : decode cX4_writeNumber 10 = .ok (.idiv, 1) := by decide +kernel
theorem dX4_writeNumber_11 : decode cX4_writeNumber 11 = .ok (.invokestatic 57, 3) := by decide +kernel
theorem dX4_writeNumber_14 : decode cX4_writeNumber 14 = .ok (.invokevirtual 25, 3) := by decide +kernel
theorem dX4_writeNumber_17 : decode cX4_writeNumber 17 = .ok (.iload_n 1, 1) := by decide +kernel
theorem dX4_writeNumber_18 : decode cX4_writeNumber 18 = .ok (.bipush 10, 2) := by decide +kernel
theorem dX4_writeNumber_20 : decode cX4_writeNumber 20 = .ok (.if_icmp .lt 14, 3) := by decide +kernel
theorem dX4_writeNumber_23 : decode cX4_writeNumber 23 = .ok (.aload_n 0, 1) := by decide +kernel
theorem dX4_writeNumber_24 : decode cX4_writeNumber 24 = .ok (.iload_n 1, 1) := by decide +kernel
theorem dX4_writeNumber_25 : decode cX4_writeNumber 25 = .ok (.bipush 10, 2) := by decide +kernel
theorem dX4_writeNumber_27 : decode cX4_writeNumber 27 = .ok (.idiv, 1) := by decide +kernel
theorem dX4_writeNumber_28 : decode cX4_writeNumber 28 = .ok (.invokestatic 57, 3) := by decide +kernel
theorem dX4_writeNumber_31 : decode cX4_writeNumber 31 = .ok (.invokevirtual 25, 3) := by decide +kernel
theorem dX4_writeNumber_34 : decode cX4_writeNumber 34 = .ok (.aload_n 0, 1) := by decide +kernel
theorem dX4_writeNumber_35 : decode cX4_writeNumber 35 = .ok (.iload_n 1, 1) := by decide +kernel
theorem dX4_writeNumber_36 : decode cX4_writeNumber 36 = .ok (.invokestatic 57, 3) := by decide +kernel
theorem dX4_writeNumber_39 : decode cX4_writeNumber 39 = .ok (.invokevirtual 25, 3) := by decide +kernel
theorem dX4_writeNumber_42 : decode cX4_writeNumber 42 = .ok (.return_, 1) := by decide +kernel
theorem dX4_digitSign_0 : decode cX4_digitSign 0 = .ok (.bipush 48, 2) := by decide +kernel
theorem dX4_digitSign_2 : decode cX4_digitSign 2 = .ok (.iload_n 0, 1) := by decide +kernel
theorem dX4_digitSign_3 : decode cX4_digitSign 3 = .ok (.bipush 10, 2) := by decide +kernel
theorem dX4_digitSign_5 : decode cX4_digitSign 5 = .ok (.irem, 1) := by decide +kernel
theorem dX4_digitSign_6 : decode cX4_digitSign 6 = .ok (.iadd, 1) := by decide +kernel
theorem dX4_digitSign_7 : decode cX4_digitSign 7 = .ok (.i2c, 1) := by decide +kernel
theorem dX4_digitSign_8 : decode cX4_digitSign 8 = .ok (.ireturn, 1) := by decide +kernel
theorem dX4_put_0 : decode cX4_put 0 = .ok (.aload_n 0, 1) := by decide +kernel
theorem dX4_put_1 : decode cX4_put 1 = .ok (.getfield 15, 3) := by decide +kernel
theorem dX4_put_4 : decode cX4_put 4 = .ok (.ifCond .lt 35, 3) := by decide +kernel
theorem dX4_put_7 : decode cX4_put 7 = .ok (.aload_n 0, 1) := by decide +kernel
theorem dX4_put_8 : decode cX4_put 8 = .ok (.getfield 15, 3) := by decide +kernel
theorem dX4_put_11 : decode cX4_put 11 = .ok (.aload_n 0, 1) := by decide +kernel
theorem dX4_put_12 : decode cX4_put 12 = .ok (.getfield 9, 3) := by decide +kernel
theorem dX4_put_15 : decode cX4_put 15 = .ok (.arraylength, 1) := by decide +kernel
theorem dX4_put_16 : decode cX4_put 16 = .ok (.if_icmp .ge 23, 3) := by decide +kernel
theorem dX4_put_19 : decode cX4_put 19 = .ok (.aload_n 0, 1) := by decide +kernel
theorem dX4_put_20 : decode cX4_put 20 = .ok (.getfield 9, 3) := by decide +kernel
theorem dX4_put_23 : decode cX4_put 23 = .ok (.aload_n 0, 1) := by decide +kernel
theorem dX4_put_24 : decode cX4_put 24 = .ok (.getfield 15, 3) := by decide +kernel
theorem dX4_put_27 : decode cX4_put 27 = .ok (.iload_n 1, 1) := by decide +kernel
theorem dX4_put_28 : decode cX4_put 28 = .ok (.castore, 1) := by decide +kernel
theorem dX4_put_29 : decode cX4_put 29 = .ok (.aload_n 0, 1) := by decide +kernel
theorem dX4_put_30 : decode cX4_put 30 = .ok (.dup, 1) := by decide +kernel
theorem dX4_put_31 : decode cX4_put 31 = .ok (.getfield 15, 3) := by decide +kernel
theorem dX4_put_34 : decode cX4_put 34 = .ok (.iconst 1, 1) := by decide +kernel
theorem dX4_put_35 : decode cX4_put 35 = .ok (.iadd, 1) := by decide +kernel
theorem dX4_put_36 : decode cX4_put 36 = .ok (.putfield 15, 3) := by decide +kernel
theorem dX4_put_39 : decode cX4_put 39 = .ok (.return_, 1) := by decide +kernel
