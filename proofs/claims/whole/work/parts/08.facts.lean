/-! facts of methods and fields; shapes; numbers -/
theorem wc_max : Cond.code Lib.Math.max.name Lib.Math.max.code 2 (some .int) ∈ tbg := wb_608
theorem wc_min : Cond.code Lib.Math.min.name Lib.Math.min.code 2 (some .int) ∈ tbg := wb_605
theorem wi_Math : Cond.initialized "java/lang/Math" ∈ tbg := wb_80
theorem wi_Sys : Cond.initialized "java/lang/System" ∈ tbg := wb_79
theorem wl_X0_102 : Cond.methodLink RX0 102 yX3_isWall ∈ tbg := wb_598
theorem wl_X0_106 : Cond.methodLink RX0 106 yX0_takeGhost ∈ tbg := wb_599
theorem wl_X0_110 : Cond.methodLink RX0 110 Lib.Math.min.name ∈ tbg := wb_603
theorem wl_X0_116 : Cond.methodLink RX0 116 Lib.Math.max.name ∈ tbg := wb_606
theorem wl_X0_122 : Cond.methodLink RX0 122 yX0_sounds ∈ tbg := wb_613
theorem wl_X0_125 : Cond.methodLink RX0 125 yX0_movementOf ∈ tbg := wb_617
theorem wl_X0_126 : Cond.methodLink RX0 126 yX0_isFaint ∈ tbg := wb_625
theorem wl_X0_129 : Cond.methodLink RX0 129 yX0_distanceOf ∈ tbg := wb_639
theorem wl_X0_130 : Cond.methodLink RX0 130 yX0_placeOf ∈ tbg := wb_643
theorem wl_X0_134 : Cond.methodLink RX0 134 yX0_codeOf ∈ tbg := wb_647
theorem wl_X0_137 : Cond.methodLink RX0 137 yX0_has ∈ tbg := wb_621
theorem wl_X0_140 : Cond.methodLink RX0 140 yX0_strengthOf ∈ tbg := wb_629
theorem wl_X0_141 : Cond.methodLink RX0 141 yX0_lesserWall ∈ tbg := wb_674
theorem wl_X0_144 : Cond.methodLink RX0 144 yX0_greaterWall ∈ tbg := wb_678
theorem wl_X0_147 : Cond.methodLink RX0 147 yJ13_bitCount_95d88 ∈ tbg := wb_773
theorem wl_X0_153 : Cond.methodLink RX0 153 yX0_lostTurns ∈ tbg := wb_783
theorem wl_X0_156 : Cond.methodLink RX0 156 yX0_isHeard ∈ tbg := wb_662
theorem wl_X0_160 : Cond.methodLink RX0 160 yX0_isPartOf ∈ tbg := wb_707
theorem wl_X0_164 : Cond.methodLink RX0 164 yX0_fitOf ∈ tbg := wb_658
theorem wl_X0_167 : Cond.methodLink RX0 167 yX0_turnsThatFit ∈ tbg := wb_654
theorem wl_X0_170 : Cond.methodLink RX0 170 yX0_sourcesAt ∈ tbg := wb_732
theorem wl_X0_173 : Cond.methodLink RX0 173 yX0_isToldSource ∈ tbg := wb_796
theorem wl_X0_176 : Cond.methodLink RX0 176 yX0_gatherOpen ∈ tbg := wb_823
theorem wl_X0_179 : Cond.methodLink RX0 179 yX0_openTold ∈ tbg := wb_827
theorem wl_X0_182 : Cond.methodLink RX0 182 yX0_trueCount ∈ tbg := wb_831
theorem wl_X0_185 : Cond.methodLink RX0 185 yX0_missedCount ∈ tbg := wb_832
theorem wl_X0_47 : Cond.methodLink RX0 47 yX3_blindBelow ∈ tbg := wb_574
theorem wl_X0_56 : Cond.methodLink RX0 56 yX3_loudFrom ∈ tbg := wb_578
theorem wl_X0_62 : Cond.methodLink RX0 62 yX0_takeTargets ∈ tbg := wb_582
theorem wl_X0_69 : Cond.methodLink RX0 69 yX0_takeGhosts ∈ tbg := wb_594
theorem wl_X0_72 : Cond.methodLink RX0 72 yX0_takePitches ∈ tbg := wb_609
theorem wl_X0_75 : Cond.methodLink RX0 75 yX3_turnCount ∈ tbg := wb_633
theorem wl_X0_78 : Cond.methodLink RX0 78 yX3_spacingOf ∈ tbg := wb_634
theorem wl_X0_82 : Cond.methodLink RX0 82 yX0_hearTurn ∈ tbg := wb_635
theorem wl_X0_86 : Cond.methodLink RX0 86 yX3_targetCount ∈ tbg := wb_586
theorem wl_X0_89 : Cond.methodLink RX0 89 yX3_distanceOf ∈ tbg := wb_587
theorem wl_X0_92 : Cond.methodLink RX0 92 yX3_strengthOf ∈ tbg := wb_588
theorem wl_X0_95 : Cond.methodLink RX0 95 yX3_movementOf ∈ tbg := wb_589
theorem wl_X0_98 : Cond.methodLink RX0 98 yX0_take ∈ tbg := wb_590
theorem wl_X2_101 : Cond.methodLink RX2 101 yX2_keepSpacing ∈ tbg := wb_475
theorem wl_X2_104 : Cond.methodLink RX2 104 yX2_acceptsSlash ∈ tbg := wb_479
theorem wl_X2_38 : Cond.methodLink RX2 38 yX1_length ∈ tbg := wb_433
theorem wl_X2_44 : Cond.methodLink RX2 44 yX1_signAt ∈ tbg := wb_434
theorem wl_X2_48 : Cond.methodLink RX2 48 yX2_accepts ∈ tbg := wb_438
theorem wl_X2_52 : Cond.methodLink RX2 52 yX2_isComplete ∈ tbg := wb_483
theorem wl_X2_59 : Cond.methodLink RX2 59 yX2_keepTarget ∈ tbg := wb_463
theorem wl_X2_63 : Cond.methodLink RX2 63 yX3_leaveAll ∈ tbg := wb_503
theorem wl_X2_68 : Cond.methodLink RX2 68 yX3_join ∈ tbg := wb_507
theorem wl_X2_72 : Cond.methodLink RX2 72 yX3_forgetTurns ∈ tbg := wb_508
theorem wl_X2_75 : Cond.methodLink RX2 75 yX3_addTurn ∈ tbg := wb_509
theorem wl_X2_79 : Cond.methodLink RX2 79 yX2_acceptsKind ∈ tbg := wb_442
theorem wl_X2_82 : Cond.methodLink RX2 82 yX2_acceptsBegin ∈ tbg := wb_446
theorem wl_X2_86 : Cond.methodLink RX2 86 yX2_endDistance ∈ tbg := wb_451
theorem wl_X2_89 : Cond.methodLink RX2 89 yX2_acceptsDigit ∈ tbg := wb_455
theorem wl_X2_92 : Cond.methodLink RX2 92 yX2_acceptsBehindStrength ∈ tbg := wb_459
theorem wl_X2_95 : Cond.methodLink RX2 95 yX2_acceptsMovement ∈ tbg := wb_471
theorem wl_X2_98 : Cond.methodLink RX2 98 yX2_acceptsTargetEnd ∈ tbg := wb_467
theorem wl_X3_41 : Cond.methodLink RX3 41 arraycopyName ∈ tbg := wb_330
theorem wl_X3_47 : Cond.methodLink RX3 47 yX3_has ∈ tbg := wb_306
theorem wl_X3_51 : Cond.methodLink RX3 51 yX3_hasTurn ∈ tbg := wb_543
theorem wl_X3_54 : Cond.methodLink RX3 54 yX3_isWall ∈ tbg := wb_358
theorem wl_X3_57 : Cond.methodLink RX3 57 yX3_distanceOf ∈ tbg := wb_302
theorem wl_X3_61 : Cond.methodLink RX3 61 yX3_movementOf ∈ tbg := wb_310
theorem wl_X3_64 : Cond.methodLink RX3 64 yX3_put ∈ tbg := wb_337
theorem wl_X3_68 : Cond.methodLink RX3 68 yX3_strengthOf ∈ tbg := wb_354
theorem wl_X3_71 : Cond.methodLink RX3 71 yX3_putAs ∈ tbg := wb_350
theorem wl_X4_19 : Cond.methodLink RX4 19 yX3_targetCount ∈ tbg := wb_518
theorem wl_X4_25 : Cond.methodLink RX4 25 yX4_put ∈ tbg := wb_519
theorem wl_X4_29 : Cond.methodLink RX4 29 yX4_writeTarget ∈ tbg := wb_523
theorem wl_X4_33 : Cond.methodLink RX4 33 yX3_turnCount ∈ tbg := wb_538
theorem wl_X4_36 : Cond.methodLink RX4 36 yX3_spacingOf ∈ tbg := wb_539
theorem wl_X4_40 : Cond.methodLink RX4 40 yX4_writeNumber ∈ tbg := wb_530
theorem wl_X4_44 : Cond.methodLink RX4 44 yX3_movementOf ∈ tbg := wb_527
theorem wl_X4_47 : Cond.methodLink RX4 47 yX3_isWall ∈ tbg := wb_528
theorem wl_X4_51 : Cond.methodLink RX4 51 yX3_distanceOf ∈ tbg := wb_529
theorem wl_X4_54 : Cond.methodLink RX4 54 yX3_strengthOf ∈ tbg := wb_537
theorem wl_X4_57 : Cond.methodLink RX4 57 yX4_digitSign ∈ tbg := wb_534
theorem wl_X5_102 : Cond.methodLink RX5 102 yX5_isWithin ∈ tbg := wb_295
theorem wl_X5_106 : Cond.methodLink RX5 106 yX3_changeBlind ∈ tbg := wb_397
theorem wl_X5_110 : Cond.methodLink RX5 110 yX3_changeLoud ∈ tbg := wb_401
theorem wl_X5_113 : Cond.methodLink RX5 113 yX1_take ∈ tbg := wb_409
theorem wl_X5_117 : Cond.methodLink RX5 117 yX1_length ∈ tbg := wb_413
theorem wl_X5_120 : Cond.methodLink RX5 120 yX1_empty ∈ tbg := wb_421
theorem wl_X5_123 : Cond.methodLink RX5 123 yX2_read ∈ tbg := wb_429
theorem wl_X5_127 : Cond.methodLink RX5 127 yX2_hasTwins ∈ tbg := wb_491
theorem wl_X5_131 : Cond.methodLink RX5 131 yX2_targetCount ∈ tbg := wb_495
theorem wl_X5_132 : Cond.methodLink RX5 132 yX2_putInto ∈ tbg := wb_499
theorem wl_X5_136 : Cond.methodLink RX5 136 yX4_write ∈ tbg := wb_514
theorem wl_X5_139 : Cond.methodLink RX5 139 yX4_length ∈ tbg := wb_547
theorem wl_X5_140 : Cond.methodLink RX5 140 yX4_codeAt ∈ tbg := wb_551
theorem wl_X5_143 : Cond.methodLink RX5 143 yX3_distanceOf ∈ tbg := wb_559
theorem wl_X5_146 : Cond.methodLink RX5 146 yX3_strengthOf ∈ tbg := wb_560
theorem wl_X5_149 : Cond.methodLink RX5 149 yX3_movementOf ∈ tbg := wb_561
theorem wl_X5_152 : Cond.methodLink RX5 152 yX3_isWall ∈ tbg := wb_562
theorem wl_X5_155 : Cond.methodLink RX5 155 yX5_asNumber ∈ tbg := wb_563
theorem wl_X5_159 : Cond.methodLink RX5 159 yX5_heardOf ∈ tbg := wb_566
theorem wl_X5_163 : Cond.methodLink RX5 163 yX0_listen ∈ tbg := wb_570
theorem wl_X5_166 : Cond.methodLink RX5 166 yX0_ghostCount ∈ tbg := wb_686
theorem wl_X5_169 : Cond.methodLink RX5 169 yX0_distanceOf ∈ tbg := wb_690
theorem wl_X5_170 : Cond.methodLink RX5 170 yX0_strengthOf ∈ tbg := wb_691
theorem wl_X5_171 : Cond.methodLink RX5 171 yX0_lesserWall ∈ tbg := wb_692
theorem wl_X5_174 : Cond.methodLink RX5 174 yX0_greaterWall ∈ tbg := wb_693
theorem wl_X5_177 : Cond.methodLink RX5 177 yX0_isToldSource ∈ tbg := wb_650
theorem wl_X5_180 : Cond.methodLink RX5 180 yX3_hasTurn ∈ tbg := wb_698
theorem wl_X5_183 : Cond.methodLink RX5 183 yX0_findEcho ∈ tbg := wb_699
theorem wl_X5_186 : Cond.methodLink RX5 186 yX0_strengthTogether ∈ tbg := wb_703
theorem wl_X5_190 : Cond.methodLink RX5 190 yX0_sourcesTogether ∈ tbg := wb_711
theorem wl_X5_193 : Cond.methodLink RX5 193 yX0_fitOf ∈ tbg := wb_719
theorem wl_X5_196 : Cond.methodLink RX5 196 yX0_findTold ∈ tbg := wb_724
theorem wl_X5_199 : Cond.methodLink RX5 199 yX0_isTrue ∈ tbg := wb_728
theorem wl_X5_203 : Cond.methodLink RX5 203 yX0_turnsThatFit ∈ tbg := wb_736
theorem wl_X5_206 : Cond.methodLink RX5 206 yX3_spacingOf ∈ tbg := wb_741
theorem wl_X5_209 : Cond.methodLink RX5 209 yX5_firstCommonMultiple ∈ tbg := wb_742
theorem wl_X5_212 : Cond.methodLink RX5 212 yX5_commonMultiple ∈ tbg := wb_748
theorem wl_X5_215 : Cond.methodLink RX5 215 yX5_tryDistances ∈ tbg := wb_758
theorem wl_X5_219 : Cond.methodLink RX5 219 yX5_countHeard ∈ tbg := wb_765
theorem wl_X5_222 : Cond.methodLink RX5 222 yX3_wallCount ∈ tbg := wb_801
theorem wl_X5_225 : Cond.methodLink RX5 225 yX3_blindBelow ∈ tbg := wb_805
theorem wl_X5_228 : Cond.methodLink RX5 228 yX3_loudFrom ∈ tbg := wb_806
theorem wl_X5_231 : Cond.methodLink RX5 231 yX0_toldCount ∈ tbg := wb_788
theorem wl_X5_234 : Cond.methodLink RX5 234 yX0_trueCount ∈ tbg := wb_792
theorem wl_X5_237 : Cond.methodLink RX5 237 yX3_become ∈ tbg := wb_326
theorem wl_X5_240 : Cond.methodLink RX5 240 yX0_missedCount ∈ tbg := wb_797
theorem wl_X5_243 : Cond.methodLink RX5 243 yX0_bestNextSpacing ∈ tbg := wb_819
theorem wl_X5_246 : Cond.methodLink RX5 246 yX5_forgetOldest ∈ tbg := wb_322
theorem wl_X5_249 : Cond.methodLink RX5 249 yX3_holds ∈ tbg := wb_298
theorem wl_X5_252 : Cond.methodLink RX5 252 yX0_lostTurns ∈ tbg := wb_666
theorem wl_X5_255 : Cond.methodLink RX5 255 yX0_ghostsOf ∈ tbg := wb_670
theorem wl_X5_258 : Cond.methodLink RX5 258 yX0_echoCount ∈ tbg := wb_769
theorem wl_X5_261 : Cond.methodLink RX5 261 yX0_lostCount ∈ tbg := wb_779
theorem wl_X5_264 : Cond.methodLink RX5 264 yX0_faintCount ∈ tbg := wb_784
theorem wl_X5_267 : Cond.methodLink RX5 267 yX5_remainder ∈ tbg := wb_745
theorem wl_X5_270 : Cond.methodLink RX5 270 yX5_commonDivisor ∈ tbg := wb_751
theorem wl_X5_62 : Cond.methodLink RX5 62 yX5_comingError ∈ tbg := wb_291
theorem wl_X5_66 : Cond.methodLink RX5 66 yX5_remember ∈ tbg := wb_318
theorem wl_X5_69 : Cond.methodLink RX5 69 yX3_join ∈ tbg := wb_333
theorem wl_X5_72 : Cond.methodLink RX5 72 yX3_has ∈ tbg := wb_345
theorem wl_X5_76 : Cond.methodLink RX5 76 yX3_leave ∈ tbg := wb_346
theorem wl_X5_80 : Cond.methodLink RX5 80 yX3_targetCount ∈ tbg := wb_314
theorem wl_X5_84 : Cond.methodLink RX5 84 yX3_moveAll ∈ tbg := wb_366
theorem wl_X5_87 : Cond.methodLink RX5 87 yX5_isSpacing ∈ tbg := wb_375
theorem wl_X5_90 : Cond.methodLink RX5 90 yX5_isSpacingOrNone ∈ tbg := wb_378
theorem wl_X5_93 : Cond.methodLink RX5 93 yX3_forgetTurns ∈ tbg := wb_381
theorem wl_X5_96 : Cond.methodLink RX5 96 yX3_addTurn ∈ tbg := wb_385
theorem wl_X5_99 : Cond.methodLink RX5 99 yX3_turnCount ∈ tbg := wb_389
theorem wl_X6_102 : Cond.methodLink RX6 102 yX6_mark ∈ tbg := wb_1006
theorem wl_X6_105 : Cond.methodLink RX6 105 yX6_fit ∈ tbg := wb_1017
theorem wl_X6_108 : Cond.methodLink RX6 108 yX6_fitting ∈ tbg := wb_1013
theorem wl_X6_111 : Cond.methodLink RX6 111 yX6_isTrue ∈ tbg := wb_1041
theorem wl_X6_114 : Cond.methodLink RX6 114 yX6_isTold ∈ tbg := wb_1009
theorem wl_X6_117 : Cond.methodLink RX6 117 yX6_listen ∈ tbg := wb_982
theorem wl_X6_120 : Cond.methodLink RX6 120 yX6_isTurn ∈ tbg := wb_1029
theorem wl_X6_123 : Cond.methodLink RX6 123 yX6_divisor ∈ tbg := wb_1049
theorem wl_X6_126 : Cond.methodLink RX6 126 yX6_walls ∈ tbg := wb_1060
theorem wl_X6_130 : Cond.methodLink RX6 130 yX6_echoes ∈ tbg := wb_1064
theorem wl_X6_133 : Cond.methodLink RX6 133 yX6_lostMany ∈ tbg := wb_1068
theorem wl_X6_136 : Cond.methodLink RX6 136 yX6_faintMany ∈ tbg := wb_1072
theorem wl_X6_139 : Cond.methodLink RX6 139 yX6_toldMany ∈ tbg := wb_1076
theorem wl_X6_143 : Cond.methodLink RX6 143 yX6_missed ∈ tbg := wb_1080
theorem wl_X6_146 : Cond.methodLink RX6 146 yX6_write ∈ tbg := wb_1084
theorem wl_X6_155 : Cond.methodLink RX6 155 yX6_withTurn ∈ tbg := wb_1104
theorem wl_X6_158 : Cond.methodLink RX6 158 yX6_sets ∈ tbg := wb_1088
theorem wl_X6_161 : Cond.methodLink RX6 161 yX6_setsNumber ∈ tbg := wb_1092
theorem wl_X6_167 : Cond.methodLink RX6 167 yX6_letter ∈ tbg := wb_1136
theorem wl_X6_173 : Cond.methodLink RX6 173 yX6_figure ∈ tbg := wb_1148
theorem wl_X6_176 : Cond.methodLink RX6 176 yX6_wants ∈ tbg := wb_1140
theorem wl_X6_180 : Cond.methodLink RX6 180 yX6_number ∈ tbg := wb_1144
theorem wl_X6_190 : Cond.methodLink RX6 190 yX6_readTarget ∈ tbg := wb_1132
theorem wl_X6_193 : Cond.methodLink RX6 193 yX6_readSpacing ∈ tbg := wb_1152
theorem wl_X6_196 : Cond.methodLink RX6 196 yX6_fault ∈ tbg := wb_1160
theorem wl_X6_41 : Cond.methodLink RX6 41 yX6_in ∈ tbg := wb_936
theorem wl_X6_53 : Cond.methodLink RX6 53 yX6_record ∈ tbg := wb_925
theorem wl_X6_56 : Cond.methodLink RX6 56 yX6_of ∈ tbg := wb_943
theorem wl_X6_60 : Cond.methodLink RX6 60 yX6_isBody ∈ tbg := wb_933
theorem wl_X6_63 : Cond.methodLink RX6 63 yX6_isThere ∈ tbg := wb_939
theorem wl_X6_67 : Cond.methodLink RX6 67 yX6_add ∈ tbg := wb_947
theorem wl_X6_71 : Cond.methodLink RX6 71 yX6_isTarget ∈ tbg := wb_955
theorem wl_X6_75 : Cond.methodLink RX6 75 yX6_takeOut ∈ tbg := wb_959
theorem wl_X6_79 : Cond.methodLink RX6 79 yX6_isSpacing ∈ tbg := wb_971
theorem wl_X6_85 : Cond.methodLink RX6 85 yX6_body ∈ tbg := wb_994
theorem wl_X6_88 : Cond.methodLink RX6 88 yX6_isFaint ∈ tbg := wb_990
theorem wl_X6_91 : Cond.methodLink RX6 91 yX6_placeIn ∈ tbg := wb_1002
theorem wl_X6_95 : Cond.methodLink RX6 95 yX6_layBody ∈ tbg := wb_986
theorem wl_X6_99 : Cond.methodLink RX6 99 yX6_isLost ∈ tbg := wb_998
theorem wn_copy : Cond.native arraycopyName ∈ tbg := wb_332
theorem wt_copy : Cond.static arraycopyName ∈ tbg := wb_331
theorem wt_max : Cond.static Lib.Math.max.name ∈ tbg := wb_607
theorem wt_min : Cond.static Lib.Math.min.name ∈ tbg := wb_604
set_option maxRecDepth 100000 in
theorem uw_X0 : ∀ w ∈ u_ws RX0 TX0 16, w ∈ tbg := (show ∀ w ∈ [u_lay RX0 TX0 0, u_lay RX0 TX0 1, u_lay RX0 TX0 2, u_lay RX0 TX0 3, u_lay RX0 TX0 4, u_lay RX0 TX0 5, u_lay RX0 TX0 6, u_lay RX0 TX0 7, u_lay RX0 TX0 8, u_lay RX0 TX0 9, u_lay RX0 TX0 10, u_lay RX0 TX0 11, u_lay RX0 TX0 12, u_lay RX0 TX0 13, u_lay RX0 TX0 14, u_lay RX0 TX0 15], w ∈ tbg from List.forall_mem_cons.mpr ⟨wb_222, List.forall_mem_cons.mpr ⟨wb_224, List.forall_mem_cons.mpr ⟨wb_226, List.forall_mem_cons.mpr ⟨wb_228, List.forall_mem_cons.mpr ⟨wb_230, List.forall_mem_cons.mpr ⟨wb_232, List.forall_mem_cons.mpr ⟨wb_234, List.forall_mem_cons.mpr ⟨wb_236, List.forall_mem_cons.mpr ⟨wb_238, List.forall_mem_cons.mpr ⟨wb_240, List.forall_mem_cons.mpr ⟨wb_242, List.forall_mem_cons.mpr ⟨wb_244, List.forall_mem_cons.mpr ⟨wb_246, List.forall_mem_cons.mpr ⟨wb_248, List.forall_mem_cons.mpr ⟨wb_250, List.forall_mem_cons.mpr ⟨wb_252, fun _ h => absurd h List.not_mem_nil⟩⟩⟩⟩⟩⟩⟩⟩⟩⟩⟩⟩⟩⟩⟩⟩)
set_option maxRecDepth 100000 in
theorem uw_X1 : ∀ w ∈ u_ws RX1 TX1 2, w ∈ tbg := (show ∀ w ∈ [u_lay RX1 TX1 0, u_lay RX1 TX1 1], w ∈ tbg from List.forall_mem_cons.mpr ⟨wb_135, List.forall_mem_cons.mpr ⟨wb_137, fun _ h => absurd h List.not_mem_nil⟩⟩)
set_option maxRecDepth 100000 in
theorem uw_X2 : ∀ w ∈ u_ws RX2 TX2 13, w ∈ tbg := (show ∀ w ∈ [u_lay RX2 TX2 0, u_lay RX2 TX2 1, u_lay RX2 TX2 2, u_lay RX2 TX2 3, u_lay RX2 TX2 4, u_lay RX2 TX2 5, u_lay RX2 TX2 6, u_lay RX2 TX2 7, u_lay RX2 TX2 8, u_lay RX2 TX2 9, u_lay RX2 TX2 10, u_lay RX2 TX2 11, u_lay RX2 TX2 12], w ∈ tbg from List.forall_mem_cons.mpr ⟨wb_160, List.forall_mem_cons.mpr ⟨wb_162, List.forall_mem_cons.mpr ⟨wb_164, List.forall_mem_cons.mpr ⟨wb_166, List.forall_mem_cons.mpr ⟨wb_168, List.forall_mem_cons.mpr ⟨wb_170, List.forall_mem_cons.mpr ⟨wb_172, List.forall_mem_cons.mpr ⟨wb_174, List.forall_mem_cons.mpr ⟨wb_176, List.forall_mem_cons.mpr ⟨wb_178, List.forall_mem_cons.mpr ⟨wb_180, List.forall_mem_cons.mpr ⟨wb_182, List.forall_mem_cons.mpr ⟨wb_184, fun _ h => absurd h List.not_mem_nil⟩⟩⟩⟩⟩⟩⟩⟩⟩⟩⟩⟩⟩)
set_option maxRecDepth 100000 in
theorem uw_X3 : ∀ w ∈ u_ws RX3 TX3 9, w ∈ tbg := (show ∀ w ∈ [u_lay RX3 TX3 0, u_lay RX3 TX3 1, u_lay RX3 TX3 2, u_lay RX3 TX3 3, u_lay RX3 TX3 4, u_lay RX3 TX3 5, u_lay RX3 TX3 6, u_lay RX3 TX3 7, u_lay RX3 TX3 8], w ∈ tbg from List.forall_mem_cons.mpr ⟨wb_105, List.forall_mem_cons.mpr ⟨wb_107, List.forall_mem_cons.mpr ⟨wb_109, List.forall_mem_cons.mpr ⟨wb_111, List.forall_mem_cons.mpr ⟨wb_113, List.forall_mem_cons.mpr ⟨wb_115, List.forall_mem_cons.mpr ⟨wb_117, List.forall_mem_cons.mpr ⟨wb_119, List.forall_mem_cons.mpr ⟨wb_121, fun _ h => absurd h List.not_mem_nil⟩⟩⟩⟩⟩⟩⟩⟩⟩)
set_option maxRecDepth 100000 in
theorem uw_X4 : ∀ w ∈ u_ws RX4 TX4 2, w ∈ tbg := (show ∀ w ∈ [u_lay RX4 TX4 0, u_lay RX4 TX4 1], w ∈ tbg from List.forall_mem_cons.mpr ⟨wb_195, List.forall_mem_cons.mpr ⟨wb_197, fun _ h => absurd h List.not_mem_nil⟩⟩)
set_option maxRecDepth 100000 in
theorem uw_X5 : ∀ w ∈ u_ws RX5 TX5 10, w ∈ tbg := (show ∀ w ∈ [u_lay RX5 TX5 0, u_lay RX5 TX5 1, u_lay RX5 TX5 2, u_lay RX5 TX5 3, u_lay RX5 TX5 4, u_lay RX5 TX5 5, u_lay RX5 TX5 6, u_lay RX5 TX5 7, u_lay RX5 TX5 8, u_lay RX5 TX5 9], w ∈ tbg from List.forall_mem_cons.mpr ⟨wb_266, List.forall_mem_cons.mpr ⟨wb_268, List.forall_mem_cons.mpr ⟨wb_270, List.forall_mem_cons.mpr ⟨wb_272, List.forall_mem_cons.mpr ⟨wb_274, List.forall_mem_cons.mpr ⟨wb_276, List.forall_mem_cons.mpr ⟨wb_278, List.forall_mem_cons.mpr ⟨wb_280, List.forall_mem_cons.mpr ⟨wb_282, List.forall_mem_cons.mpr ⟨wb_284, fun _ h => absurd h List.not_mem_nil⟩⟩⟩⟩⟩⟩⟩⟩⟩⟩)
set_option maxRecDepth 100000 in
theorem uw_X6 : ∀ w ∈ u_ws RX6 TX6 19, w ∈ tbg := (show ∀ w ∈ [u_lay RX6 TX6 0, u_lay RX6 TX6 1, u_lay RX6 TX6 2, u_lay RX6 TX6 3, u_lay RX6 TX6 4, u_lay RX6 TX6 5, u_lay RX6 TX6 6, u_lay RX6 TX6 7, u_lay RX6 TX6 8, u_lay RX6 TX6 9, u_lay RX6 TX6 10, u_lay RX6 TX6 11, u_lay RX6 TX6 12, u_lay RX6 TX6 13, u_lay RX6 TX6 14, u_lay RX6 TX6 15, u_lay RX6 TX6 16, u_lay RX6 TX6 17, u_lay RX6 TX6 18], w ∈ tbg from List.forall_mem_cons.mpr ⟨wb_874, List.forall_mem_cons.mpr ⟨wb_876, List.forall_mem_cons.mpr ⟨wb_878, List.forall_mem_cons.mpr ⟨wb_880, List.forall_mem_cons.mpr ⟨wb_882, List.forall_mem_cons.mpr ⟨wb_884, List.forall_mem_cons.mpr ⟨wb_886, List.forall_mem_cons.mpr ⟨wb_888, List.forall_mem_cons.mpr ⟨wb_890, List.forall_mem_cons.mpr ⟨wb_892, List.forall_mem_cons.mpr ⟨wb_894, List.forall_mem_cons.mpr ⟨wb_896, List.forall_mem_cons.mpr ⟨wb_898, List.forall_mem_cons.mpr ⟨wb_900, List.forall_mem_cons.mpr ⟨wb_902, List.forall_mem_cons.mpr ⟨wb_904, List.forall_mem_cons.mpr ⟨wb_906, List.forall_mem_cons.mpr ⟨wb_908, List.forall_mem_cons.mpr ⟨wb_910, fun _ h => absurd h List.not_mem_nil⟩⟩⟩⟩⟩⟩⟩⟩⟩⟩⟩⟩⟩⟩⟩⟩⟩⟩⟩)
theorem fk_X0_11 : fldOK RX0 11 0 0 16 := ⟨RX0, TX0, rfl, by decide, uw_X0, wb_206⟩
theorem fk_X0_15 : fldOK RX0 15 0 1 16 := ⟨RX0, TX0, rfl, by decide, uw_X0, wb_207⟩
theorem fk_X0_18 : fldOK RX0 18 0 2 16 := ⟨RX0, TX0, rfl, by decide, uw_X0, wb_208⟩
theorem fk_X0_21 : fldOK RX0 21 0 3 16 := ⟨RX0, TX0, rfl, by decide, uw_X0, wb_209⟩
theorem fk_X0_24 : fldOK RX0 24 0 4 16 := ⟨RX0, TX0, rfl, by decide, uw_X0, wb_210⟩
theorem fk_X0_27 : fldOK RX0 27 0 5 16 := ⟨RX0, TX0, rfl, by decide, uw_X0, wb_211⟩
theorem fk_X0_30 : fldOK RX0 30 0 6 16 := ⟨RX0, TX0, rfl, by decide, uw_X0, wb_212⟩
theorem fk_X0_34 : fldOK RX0 34 0 7 16 := ⟨RX0, TX0, rfl, by decide, uw_X0, wb_213⟩
theorem fk_X0_37 : fldOK RX0 37 0 8 16 := ⟨RX0, TX0, rfl, by decide, uw_X0, wb_214⟩
theorem fk_X0_40 : fldOK RX0 40 0 9 16 := ⟨RX0, TX0, rfl, by decide, uw_X0, wb_215⟩
theorem fk_X0_44 : fldOK RX0 44 0 11 16 := ⟨RX0, TX0, rfl, by decide, uw_X0, wb_217⟩
theorem fk_X0_53 : fldOK RX0 53 0 12 16 := ⟨RX0, TX0, rfl, by decide, uw_X0, wb_218⟩
theorem fk_X0_59 : fldOK RX0 59 0 13 16 := ⟨RX0, TX0, rfl, by decide, uw_X0, wb_219⟩
theorem fk_X0_66 : fldOK RX0 66 0 10 16 := ⟨RX0, TX0, rfl, by decide, uw_X0, wb_216⟩
theorem fk_X0_119 : fldOK RX0 119 0 14 16 := ⟨RX0, TX0, rfl, by decide, uw_X0, wb_220⟩
theorem fk_X0_188 : fldOK RX0 188 0 15 16 := ⟨RX0, TX0, rfl, by decide, uw_X0, wb_221⟩
theorem fk_X1_9 : fldOK RX1 9 1 0 2 := ⟨RX1, TX1, rfl, by decide, uw_X1, wb_133⟩
theorem fk_X1_15 : fldOK RX1 15 1 1 2 := ⟨RX1, TX1, rfl, by decide, uw_X1, wb_134⟩
theorem fk_X2_11 : fldOK RX2 11 2 0 13 := ⟨RX2, TX2, rfl, by decide, uw_X2, wb_147⟩
theorem fk_X2_15 : fldOK RX2 15 2 1 13 := ⟨RX2, TX2, rfl, by decide, uw_X2, wb_148⟩
theorem fk_X2_18 : fldOK RX2 18 2 2 13 := ⟨RX2, TX2, rfl, by decide, uw_X2, wb_149⟩
theorem fk_X2_21 : fldOK RX2 21 2 3 13 := ⟨RX2, TX2, rfl, by decide, uw_X2, wb_150⟩
theorem fk_X2_25 : fldOK RX2 25 2 4 13 := ⟨RX2, TX2, rfl, by decide, uw_X2, wb_151⟩
theorem fk_X2_28 : fldOK RX2 28 2 5 13 := ⟨RX2, TX2, rfl, by decide, uw_X2, wb_152⟩
theorem fk_X2_32 : fldOK RX2 32 2 6 13 := ⟨RX2, TX2, rfl, by decide, uw_X2, wb_153⟩
theorem fk_X2_35 : fldOK RX2 35 2 7 13 := ⟨RX2, TX2, rfl, by decide, uw_X2, wb_154⟩
theorem fk_X2_56 : fldOK RX2 56 2 8 13 := ⟨RX2, TX2, rfl, by decide, uw_X2, wb_155⟩
theorem fk_X2_107 : fldOK RX2 107 2 11 13 := ⟨RX2, TX2, rfl, by decide, uw_X2, wb_158⟩
theorem fk_X2_115 : fldOK RX2 115 2 9 13 := ⟨RX2, TX2, rfl, by decide, uw_X2, wb_156⟩
theorem fk_X2_118 : fldOK RX2 118 2 10 13 := ⟨RX2, TX2, rfl, by decide, uw_X2, wb_157⟩
theorem fk_X2_121 : fldOK RX2 121 2 12 13 := ⟨RX2, TX2, rfl, by decide, uw_X2, wb_159⟩
theorem fk_X3_9 : fldOK RX3 9 3 0 9 := ⟨RX3, TX3, rfl, by decide, uw_X3, wb_96⟩
theorem fk_X3_15 : fldOK RX3 15 3 1 9 := ⟨RX3, TX3, rfl, by decide, uw_X3, wb_97⟩
theorem fk_X3_18 : fldOK RX3 18 3 2 9 := ⟨RX3, TX3, rfl, by decide, uw_X3, wb_98⟩
theorem fk_X3_21 : fldOK RX3 21 3 3 9 := ⟨RX3, TX3, rfl, by decide, uw_X3, wb_99⟩
theorem fk_X3_25 : fldOK RX3 25 3 4 9 := ⟨RX3, TX3, rfl, by decide, uw_X3, wb_100⟩
theorem fk_X3_28 : fldOK RX3 28 3 5 9 := ⟨RX3, TX3, rfl, by decide, uw_X3, wb_101⟩
theorem fk_X3_32 : fldOK RX3 32 3 6 9 := ⟨RX3, TX3, rfl, by decide, uw_X3, wb_102⟩
theorem fk_X3_35 : fldOK RX3 35 3 7 9 := ⟨RX3, TX3, rfl, by decide, uw_X3, wb_103⟩
theorem fk_X3_38 : fldOK RX3 38 3 8 9 := ⟨RX3, TX3, rfl, by decide, uw_X3, wb_104⟩
theorem fk_X4_9 : fldOK RX4 9 4 0 2 := ⟨RX4, TX4, rfl, by decide, uw_X4, wb_193⟩
theorem fk_X4_15 : fldOK RX4 15 4 1 2 := ⟨RX4, TX4, rfl, by decide, uw_X4, wb_194⟩
theorem fk_X5_12 : fldOK RX5 12 5 0 10 := ⟨RX5, TX5, rfl, by decide, uw_X5, wb_256⟩
theorem fk_X5_16 : fldOK RX5 16 5 1 10 := ⟨RX5, TX5, rfl, by decide, uw_X5, wb_257⟩
theorem fk_X5_19 : fldOK RX5 19 5 2 10 := ⟨RX5, TX5, rfl, by decide, uw_X5, wb_258⟩
theorem fk_X5_22 : fldOK RX5 22 5 3 10 := ⟨RX5, TX5, rfl, by decide, uw_X5, wb_259⟩
theorem fk_X5_29 : fldOK RX5 29 5 4 10 := ⟨RX5, TX5, rfl, by decide, uw_X5, wb_260⟩
theorem fk_X5_36 : fldOK RX5 36 5 5 10 := ⟨RX5, TX5, rfl, by decide, uw_X5, wb_261⟩
theorem fk_X5_43 : fldOK RX5 43 5 6 10 := ⟨RX5, TX5, rfl, by decide, uw_X5, wb_262⟩
theorem fk_X5_50 : fldOK RX5 50 5 7 10 := ⟨RX5, TX5, rfl, by decide, uw_X5, wb_263⟩
theorem fk_X5_54 : fldOK RX5 54 5 8 10 := ⟨RX5, TX5, rfl, by decide, uw_X5, wb_264⟩
theorem fk_X5_58 : fldOK RX5 58 5 9 10 := ⟨RX5, TX5, rfl, by decide, uw_X5, wb_265⟩
theorem fk_X6_7 : fldOK RX6 7 6 0 19 := ⟨RX6, TX6, rfl, by decide, uw_X6, wb_855⟩
theorem fk_X6_13 : fldOK RX6 13 6 1 19 := ⟨RX6, TX6, rfl, by decide, uw_X6, wb_856⟩
theorem fk_X6_16 : fldOK RX6 16 6 3 19 := ⟨RX6, TX6, rfl, by decide, uw_X6, wb_858⟩
theorem fk_X6_19 : fldOK RX6 19 6 5 19 := ⟨RX6, TX6, rfl, by decide, uw_X6, wb_860⟩
theorem fk_X6_23 : fldOK RX6 23 6 7 19 := ⟨RX6, TX6, rfl, by decide, uw_X6, wb_862⟩
theorem fk_X6_26 : fldOK RX6 26 6 9 19 := ⟨RX6, TX6, rfl, by decide, uw_X6, wb_864⟩
theorem fk_X6_29 : fldOK RX6 29 6 10 19 := ⟨RX6, TX6, rfl, by decide, uw_X6, wb_865⟩
theorem fk_X6_32 : fldOK RX6 32 6 11 19 := ⟨RX6, TX6, rfl, by decide, uw_X6, wb_866⟩
theorem fk_X6_35 : fldOK RX6 35 6 13 19 := ⟨RX6, TX6, rfl, by decide, uw_X6, wb_868⟩
theorem fk_X6_38 : fldOK RX6 38 6 15 19 := ⟨RX6, TX6, rfl, by decide, uw_X6, wb_870⟩
theorem fk_X6_45 : fldOK RX6 45 6 2 19 := ⟨RX6, TX6, rfl, by decide, uw_X6, wb_857⟩
theorem fk_X6_49 : fldOK RX6 49 6 4 19 := ⟨RX6, TX6, rfl, by decide, uw_X6, wb_859⟩
theorem fk_X6_82 : fldOK RX6 82 6 8 19 := ⟨RX6, TX6, rfl, by decide, uw_X6, wb_863⟩
theorem fk_X6_149 : fldOK RX6 149 6 12 19 := ⟨RX6, TX6, rfl, by decide, uw_X6, wb_867⟩
theorem fk_X6_152 : fldOK RX6 152 6 6 19 := ⟨RX6, TX6, rfl, by decide, uw_X6, wb_861⟩
theorem fk_X6_164 : fldOK RX6 164 6 17 19 := ⟨RX6, TX6, rfl, by decide, uw_X6, wb_872⟩
theorem fk_X6_170 : fldOK RX6 170 6 18 19 := ⟨RX6, TX6, rfl, by decide, uw_X6, wb_873⟩
theorem fk_X6_184 : fldOK RX6 184 6 14 19 := ⟨RX6, TX6, rfl, by decide, uw_X6, wb_869⟩
theorem fk_X6_187 : fldOK RX6 187 6 16 19 := ⟨RX6, TX6, rfl, by decide, uw_X6, wb_871⟩
theorem fp_X0_40 : fputOK RX0 40 0 9 16 .int := ⟨RX0, TX0, tyX0, rfl, by decide, uw_X0, wb_215, tyX0_ok, nmX0, rfl, by decide +kernel⟩
theorem fp_X0_44 : fputOK RX0 44 0 11 16 .int := ⟨RX0, TX0, tyX0, rfl, by decide, uw_X0, wb_217, tyX0_ok, nmX0, rfl, by decide +kernel⟩
theorem fp_X0_53 : fputOK RX0 53 0 12 16 .int := ⟨RX0, TX0, tyX0, rfl, by decide, uw_X0, wb_218, tyX0_ok, nmX0, rfl, by decide +kernel⟩
theorem fp_X0_59 : fputOK RX0 59 0 13 16 .int := ⟨RX0, TX0, tyX0, rfl, by decide, uw_X0, wb_219, tyX0_ok, nmX0, rfl, by decide +kernel⟩
theorem fp_X0_66 : fputOK RX0 66 0 10 16 .int := ⟨RX0, TX0, tyX0, rfl, by decide, uw_X0, wb_216, tyX0_ok, nmX0, rfl, by decide +kernel⟩
theorem fp_X0_119 : fputOK RX0 119 0 14 16 .int := ⟨RX0, TX0, tyX0, rfl, by decide, uw_X0, wb_220, tyX0_ok, nmX0, rfl, by decide +kernel⟩
theorem fp_X0_188 : fputOK RX0 188 0 15 16 .int := ⟨RX0, TX0, tyX0, rfl, by decide, uw_X0, wb_221, tyX0_ok, nmX0, rfl, by decide +kernel⟩
theorem fp_X1_15 : fputOK RX1 15 1 1 2 .int := ⟨RX1, TX1, tyX1, rfl, by decide, uw_X1, wb_134, tyX1_ok, nmX1, rfl, by decide +kernel⟩
theorem fp_X2_28 : fputOK RX2 28 2 5 13 .int := ⟨RX2, TX2, tyX2, rfl, by decide, uw_X2, wb_152, tyX2_ok, nmX2, rfl, by decide +kernel⟩
theorem fp_X2_32 : fputOK RX2 32 2 6 13 .int := ⟨RX2, TX2, tyX2, rfl, by decide, uw_X2, wb_153, tyX2_ok, nmX2, rfl, by decide +kernel⟩
theorem fp_X2_35 : fputOK RX2 35 2 7 13 .int := ⟨RX2, TX2, tyX2, rfl, by decide, uw_X2, wb_154, tyX2_ok, nmX2, rfl, by decide +kernel⟩
theorem fp_X2_56 : fputOK RX2 56 2 8 13 .int := ⟨RX2, TX2, tyX2, rfl, by decide, uw_X2, wb_155, tyX2_ok, nmX2, rfl, by decide +kernel⟩
theorem fp_X2_107 : fputOK RX2 107 2 11 13 .boolean := ⟨RX2, TX2, tyX2, rfl, by decide, uw_X2, wb_158, tyX2_ok, nmX2, rfl, by decide +kernel⟩
theorem fp_X2_115 : fputOK RX2 115 2 9 13 .int := ⟨RX2, TX2, tyX2, rfl, by decide, uw_X2, wb_156, tyX2_ok, nmX2, rfl, by decide +kernel⟩
theorem fp_X2_118 : fputOK RX2 118 2 10 13 .int := ⟨RX2, TX2, tyX2, rfl, by decide, uw_X2, wb_157, tyX2_ok, nmX2, rfl, by decide +kernel⟩
theorem fp_X2_121 : fputOK RX2 121 2 12 13 .boolean := ⟨RX2, TX2, tyX2, rfl, by decide, uw_X2, wb_159, tyX2_ok, nmX2, rfl, by decide +kernel⟩
theorem fp_X3_28 : fputOK RX3 28 3 5 9 .int := ⟨RX3, TX3, tyX3, rfl, by decide, uw_X3, wb_101, tyX3_ok, nmX3, rfl, by decide +kernel⟩
theorem fp_X3_32 : fputOK RX3 32 3 6 9 .int := ⟨RX3, TX3, tyX3, rfl, by decide, uw_X3, wb_102, tyX3_ok, nmX3, rfl, by decide +kernel⟩
theorem fp_X3_35 : fputOK RX3 35 3 7 9 .int := ⟨RX3, TX3, tyX3, rfl, by decide, uw_X3, wb_103, tyX3_ok, nmX3, rfl, by decide +kernel⟩
theorem fp_X3_38 : fputOK RX3 38 3 8 9 .int := ⟨RX3, TX3, tyX3, rfl, by decide, uw_X3, wb_104, tyX3_ok, nmX3, rfl, by decide +kernel⟩
theorem fp_X4_15 : fputOK RX4 15 4 1 2 .int := ⟨RX4, TX4, tyX4, rfl, by decide, uw_X4, wb_194, tyX4_ok, nmX4, rfl, by decide +kernel⟩
theorem fp_X5_54 : fputOK RX5 54 5 8 10 .boolean := ⟨RX5, TX5, tyX5, rfl, by decide, uw_X5, wb_264, tyX5_ok, nmX5, rfl, by decide +kernel⟩
theorem fp_X5_58 : fputOK RX5 58 5 9 10 .int := ⟨RX5, TX5, tyX5, rfl, by decide, uw_X5, wb_265, tyX5_ok, nmX5, rfl, by decide +kernel⟩
theorem fp_X6_45 : fputOK RX6 45 6 2 19 .int := ⟨RX6, TX6, tyX6, rfl, by decide, uw_X6, wb_857, tyX6_ok, nmX6, rfl, by decide +kernel⟩
theorem fp_X6_49 : fputOK RX6 49 6 4 19 .boolean := ⟨RX6, TX6, tyX6, rfl, by decide, uw_X6, wb_859, tyX6_ok, nmX6, rfl, by decide +kernel⟩
theorem fp_X6_82 : fputOK RX6 82 6 8 19 .int := ⟨RX6, TX6, tyX6, rfl, by decide, uw_X6, wb_863, tyX6_ok, nmX6, rfl, by decide +kernel⟩
theorem fp_X6_149 : fputOK RX6 149 6 12 19 .int := ⟨RX6, TX6, tyX6, rfl, by decide, uw_X6, wb_867, tyX6_ok, nmX6, rfl, by decide +kernel⟩
theorem fp_X6_152 : fputOK RX6 152 6 6 19 .int := ⟨RX6, TX6, tyX6, rfl, by decide, uw_X6, wb_861, tyX6_ok, nmX6, rfl, by decide +kernel⟩
theorem fp_X6_164 : fputOK RX6 164 6 17 19 .int := ⟨RX6, TX6, tyX6, rfl, by decide, uw_X6, wb_872, tyX6_ok, nmX6, rfl, by decide +kernel⟩
theorem fp_X6_170 : fputOK RX6 170 6 18 19 .int := ⟨RX6, TX6, tyX6, rfl, by decide, uw_X6, wb_873, tyX6_ok, nmX6, rfl, by decide +kernel⟩
theorem fp_X6_184 : fputOK RX6 184 6 14 19 .int := ⟨RX6, TX6, tyX6, rfl, by decide, uw_X6, wb_869, tyX6_ok, nmX6, rfl, by decide +kernel⟩
theorem fp_X6_187 : fputOK RX6 187 6 16 19 .int := ⟨RX6, TX6, tyX6, rfl, by decide, uw_X6, wb_871, tyX6_ok, nmX6, rfl, by decide +kernel⟩
theorem wn_X2_111 : (RX2, 111, yX5_isWithin, "EchoTurns") ∈ pmN := by decide +kernel
theorem wn_X3_75 : (RX3, 75, yX5_isWithin, "EchoTurns") ∈ pmN := by decide +kernel
def mX3_become : MI := (yX3_become, cX3_become, 3, none)
def mX3_targetCount : MI := (yX3_targetCount, cX3_targetCount, 1, some .int)
def mX3_turnCount : MI := (yX3_turnCount, cX3_turnCount, 1, some .int)
def mX3_blindBelow : MI := (yX3_blindBelow, cX3_blindBelow, 1, some .int)
def mX3_loudFrom : MI := (yX3_loudFrom, cX3_loudFrom, 1, some .int)
def mX3_has : MI := (yX3_has, cX3_has, 2, some .boolean)
def mX3_hasTurn : MI := (yX3_hasTurn, cX3_hasTurn, 2, some .boolean)
def mX3_distanceOf : MI := (yX3_distanceOf, cX3_distanceOf, 2, some .int)
def mX3_strengthOf : MI := (yX3_strengthOf, cX3_strengthOf, 2, some .int)
def mX3_movementOf : MI := (yX3_movementOf, cX3_movementOf, 2, some .int)
def mX3_isWall : MI := (yX3_isWall, cX3_isWall, 2, some .boolean)
def mX3_spacingOf : MI := (yX3_spacingOf, cX3_spacingOf, 2, some .int)
def mX3_wallCount : MI := (yX3_wallCount, cX3_wallCount, 3, some .int)
def mX3_holds : MI := (yX3_holds, cX3_holds, 4, some .boolean)
def mX3_join : MI := (yX3_join, cX3_join, 5, some .int)
def mX3_put : MI := (yX3_put, cX3_put, 6, none)
def mX3_putAs : MI := (yX3_putAs, cX3_putAs, 4, none)
def mX3_leave : MI := (yX3_leave, cX3_leave, 3, none)
def mX3_leaveAll : MI := (yX3_leaveAll, cX3_leaveAll, 1, none)
def mX3_moveAll : MI := (yX3_moveAll, cX3_moveAll, 4, none)
def mX3_forgetTurns : MI := (yX3_forgetTurns, cX3_forgetTurns, 1, none)
def mX3_addTurn : MI := (yX3_addTurn, cX3_addTurn, 2, none)
def mX3_changeBlind : MI := (yX3_changeBlind, cX3_changeBlind, 3, some .int)
def mX3_changeLoud : MI := (yX3_changeLoud, cX3_changeLoud, 3, some .int)
def mX0_listen : MI := (yX0_listen, cX0_listen, 3, none)
def mX0_takeTargets : MI := (yX0_takeTargets, cX0_takeTargets, 3, none)
def mX0_takeGhosts : MI := (yX0_takeGhosts, cX0_takeGhosts, 4, none)
def mX0_takeGhost : MI := (yX0_takeGhost, cX0_takeGhost, 7, none)
def mX0_take : MI := (yX0_take, cX0_take, 6, none)
def mX0_takePitches : MI := (yX0_takePitches, cX0_takePitches, 2, none)
def mX0_sounds : MI := (yX0_sounds, cX0_sounds, 3, some .boolean)
def mX0_hearTurn : MI := (yX0_hearTurn, cX0_hearTurn, 6, none)
def mX0_has : MI := (yX0_has, cX0_has, 2, some .boolean)
def mX0_distanceOf : MI := (yX0_distanceOf, cX0_distanceOf, 2, some .int)
def mX0_strengthOf : MI := (yX0_strengthOf, cX0_strengthOf, 2, some .int)
def mX0_movementOf : MI := (yX0_movementOf, cX0_movementOf, 2, some .int)
def mX0_lesserWall : MI := (yX0_lesserWall, cX0_lesserWall, 2, some .int)
def mX0_greaterWall : MI := (yX0_greaterWall, cX0_greaterWall, 2, some .int)
def mX0_isFaint : MI := (yX0_isFaint, cX0_isFaint, 2, some .boolean)
def mX0_placeOf : MI := (yX0_placeOf, cX0_placeOf, 6, some .int)
def mX0_codeOf : MI := (yX0_codeOf, cX0_codeOf, 2, some .int)
def mX0_isHeard : MI := (yX0_isHeard, cX0_isHeard, 5, some .boolean)
def mX0_ghostCount : MI := (yX0_ghostCount, cX0_ghostCount, 1, some .int)
def mX0_ghostsOf : MI := (yX0_ghostsOf, cX0_ghostsOf, 4, some .int)
def mX0_echoCount : MI := (yX0_echoCount, cX0_echoCount, 3, some .int)
def mX0_lostCount : MI := (yX0_lostCount, cX0_lostCount, 3, some .int)
def mX0_lostTurns : MI := (yX0_lostTurns, cX0_lostTurns, 4, some .int)
def mX0_faintCount : MI := (yX0_faintCount, cX0_faintCount, 3, some .int)
def mX0_findEcho : MI := (yX0_findEcho, cX0_findEcho, 6, some .int)
def mX0_strengthTogether : MI := (yX0_strengthTogether, cX0_strengthTogether, 6, some .int)
def mX0_sourcesTogether : MI := (yX0_sourcesTogether, cX0_sourcesTogether, 6, some .int)
def mX0_isPartOf : MI := (yX0_isPartOf, cX0_isPartOf, 5, some .boolean)
def mX0_fitOf : MI := (yX0_fitOf, cX0_fitOf, 5, some .int)
def mX0_turnsThatFit : MI := (yX0_turnsThatFit, cX0_turnsThatFit, 6, some .int)
def mX0_isToldSource : MI := (yX0_isToldSource, cX0_isToldSource, 2, some .boolean)
def mX0_isTrue : MI := (yX0_isTrue, cX0_isTrue, 3, some .boolean)
def mX0_sourcesAt : MI := (yX0_sourcesAt, cX0_sourcesAt, 6, some .int)
def mX0_toldCount : MI := (yX0_toldCount, cX0_toldCount, 4, some .int)
def mX0_findTold : MI := (yX0_findTold, cX0_findTold, 5, some .int)
def mX0_trueCount : MI := (yX0_trueCount, cX0_trueCount, 3, some .int)
def mX0_missedCount : MI := (yX0_missedCount, cX0_missedCount, 3, some .int)
def mX0_bestNextSpacing : MI := (yX0_bestNextSpacing, cX0_bestNextSpacing, 6, some .int)
def mX0_gatherOpen : MI := (yX0_gatherOpen, cX0_gatherOpen, 4, none)
def mX0_openTold : MI := (yX0_openTold, cX0_openTold, 6, some .int)
def mX1_length : MI := (yX1_length, cX1_length, 1, some .int)
def mX1_take : MI := (yX1_take, cX1_take, 2, some .boolean)
def mX1_empty : MI := (yX1_empty, cX1_empty, 2, some .int)
def mX1_signAt : MI := (yX1_signAt, cX1_signAt, 2, some .char)
def mX2_read : MI := (yX2_read, cX2_read, 3, some .int)
def mX2_targetCount : MI := (yX2_targetCount, cX2_targetCount, 1, some .int)
def mX2_hasTwins : MI := (yX2_hasTwins, cX2_hasTwins, 3, some .boolean)
def mX2_putInto : MI := (yX2_putInto, cX2_putInto, 3, none)
def mX2_isComplete : MI := (yX2_isComplete, cX2_isComplete, 1, some .boolean)
def mX2_accepts : MI := (yX2_accepts, cX2_accepts, 2, some .boolean)
def mX2_acceptsKind : MI := (yX2_acceptsKind, cX2_acceptsKind, 2, some .boolean)
def mX2_acceptsBegin : MI := (yX2_acceptsBegin, cX2_acceptsBegin, 4, some .boolean)
def mX2_acceptsDigit : MI := (yX2_acceptsDigit, cX2_acceptsDigit, 5, some .boolean)
def mX2_endDistance : MI := (yX2_endDistance, cX2_endDistance, 1, some .boolean)
def mX2_acceptsBehindStrength : MI := (yX2_acceptsBehindStrength, cX2_acceptsBehindStrength, 2, some .boolean)
def mX2_acceptsMovement : MI := (yX2_acceptsMovement, cX2_acceptsMovement, 3, some .boolean)
def mX2_acceptsTargetEnd : MI := (yX2_acceptsTargetEnd, cX2_acceptsTargetEnd, 2, some .boolean)
def mX2_acceptsSlash : MI := (yX2_acceptsSlash, cX2_acceptsSlash, 2, some .boolean)
def mX2_keepTarget : MI := (yX2_keepTarget, cX2_keepTarget, 3, none)
def mX2_keepSpacing : MI := (yX2_keepSpacing, cX2_keepSpacing, 1, some .boolean)
def mX4_length : MI := (yX4_length, cX4_length, 1, some .int)
def mX4_codeAt : MI := (yX4_codeAt, cX4_codeAt, 2, some .int)
def mX4_write : MI := (yX4_write, cX4_write, 3, none)
def mX4_writeTarget : MI := (yX4_writeTarget, cX4_writeTarget, 4, none)
def mX4_writeNumber : MI := (yX4_writeNumber, cX4_writeNumber, 2, none)
def mX4_digitSign : MI := (yX4_digitSign, cX4_digitSign, 1, some .char)
def mX4_put : MI := (yX4_put, cX4_put, 2, none)
def mX5_target : MI := (yX5_target, cX5_target, 6, some .int)
def mX5_drop : MI := (yX5_drop, cX5_drop, 2, some .int)
def mX5_go : MI := (yX5_go, cX5_go, 1, some .int)
def mX5_spacings : MI := (yX5_spacings, cX5_spacings, 5, some .int)
def mX5_set : MI := (yX5_set, cX5_set, 3, some .int)
def mX5_append : MI := (yX5_append, cX5_append, 2, some .int)
def mX5_clear : MI := (yX5_clear, cX5_clear, 1, some .int)
def mX5_fault : MI := (yX5_fault, cX5_fault, 1, some .int)
def mX5_load : MI := (yX5_load, cX5_load, 1, some .int)
def mX5_sign : MI := (yX5_sign, cX5_sign, 2, some .int)
def mX5_targetOf : MI := (yX5_targetOf, cX5_targetOf, 3, some .int)
def mX5_ghost : MI := (yX5_ghost, cX5_ghost, 4, some .int)
def mX5_echo : MI := (yX5_echo, cX5_echo, 7, some .int)
def mX5_fits : MI := (yX5_fits, cX5_fits, 4, some .int)
def mX5_told : MI := (yX5_told, cX5_told, 6, some .int)
def mX5_alike : MI := (yX5_alike, cX5_alike, 5, some .int)
def mX5_unfold : MI := (yX5_unfold, cX5_unfold, 6, some .int)
def mX5_count : MI := (yX5_count, cX5_count, 2, some .int)
def mX5_ifTurn : MI := (yX5_ifTurn, cX5_ifTurn, 3, some .int)
def mX5_bestTurn : MI := (yX5_bestTurn, cX5_bestTurn, 1, some .int)
def mX5_ifWall : MI := (yX5_ifWall, cX5_ifWall, 5, some .int)
def mX5_undo : MI := (yX5_undo, cX5_undo, 1, some .int)
def mX5_save : MI := (yX5_save, cX5_save, 1, some .int)
def mX5_restore : MI := (yX5_restore, cX5_restore, 1, some .int)
def mX5_remember : MI := (yX5_remember, cX5_remember, 1, none)
def mX5_forgetOldest : MI := (yX5_forgetOldest, cX5_forgetOldest, 3, none)
def mX5_comingError : MI := (yX5_comingError, cX5_comingError, 5, some .int)
def mX5_heardOf : MI := (yX5_heardOf, cX5_heardOf, 3, some .int)
def mX5_countHeard : MI := (yX5_countHeard, cX5_countHeard, 2, some .int)
def mX5_isWithin : MI := (yX5_isWithin, cX5_isWithin, 3, some .boolean)
def mX5_isSpacing : MI := (yX5_isSpacing, cX5_isSpacing, 1, some .boolean)
def mX5_isSpacingOrNone : MI := (yX5_isSpacingOrNone, cX5_isSpacingOrNone, 1, some .boolean)
def mX5_asNumber : MI := (yX5_asNumber, cX5_asNumber, 1, some .int)
def mX5_remainder : MI := (yX5_remainder, cX5_remainder, 2, some .int)
def mX5_firstCommonMultiple : MI := (yX5_firstCommonMultiple, cX5_firstCommonMultiple, 4, some .int)
def mX5_commonMultiple : MI := (yX5_commonMultiple, cX5_commonMultiple, 3, some .int)
def mX5_commonDivisor : MI := (yX5_commonDivisor, cX5_commonDivisor, 6, some .int)
def mX5_tryDistances : MI := (yX5_tryDistances, cX5_tryDistances, 7, some .int)
def mX6_in : MI := (yX6_in, cX6_in, 3, some .boolean)
def mX6_of : MI := (yX6_of, cX6_of, 3, some .int)
def mX6_isTarget : MI := (yX6_isTarget, cX6_isTarget, 2, some .boolean)
def mX6_isTurn : MI := (yX6_isTurn, cX6_isTurn, 2, some .boolean)
def mX6_record : MI := (yX6_record, cX6_record, 2, none)
def mX6_undo : MI := (yX6_undo, cX6_undo, 2, some .int)
def mX6_save : MI := (yX6_save, cX6_save, 2, some .int)
def mX6_restore : MI := (yX6_restore, cX6_restore, 2, some .int)
def mX6_isThere : MI := (yX6_isThere, cX6_isThere, 5, some .boolean)
def mX6_add : MI := (yX6_add, cX6_add, 6, none)
def mX6_isBody : MI := (yX6_isBody, cX6_isBody, 3, some .boolean)
def mX6_target : MI := (yX6_target, cX6_target, 5, some .int)
def mX6_takeOut : MI := (yX6_takeOut, cX6_takeOut, 3, none)
def mX6_drop : MI := (yX6_drop, cX6_drop, 2, some .int)
def mX6_go : MI := (yX6_go, cX6_go, 3, some .int)
def mX6_isSpacing : MI := (yX6_isSpacing, cX6_isSpacing, 1, some .boolean)
def mX6_spacings : MI := (yX6_spacings, cX6_spacings, 6, some .int)
def mX6_set : MI := (yX6_set, cX6_set, 4, some .int)
def mX6_body : MI := (yX6_body, cX6_body, 3, some .int)
def mX6_layBody : MI := (yX6_layBody, cX6_layBody, 7, none)
def mX6_placeIn : MI := (yX6_placeIn, cX6_placeIn, 5, some .int)
def mX6_mark : MI := (yX6_mark, cX6_mark, 3, some .int)
def mX6_isFaint : MI := (yX6_isFaint, cX6_isFaint, 2, some .boolean)
def mX6_isLost : MI := (yX6_isLost, cX6_isLost, 3, some .boolean)
def mX6_listen : MI := (yX6_listen, cX6_listen, 5, none)
def mX6_fit : MI := (yX6_fit, cX6_fit, 5, some .int)
def mX6_fitting : MI := (yX6_fitting, cX6_fitting, 6, some .int)
def mX6_isTrue : MI := (yX6_isTrue, cX6_isTrue, 5, some .boolean)
def mX6_toldMany : MI := (yX6_toldMany, cX6_toldMany, 5, some .int)
def mX6_isTold : MI := (yX6_isTold, cX6_isTold, 2, some .boolean)
def mX6_missed : MI := (yX6_missed, cX6_missed, 3, some .int)
def mX6_targetOf : MI := (yX6_targetOf, cX6_targetOf, 5, some .int)
def mX6_ghost : MI := (yX6_ghost, cX6_ghost, 4, some .int)
def mX6_echo : MI := (yX6_echo, cX6_echo, 6, some .int)
def mX6_fits : MI := (yX6_fits, cX6_fits, 4, some .int)
def mX6_told : MI := (yX6_told, cX6_told, 7, some .int)
def mX6_divisor : MI := (yX6_divisor, cX6_divisor, 5, some .int)
def mX6_alike : MI := (yX6_alike, cX6_alike, 4, some .int)
def mX6_unfold : MI := (yX6_unfold, cX6_unfold, 7, some .int)
def mX6_echoes : MI := (yX6_echoes, cX6_echoes, 3, some .int)
def mX6_lostMany : MI := (yX6_lostMany, cX6_lostMany, 4, some .int)
def mX6_faintMany : MI := (yX6_faintMany, cX6_faintMany, 3, some .int)
def mX6_walls : MI := (yX6_walls, cX6_walls, 3, some .int)
def mX6_count : MI := (yX6_count, cX6_count, 2, some .int)
def mX6_withTurn : MI := (yX6_withTurn, cX6_withTurn, 4, some .int)
def mX6_ifTurn : MI := (yX6_ifTurn, cX6_ifTurn, 3, some .int)
def mX6_bestTurn : MI := (yX6_bestTurn, cX6_bestTurn, 5, some .int)
def mX6_ifWall : MI := (yX6_ifWall, cX6_ifWall, 5, some .int)
def mX6_sets : MI := (yX6_sets, cX6_sets, 2, none)
def mX6_setsNumber : MI := (yX6_setsNumber, cX6_setsNumber, 2, none)
def mX6_write : MI := (yX6_write, cX6_write, 2, none)
def mX6_sign : MI := (yX6_sign, cX6_sign, 2, some .int)
def mX6_append : MI := (yX6_append, cX6_append, 2, some .int)
def mX6_clear : MI := (yX6_clear, cX6_clear, 2, some .int)
def mX6_letter : MI := (yX6_letter, cX6_letter, 1, some .int)
def mX6_figure : MI := (yX6_figure, cX6_figure, 2, some .int)
def mX6_wants : MI := (yX6_wants, cX6_wants, 2, none)
def mX6_number : MI := (yX6_number, cX6_number, 3, some .int)
def mX6_readTarget : MI := (yX6_readTarget, cX6_readTarget, 6, none)
def mX6_readSpacing : MI := (yX6_readSpacing, cX6_readSpacing, 3, none)
def mX6_fault : MI := (yX6_fault, cX6_fault, 1, some .int)
def mX6_load : MI := (yX6_load, cX6_load, 4, some .int)
def mJ13_bitCount_95d88 : MI := (yJ13_bitCount_95d88, cJ13_bitCount_95d88, 2, some .int)
theorem mk_J13_bitCount_95d88 : mOKS mJ13_bitCount_95d88 1 := ⟨wb_774, wb_81, wb_775, ⟨by decide +kernel, by decide +kernel⟩, by decide +kernel, by decide⟩
theorem mk_X0_bestNextSpacing : mOKV mX0_bestNextSpacing 0 0 := ⟨wb_820, wb_821, wb_77, wb_822, ⟨_, rfl, rfl⟩, ⟨by decide +kernel, by decide +kernel⟩, by decide +kernel, by decide⟩
theorem mk_X0_codeOf : mOKS mX0_codeOf 2 := ⟨wb_648, wb_77, wb_649, ⟨by decide +kernel, by decide +kernel⟩, by decide +kernel, by decide⟩
theorem mk_X0_distanceOf : mOKV mX0_distanceOf 0 1 := ⟨wb_640, wb_641, wb_77, wb_642, ⟨_, rfl, rfl⟩, ⟨by decide +kernel, by decide +kernel⟩, by decide +kernel, by decide⟩
theorem mk_X0_echoCount : mOKV mX0_echoCount 0 0 := ⟨wb_770, wb_771, wb_77, wb_772, ⟨_, rfl, rfl⟩, ⟨by decide +kernel, by decide +kernel⟩, by decide +kernel, by decide⟩
theorem mk_X0_faintCount : mOKV mX0_faintCount 0 0 := ⟨wb_785, wb_786, wb_77, wb_787, ⟨_, rfl, rfl⟩, ⟨by decide +kernel, by decide +kernel⟩, by decide +kernel, by decide⟩
theorem mk_X0_findEcho : mOKV mX0_findEcho 0 2 := ⟨wb_700, wb_701, wb_77, wb_702, ⟨_, rfl, rfl⟩, ⟨by decide +kernel, by decide +kernel⟩, by decide +kernel, by decide⟩
theorem mk_X0_findTold : mOKV mX0_findTold 0 1 := ⟨wb_725, wb_726, wb_77, wb_727, ⟨_, rfl, rfl⟩, ⟨by decide +kernel, by decide +kernel⟩, by decide +kernel, by decide⟩
theorem mk_X0_fitOf : mOKV mX0_fitOf 0 3 := ⟨wb_659, wb_660, wb_77, wb_661, ⟨_, rfl, rfl⟩, ⟨by decide +kernel, by decide +kernel⟩, by decide +kernel, by decide⟩
theorem mk_X0_gatherOpen : mOKV mX0_gatherOpen 0 0 := ⟨wb_825, wb_36, wb_77, wb_826, ⟨_, rfl, rfl⟩, ⟨by decide +kernel, by decide +kernel⟩, by decide +kernel, by decide⟩
theorem mk_X0_ghostCount : mOKV mX0_ghostCount 0 0 := ⟨wb_687, wb_688, wb_77, wb_689, ⟨_, rfl, rfl⟩, ⟨by decide +kernel, by decide +kernel⟩, by decide +kernel, by decide⟩
theorem mk_X0_ghostsOf : mOKV mX0_ghostsOf 0 1 := ⟨wb_671, wb_672, wb_77, wb_673, ⟨_, rfl, rfl⟩, ⟨by decide +kernel, by decide +kernel⟩, by decide +kernel, by decide⟩
theorem mk_X0_greaterWall : mOKV mX0_greaterWall 0 1 := ⟨wb_679, wb_680, wb_77, wb_681, ⟨_, rfl, rfl⟩, ⟨by decide +kernel, by decide +kernel⟩, by decide +kernel, by decide⟩
theorem mk_X0_has : mOKV mX0_has 0 1 := ⟨wb_623, wb_28, wb_77, wb_624, ⟨_, rfl, rfl⟩, ⟨by decide +kernel, by decide +kernel⟩, by decide +kernel, by decide⟩
theorem mk_X0_hearTurn : mOKV mX0_hearTurn 0 2 := ⟨wb_637, wb_30, wb_77, wb_638, ⟨_, rfl, rfl⟩, ⟨by decide +kernel, by decide +kernel⟩, by decide +kernel, by decide⟩
theorem mk_X0_isFaint : mOKV mX0_isFaint 0 1 := ⟨wb_627, wb_29, wb_77, wb_628, ⟨_, rfl, rfl⟩, ⟨by decide +kernel, by decide +kernel⟩, by decide +kernel, by decide⟩
theorem mk_X0_isHeard : mOKV mX0_isHeard 0 3 := ⟨wb_664, wb_32, wb_77, wb_665, ⟨_, rfl, rfl⟩, ⟨by decide +kernel, by decide +kernel⟩, by decide +kernel, by decide⟩
theorem mk_X0_isPartOf : mOKV mX0_isPartOf 0 4 := ⟨wb_709, wb_33, wb_77, wb_710, ⟨_, rfl, rfl⟩, ⟨by decide +kernel, by decide +kernel⟩, by decide +kernel, by decide⟩
theorem mk_X0_isToldSource : mOKV mX0_isToldSource 0 1 := ⟨wb_651, wb_652, wb_77, wb_653, ⟨_, rfl, rfl⟩, ⟨by decide +kernel, by decide +kernel⟩, by decide +kernel, by decide⟩
theorem mk_X0_isTrue : mOKV mX0_isTrue 0 2 := ⟨wb_729, wb_730, wb_77, wb_731, ⟨_, rfl, rfl⟩, ⟨by decide +kernel, by decide +kernel⟩, by decide +kernel, by decide⟩
theorem mk_X0_lesserWall : mOKV mX0_lesserWall 0 1 := ⟨wb_675, wb_676, wb_77, wb_677, ⟨_, rfl, rfl⟩, ⟨by decide +kernel, by decide +kernel⟩, by decide +kernel, by decide⟩
theorem mk_X0_listen : mOKV mX0_listen 0 1 := ⟨wb_571, wb_572, wb_77, wb_573, ⟨_, rfl, rfl⟩, ⟨by decide +kernel, by decide +kernel⟩, by decide +kernel, by decide⟩
theorem mk_X0_lostCount : mOKV mX0_lostCount 0 0 := ⟨wb_780, wb_781, wb_77, wb_782, ⟨_, rfl, rfl⟩, ⟨by decide +kernel, by decide +kernel⟩, by decide +kernel, by decide⟩
theorem mk_X0_lostTurns : mOKV mX0_lostTurns 0 1 := ⟨wb_667, wb_668, wb_77, wb_669, ⟨_, rfl, rfl⟩, ⟨by decide +kernel, by decide +kernel⟩, by decide +kernel, by decide⟩
theorem mk_X0_missedCount : mOKV mX0_missedCount 0 0 := ⟨wb_798, wb_799, wb_77, wb_800, ⟨_, rfl, rfl⟩, ⟨by decide +kernel, by decide +kernel⟩, by decide +kernel, by decide⟩
theorem mk_X0_movementOf : mOKV mX0_movementOf 0 1 := ⟨wb_619, wb_27, wb_77, wb_620, ⟨_, rfl, rfl⟩, ⟨by decide +kernel, by decide +kernel⟩, by decide +kernel, by decide⟩
theorem mk_X0_openTold : mOKV mX0_openTold 0 1 := ⟨wb_829, wb_37, wb_77, wb_830, ⟨_, rfl, rfl⟩, ⟨by decide +kernel, by decide +kernel⟩, by decide +kernel, by decide⟩
theorem mk_X0_placeOf : mOKV mX0_placeOf 0 3 := ⟨wb_645, wb_31, wb_77, wb_646, ⟨_, rfl, rfl⟩, ⟨by decide +kernel, by decide +kernel⟩, by decide +kernel, by decide⟩
theorem mk_X0_sounds : mOKV mX0_sounds 0 1 := ⟨wb_615, wb_26, wb_77, wb_616, ⟨_, rfl, rfl⟩, ⟨by decide +kernel, by decide +kernel⟩, by decide +kernel, by decide⟩
theorem mk_X0_sourcesAt : mOKV mX0_sourcesAt 0 3 := ⟨wb_734, wb_34, wb_77, wb_735, ⟨_, rfl, rfl⟩, ⟨by decide +kernel, by decide +kernel⟩, by decide +kernel, by decide⟩
theorem mk_X0_sourcesTogether : mOKV mX0_sourcesTogether 0 3 := ⟨wb_712, wb_713, wb_77, wb_714, ⟨_, rfl, rfl⟩, ⟨by decide +kernel, by decide +kernel⟩, by decide +kernel, by decide⟩
theorem mk_X0_strengthOf : mOKV mX0_strengthOf 0 1 := ⟨wb_630, wb_631, wb_77, wb_632, ⟨_, rfl, rfl⟩, ⟨by decide +kernel, by decide +kernel⟩, by decide +kernel, by decide⟩
theorem mk_X0_strengthTogether : mOKV mX0_strengthTogether 0 3 := ⟨wb_704, wb_705, wb_77, wb_706, ⟨_, rfl, rfl⟩, ⟨by decide +kernel, by decide +kernel⟩, by decide +kernel, by decide⟩
theorem mk_X0_take : mOKV mX0_take 0 5 := ⟨wb_592, wb_22, wb_77, wb_593, ⟨_, rfl, rfl⟩, ⟨by decide +kernel, by decide +kernel⟩, by decide +kernel, by decide⟩
theorem mk_X0_takeGhost : mOKV mX0_takeGhost 0 3 := ⟨wb_601, wb_24, wb_77, wb_602, ⟨_, rfl, rfl⟩, ⟨by decide +kernel, by decide +kernel⟩, by decide +kernel, by decide⟩
theorem mk_X0_takeGhosts : mOKV mX0_takeGhosts 0 1 := ⟨wb_596, wb_23, wb_77, wb_597, ⟨_, rfl, rfl⟩, ⟨by decide +kernel, by decide +kernel⟩, by decide +kernel, by decide⟩
theorem mk_X0_takePitches : mOKV mX0_takePitches 0 0 := ⟨wb_611, wb_25, wb_77, wb_612, ⟨_, rfl, rfl⟩, ⟨by decide +kernel, by decide +kernel⟩, by decide +kernel, by decide⟩
theorem mk_X0_takeTargets : mOKV mX0_takeTargets 0 1 := ⟨wb_584, wb_21, wb_77, wb_585, ⟨_, rfl, rfl⟩, ⟨by decide +kernel, by decide +kernel⟩, by decide +kernel, by decide⟩
theorem mk_X0_toldCount : mOKV mX0_toldCount 0 0 := ⟨wb_789, wb_790, wb_77, wb_791, ⟨_, rfl, rfl⟩, ⟨by decide +kernel, by decide +kernel⟩, by decide +kernel, by decide⟩
theorem mk_X0_trueCount : mOKV mX0_trueCount 0 0 := ⟨wb_793, wb_794, wb_77, wb_795, ⟨_, rfl, rfl⟩, ⟨by decide +kernel, by decide +kernel⟩, by decide +kernel, by decide⟩
theorem mk_X0_turnsThatFit : mOKV mX0_turnsThatFit 0 2 := ⟨wb_655, wb_656, wb_77, wb_657, ⟨_, rfl, rfl⟩, ⟨by decide +kernel, by decide +kernel⟩, by decide +kernel, by decide⟩
theorem mk_X1_empty : mOKV mX1_empty 1 0 := ⟨wb_422, wb_423, wb_74, wb_424, ⟨_, rfl, rfl⟩, ⟨by decide +kernel, by decide +kernel⟩, by decide +kernel, by decide⟩
theorem mk_X1_length : mOKV mX1_length 1 0 := ⟨wb_414, wb_415, wb_74, wb_416, ⟨_, rfl, rfl⟩, ⟨by decide +kernel, by decide +kernel⟩, by decide +kernel, by decide⟩
theorem mk_X1_signAt : mOKV mX1_signAt 1 1 := ⟨wb_435, wb_436, wb_74, wb_437, ⟨_, rfl, rfl⟩, ⟨by decide +kernel, by decide +kernel⟩, by decide +kernel, by decide⟩
theorem mk_X1_take : mOKV mX1_take 1 1 := ⟨wb_410, wb_411, wb_74, wb_412, ⟨_, rfl, rfl⟩, ⟨by decide +kernel, by decide +kernel⟩, by decide +kernel, by decide⟩
theorem mk_X2_accepts : mOKV mX2_accepts 2 1 := ⟨wb_440, wb_5, wb_75, wb_441, ⟨_, rfl, rfl⟩, ⟨by decide +kernel, by decide +kernel⟩, by decide +kernel, by decide⟩
theorem mk_X2_acceptsBegin : mOKV mX2_acceptsBegin 2 3 := ⟨wb_448, wb_7, wb_75, wb_449, ⟨_, rfl, rfl⟩, ⟨by decide +kernel, by decide +kernel⟩, by decide +kernel, by decide⟩
theorem mk_X2_acceptsBehindStrength : mOKV mX2_acceptsBehindStrength 2 1 := ⟨wb_461, wb_10, wb_75, wb_462, ⟨_, rfl, rfl⟩, ⟨by decide +kernel, by decide +kernel⟩, by decide +kernel, by decide⟩
theorem mk_X2_acceptsDigit : mOKV mX2_acceptsDigit 2 3 := ⟨wb_457, wb_9, wb_75, wb_458, ⟨_, rfl, rfl⟩, ⟨by decide +kernel, by decide +kernel⟩, by decide +kernel, by decide⟩
theorem mk_X2_acceptsKind : mOKV mX2_acceptsKind 2 1 := ⟨wb_444, wb_6, wb_75, wb_445, ⟨_, rfl, rfl⟩, ⟨by decide +kernel, by decide +kernel⟩, by decide +kernel, by decide⟩
theorem mk_X2_acceptsMovement : mOKV mX2_acceptsMovement 2 1 := ⟨wb_473, wb_13, wb_75, wb_474, ⟨_, rfl, rfl⟩, ⟨by decide +kernel, by decide +kernel⟩, by decide +kernel, by decide⟩
theorem mk_X2_acceptsSlash : mOKV mX2_acceptsSlash 2 1 := ⟨wb_481, wb_15, wb_75, wb_482, ⟨_, rfl, rfl⟩, ⟨by decide +kernel, by decide +kernel⟩, by decide +kernel, by decide⟩
theorem mk_X2_acceptsTargetEnd : mOKV mX2_acceptsTargetEnd 2 1 := ⟨wb_469, wb_12, wb_75, wb_470, ⟨_, rfl, rfl⟩, ⟨by decide +kernel, by decide +kernel⟩, by decide +kernel, by decide⟩
theorem mk_X2_endDistance : mOKV mX2_endDistance 2 0 := ⟨wb_453, wb_8, wb_75, wb_454, ⟨_, rfl, rfl⟩, ⟨by decide +kernel, by decide +kernel⟩, by decide +kernel, by decide⟩
theorem mk_X2_hasTwins : mOKV mX2_hasTwins 2 0 := ⟨wb_492, wb_493, wb_75, wb_494, ⟨_, rfl, rfl⟩, ⟨by decide +kernel, by decide +kernel⟩, by decide +kernel, by decide⟩
theorem mk_X2_isComplete : mOKV mX2_isComplete 2 0 := ⟨wb_485, wb_16, wb_75, wb_486, ⟨_, rfl, rfl⟩, ⟨by decide +kernel, by decide +kernel⟩, by decide +kernel, by decide⟩
theorem mk_X2_keepSpacing : mOKV mX2_keepSpacing 2 0 := ⟨wb_477, wb_14, wb_75, wb_478, ⟨_, rfl, rfl⟩, ⟨by decide +kernel, by decide +kernel⟩, by decide +kernel, by decide⟩
theorem mk_X2_keepTarget : mOKV mX2_keepTarget 2 2 := ⟨wb_465, wb_11, wb_75, wb_466, ⟨_, rfl, rfl⟩, ⟨by decide +kernel, by decide +kernel⟩, by decide +kernel, by decide⟩
theorem mk_X2_putInto : mOKV mX2_putInto 2 1 := ⟨wb_500, wb_501, wb_75, wb_502, ⟨_, rfl, rfl⟩, ⟨by decide +kernel, by decide +kernel⟩, by decide +kernel, by decide⟩
theorem mk_X2_read : mOKV mX2_read 2 1 := ⟨wb_430, wb_431, wb_75, wb_432, ⟨_, rfl, rfl⟩, ⟨by decide +kernel, by decide +kernel⟩, by decide +kernel, by decide⟩
theorem mk_X2_targetCount : mOKV mX2_targetCount 2 0 := ⟨wb_496, wb_497, wb_75, wb_498, ⟨_, rfl, rfl⟩, ⟨by decide +kernel, by decide +kernel⟩, by decide +kernel, by decide⟩
theorem mk_X3_addTurn : mOKV mX3_addTurn 3 1 := ⟨wb_386, wb_387, wb_73, wb_388, ⟨_, rfl, rfl⟩, ⟨by decide +kernel, by decide +kernel⟩, by decide +kernel, by decide⟩
theorem mk_X3_become : mOKV mX3_become 3 1 := ⟨wb_327, wb_328, wb_73, wb_329, ⟨_, rfl, rfl⟩, ⟨by decide +kernel, by decide +kernel⟩, by decide +kernel, by decide⟩
theorem mk_X3_blindBelow : mOKV mX3_blindBelow 3 0 := ⟨wb_575, wb_576, wb_73, wb_577, ⟨_, rfl, rfl⟩, ⟨by decide +kernel, by decide +kernel⟩, by decide +kernel, by decide⟩
theorem mk_X3_changeBlind : mOKV mX3_changeBlind 3 1 := ⟨wb_398, wb_399, wb_73, wb_400, ⟨_, rfl, rfl⟩, ⟨by decide +kernel, by decide +kernel⟩, by decide +kernel, by decide⟩
theorem mk_X3_changeLoud : mOKV mX3_changeLoud 3 1 := ⟨wb_402, wb_403, wb_73, wb_404, ⟨_, rfl, rfl⟩, ⟨by decide +kernel, by decide +kernel⟩, by decide +kernel, by decide⟩
theorem mk_X3_distanceOf : mOKV mX3_distanceOf 3 1 := ⟨wb_303, wb_304, wb_73, wb_305, ⟨_, rfl, rfl⟩, ⟨by decide +kernel, by decide +kernel⟩, by decide +kernel, by decide⟩
theorem mk_X3_forgetTurns : mOKV mX3_forgetTurns 3 0 := ⟨wb_382, wb_383, wb_73, wb_384, ⟨_, rfl, rfl⟩, ⟨by decide +kernel, by decide +kernel⟩, by decide +kernel, by decide⟩
theorem mk_X3_has : mOKV mX3_has 3 1 := ⟨wb_307, wb_308, wb_73, wb_309, ⟨_, rfl, rfl⟩, ⟨by decide +kernel, by decide +kernel⟩, by decide +kernel, by decide⟩
theorem mk_X3_hasTurn : mOKV mX3_hasTurn 3 1 := ⟨wb_544, wb_545, wb_73, wb_546, ⟨_, rfl, rfl⟩, ⟨by decide +kernel, by decide +kernel⟩, by decide +kernel, by decide⟩
theorem mk_X3_holds : mOKV mX3_holds 3 2 := ⟨wb_299, wb_300, wb_73, wb_301, ⟨_, rfl, rfl⟩, ⟨by decide +kernel, by decide +kernel⟩, by decide +kernel, by decide⟩
theorem mk_X3_isWall : mOKV mX3_isWall 3 1 := ⟨wb_359, wb_360, wb_73, wb_361, ⟨_, rfl, rfl⟩, ⟨by decide +kernel, by decide +kernel⟩, by decide +kernel, by decide⟩
theorem mk_X3_join : mOKV mX3_join 3 4 := ⟨wb_334, wb_335, wb_73, wb_336, ⟨_, rfl, rfl⟩, ⟨by decide +kernel, by decide +kernel⟩, by decide +kernel, by decide⟩
theorem mk_X3_leave : mOKV mX3_leave 3 1 := ⟨wb_347, wb_348, wb_73, wb_349, ⟨_, rfl, rfl⟩, ⟨by decide +kernel, by decide +kernel⟩, by decide +kernel, by decide⟩
theorem mk_X3_leaveAll : mOKV mX3_leaveAll 3 0 := ⟨wb_504, wb_505, wb_73, wb_506, ⟨_, rfl, rfl⟩, ⟨by decide +kernel, by decide +kernel⟩, by decide +kernel, by decide⟩
theorem mk_X3_loudFrom : mOKV mX3_loudFrom 3 0 := ⟨wb_579, wb_580, wb_73, wb_581, ⟨_, rfl, rfl⟩, ⟨by decide +kernel, by decide +kernel⟩, by decide +kernel, by decide⟩
theorem mk_X3_moveAll : mOKV mX3_moveAll 3 0 := ⟨wb_367, wb_368, wb_73, wb_369, ⟨_, rfl, rfl⟩, ⟨by decide +kernel, by decide +kernel⟩, by decide +kernel, by decide⟩
theorem mk_X3_movementOf : mOKV mX3_movementOf 3 1 := ⟨wb_311, wb_312, wb_73, wb_313, ⟨_, rfl, rfl⟩, ⟨by decide +kernel, by decide +kernel⟩, by decide +kernel, by decide⟩
theorem mk_X3_put : mOKV mX3_put 3 5 := ⟨wb_339, wb_3, wb_73, wb_340, ⟨_, rfl, rfl⟩, ⟨by decide +kernel, by decide +kernel⟩, by decide +kernel, by decide⟩
theorem mk_X3_putAs : mOKV mX3_putAs 3 3 := ⟨wb_352, wb_4, wb_73, wb_353, ⟨_, rfl, rfl⟩, ⟨by decide +kernel, by decide +kernel⟩, by decide +kernel, by decide⟩
theorem mk_X3_spacingOf : mOKV mX3_spacingOf 3 1 := ⟨wb_540, wb_541, wb_73, wb_542, ⟨_, rfl, rfl⟩, ⟨by decide +kernel, by decide +kernel⟩, by decide +kernel, by decide⟩
theorem mk_X3_strengthOf : mOKV mX3_strengthOf 3 1 := ⟨wb_355, wb_356, wb_73, wb_357, ⟨_, rfl, rfl⟩, ⟨by decide +kernel, by decide +kernel⟩, by decide +kernel, by decide⟩
theorem mk_X3_targetCount : mOKV mX3_targetCount 3 0 := ⟨wb_315, wb_316, wb_73, wb_317, ⟨_, rfl, rfl⟩, ⟨by decide +kernel, by decide +kernel⟩, by decide +kernel, by decide⟩
theorem mk_X3_turnCount : mOKV mX3_turnCount 3 0 := ⟨wb_390, wb_391, wb_73, wb_392, ⟨_, rfl, rfl⟩, ⟨by decide +kernel, by decide +kernel⟩, by decide +kernel, by decide⟩
theorem mk_X3_wallCount : mOKV mX3_wallCount 3 0 := ⟨wb_802, wb_803, wb_73, wb_804, ⟨_, rfl, rfl⟩, ⟨by decide +kernel, by decide +kernel⟩, by decide +kernel, by decide⟩
theorem mk_X4_codeAt : mOKV mX4_codeAt 4 1 := ⟨wb_552, wb_553, wb_76, wb_554, ⟨_, rfl, rfl⟩, ⟨by decide +kernel, by decide +kernel⟩, by decide +kernel, by decide⟩
theorem mk_X4_digitSign : mOKS mX4_digitSign 1 := ⟨wb_535, wb_76, wb_536, ⟨by decide +kernel, by decide +kernel⟩, by decide +kernel, by decide⟩
theorem mk_X4_length : mOKV mX4_length 4 0 := ⟨wb_548, wb_549, wb_76, wb_550, ⟨_, rfl, rfl⟩, ⟨by decide +kernel, by decide +kernel⟩, by decide +kernel, by decide⟩
theorem mk_X4_put : mOKV mX4_put 4 1 := ⟨wb_521, wb_17, wb_76, wb_522, ⟨_, rfl, rfl⟩, ⟨by decide +kernel, by decide +kernel⟩, by decide +kernel, by decide⟩
theorem mk_X4_write : mOKV mX4_write 4 1 := ⟨wb_515, wb_516, wb_76, wb_517, ⟨_, rfl, rfl⟩, ⟨by decide +kernel, by decide +kernel⟩, by decide +kernel, by decide⟩
theorem mk_X4_writeNumber : mOKV mX4_writeNumber 4 1 := ⟨wb_532, wb_19, wb_76, wb_533, ⟨_, rfl, rfl⟩, ⟨by decide +kernel, by decide +kernel⟩, by decide +kernel, by decide⟩
theorem mk_X4_writeTarget : mOKV mX4_writeTarget 4 2 := ⟨wb_525, wb_18, wb_76, wb_526, ⟨_, rfl, rfl⟩, ⟨by decide +kernel, by decide +kernel⟩, by decide +kernel, by decide⟩
theorem mk_X5_alike : mOKV mX5_alike 5 1 := ⟨wb_738, wb_739, wb_72, wb_740, ⟨_, rfl, rfl⟩, ⟨by decide +kernel, by decide +kernel⟩, by decide +kernel, by decide⟩
theorem mk_X5_append : mOKV mX5_append 5 1 := ⟨wb_406, wb_407, wb_72, wb_408, ⟨_, rfl, rfl⟩, ⟨by decide +kernel, by decide +kernel⟩, by decide +kernel, by decide⟩
theorem mk_X5_asNumber : mOKS mX5_asNumber 1 := ⟨wb_564, wb_72, wb_565, ⟨by decide +kernel, by decide +kernel⟩, by decide +kernel, by decide⟩
theorem mk_X5_bestTurn : mOKV mX5_bestTurn 5 0 := ⟨wb_816, wb_817, wb_72, wb_818, ⟨_, rfl, rfl⟩, ⟨by decide +kernel, by decide +kernel⟩, by decide +kernel, by decide⟩
theorem mk_X5_clear : mOKV mX5_clear 5 0 := ⟨wb_418, wb_419, wb_72, wb_420, ⟨_, rfl, rfl⟩, ⟨by decide +kernel, by decide +kernel⟩, by decide +kernel, by decide⟩
theorem mk_X5_comingError : mOKV mX5_comingError 5 4 := ⟨wb_293, wb_0, wb_72, wb_294, ⟨_, rfl, rfl⟩, ⟨by decide +kernel, by decide +kernel⟩, by decide +kernel, by decide⟩
theorem mk_X5_commonDivisor : mOKS mX5_commonDivisor 2 := ⟨wb_752, wb_72, wb_753, ⟨by decide +kernel, by decide +kernel⟩, by decide +kernel, by decide⟩
theorem mk_X5_commonMultiple : mOKS mX5_commonMultiple 2 := ⟨wb_749, wb_72, wb_750, ⟨by decide +kernel, by decide +kernel⟩, by decide +kernel, by decide⟩
theorem mk_X5_count : mOKV mX5_count 5 1 := ⟨wb_762, wb_763, wb_72, wb_764, ⟨_, rfl, rfl⟩, ⟨by decide +kernel, by decide +kernel⟩, by decide +kernel, by decide⟩
theorem mk_X5_countHeard : mOKV mX5_countHeard 5 1 := ⟨wb_767, wb_35, wb_72, wb_768, ⟨_, rfl, rfl⟩, ⟨by decide +kernel, by decide +kernel⟩, by decide +kernel, by decide⟩
theorem mk_X5_drop : mOKV mX5_drop 5 1 := ⟨wb_342, wb_343, wb_72, wb_344, ⟨_, rfl, rfl⟩, ⟨by decide +kernel, by decide +kernel⟩, by decide +kernel, by decide⟩
theorem mk_X5_echo : mOKV mX5_echo 5 3 := ⟨wb_695, wb_696, wb_72, wb_697, ⟨_, rfl, rfl⟩, ⟨by decide +kernel, by decide +kernel⟩, by decide +kernel, by decide⟩
theorem mk_X5_fault : mOKV mX5_fault 5 0 := ⟨wb_426, wb_427, wb_72, wb_428, ⟨_, rfl, rfl⟩, ⟨by decide +kernel, by decide +kernel⟩, by decide +kernel, by decide⟩
theorem mk_X5_firstCommonMultiple : mOKS mX5_firstCommonMultiple 2 := ⟨wb_743, wb_72, wb_744, ⟨by decide +kernel, by decide +kernel⟩, by decide +kernel, by decide⟩
theorem mk_X5_fits : mOKV mX5_fits 5 3 := ⟨wb_716, wb_717, wb_72, wb_718, ⟨_, rfl, rfl⟩, ⟨by decide +kernel, by decide +kernel⟩, by decide +kernel, by decide⟩
theorem mk_X5_forgetOldest : mOKV mX5_forgetOldest 5 0 := ⟨wb_324, wb_2, wb_72, wb_325, ⟨_, rfl, rfl⟩, ⟨by decide +kernel, by decide +kernel⟩, by decide +kernel, by decide⟩
theorem mk_X5_ghost : mOKV mX5_ghost 5 2 := ⟨wb_683, wb_684, wb_72, wb_685, ⟨_, rfl, rfl⟩, ⟨by decide +kernel, by decide +kernel⟩, by decide +kernel, by decide⟩
theorem mk_X5_go : mOKV mX5_go 5 0 := ⟨wb_363, wb_364, wb_72, wb_365, ⟨_, rfl, rfl⟩, ⟨by decide +kernel, by decide +kernel⟩, by decide +kernel, by decide⟩
theorem mk_X5_heardOf : mOKV mX5_heardOf 5 2 := ⟨wb_568, wb_20, wb_72, wb_569, ⟨_, rfl, rfl⟩, ⟨by decide +kernel, by decide +kernel⟩, by decide +kernel, by decide⟩
theorem mk_X5_ifTurn : mOKV mX5_ifTurn 5 2 := ⟨wb_812, wb_813, wb_72, wb_814, ⟨_, rfl, rfl⟩, ⟨by decide +kernel, by decide +kernel⟩, by decide +kernel, by decide⟩
theorem mk_X5_ifWall : mOKV mX5_ifWall 5 3 := ⟨wb_834, wb_835, wb_72, wb_836, ⟨_, rfl, rfl⟩, ⟨by decide +kernel, by decide +kernel⟩, by decide +kernel, by decide⟩
theorem mk_X5_isSpacing : mOKS mX5_isSpacing 1 := ⟨wb_376, wb_72, wb_377, ⟨by decide +kernel, by decide +kernel⟩, by decide +kernel, by decide⟩
theorem mk_X5_isSpacingOrNone : mOKS mX5_isSpacingOrNone 1 := ⟨wb_379, wb_72, wb_380, ⟨by decide +kernel, by decide +kernel⟩, by decide +kernel, by decide⟩
theorem mk_X5_isWithin : mOKS mX5_isWithin 3 := ⟨wb_296, wb_72, wb_297, ⟨by decide +kernel, by decide +kernel⟩, by decide +kernel, by decide⟩
theorem mk_X5_load : mOKV mX5_load 5 0 := ⟨wb_488, wb_489, wb_72, wb_490, ⟨_, rfl, rfl⟩, ⟨by decide +kernel, by decide +kernel⟩, by decide +kernel, by decide⟩
theorem mk_X5_remainder : mOKS mX5_remainder 2 := ⟨wb_746, wb_72, wb_747, ⟨by decide +kernel, by decide +kernel⟩, by decide +kernel, by decide⟩
theorem mk_X5_remember : mOKV mX5_remember 5 0 := ⟨wb_320, wb_1, wb_72, wb_321, ⟨_, rfl, rfl⟩, ⟨by decide +kernel, by decide +kernel⟩, by decide +kernel, by decide⟩
theorem mk_X5_restore : mOKV mX5_restore 5 0 := ⟨wb_846, wb_847, wb_72, wb_848, ⟨_, rfl, rfl⟩, ⟨by decide +kernel, by decide +kernel⟩, by decide +kernel, by decide⟩
theorem mk_X5_save : mOKV mX5_save 5 0 := ⟨wb_842, wb_843, wb_72, wb_844, ⟨_, rfl, rfl⟩, ⟨by decide +kernel, by decide +kernel⟩, by decide +kernel, by decide⟩
theorem mk_X5_set : mOKV mX5_set 5 2 := ⟨wb_394, wb_395, wb_72, wb_396, ⟨_, rfl, rfl⟩, ⟨by decide +kernel, by decide +kernel⟩, by decide +kernel, by decide⟩
theorem mk_X5_sign : mOKV mX5_sign 5 1 := ⟨wb_511, wb_512, wb_72, wb_513, ⟨_, rfl, rfl⟩, ⟨by decide +kernel, by decide +kernel⟩, by decide +kernel, by decide⟩
theorem mk_X5_spacings : mOKV mX5_spacings 5 4 := ⟨wb_372, wb_373, wb_72, wb_374, ⟨_, rfl, rfl⟩, ⟨by decide +kernel, by decide +kernel⟩, by decide +kernel, by decide⟩
theorem mk_X5_target : mOKV mX5_target 5 4 := ⟨wb_288, wb_289, wb_72, wb_290, ⟨_, rfl, rfl⟩, ⟨by decide +kernel, by decide +kernel⟩, by decide +kernel, by decide⟩
theorem mk_X5_targetOf : mOKV mX5_targetOf 5 2 := ⟨wb_556, wb_557, wb_72, wb_558, ⟨_, rfl, rfl⟩, ⟨by decide +kernel, by decide +kernel⟩, by decide +kernel, by decide⟩
theorem mk_X5_told : mOKV mX5_told 5 2 := ⟨wb_721, wb_722, wb_72, wb_723, ⟨_, rfl, rfl⟩, ⟨by decide +kernel, by decide +kernel⟩, by decide +kernel, by decide⟩
theorem mk_X5_tryDistances : mOKS mX5_tryDistances 6 := ⟨wb_759, wb_72, wb_760, ⟨by decide +kernel, by decide +kernel⟩, by decide +kernel, by decide⟩
theorem mk_X5_undo : mOKV mX5_undo 5 0 := ⟨wb_838, wb_839, wb_72, wb_840, ⟨_, rfl, rfl⟩, ⟨by decide +kernel, by decide +kernel⟩, by decide +kernel, by decide⟩
theorem mk_X5_unfold : mOKV mX5_unfold 5 3 := ⟨wb_755, wb_756, wb_72, wb_757, ⟨_, rfl, rfl⟩, ⟨by decide +kernel, by decide +kernel⟩, by decide +kernel, by decide⟩
theorem mk_X6_add : mOKV mX6_add 6 4 := ⟨wb_949, wb_41, wb_78, wb_950, ⟨_, rfl, rfl⟩, ⟨by decide +kernel, by decide +kernel⟩, by decide +kernel, by decide⟩
theorem mk_X6_alike : mOKV mX6_alike 6 1 := ⟨wb_1046, wb_1047, wb_78, wb_1048, ⟨_, rfl, rfl⟩, ⟨by decide +kernel, by decide +kernel⟩, by decide +kernel, by decide⟩
theorem mk_X6_append : mOKV mX6_append 6 1 := ⟨wb_1121, wb_1122, wb_78, wb_1123, ⟨_, rfl, rfl⟩, ⟨by decide +kernel, by decide +kernel⟩, by decide +kernel, by decide⟩
theorem mk_X6_bestTurn : mOKV mX6_bestTurn 6 0 := ⟨wb_1109, wb_1110, wb_78, wb_1111, ⟨_, rfl, rfl⟩, ⟨by decide +kernel, by decide +kernel⟩, by decide +kernel, by decide⟩
theorem mk_X6_body : mOKV mX6_body 6 2 := ⟨wb_996, wb_47, wb_78, wb_997, ⟨_, rfl, rfl⟩, ⟨by decide +kernel, by decide +kernel⟩, by decide +kernel, by decide⟩
theorem mk_X6_clear : mOKV mX6_clear 6 0 := ⟨wb_1125, wb_1126, wb_78, wb_1127, ⟨_, rfl, rfl⟩, ⟨by decide +kernel, by decide +kernel⟩, by decide +kernel, by decide⟩
theorem mk_X6_count : mOKV mX6_count 6 1 := ⟨wb_1057, wb_1058, wb_78, wb_1059, ⟨_, rfl, rfl⟩, ⟨by decide +kernel, by decide +kernel⟩, by decide +kernel, by decide⟩
theorem mk_X6_divisor : mOKS mX6_divisor 2 := ⟨wb_1050, wb_78, wb_1051, ⟨by decide +kernel, by decide +kernel⟩, by decide +kernel, by decide⟩
theorem mk_X6_drop : mOKV mX6_drop 6 1 := ⟨wb_952, wb_953, wb_78, wb_954, ⟨_, rfl, rfl⟩, ⟨by decide +kernel, by decide +kernel⟩, by decide +kernel, by decide⟩
theorem mk_X6_echo : mOKV mX6_echo 6 3 := ⟨wb_1026, wb_1027, wb_78, wb_1028, ⟨_, rfl, rfl⟩, ⟨by decide +kernel, by decide +kernel⟩, by decide +kernel, by decide⟩
theorem mk_X6_echoes : mOKV mX6_echoes 6 0 := ⟨wb_1066, wb_56, wb_78, wb_1067, ⟨_, rfl, rfl⟩, ⟨by decide +kernel, by decide +kernel⟩, by decide +kernel, by decide⟩
theorem mk_X6_faintMany : mOKV mX6_faintMany 6 0 := ⟨wb_1074, wb_58, wb_78, wb_1075, ⟨_, rfl, rfl⟩, ⟨by decide +kernel, by decide +kernel⟩, by decide +kernel, by decide⟩
theorem mk_X6_fault : mOKV mX6_fault 6 0 := ⟨wb_1129, wb_1130, wb_78, wb_1131, ⟨_, rfl, rfl⟩, ⟨by decide +kernel, by decide +kernel⟩, by decide +kernel, by decide⟩
theorem mk_X6_figure : mOKV mX6_figure 6 0 := ⟨wb_1150, wb_69, wb_78, wb_1151, ⟨_, rfl, rfl⟩, ⟨by decide +kernel, by decide +kernel⟩, by decide +kernel, by decide⟩
theorem mk_X6_fit : mOKV mX6_fit 6 3 := ⟨wb_1019, wb_52, wb_78, wb_1020, ⟨_, rfl, rfl⟩, ⟨by decide +kernel, by decide +kernel⟩, by decide +kernel, by decide⟩
theorem mk_X6_fits : mOKV mX6_fits 6 3 := ⟨wb_1034, wb_1035, wb_78, wb_1036, ⟨_, rfl, rfl⟩, ⟨by decide +kernel, by decide +kernel⟩, by decide +kernel, by decide⟩
theorem mk_X6_fitting : mOKV mX6_fitting 6 2 := ⟨wb_1015, wb_51, wb_78, wb_1016, ⟨_, rfl, rfl⟩, ⟨by decide +kernel, by decide +kernel⟩, by decide +kernel, by decide⟩
theorem mk_X6_ghost : mOKV mX6_ghost 6 2 := ⟨wb_1022, wb_1023, wb_78, wb_1024, ⟨_, rfl, rfl⟩, ⟨by decide +kernel, by decide +kernel⟩, by decide +kernel, by decide⟩
theorem mk_X6_go : mOKV mX6_go 6 0 := ⟨wb_964, wb_965, wb_78, wb_966, ⟨_, rfl, rfl⟩, ⟨by decide +kernel, by decide +kernel⟩, by decide +kernel, by decide⟩
theorem mk_X6_ifTurn : mOKV mX6_ifTurn 6 2 := ⟨wb_1101, wb_1102, wb_78, wb_1103, ⟨_, rfl, rfl⟩, ⟨by decide +kernel, by decide +kernel⟩, by decide +kernel, by decide⟩
theorem mk_X6_ifWall : mOKV mX6_ifWall 6 3 := ⟨wb_1113, wb_1114, wb_78, wb_1115, ⟨_, rfl, rfl⟩, ⟨by decide +kernel, by decide +kernel⟩, by decide +kernel, by decide⟩
theorem mk_X6_in : mOKS mX6_in 3 := ⟨wb_937, wb_78, wb_938, ⟨by decide +kernel, by decide +kernel⟩, by decide +kernel, by decide⟩
theorem mk_X6_isBody : mOKS mX6_isBody 3 := ⟨wb_934, wb_78, wb_935, ⟨by decide +kernel, by decide +kernel⟩, by decide +kernel, by decide⟩
theorem mk_X6_isFaint : mOKV mX6_isFaint 6 1 := ⟨wb_992, wb_46, wb_78, wb_993, ⟨_, rfl, rfl⟩, ⟨by decide +kernel, by decide +kernel⟩, by decide +kernel, by decide⟩
theorem mk_X6_isLost : mOKV mX6_isLost 6 2 := ⟨wb_1000, wb_48, wb_78, wb_1001, ⟨_, rfl, rfl⟩, ⟨by decide +kernel, by decide +kernel⟩, by decide +kernel, by decide⟩
theorem mk_X6_isSpacing : mOKS mX6_isSpacing 1 := ⟨wb_972, wb_78, wb_973, ⟨by decide +kernel, by decide +kernel⟩, by decide +kernel, by decide⟩
theorem mk_X6_isTarget : mOKV mX6_isTarget 6 1 := ⟨wb_957, wb_42, wb_78, wb_958, ⟨_, rfl, rfl⟩, ⟨by decide +kernel, by decide +kernel⟩, by decide +kernel, by decide⟩
theorem mk_X6_isThere : mOKV mX6_isThere 6 2 := ⟨wb_941, wb_39, wb_78, wb_942, ⟨_, rfl, rfl⟩, ⟨by decide +kernel, by decide +kernel⟩, by decide +kernel, by decide⟩
theorem mk_X6_isTold : mOKV mX6_isTold 6 1 := ⟨wb_1011, wb_50, wb_78, wb_1012, ⟨_, rfl, rfl⟩, ⟨by decide +kernel, by decide +kernel⟩, by decide +kernel, by decide⟩
theorem mk_X6_isTrue : mOKV mX6_isTrue 6 2 := ⟨wb_1043, wb_54, wb_78, wb_1044, ⟨_, rfl, rfl⟩, ⟨by decide +kernel, by decide +kernel⟩, by decide +kernel, by decide⟩
theorem mk_X6_isTurn : mOKV mX6_isTurn 6 1 := ⟨wb_1031, wb_53, wb_78, wb_1032, ⟨_, rfl, rfl⟩, ⟨by decide +kernel, by decide +kernel⟩, by decide +kernel, by decide⟩
theorem mk_X6_layBody : mOKV mX6_layBody 6 5 := ⟨wb_988, wb_45, wb_78, wb_989, ⟨_, rfl, rfl⟩, ⟨by decide +kernel, by decide +kernel⟩, by decide +kernel, by decide⟩
theorem mk_X6_letter : mOKV mX6_letter 6 0 := ⟨wb_1138, wb_66, wb_78, wb_1139, ⟨_, rfl, rfl⟩, ⟨by decide +kernel, by decide +kernel⟩, by decide +kernel, by decide⟩
theorem mk_X6_listen : mOKV mX6_listen 6 0 := ⟨wb_984, wb_44, wb_78, wb_985, ⟨_, rfl, rfl⟩, ⟨by decide +kernel, by decide +kernel⟩, by decide +kernel, by decide⟩
theorem mk_X6_load : mOKV mX6_load 6 0 := ⟨wb_1157, wb_1158, wb_78, wb_1159, ⟨_, rfl, rfl⟩, ⟨by decide +kernel, by decide +kernel⟩, by decide +kernel, by decide⟩
theorem mk_X6_lostMany : mOKV mX6_lostMany 6 0 := ⟨wb_1070, wb_57, wb_78, wb_1071, ⟨_, rfl, rfl⟩, ⟨by decide +kernel, by decide +kernel⟩, by decide +kernel, by decide⟩
theorem mk_X6_mark : mOKS mX6_mark 3 := ⟨wb_1007, wb_78, wb_1008, ⟨by decide +kernel, by decide +kernel⟩, by decide +kernel, by decide⟩
theorem mk_X6_missed : mOKV mX6_missed 6 0 := ⟨wb_1082, wb_60, wb_78, wb_1083, ⟨_, rfl, rfl⟩, ⟨by decide +kernel, by decide +kernel⟩, by decide +kernel, by decide⟩
theorem mk_X6_number : mOKV mX6_number 6 1 := ⟨wb_1146, wb_68, wb_78, wb_1147, ⟨_, rfl, rfl⟩, ⟨by decide +kernel, by decide +kernel⟩, by decide +kernel, by decide⟩
theorem mk_X6_of : mOKV mX6_of 6 2 := ⟨wb_945, wb_40, wb_78, wb_946, ⟨_, rfl, rfl⟩, ⟨by decide +kernel, by decide +kernel⟩, by decide +kernel, by decide⟩
theorem mk_X6_placeIn : mOKV mX6_placeIn 6 3 := ⟨wb_1004, wb_49, wb_78, wb_1005, ⟨_, rfl, rfl⟩, ⟨by decide +kernel, by decide +kernel⟩, by decide +kernel, by decide⟩
theorem mk_X6_readSpacing : mOKV mX6_readSpacing 6 0 := ⟨wb_1154, wb_70, wb_78, wb_1155, ⟨_, rfl, rfl⟩, ⟨by decide +kernel, by decide +kernel⟩, by decide +kernel, by decide⟩
theorem mk_X6_readTarget : mOKV mX6_readTarget 6 0 := ⟨wb_1134, wb_65, wb_78, wb_1135, ⟨_, rfl, rfl⟩, ⟨by decide +kernel, by decide +kernel⟩, by decide +kernel, by decide⟩
theorem mk_X6_record : mOKV mX6_record 6 0 := ⟨wb_927, wb_38, wb_78, wb_928, ⟨_, rfl, rfl⟩, ⟨by decide +kernel, by decide +kernel⟩, by decide +kernel, by decide⟩
theorem mk_X6_restore : mOKV mX6_restore 6 0 := ⟨wb_922, wb_923, wb_78, wb_924, ⟨_, rfl, rfl⟩, ⟨by decide +kernel, by decide +kernel⟩, by decide +kernel, by decide⟩
theorem mk_X6_save : mOKV mX6_save 6 0 := ⟨wb_918, wb_919, wb_78, wb_920, ⟨_, rfl, rfl⟩, ⟨by decide +kernel, by decide +kernel⟩, by decide +kernel, by decide⟩
theorem mk_X6_set : mOKV mX6_set 6 2 := ⟨wb_975, wb_976, wb_78, wb_977, ⟨_, rfl, rfl⟩, ⟨by decide +kernel, by decide +kernel⟩, by decide +kernel, by decide⟩
theorem mk_X6_sets : mOKV mX6_sets 6 1 := ⟨wb_1090, wb_62, wb_78, wb_1091, ⟨_, rfl, rfl⟩, ⟨by decide +kernel, by decide +kernel⟩, by decide +kernel, by decide⟩
theorem mk_X6_setsNumber : mOKV mX6_setsNumber 6 1 := ⟨wb_1094, wb_63, wb_78, wb_1095, ⟨_, rfl, rfl⟩, ⟨by decide +kernel, by decide +kernel⟩, by decide +kernel, by decide⟩
theorem mk_X6_sign : mOKV mX6_sign 6 1 := ⟨wb_1117, wb_1118, wb_78, wb_1119, ⟨_, rfl, rfl⟩, ⟨by decide +kernel, by decide +kernel⟩, by decide +kernel, by decide⟩
theorem mk_X6_spacings : mOKV mX6_spacings 6 4 := ⟨wb_968, wb_969, wb_78, wb_970, ⟨_, rfl, rfl⟩, ⟨by decide +kernel, by decide +kernel⟩, by decide +kernel, by decide⟩
theorem mk_X6_takeOut : mOKV mX6_takeOut 6 1 := ⟨wb_961, wb_43, wb_78, wb_962, ⟨_, rfl, rfl⟩, ⟨by decide +kernel, by decide +kernel⟩, by decide +kernel, by decide⟩
theorem mk_X6_target : mOKV mX6_target 6 4 := ⟨wb_930, wb_931, wb_78, wb_932, ⟨_, rfl, rfl⟩, ⟨by decide +kernel, by decide +kernel⟩, by decide +kernel, by decide⟩
theorem mk_X6_targetOf : mOKV mX6_targetOf 6 2 := ⟨wb_979, wb_980, wb_78, wb_981, ⟨_, rfl, rfl⟩, ⟨by decide +kernel, by decide +kernel⟩, by decide +kernel, by decide⟩
theorem mk_X6_told : mOKV mX6_told 6 2 := ⟨wb_1038, wb_1039, wb_78, wb_1040, ⟨_, rfl, rfl⟩, ⟨by decide +kernel, by decide +kernel⟩, by decide +kernel, by decide⟩
theorem mk_X6_toldMany : mOKV mX6_toldMany 6 1 := ⟨wb_1078, wb_59, wb_78, wb_1079, ⟨_, rfl, rfl⟩, ⟨by decide +kernel, by decide +kernel⟩, by decide +kernel, by decide⟩
theorem mk_X6_undo : mOKV mX6_undo 6 0 := ⟨wb_914, wb_915, wb_78, wb_916, ⟨_, rfl, rfl⟩, ⟨by decide +kernel, by decide +kernel⟩, by decide +kernel, by decide⟩
theorem mk_X6_unfold : mOKV mX6_unfold 6 3 := ⟨wb_1053, wb_1054, wb_78, wb_1055, ⟨_, rfl, rfl⟩, ⟨by decide +kernel, by decide +kernel⟩, by decide +kernel, by decide⟩
theorem mk_X6_walls : mOKV mX6_walls 6 0 := ⟨wb_1062, wb_55, wb_78, wb_1063, ⟨_, rfl, rfl⟩, ⟨by decide +kernel, by decide +kernel⟩, by decide +kernel, by decide⟩
theorem mk_X6_wants : mOKV mX6_wants 6 1 := ⟨wb_1142, wb_67, wb_78, wb_1143, ⟨_, rfl, rfl⟩, ⟨by decide +kernel, by decide +kernel⟩, by decide +kernel, by decide⟩
theorem mk_X6_withTurn : mOKV mX6_withTurn 6 2 := ⟨wb_1106, wb_64, wb_78, wb_1107, ⟨_, rfl, rfl⟩, ⟨by decide +kernel, by decide +kernel⟩, by decide +kernel, by decide⟩
theorem mk_X6_write : mOKV mX6_write 6 0 := ⟨wb_1086, wb_61, wb_78, wb_1087, ⟨_, rfl, rfl⟩, ⟨by decide +kernel, by decide +kernel⟩, by decide +kernel, by decide⟩
theorem shq_0 : shp[0]? = some (0, 5, 10) := rfl
theorem shq_1 : shp[1]? = some (0, 3, 9) := rfl
theorem shq_2 : shp[2]? = some (1, 0, 6) := rfl
theorem shq_3 : shp[3]? = some (1, 0, 6) := rfl
theorem shq_4 : shp[4]? = some (1, 0, 6) := rfl
theorem shq_5 : shp[5]? = some (1, 1, 6) := rfl
theorem shq_6 : shp[6]? = some (1, 0, 4) := rfl
theorem shq_7 : shp[7]? = some (0, 3, 9) := rfl
theorem shq_8 : shp[8]? = some (1, 0, 6) := rfl
theorem shq_9 : shp[9]? = some (1, 0, 6) := rfl
theorem shq_10 : shp[10]? = some (1, 0, 6) := rfl
theorem shq_11 : shp[11]? = some (1, 1, 6) := rfl
theorem shq_12 : shp[12]? = some (1, 0, 4) := rfl
theorem shq_13 : shp[13]? = some (0, 3, 9) := rfl
theorem shq_14 : shp[14]? = some (1, 0, 6) := rfl
theorem shq_15 : shp[15]? = some (1, 0, 6) := rfl
theorem shq_16 : shp[16]? = some (1, 0, 6) := rfl
theorem shq_17 : shp[17]? = some (1, 1, 6) := rfl
theorem shq_18 : shp[18]? = some (1, 0, 4) := rfl
theorem shq_19 : shp[19]? = some (3, 4, 4) := rfl
theorem shq_20 : shp[20]? = some (0, 3, 9) := rfl
theorem shq_21 : shp[21]? = some (1, 0, 6) := rfl
theorem shq_22 : shp[22]? = some (1, 0, 6) := rfl
theorem shq_23 : shp[23]? = some (1, 0, 6) := rfl
theorem shq_24 : shp[24]? = some (1, 1, 6) := rfl
theorem shq_25 : shp[25]? = some (1, 0, 4) := rfl
theorem shq_26 : shp[26]? = some (0, 3, 9) := rfl
theorem shq_27 : shp[27]? = some (1, 0, 6) := rfl
theorem shq_28 : shp[28]? = some (1, 0, 6) := rfl
theorem shq_29 : shp[29]? = some (1, 0, 6) := rfl
theorem shq_30 : shp[30]? = some (1, 1, 6) := rfl
theorem shq_31 : shp[31]? = some (1, 0, 4) := rfl
theorem shq_32 : shp[32]? = some (0, 3, 9) := rfl
theorem shq_33 : shp[33]? = some (1, 0, 6) := rfl
theorem shq_34 : shp[34]? = some (1, 0, 6) := rfl
theorem shq_35 : shp[35]? = some (1, 0, 6) := rfl
theorem shq_36 : shp[36]? = some (1, 1, 6) := rfl
theorem shq_37 : shp[37]? = some (1, 0, 4) := rfl
theorem shq_38 : shp[38]? = some (0, 3, 9) := rfl
theorem shq_39 : shp[39]? = some (1, 0, 6) := rfl
theorem shq_40 : shp[40]? = some (1, 0, 6) := rfl
theorem shq_41 : shp[41]? = some (1, 0, 6) := rfl
theorem shq_42 : shp[42]? = some (1, 1, 6) := rfl
theorem shq_43 : shp[43]? = some (1, 0, 4) := rfl
theorem shq_44 : shp[44]? = some (0, 1, 2) := rfl
theorem shq_45 : shp[45]? = some (1, 2, 60) := rfl
theorem shq_46 : shp[46]? = some (0, 2, 13) := rfl
theorem shq_47 : shp[47]? = some (1, 0, 12) := rfl
theorem shq_48 : shp[48]? = some (1, 0, 12) := rfl
theorem shq_49 : shp[49]? = some (1, 0, 12) := rfl
theorem shq_50 : shp[50]? = some (1, 1, 12) := rfl
theorem shq_51 : shp[51]? = some (1, 0, 4) := rfl
theorem shq_52 : shp[52]? = some (0, 4, 2) := rfl
theorem shq_53 : shp[53]? = some (1, 2, 72) := rfl
theorem shq_54 : shp[54]? = some (0, 0, 16) := rfl
theorem shq_55 : shp[55]? = some (1, 0, 21) := rfl
theorem shq_56 : shp[56]? = some (1, 0, 21) := rfl
theorem shq_57 : shp[57]? = some (1, 0, 21) := rfl
theorem shq_58 : shp[58]? = some (1, 0, 21) := rfl
theorem shq_59 : shp[59]? = some (1, 0, 21) := rfl
theorem shq_60 : shp[60]? = some (1, 0, 4) := rfl
theorem shq_61 : shp[61]? = some (2, 3, 44) := rfl
theorem shq_62 : shp[62]? = some (1, 0, 11) := rfl
theorem shq_63 : shp[63]? = some (1, 0, 3600) := rfl
theorem shq_64 : shp[64]? = some (0, 6, 19) := rfl
theorem shq_65 : shp[65]? = some (1, 0, 32) := rfl
theorem shq_66 : shp[66]? = some (1, 0, 128) := rfl
theorem shq_67 : shp[67]? = some (1, 0, 32) := rfl
theorem shq_68 : shp[68]? = some (1, 2, 60) := rfl
theorem shq_69 : shp[69]? = some (1, 0, 105) := rfl
theorem shq_70 : shp[70]? = some (1, 0, 2200) := rfl
theorem shq_71 : shp[71]? = some (1, 0, 2200) := rfl
theorem shq_72 : shp[72]? = some (1, 2, 90) := rfl
theorem shq_73 : shp[73]? = some (1, 0, 64) := rfl
theorem shq_74 : shp[74]? = some (1, 0, 4) := rfl
theorem frq_0_0 : FR 0 0 = some 1 := rfl
theorem frq_0_1 : FR 0 1 = some 7 := rfl
theorem frq_0_2 : FR 0 2 = some 13 := rfl
theorem frq_0_3 : FR 0 3 = some 19 := rfl
theorem frq_0_4 : FR 0 4 = some 44 := rfl
theorem frq_0_5 : FR 0 5 = some 46 := rfl
theorem frq_0_6 : FR 0 6 = some 52 := rfl
theorem frq_0_7 : FR 0 7 = some 54 := rfl
theorem frq_0_8 : FR 0 8 = none := rfl
theorem frq_0_9 : FR 0 9 = none := rfl
theorem frq_44_0 : FR 44 0 = some 45 := rfl
theorem frq_44_1 : FR 44 1 = none := rfl
theorem frq_46_0 : FR 46 0 = some 47 := rfl
theorem frq_46_1 : FR 46 1 = some 48 := rfl
theorem frq_46_2 : FR 46 2 = some 49 := rfl
theorem frq_46_3 : FR 46 3 = some 50 := rfl
theorem frq_46_4 : FR 46 4 = some 51 := rfl
theorem frq_46_5 : FR 46 5 = none := rfl
theorem frq_46_6 : FR 46 6 = none := rfl
theorem frq_46_7 : FR 46 7 = none := rfl
theorem frq_46_8 : FR 46 8 = none := rfl
theorem frq_46_9 : FR 46 9 = none := rfl
theorem frq_46_10 : FR 46 10 = none := rfl
theorem frq_46_11 : FR 46 11 = none := rfl
theorem frq_46_12 : FR 46 12 = none := rfl
theorem frq_52_0 : FR 52 0 = some 53 := rfl
theorem frq_52_1 : FR 52 1 = none := rfl
theorem frq_54_0 : FR 54 0 = some 55 := rfl
theorem frq_54_1 : FR 54 1 = some 56 := rfl
theorem frq_54_2 : FR 54 2 = some 57 := rfl
theorem frq_54_3 : FR 54 3 = some 58 := rfl
theorem frq_54_4 : FR 54 4 = some 59 := rfl
theorem frq_54_5 : FR 54 5 = some 60 := rfl
theorem frq_54_6 : FR 54 6 = some 61 := rfl
theorem frq_54_7 : FR 54 7 = some 62 := rfl
theorem frq_54_8 : FR 54 8 = some 63 := rfl
theorem frq_54_9 : FR 54 9 = none := rfl
theorem frq_54_10 : FR 54 10 = none := rfl
theorem frq_54_11 : FR 54 11 = none := rfl
theorem frq_54_12 : FR 54 12 = none := rfl
theorem frq_54_13 : FR 54 13 = none := rfl
theorem frq_54_14 : FR 54 14 = none := rfl
theorem frq_54_15 : FR 54 15 = none := rfl
theorem frq_64_0 : FR 64 0 = some 65 := rfl
theorem frq_64_1 : FR 64 1 = some 66 := rfl
theorem frq_64_2 : FR 64 2 = none := rfl
theorem frq_64_3 : FR 64 3 = some 67 := rfl
theorem frq_64_4 : FR 64 4 = none := rfl
theorem frq_64_5 : FR 64 5 = some 68 := rfl
theorem frq_64_6 : FR 64 6 = none := rfl
theorem frq_64_7 : FR 64 7 = some 69 := rfl
theorem frq_64_8 : FR 64 8 = none := rfl
theorem frq_64_9 : FR 64 9 = some 70 := rfl
theorem frq_64_10 : FR 64 10 = some 71 := rfl
theorem frq_64_11 : FR 64 11 = some 72 := rfl
theorem frq_64_12 : FR 64 12 = none := rfl
theorem frq_64_13 : FR 64 13 = some 73 := rfl
theorem frq_64_14 : FR 64 14 = none := rfl
theorem frq_64_15 : FR 64 15 = some 74 := rfl
theorem frq_64_16 : FR 64 16 = none := rfl
theorem frq_64_17 : FR 64 17 = none := rfl
theorem frq_64_18 : FR 64 18 = none := rfl
theorem sc_0 {a : Nat} (h : isSc a) : shp[a]? = some (0, 3, 9) := by rcases h with rfl | rfl | rfl | rfl | rfl | rfl | rfl <;> rfl
theorem sc_1 {a : Nat} (h : isSc a) : shp[a + 1]? = some (1, 0, 6) := by rcases h with rfl | rfl | rfl | rfl | rfl | rfl | rfl <;> rfl
theorem sc_2 {a : Nat} (h : isSc a) : shp[a + 2]? = some (1, 0, 6) := by rcases h with rfl | rfl | rfl | rfl | rfl | rfl | rfl <;> rfl
theorem sc_3 {a : Nat} (h : isSc a) : shp[a + 3]? = some (1, 0, 6) := by rcases h with rfl | rfl | rfl | rfl | rfl | rfl | rfl <;> rfl
theorem sc_4 {a : Nat} (h : isSc a) : shp[a + 4]? = some (1, 1, 6) := by rcases h with rfl | rfl | rfl | rfl | rfl | rfl | rfl <;> rfl
theorem sc_5 {a : Nat} (h : isSc a) : shp[a + 5]? = some (1, 0, 4) := by rcases h with rfl | rfl | rfl | rfl | rfl | rfl | rfl <;> rfl
theorem scr_0 {a : Nat} (h : isSc a) : FR a 0 = some (a + 1) := by rcases h with rfl | rfl | rfl | rfl | rfl | rfl | rfl <;> rfl
theorem scr_1 {a : Nat} (h : isSc a) : FR a 1 = some (a + 2) := by rcases h with rfl | rfl | rfl | rfl | rfl | rfl | rfl <;> rfl
theorem scr_2 {a : Nat} (h : isSc a) : FR a 2 = some (a + 3) := by rcases h with rfl | rfl | rfl | rfl | rfl | rfl | rfl <;> rfl
theorem scr_3 {a : Nat} (h : isSc a) : FR a 3 = some (a + 4) := by rcases h with rfl | rfl | rfl | rfl | rfl | rfl | rfl <;> rfl
theorem scr_4 {a : Nat} (h : isSc a) : FR a 4 = some (a + 5) := by rcases h with rfl | rfl | rfl | rfl | rfl | rfl | rfl <;> rfl
theorem scr_5 {a : Nat} (h : isSc a) : FR a 5 = none := by rcases h with rfl | rfl | rfl | rfl | rfl | rfl | rfl <;> rfl
theorem scr_6 {a : Nat} (h : isSc a) : FR a 6 = none := by rcases h with rfl | rfl | rfl | rfl | rfl | rfl | rfl <;> rfl
theorem scr_7 {a : Nat} (h : isSc a) : FR a 7 = none := by rcases h with rfl | rfl | rfl | rfl | rfl | rfl | rfl <;> rfl
theorem scr_8 {a : Nat} (h : isSc a) : FR a 8 = none := by rcases h with rfl | rfl | rfl | rfl | rfl | rfl | rfl <;> rfl
theorem ixk_0 : ix 0 = 0 := by decide +kernel
theorem ixk_1 : ix 1 = 1 := by decide +kernel
theorem ixk_2 : ix 2 = 2 := by decide +kernel
theorem ixk_3 : ix 3 = 3 := by decide +kernel
theorem ixk_4 : ix 4 = 4 := by decide +kernel
theorem ixk_5 : ix 5 = 5 := by decide +kernel
theorem ixk_6 : ix 6 = 6 := by decide +kernel
theorem ixk_7 : ix 7 = 7 := by decide +kernel
theorem k_bi_10 : (Int8.ofInt (10)).toInt32 = 10 := by decide +kernel
theorem k_bi_100 : (Int8.ofInt (100)).toInt32 = 100 := by decide +kernel
theorem k_bi_11 : (Int8.ofInt (11)).toInt32 = 11 := by decide +kernel
theorem k_bi_116 : (Int8.ofInt (116)).toInt32 = 116 := by decide +kernel
theorem k_bi_119 : (Int8.ofInt (119)).toInt32 = 119 := by decide +kernel
theorem k_bi_12 : (Int8.ofInt (12)).toInt32 = 12 := by decide +kernel
theorem k_bi_126 : (Int8.ofInt (126)).toInt32 = 126 := by decide +kernel
theorem k_bi_13 : (Int8.ofInt (13)).toInt32 = 13 := by decide +kernel
theorem k_bi_14 : (Int8.ofInt (14)).toInt32 = 14 := by decide +kernel
theorem k_bi_18 : (Int8.ofInt (18)).toInt32 = 18 := by decide +kernel
theorem k_bi_21 : (Int8.ofInt (21)).toInt32 = 21 := by decide +kernel
theorem k_bi_28 : (Int8.ofInt (28)).toInt32 = 28 := by decide +kernel
theorem k_bi_32 : (Int8.ofInt (32)).toInt32 = 32 := by decide +kernel
theorem k_bi_33 : (Int8.ofInt (33)).toInt32 = 33 := by decide +kernel
theorem k_bi_42 : (Int8.ofInt (42)).toInt32 = 42 := by decide +kernel
theorem k_bi_43 : (Int8.ofInt (43)).toInt32 = 43 := by decide +kernel
theorem k_bi_44 : (Int8.ofInt (44)).toInt32 = 44 := by decide +kernel
theorem k_bi_45 : (Int8.ofInt (45)).toInt32 = 45 := by decide +kernel
theorem k_bi_47 : (Int8.ofInt (47)).toInt32 = 47 := by decide +kernel
theorem k_bi_48 : (Int8.ofInt (48)).toInt32 = 48 := by decide +kernel
theorem k_bi_50 : (Int8.ofInt (50)).toInt32 = 50 := by decide +kernel
theorem k_bi_59 : (Int8.ofInt (59)).toInt32 = 59 := by decide +kernel
theorem k_bi_6 : (Int8.ofInt (6)).toInt32 = 6 := by decide +kernel
theorem k_bi_60 : (Int8.ofInt (60)).toInt32 = 60 := by decide +kernel
theorem k_bi_7 : (Int8.ofInt (7)).toInt32 = 7 := by decide +kernel
theorem k_bi_8 : (Int8.ofInt (8)).toInt32 = 8 := by decide +kernel
theorem k_bi_9 : (Int8.ofInt (9)).toInt32 = 9 := by decide +kernel
theorem k_bi_96 : (Int8.ofInt (96)).toInt32 = 96 := by decide +kernel
theorem k_bi_99 : (Int8.ofInt (99)).toInt32 = 99 := by decide +kernel
theorem k_bi_m2 : (Int8.ofInt (-2)).toInt32 = (-2) := by decide +kernel
theorem k_bi_m3 : (Int8.ofInt (-3)).toInt32 = (-3) := by decide +kernel
theorem k_bi_m4 : (Int8.ofInt (-4)).toInt32 = (-4) := by decide +kernel
theorem k_bi_m5 : (Int8.ofInt (-5)).toInt32 = (-5) := by decide +kernel
theorem k_ic_0 : Int32.ofInt (0) = 0 := by decide +kernel
theorem k_ic_1 : Int32.ofInt (1) = 1 := by decide +kernel
theorem k_ic_2 : Int32.ofInt (2) = 2 := by decide +kernel
theorem k_ic_3 : Int32.ofInt (3) = 3 := by decide +kernel
theorem k_ic_4 : Int32.ofInt (4) = 4 := by decide +kernel
theorem k_ic_5 : Int32.ofInt (5) = 5 := by decide +kernel
theorem k_ic_m1 : Int32.ofInt (-1) = (-1) := by decide +kernel
theorem k_lc_0 : Int64.ofNat (((0 : Fin 2)) : Nat) = 0 := by decide +kernel
theorem k_lc_1 : Int64.ofNat (((1 : Fin 2)) : Nat) = 1 := by decide +kernel
theorem k_on_11 : Int32.ofNat 11 = 11 := by decide +kernel
theorem k_on_3600 : Int32.ofNat 3600 = 3600 := by decide +kernel
theorem k_on_4 : Int32.ofNat 4 = 4 := by decide +kernel
theorem k_on_44 : Int32.ofNat 44 = 44 := by decide +kernel
theorem k_on_60 : Int32.ofNat 60 = 60 := by decide +kernel
theorem k_on_72 : Int32.ofNat 72 = 72 := by decide +kernel
theorem k_si_200 : (Int16.ofInt (200)).toInt32 = 200 := by decide +kernel
theorem k_si_2200 : (Int16.ofInt (2200)).toInt32 = 2200 := by decide +kernel
theorem k_si_300 : (Int16.ofInt (300)).toInt32 = 300 := by decide +kernel
theorem k_si_550 : (Int16.ofInt (550)).toInt32 = 550 := by decide +kernel
theorem k_si_600 : (Int16.ofInt (600)).toInt32 = 600 := by decide +kernel
theorem vik_0_32 : vp_in 0 32 := by unfold vp_in; decide +kernel
theorem vik_1_32 : vp_in 1 32 := by unfold vp_in; decide +kernel
theorem vik_2_32 : vp_in 2 32 := by unfold vp_in; decide +kernel
theorem vik_3_32 : vp_in 3 32 := by unfold vp_in; decide +kernel
theorem vik_4_32 : vp_in 4 32 := by unfold vp_in; decide +kernel
theorem vik_5_32 : vp_in 5 32 := by unfold vp_in; decide +kernel
theorem vik_6_32 : vp_in 6 32 := by unfold vp_in; decide +kernel
theorem vik_7_32 : vp_in 7 32 := by unfold vp_in; decide +kernel
