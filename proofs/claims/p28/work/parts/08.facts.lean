/-! facts of methods and fields; shapes; numbers -/
theorem wc_max : Cond.code Lib.Math.max.name Lib.Math.max.code 2 (some .int) ∈ tbg := wb_394
theorem wc_min : Cond.code Lib.Math.min.name Lib.Math.min.code 2 (some .int) ∈ tbg := wb_391
theorem wi_Math : Cond.initialized "java/lang/Math" ∈ tbg := wb_32
theorem wi_Sys : Cond.initialized "java/lang/System" ∈ tbg := wb_31
theorem wk_L_7 : Cond.constant RL 7 (32452867) ∈ tbg := wb_559
theorem wk_L_8 : Cond.constant RL 8 (15485863) ∈ tbg := wb_560
theorem wk_L_9 : Cond.constant RL 9 (2147483647) ∈ tbg := wb_564
theorem wl_L_10 : Cond.methodLink RL 10 yL_place ∈ tbg := wb_571
theorem wl_L_102 : Cond.methodLink RL 102 yL_numbers ∈ tbg := wb_666
theorem wl_L_106 : Cond.methodLink RL 106 yX5_fits ∈ tbg := wb_348
theorem wl_L_109 : Cond.methodLink RL 109 yL_distances ∈ tbg := wb_646
theorem wl_L_112 : Cond.methodLink RL 112 yX5_ifTurn ∈ tbg := wb_548
theorem wl_L_16 : Cond.methodLink RL 16 yL_heard ∈ tbg := wb_574
theorem wl_L_20 : Cond.methodLink RL 20 yL_fit ∈ tbg := wb_568
theorem wl_L_24 : Cond.methodLink RL 24 yX5_ghost ∈ tbg := wb_586
theorem wl_L_30 : Cond.methodLink RL 30 yX5_targetOf ∈ tbg := wb_604
theorem wl_L_33 : Cond.methodLink RL 33 yL_told ∈ tbg := wb_577
theorem wl_L_37 : Cond.methodLink RL 37 yX5_count ∈ tbg := wb_448
theorem wl_L_41 : Cond.methodLink RL 41 yX5_echo ∈ tbg := wb_626
theorem wl_L_45 : Cond.methodLink RL 45 yL_isTrue ∈ tbg := wb_580
theorem wl_L_49 : Cond.methodLink RL 49 yX5_told ∈ tbg := wb_649
theorem wl_L_51 : Cond.methodLink RL 51 yX5_truth ∈ tbg := wb_662
theorem wl_L_55 : Cond.methodLink RL 55 yL_low ∈ tbg := wb_561
theorem wl_L_58 : Cond.methodLink RL 58 yX5_alike ∈ tbg := wb_669
theorem wl_L_61 : Cond.methodLink RL 61 yX5_unfold ∈ tbg := wb_685
theorem wl_L_65 : Cond.methodLink RL 65 yL_cell ∈ tbg := wb_556
theorem wl_L_69 : Cond.methodLink RL 69 yX5_ifWall ∈ tbg := wb_552
theorem wl_L_72 : Cond.methodLink RL 72 yX5_target ∈ tbg := wb_230
theorem wl_L_76 : Cond.methodLink RL 76 yX5_drop ∈ tbg := wb_284
theorem wl_L_79 : Cond.methodLink RL 79 yX5_go ∈ tbg := wb_305
theorem wl_L_83 : Cond.methodLink RL 83 yX5_spacings ∈ tbg := wb_314
theorem wl_L_87 : Cond.methodLink RL 87 yX5_set ∈ tbg := wb_336
theorem wl_L_90 : Cond.methodLink RL 90 yL_bodies ∈ tbg := wb_565
theorem wl_L_94 : Cond.methodLink RL 94 yL_targets ∈ tbg := wb_583
theorem wl_L_98 : Cond.methodLink RL 98 yL_echoes ∈ tbg := wb_623
theorem wl_X0_102 : Cond.methodLink RX0 102 yX3_isWall ∈ tbg := wb_384
theorem wl_X0_106 : Cond.methodLink RX0 106 yX0_takeGhost ∈ tbg := wb_385
theorem wl_X0_110 : Cond.methodLink RX0 110 Lib.Math.min.name ∈ tbg := wb_389
theorem wl_X0_116 : Cond.methodLink RX0 116 Lib.Math.max.name ∈ tbg := wb_392
theorem wl_X0_122 : Cond.methodLink RX0 122 yX0_sounds ∈ tbg := wb_399
theorem wl_X0_125 : Cond.methodLink RX0 125 yX0_movementOf ∈ tbg := wb_403
theorem wl_X0_126 : Cond.methodLink RX0 126 yX0_isFaint ∈ tbg := wb_411
theorem wl_X0_129 : Cond.methodLink RX0 129 yX0_distanceOf ∈ tbg := wb_429
theorem wl_X0_130 : Cond.methodLink RX0 130 yX0_placeOf ∈ tbg := wb_433
theorem wl_X0_134 : Cond.methodLink RX0 134 yX0_codeOf ∈ tbg := wb_437
theorem wl_X0_137 : Cond.methodLink RX0 137 yX0_has ∈ tbg := wb_407
theorem wl_X0_140 : Cond.methodLink RX0 140 yX0_strengthOf ∈ tbg := wb_415
theorem wl_X0_141 : Cond.methodLink RX0 141 yX0_lesserWall ∈ tbg := wb_621
theorem wl_X0_144 : Cond.methodLink RX0 144 yX0_greaterWall ∈ tbg := wb_622
theorem wl_X0_147 : Cond.methodLink RX0 147 yJ13_bitCount_95d88 ∈ tbg := wb_465
theorem wl_X0_153 : Cond.methodLink RX0 153 yX0_lostTurns ∈ tbg := wb_475
theorem wl_X0_156 : Cond.methodLink RX0 156 yX0_isHeard ∈ tbg := wb_444
theorem wl_X0_160 : Cond.methodLink RX0 160 yX0_isPartOf ∈ tbg := wb_638
theorem wl_X0_164 : Cond.methodLink RX0 164 yX0_fitOf ∈ tbg := wb_491
theorem wl_X0_167 : Cond.methodLink RX0 167 yX0_turnsThatFit ∈ tbg := wb_487
theorem wl_X0_170 : Cond.methodLink RX0 170 yX0_sourcesAt ∈ tbg := wb_500
theorem wl_X0_173 : Cond.methodLink RX0 173 yX0_isToldSource ∈ tbg := wb_496
theorem wl_X0_47 : Cond.methodLink RX0 47 yX3_blindBelow ∈ tbg := wb_360
theorem wl_X0_56 : Cond.methodLink RX0 56 yX3_loudFrom ∈ tbg := wb_364
theorem wl_X0_62 : Cond.methodLink RX0 62 yX0_takeTargets ∈ tbg := wb_368
theorem wl_X0_69 : Cond.methodLink RX0 69 yX0_takeGhosts ∈ tbg := wb_380
theorem wl_X0_72 : Cond.methodLink RX0 72 yX0_takePitches ∈ tbg := wb_395
theorem wl_X0_75 : Cond.methodLink RX0 75 yX3_turnCount ∈ tbg := wb_419
theorem wl_X0_78 : Cond.methodLink RX0 78 yX3_spacingOf ∈ tbg := wb_420
theorem wl_X0_82 : Cond.methodLink RX0 82 yX0_hearTurn ∈ tbg := wb_425
theorem wl_X0_86 : Cond.methodLink RX0 86 yX3_targetCount ∈ tbg := wb_372
theorem wl_X0_89 : Cond.methodLink RX0 89 yX3_distanceOf ∈ tbg := wb_373
theorem wl_X0_92 : Cond.methodLink RX0 92 yX3_strengthOf ∈ tbg := wb_374
theorem wl_X0_95 : Cond.methodLink RX0 95 yX3_movementOf ∈ tbg := wb_375
theorem wl_X0_98 : Cond.methodLink RX0 98 yX0_take ∈ tbg := wb_376
theorem wl_X3_41 : Cond.methodLink RX3 41 arraycopyName ∈ tbg := wb_273
theorem wl_X3_47 : Cond.methodLink RX3 47 yX3_has ∈ tbg := wb_249
theorem wl_X3_51 : Cond.methodLink RX3 51 yX3_hasTurn ∈ tbg := wb_424
theorem wl_X3_54 : Cond.methodLink RX3 54 yX3_isWall ∈ tbg := wb_301
theorem wl_X3_57 : Cond.methodLink RX3 57 yX3_distanceOf ∈ tbg := wb_245
theorem wl_X3_61 : Cond.methodLink RX3 61 yX3_movementOf ∈ tbg := wb_253
theorem wl_X3_64 : Cond.methodLink RX3 64 yX3_put ∈ tbg := wb_280
theorem wl_X3_68 : Cond.methodLink RX3 68 yX3_strengthOf ∈ tbg := wb_297
theorem wl_X3_71 : Cond.methodLink RX3 71 yX3_putAs ∈ tbg := wb_293
theorem wl_X5_102 : Cond.methodLink RX5 102 yX5_isWithin ∈ tbg := wb_238
theorem wl_X5_106 : Cond.methodLink RX5 106 yX3_changeBlind ∈ tbg := wb_340
theorem wl_X5_110 : Cond.methodLink RX5 110 yX3_changeLoud ∈ tbg := wb_344
theorem wl_X5_117 : Cond.methodLink RX5 117 yX1_length ∈ tbg := wb_544
theorem wl_X5_136 : Cond.methodLink RX5 136 yX4_write ∈ tbg := wb_514
theorem wl_X5_139 : Cond.methodLink RX5 139 yX4_length ∈ tbg := wb_540
theorem wl_X5_143 : Cond.methodLink RX5 143 yX3_distanceOf ∈ tbg := wb_608
theorem wl_X5_146 : Cond.methodLink RX5 146 yX3_strengthOf ∈ tbg := wb_609
theorem wl_X5_149 : Cond.methodLink RX5 149 yX3_movementOf ∈ tbg := wb_610
theorem wl_X5_152 : Cond.methodLink RX5 152 yX3_isWall ∈ tbg := wb_611
theorem wl_X5_155 : Cond.methodLink RX5 155 yX5_asNumber ∈ tbg := wb_601
theorem wl_X5_159 : Cond.methodLink RX5 159 yX5_heardOf ∈ tbg := wb_612
theorem wl_X5_163 : Cond.methodLink RX5 163 yX0_listen ∈ tbg := wb_356
theorem wl_X5_166 : Cond.methodLink RX5 166 yX0_ghostCount ∈ tbg := wb_457
theorem wl_X5_169 : Cond.methodLink RX5 169 yX0_distanceOf ∈ tbg := wb_590
theorem wl_X5_170 : Cond.methodLink RX5 170 yX0_strengthOf ∈ tbg := wb_591
theorem wl_X5_171 : Cond.methodLink RX5 171 yX0_lesserWall ∈ tbg := wb_592
theorem wl_X5_174 : Cond.methodLink RX5 174 yX0_greaterWall ∈ tbg := wb_596
theorem wl_X5_177 : Cond.methodLink RX5 177 yX0_isToldSource ∈ tbg := wb_600
theorem wl_X5_180 : Cond.methodLink RX5 180 yX3_hasTurn ∈ tbg := wb_352
theorem wl_X5_183 : Cond.methodLink RX5 183 yX0_findEcho ∈ tbg := wb_630
theorem wl_X5_186 : Cond.methodLink RX5 186 yX0_strengthTogether ∈ tbg := wb_634
theorem wl_X5_190 : Cond.methodLink RX5 190 yX0_sourcesTogether ∈ tbg := wb_642
theorem wl_X5_193 : Cond.methodLink RX5 193 yX0_fitOf ∈ tbg := wb_440
theorem wl_X5_196 : Cond.methodLink RX5 196 yX0_findTold ∈ tbg := wb_653
theorem wl_X5_199 : Cond.methodLink RX5 199 yX0_isTrue ∈ tbg := wb_657
theorem wl_X5_203 : Cond.methodLink RX5 203 yX0_turnsThatFit ∈ tbg := wb_661
theorem wl_X5_206 : Cond.methodLink RX5 206 yX3_spacingOf ∈ tbg := wb_452
theorem wl_X5_209 : Cond.methodLink RX5 209 yX5_firstCommonMultiple ∈ tbg := wb_673
theorem wl_X5_212 : Cond.methodLink RX5 212 yX5_commonMultiple ∈ tbg := wb_679
theorem wl_X5_215 : Cond.methodLink RX5 215 yX5_tryDistances ∈ tbg := wb_689
theorem wl_X5_219 : Cond.methodLink RX5 219 yX5_countHeard ∈ tbg := wb_453
theorem wl_X5_222 : Cond.methodLink RX5 222 yX3_wallCount ∈ tbg := wb_508
theorem wl_X5_225 : Cond.methodLink RX5 225 yX3_blindBelow ∈ tbg := wb_512
theorem wl_X5_228 : Cond.methodLink RX5 228 yX3_loudFrom ∈ tbg := wb_513
theorem wl_X5_231 : Cond.methodLink RX5 231 yX0_toldCount ∈ tbg := wb_483
theorem wl_X5_234 : Cond.methodLink RX5 234 yX0_trueCount ∈ tbg := wb_492
theorem wl_X5_237 : Cond.methodLink RX5 237 yX3_become ∈ tbg := wb_269
theorem wl_X5_240 : Cond.methodLink RX5 240 yX0_missedCount ∈ tbg := wb_504
theorem wl_X5_246 : Cond.methodLink RX5 246 yX5_forgetOldest ∈ tbg := wb_265
theorem wl_X5_249 : Cond.methodLink RX5 249 yX3_holds ∈ tbg := wb_241
theorem wl_X5_252 : Cond.methodLink RX5 252 yX0_lostTurns ∈ tbg := wb_616
theorem wl_X5_255 : Cond.methodLink RX5 255 yX0_ghostsOf ∈ tbg := wb_617
theorem wl_X5_258 : Cond.methodLink RX5 258 yX0_echoCount ∈ tbg := wb_461
theorem wl_X5_261 : Cond.methodLink RX5 261 yX0_lostCount ∈ tbg := wb_471
theorem wl_X5_264 : Cond.methodLink RX5 264 yX0_faintCount ∈ tbg := wb_479
theorem wl_X5_267 : Cond.methodLink RX5 267 yX5_remainder ∈ tbg := wb_676
theorem wl_X5_270 : Cond.methodLink RX5 270 yX5_commonDivisor ∈ tbg := wb_682
theorem wl_X5_62 : Cond.methodLink RX5 62 yX5_comingError ∈ tbg := wb_234
theorem wl_X5_66 : Cond.methodLink RX5 66 yX5_remember ∈ tbg := wb_261
theorem wl_X5_69 : Cond.methodLink RX5 69 yX3_join ∈ tbg := wb_276
theorem wl_X5_72 : Cond.methodLink RX5 72 yX3_has ∈ tbg := wb_288
theorem wl_X5_76 : Cond.methodLink RX5 76 yX3_leave ∈ tbg := wb_289
theorem wl_X5_80 : Cond.methodLink RX5 80 yX3_targetCount ∈ tbg := wb_257
theorem wl_X5_84 : Cond.methodLink RX5 84 yX3_moveAll ∈ tbg := wb_309
theorem wl_X5_87 : Cond.methodLink RX5 87 yX5_isSpacing ∈ tbg := wb_318
theorem wl_X5_90 : Cond.methodLink RX5 90 yX5_isSpacingOrNone ∈ tbg := wb_321
theorem wl_X5_93 : Cond.methodLink RX5 93 yX3_forgetTurns ∈ tbg := wb_324
theorem wl_X5_96 : Cond.methodLink RX5 96 yX3_addTurn ∈ tbg := wb_328
theorem wl_X5_99 : Cond.methodLink RX5 99 yX3_turnCount ∈ tbg := wb_332
theorem wn_copy : Cond.native arraycopyName ∈ tbg := wb_275
theorem wt_copy : Cond.static arraycopyName ∈ tbg := wb_274
theorem wt_max : Cond.static Lib.Math.max.name ∈ tbg := wb_393
theorem wt_min : Cond.static Lib.Math.min.name ∈ tbg := wb_390
set_option maxRecDepth 100000 in
theorem uw_X0 : ∀ w ∈ u_ws RX0 TX0 16, w ∈ tbg := (show ∀ w ∈ [u_lay RX0 TX0 0, u_lay RX0 TX0 1, u_lay RX0 TX0 2, u_lay RX0 TX0 3, u_lay RX0 TX0 4, u_lay RX0 TX0 5, u_lay RX0 TX0 6, u_lay RX0 TX0 7, u_lay RX0 TX0 8, u_lay RX0 TX0 9, u_lay RX0 TX0 10, u_lay RX0 TX0 11, u_lay RX0 TX0 12, u_lay RX0 TX0 13, u_lay RX0 TX0 14, u_lay RX0 TX0 15], w ∈ tbg from List.forall_mem_cons.mpr ⟨wb_165, List.forall_mem_cons.mpr ⟨wb_167, List.forall_mem_cons.mpr ⟨wb_169, List.forall_mem_cons.mpr ⟨wb_171, List.forall_mem_cons.mpr ⟨wb_173, List.forall_mem_cons.mpr ⟨wb_175, List.forall_mem_cons.mpr ⟨wb_177, List.forall_mem_cons.mpr ⟨wb_179, List.forall_mem_cons.mpr ⟨wb_181, List.forall_mem_cons.mpr ⟨wb_183, List.forall_mem_cons.mpr ⟨wb_185, List.forall_mem_cons.mpr ⟨wb_187, List.forall_mem_cons.mpr ⟨wb_189, List.forall_mem_cons.mpr ⟨wb_191, List.forall_mem_cons.mpr ⟨wb_193, List.forall_mem_cons.mpr ⟨wb_195, fun _ h => absurd h List.not_mem_nil⟩⟩⟩⟩⟩⟩⟩⟩⟩⟩⟩⟩⟩⟩⟩⟩)
set_option maxRecDepth 100000 in
theorem uw_X1 : ∀ w ∈ u_ws RX1 TX1 2, w ∈ tbg := (show ∀ w ∈ [u_lay RX1 TX1 0, u_lay RX1 TX1 1], w ∈ tbg from List.forall_mem_cons.mpr ⟨wb_87, List.forall_mem_cons.mpr ⟨wb_89, fun _ h => absurd h List.not_mem_nil⟩⟩)
set_option maxRecDepth 100000 in
theorem uw_X2 : ∀ w ∈ u_ws RX2 TX2 13, w ∈ tbg := (show ∀ w ∈ [u_lay RX2 TX2 0, u_lay RX2 TX2 1, u_lay RX2 TX2 2, u_lay RX2 TX2 3, u_lay RX2 TX2 4, u_lay RX2 TX2 5, u_lay RX2 TX2 6, u_lay RX2 TX2 7, u_lay RX2 TX2 8, u_lay RX2 TX2 9, u_lay RX2 TX2 10, u_lay RX2 TX2 11, u_lay RX2 TX2 12], w ∈ tbg from List.forall_mem_cons.mpr ⟨wb_104, List.forall_mem_cons.mpr ⟨wb_106, List.forall_mem_cons.mpr ⟨wb_108, List.forall_mem_cons.mpr ⟨wb_110, List.forall_mem_cons.mpr ⟨wb_112, List.forall_mem_cons.mpr ⟨wb_114, List.forall_mem_cons.mpr ⟨wb_116, List.forall_mem_cons.mpr ⟨wb_118, List.forall_mem_cons.mpr ⟨wb_120, List.forall_mem_cons.mpr ⟨wb_122, List.forall_mem_cons.mpr ⟨wb_124, List.forall_mem_cons.mpr ⟨wb_126, List.forall_mem_cons.mpr ⟨wb_128, fun _ h => absurd h List.not_mem_nil⟩⟩⟩⟩⟩⟩⟩⟩⟩⟩⟩⟩⟩)
set_option maxRecDepth 100000 in
theorem uw_X3 : ∀ w ∈ u_ws RX3 TX3 9, w ∈ tbg := (show ∀ w ∈ [u_lay RX3 TX3 0, u_lay RX3 TX3 1, u_lay RX3 TX3 2, u_lay RX3 TX3 3, u_lay RX3 TX3 4, u_lay RX3 TX3 5, u_lay RX3 TX3 6, u_lay RX3 TX3 7, u_lay RX3 TX3 8], w ∈ tbg from List.forall_mem_cons.mpr ⟨wb_57, List.forall_mem_cons.mpr ⟨wb_59, List.forall_mem_cons.mpr ⟨wb_61, List.forall_mem_cons.mpr ⟨wb_63, List.forall_mem_cons.mpr ⟨wb_65, List.forall_mem_cons.mpr ⟨wb_67, List.forall_mem_cons.mpr ⟨wb_69, List.forall_mem_cons.mpr ⟨wb_71, List.forall_mem_cons.mpr ⟨wb_73, fun _ h => absurd h List.not_mem_nil⟩⟩⟩⟩⟩⟩⟩⟩⟩)
set_option maxRecDepth 100000 in
theorem uw_X4 : ∀ w ∈ u_ws RX4 TX4 2, w ∈ tbg := (show ∀ w ∈ [u_lay RX4 TX4 0, u_lay RX4 TX4 1], w ∈ tbg from List.forall_mem_cons.mpr ⟨wb_139, List.forall_mem_cons.mpr ⟨wb_141, fun _ h => absurd h List.not_mem_nil⟩⟩)
set_option maxRecDepth 100000 in
theorem uw_X5 : ∀ w ∈ u_ws RX5 TX5 10, w ∈ tbg := (show ∀ w ∈ [u_lay RX5 TX5 0, u_lay RX5 TX5 1, u_lay RX5 TX5 2, u_lay RX5 TX5 3, u_lay RX5 TX5 4, u_lay RX5 TX5 5, u_lay RX5 TX5 6, u_lay RX5 TX5 7, u_lay RX5 TX5 8, u_lay RX5 TX5 9], w ∈ tbg from List.forall_mem_cons.mpr ⟨wb_209, List.forall_mem_cons.mpr ⟨wb_211, List.forall_mem_cons.mpr ⟨wb_213, List.forall_mem_cons.mpr ⟨wb_215, List.forall_mem_cons.mpr ⟨wb_217, List.forall_mem_cons.mpr ⟨wb_219, List.forall_mem_cons.mpr ⟨wb_221, List.forall_mem_cons.mpr ⟨wb_223, List.forall_mem_cons.mpr ⟨wb_225, List.forall_mem_cons.mpr ⟨wb_227, fun _ h => absurd h List.not_mem_nil⟩⟩⟩⟩⟩⟩⟩⟩⟩⟩)
theorem fk_X0_11 : fldOK RX0 11 0 0 16 := ⟨RX0, TX0, rfl, by decide, uw_X0, wb_150⟩
theorem fk_X0_15 : fldOK RX0 15 0 1 16 := ⟨RX0, TX0, rfl, by decide, uw_X0, wb_151⟩
theorem fk_X0_18 : fldOK RX0 18 0 2 16 := ⟨RX0, TX0, rfl, by decide, uw_X0, wb_152⟩
theorem fk_X0_21 : fldOK RX0 21 0 3 16 := ⟨RX0, TX0, rfl, by decide, uw_X0, wb_153⟩
theorem fk_X0_24 : fldOK RX0 24 0 4 16 := ⟨RX0, TX0, rfl, by decide, uw_X0, wb_154⟩
theorem fk_X0_27 : fldOK RX0 27 0 5 16 := ⟨RX0, TX0, rfl, by decide, uw_X0, wb_155⟩
theorem fk_X0_30 : fldOK RX0 30 0 6 16 := ⟨RX0, TX0, rfl, by decide, uw_X0, wb_156⟩
theorem fk_X0_34 : fldOK RX0 34 0 7 16 := ⟨RX0, TX0, rfl, by decide, uw_X0, wb_157⟩
theorem fk_X0_40 : fldOK RX0 40 0 9 16 := ⟨RX0, TX0, rfl, by decide, uw_X0, wb_159⟩
theorem fk_X0_44 : fldOK RX0 44 0 11 16 := ⟨RX0, TX0, rfl, by decide, uw_X0, wb_161⟩
theorem fk_X0_53 : fldOK RX0 53 0 12 16 := ⟨RX0, TX0, rfl, by decide, uw_X0, wb_162⟩
theorem fk_X0_59 : fldOK RX0 59 0 13 16 := ⟨RX0, TX0, rfl, by decide, uw_X0, wb_163⟩
theorem fk_X0_66 : fldOK RX0 66 0 10 16 := ⟨RX0, TX0, rfl, by decide, uw_X0, wb_160⟩
theorem fk_X0_119 : fldOK RX0 119 0 14 16 := ⟨RX0, TX0, rfl, by decide, uw_X0, wb_164⟩
theorem fk_X3_9 : fldOK RX3 9 3 0 9 := ⟨RX3, TX3, rfl, by decide, uw_X3, wb_48⟩
theorem fk_X3_15 : fldOK RX3 15 3 1 9 := ⟨RX3, TX3, rfl, by decide, uw_X3, wb_49⟩
theorem fk_X3_18 : fldOK RX3 18 3 2 9 := ⟨RX3, TX3, rfl, by decide, uw_X3, wb_50⟩
theorem fk_X3_21 : fldOK RX3 21 3 3 9 := ⟨RX3, TX3, rfl, by decide, uw_X3, wb_51⟩
theorem fk_X3_25 : fldOK RX3 25 3 4 9 := ⟨RX3, TX3, rfl, by decide, uw_X3, wb_52⟩
theorem fk_X3_28 : fldOK RX3 28 3 5 9 := ⟨RX3, TX3, rfl, by decide, uw_X3, wb_53⟩
theorem fk_X3_32 : fldOK RX3 32 3 6 9 := ⟨RX3, TX3, rfl, by decide, uw_X3, wb_54⟩
theorem fk_X3_35 : fldOK RX3 35 3 7 9 := ⟨RX3, TX3, rfl, by decide, uw_X3, wb_55⟩
theorem fk_X3_38 : fldOK RX3 38 3 8 9 := ⟨RX3, TX3, rfl, by decide, uw_X3, wb_56⟩
theorem fk_X5_12 : fldOK RX5 12 5 0 10 := ⟨RX5, TX5, rfl, by decide, uw_X5, wb_199⟩
theorem fk_X5_16 : fldOK RX5 16 5 1 10 := ⟨RX5, TX5, rfl, by decide, uw_X5, wb_200⟩
theorem fk_X5_22 : fldOK RX5 22 5 3 10 := ⟨RX5, TX5, rfl, by decide, uw_X5, wb_202⟩
theorem fk_X5_29 : fldOK RX5 29 5 4 10 := ⟨RX5, TX5, rfl, by decide, uw_X5, wb_203⟩
theorem fk_X5_43 : fldOK RX5 43 5 6 10 := ⟨RX5, TX5, rfl, by decide, uw_X5, wb_205⟩
theorem fk_X5_50 : fldOK RX5 50 5 7 10 := ⟨RX5, TX5, rfl, by decide, uw_X5, wb_206⟩
theorem fk_X5_58 : fldOK RX5 58 5 9 10 := ⟨RX5, TX5, rfl, by decide, uw_X5, wb_208⟩
theorem fp_X0_40 : fputOK RX0 40 0 9 16 .int := ⟨RX0, TX0, tyX0, rfl, by decide, uw_X0, wb_159, tyX0_ok, nmX0, rfl, by decide +kernel⟩
theorem fp_X0_44 : fputOK RX0 44 0 11 16 .int := ⟨RX0, TX0, tyX0, rfl, by decide, uw_X0, wb_161, tyX0_ok, nmX0, rfl, by decide +kernel⟩
theorem fp_X0_53 : fputOK RX0 53 0 12 16 .int := ⟨RX0, TX0, tyX0, rfl, by decide, uw_X0, wb_162, tyX0_ok, nmX0, rfl, by decide +kernel⟩
theorem fp_X0_59 : fputOK RX0 59 0 13 16 .int := ⟨RX0, TX0, tyX0, rfl, by decide, uw_X0, wb_163, tyX0_ok, nmX0, rfl, by decide +kernel⟩
theorem fp_X0_66 : fputOK RX0 66 0 10 16 .int := ⟨RX0, TX0, tyX0, rfl, by decide, uw_X0, wb_160, tyX0_ok, nmX0, rfl, by decide +kernel⟩
theorem fp_X0_119 : fputOK RX0 119 0 14 16 .int := ⟨RX0, TX0, tyX0, rfl, by decide, uw_X0, wb_164, tyX0_ok, nmX0, rfl, by decide +kernel⟩
theorem fp_X3_28 : fputOK RX3 28 3 5 9 .int := ⟨RX3, TX3, tyX3, rfl, by decide, uw_X3, wb_53, tyX3_ok, nmX3, rfl, by decide +kernel⟩
theorem fp_X3_32 : fputOK RX3 32 3 6 9 .int := ⟨RX3, TX3, tyX3, rfl, by decide, uw_X3, wb_54, tyX3_ok, nmX3, rfl, by decide +kernel⟩
theorem fp_X3_35 : fputOK RX3 35 3 7 9 .int := ⟨RX3, TX3, tyX3, rfl, by decide, uw_X3, wb_55, tyX3_ok, nmX3, rfl, by decide +kernel⟩
theorem fp_X3_38 : fputOK RX3 38 3 8 9 .int := ⟨RX3, TX3, tyX3, rfl, by decide, uw_X3, wb_56, tyX3_ok, nmX3, rfl, by decide +kernel⟩
theorem fp_X5_58 : fputOK RX5 58 5 9 10 .int := ⟨RX5, TX5, tyX5, rfl, by decide, uw_X5, wb_208, tyX5_ok, nmX5, rfl, by decide +kernel⟩
theorem wn_X3_75 : (RX3, 75, yX5_isWithin, "EchoTurns") ∈ pmN := by decide +kernel
def mX3_become : MI := (yX3_become, cX3_become, 3, none)
def mX3_targetCount : MI := (yX3_targetCount, cX3_targetCount, 1, some .int)
def mX3_turnCount : MI := (yX3_turnCount, cX3_turnCount, 1, some .int)
def mX3_blindBelow : MI := (yX3_blindBelow, cX3_blindBelow, 1, some .int)
def mX3_loudFrom : MI := (yX3_loudFrom, cX3_loudFrom, 1, some .int)
def mX3_has : MI := (yX3_has, cX3_has, 2, some .boolean)
def mX3_hasTurn : MI := (yX3_hasTurn, cX3_hasTurn, 2, some .boolean)
def mX3_distanceOf : MI := (yX3_distanceOf, cX3_distanceOf, 2, some .int)
def mX3_strengthOf : MI := (yX3_strengthOf, cX3_strengthOf, 2, some .int)
def mX3_movementOf : MI := (yX3_movementOf, cX3_movementOf, 2, some .int)
def mX3_isWall : MI := (yX3_isWall, cX3_isWall, 2, some .boolean)
def mX3_spacingOf : MI := (yX3_spacingOf, cX3_spacingOf, 2, some .int)
def mX3_wallCount : MI := (yX3_wallCount, cX3_wallCount, 3, some .int)
def mX3_holds : MI := (yX3_holds, cX3_holds, 4, some .boolean)
def mX3_join : MI := (yX3_join, cX3_join, 5, some .int)
def mX3_put : MI := (yX3_put, cX3_put, 6, none)
def mX3_putAs : MI := (yX3_putAs, cX3_putAs, 4, none)
def mX3_leave : MI := (yX3_leave, cX3_leave, 3, none)
def mX3_moveAll : MI := (yX3_moveAll, cX3_moveAll, 4, none)
def mX3_forgetTurns : MI := (yX3_forgetTurns, cX3_forgetTurns, 1, none)
def mX3_addTurn : MI := (yX3_addTurn, cX3_addTurn, 2, none)
def mX3_changeBlind : MI := (yX3_changeBlind, cX3_changeBlind, 3, some .int)
def mX3_changeLoud : MI := (yX3_changeLoud, cX3_changeLoud, 3, some .int)
def mX0_listen : MI := (yX0_listen, cX0_listen, 3, none)
def mX0_takeTargets : MI := (yX0_takeTargets, cX0_takeTargets, 3, none)
def mX0_takeGhosts : MI := (yX0_takeGhosts, cX0_takeGhosts, 4, none)
def mX0_takeGhost : MI := (yX0_takeGhost, cX0_takeGhost, 7, none)
def mX0_take : MI := (yX0_take, cX0_take, 6, none)
def mX0_takePitches : MI := (yX0_takePitches, cX0_takePitches, 2, none)
def mX0_sounds : MI := (yX0_sounds, cX0_sounds, 3, some .boolean)
def mX0_hearTurn : MI := (yX0_hearTurn, cX0_hearTurn, 6, none)
def mX0_has : MI := (yX0_has, cX0_has, 2, some .boolean)
def mX0_distanceOf : MI := (yX0_distanceOf, cX0_distanceOf, 2, some .int)
def mX0_strengthOf : MI := (yX0_strengthOf, cX0_strengthOf, 2, some .int)
def mX0_movementOf : MI := (yX0_movementOf, cX0_movementOf, 2, some .int)
def mX0_lesserWall : MI := (yX0_lesserWall, cX0_lesserWall, 2, some .int)
def mX0_greaterWall : MI := (yX0_greaterWall, cX0_greaterWall, 2, some .int)
def mX0_isFaint : MI := (yX0_isFaint, cX0_isFaint, 2, some .boolean)
def mX0_placeOf : MI := (yX0_placeOf, cX0_placeOf, 6, some .int)
def mX0_codeOf : MI := (yX0_codeOf, cX0_codeOf, 2, some .int)
def mX0_isHeard : MI := (yX0_isHeard, cX0_isHeard, 5, some .boolean)
def mX0_ghostCount : MI := (yX0_ghostCount, cX0_ghostCount, 1, some .int)
def mX0_ghostsOf : MI := (yX0_ghostsOf, cX0_ghostsOf, 4, some .int)
def mX0_echoCount : MI := (yX0_echoCount, cX0_echoCount, 3, some .int)
def mX0_lostCount : MI := (yX0_lostCount, cX0_lostCount, 3, some .int)
def mX0_lostTurns : MI := (yX0_lostTurns, cX0_lostTurns, 4, some .int)
def mX0_faintCount : MI := (yX0_faintCount, cX0_faintCount, 3, some .int)
def mX0_findEcho : MI := (yX0_findEcho, cX0_findEcho, 6, some .int)
def mX0_strengthTogether : MI := (yX0_strengthTogether, cX0_strengthTogether, 6, some .int)
def mX0_sourcesTogether : MI := (yX0_sourcesTogether, cX0_sourcesTogether, 6, some .int)
def mX0_isPartOf : MI := (yX0_isPartOf, cX0_isPartOf, 5, some .boolean)
def mX0_fitOf : MI := (yX0_fitOf, cX0_fitOf, 5, some .int)
def mX0_turnsThatFit : MI := (yX0_turnsThatFit, cX0_turnsThatFit, 6, some .int)
def mX0_isToldSource : MI := (yX0_isToldSource, cX0_isToldSource, 2, some .boolean)
def mX0_isTrue : MI := (yX0_isTrue, cX0_isTrue, 3, some .boolean)
def mX0_sourcesAt : MI := (yX0_sourcesAt, cX0_sourcesAt, 6, some .int)
def mX0_toldCount : MI := (yX0_toldCount, cX0_toldCount, 4, some .int)
def mX0_findTold : MI := (yX0_findTold, cX0_findTold, 5, some .int)
def mX0_trueCount : MI := (yX0_trueCount, cX0_trueCount, 3, some .int)
def mX0_missedCount : MI := (yX0_missedCount, cX0_missedCount, 3, some .int)
def mX1_length : MI := (yX1_length, cX1_length, 1, some .int)
def mX4_length : MI := (yX4_length, cX4_length, 1, some .int)
def mX4_write : MI := (yX4_write, cX4_write, 3, none)
def mX4_writeTarget : MI := (yX4_writeTarget, cX4_writeTarget, 4, none)
def mX4_writeNumber : MI := (yX4_writeNumber, cX4_writeNumber, 2, none)
def mX4_digitSign : MI := (yX4_digitSign, cX4_digitSign, 1, some .char)
def mX4_put : MI := (yX4_put, cX4_put, 2, none)
def mX5_target : MI := (yX5_target, cX5_target, 6, some .int)
def mX5_drop : MI := (yX5_drop, cX5_drop, 2, some .int)
def mX5_go : MI := (yX5_go, cX5_go, 1, some .int)
def mX5_spacings : MI := (yX5_spacings, cX5_spacings, 5, some .int)
def mX5_set : MI := (yX5_set, cX5_set, 3, some .int)
def mX5_targetOf : MI := (yX5_targetOf, cX5_targetOf, 3, some .int)
def mX5_ghost : MI := (yX5_ghost, cX5_ghost, 4, some .int)
def mX5_echo : MI := (yX5_echo, cX5_echo, 7, some .int)
def mX5_fits : MI := (yX5_fits, cX5_fits, 4, some .int)
def mX5_told : MI := (yX5_told, cX5_told, 6, some .int)
def mX5_alike : MI := (yX5_alike, cX5_alike, 5, some .int)
def mX5_unfold : MI := (yX5_unfold, cX5_unfold, 6, some .int)
def mX5_count : MI := (yX5_count, cX5_count, 2, some .int)
def mX5_ifTurn : MI := (yX5_ifTurn, cX5_ifTurn, 3, some .int)
def mX5_ifWall : MI := (yX5_ifWall, cX5_ifWall, 5, some .int)
def mX5_remember : MI := (yX5_remember, cX5_remember, 1, none)
def mX5_forgetOldest : MI := (yX5_forgetOldest, cX5_forgetOldest, 3, none)
def mX5_comingError : MI := (yX5_comingError, cX5_comingError, 5, some .int)
def mX5_heardOf : MI := (yX5_heardOf, cX5_heardOf, 3, some .int)
def mX5_countHeard : MI := (yX5_countHeard, cX5_countHeard, 2, some .int)
def mX5_isWithin : MI := (yX5_isWithin, cX5_isWithin, 3, some .boolean)
def mX5_isSpacing : MI := (yX5_isSpacing, cX5_isSpacing, 1, some .boolean)
def mX5_isSpacingOrNone : MI := (yX5_isSpacingOrNone, cX5_isSpacingOrNone, 1, some .boolean)
def mX5_asNumber : MI := (yX5_asNumber, cX5_asNumber, 1, some .int)
def mX5_remainder : MI := (yX5_remainder, cX5_remainder, 2, some .int)
def mX5_firstCommonMultiple : MI := (yX5_firstCommonMultiple, cX5_firstCommonMultiple, 4, some .int)
def mX5_commonMultiple : MI := (yX5_commonMultiple, cX5_commonMultiple, 3, some .int)
def mX5_commonDivisor : MI := (yX5_commonDivisor, cX5_commonDivisor, 6, some .int)
def mX5_tryDistances : MI := (yX5_tryDistances, cX5_tryDistances, 7, some .int)
def mL_low : MI := (yL_low, cL_low, 2, some .int)
def mL_bodies : MI := (yL_bodies, cL_bodies, 9, none)
def mL_place : MI := (yL_place, cL_place, 5, some .int)
def mL_heard : MI := (yL_heard, cL_heard, 9, some .int)
def mL_fit : MI := (yL_fit, cL_fit, 6, some .int)
def mL_told : MI := (yL_told, cL_told, 7, some .int)
def mL_isTrue : MI := (yL_isTrue, cL_isTrue, 5, some .boolean)
def mL_targets : MI := (yL_targets, cL_targets, 11, some .boolean)
def mL_echoes : MI := (yL_echoes, cL_echoes, 11, some .boolean)
def mL_distances : MI := (yL_distances, cL_distances, 10, some .boolean)
def mL_numbers : MI := (yL_numbers, cL_numbers, 8, some .boolean)
def mL_law : MI := (yL_law, cL_law, 18, some .boolean)
def mJ13_bitCount_95d88 : MI := (yJ13_bitCount_95d88, cJ13_bitCount_95d88, 2, some .int)
def mX5_truth : MI := (yX5_truth, cX5_truth, 2, some .double)
def mL_cell : MI := (yL_cell, cL_cell, 2, some .int)
theorem mk_J13_bitCount_95d88 : mOKS mJ13_bitCount_95d88 1 := ⟨wb_466, wb_33, wb_467, ⟨by decide +kernel, by decide +kernel⟩, by decide +kernel, by decide⟩
theorem mk_L_bodies : mOKS mL_bodies 3 := ⟨wb_566, wb_24, wb_567, ⟨by decide +kernel, by decide +kernel⟩, by decide +kernel, by decide⟩
theorem mk_L_cell : mOKS mL_cell 2 := ⟨wb_557, wb_24, wb_558, ⟨by decide +kernel, by decide +kernel⟩, by decide +kernel, by decide⟩
theorem mk_L_distances : mOKS mL_distances 3 := ⟨wb_647, wb_24, wb_648, ⟨by decide +kernel, by decide +kernel⟩, by decide +kernel, by decide⟩
theorem mk_L_echoes : mOKS mL_echoes 3 := ⟨wb_624, wb_24, wb_625, ⟨by decide +kernel, by decide +kernel⟩, by decide +kernel, by decide⟩
theorem mk_L_fit : mOKS mL_fit 5 := ⟨wb_569, wb_24, wb_570, ⟨by decide +kernel, by decide +kernel⟩, by decide +kernel, by decide⟩
theorem mk_L_heard : mOKS mL_heard 6 := ⟨wb_575, wb_24, wb_576, ⟨by decide +kernel, by decide +kernel⟩, by decide +kernel, by decide⟩
theorem mk_L_isTrue : mOKS mL_isTrue 4 := ⟨wb_581, wb_24, wb_582, ⟨by decide +kernel, by decide +kernel⟩, by decide +kernel, by decide⟩
theorem mk_L_low : mOKS mL_low 2 := ⟨wb_562, wb_24, wb_563, ⟨by decide +kernel, by decide +kernel⟩, by decide +kernel, by decide⟩
theorem mk_L_numbers : mOKS mL_numbers 3 := ⟨wb_667, wb_24, wb_668, ⟨by decide +kernel, by decide +kernel⟩, by decide +kernel, by decide⟩
theorem mk_L_place : mOKS mL_place 4 := ⟨wb_572, wb_24, wb_573, ⟨by decide +kernel, by decide +kernel⟩, by decide +kernel, by decide⟩
theorem mk_L_targets : mOKS mL_targets 4 := ⟨wb_584, wb_24, wb_585, ⟨by decide +kernel, by decide +kernel⟩, by decide +kernel, by decide⟩
theorem mk_L_told : mOKS mL_told 4 := ⟨wb_578, wb_24, wb_579, ⟨by decide +kernel, by decide +kernel⟩, by decide +kernel, by decide⟩
theorem mk_X0_codeOf : mOKS mX0_codeOf 2 := ⟨wb_438, wb_30, wb_439, ⟨by decide +kernel, by decide +kernel⟩, by decide +kernel, by decide⟩
theorem mk_X0_distanceOf : mOKV mX0_distanceOf 0 1 := ⟨wb_430, wb_431, wb_30, wb_432, ⟨_, rfl, rfl⟩, ⟨by decide +kernel, by decide +kernel⟩, by decide +kernel, by decide⟩
theorem mk_X0_echoCount : mOKV mX0_echoCount 0 0 := ⟨wb_462, wb_463, wb_30, wb_464, ⟨_, rfl, rfl⟩, ⟨by decide +kernel, by decide +kernel⟩, by decide +kernel, by decide⟩
theorem mk_X0_faintCount : mOKV mX0_faintCount 0 0 := ⟨wb_480, wb_481, wb_30, wb_482, ⟨_, rfl, rfl⟩, ⟨by decide +kernel, by decide +kernel⟩, by decide +kernel, by decide⟩
theorem mk_X0_findEcho : mOKV mX0_findEcho 0 2 := ⟨wb_631, wb_632, wb_30, wb_633, ⟨_, rfl, rfl⟩, ⟨by decide +kernel, by decide +kernel⟩, by decide +kernel, by decide⟩
theorem mk_X0_findTold : mOKV mX0_findTold 0 1 := ⟨wb_654, wb_655, wb_30, wb_656, ⟨_, rfl, rfl⟩, ⟨by decide +kernel, by decide +kernel⟩, by decide +kernel, by decide⟩
theorem mk_X0_fitOf : mOKV mX0_fitOf 0 3 := ⟨wb_441, wb_442, wb_30, wb_443, ⟨_, rfl, rfl⟩, ⟨by decide +kernel, by decide +kernel⟩, by decide +kernel, by decide⟩
theorem mk_X0_ghostCount : mOKV mX0_ghostCount 0 0 := ⟨wb_458, wb_459, wb_30, wb_460, ⟨_, rfl, rfl⟩, ⟨by decide +kernel, by decide +kernel⟩, by decide +kernel, by decide⟩
theorem mk_X0_ghostsOf : mOKV mX0_ghostsOf 0 1 := ⟨wb_618, wb_619, wb_30, wb_620, ⟨_, rfl, rfl⟩, ⟨by decide +kernel, by decide +kernel⟩, by decide +kernel, by decide⟩
theorem mk_X0_greaterWall : mOKV mX0_greaterWall 0 1 := ⟨wb_597, wb_598, wb_30, wb_599, ⟨_, rfl, rfl⟩, ⟨by decide +kernel, by decide +kernel⟩, by decide +kernel, by decide⟩
theorem mk_X0_has : mOKV mX0_has 0 1 := ⟨wb_409, wb_12, wb_30, wb_410, ⟨_, rfl, rfl⟩, ⟨by decide +kernel, by decide +kernel⟩, by decide +kernel, by decide⟩
theorem mk_X0_hearTurn : mOKV mX0_hearTurn 0 2 := ⟨wb_427, wb_14, wb_30, wb_428, ⟨_, rfl, rfl⟩, ⟨by decide +kernel, by decide +kernel⟩, by decide +kernel, by decide⟩
theorem mk_X0_isFaint : mOKV mX0_isFaint 0 1 := ⟨wb_413, wb_13, wb_30, wb_414, ⟨_, rfl, rfl⟩, ⟨by decide +kernel, by decide +kernel⟩, by decide +kernel, by decide⟩
theorem mk_X0_isHeard : mOKV mX0_isHeard 0 3 := ⟨wb_446, wb_16, wb_30, wb_447, ⟨_, rfl, rfl⟩, ⟨by decide +kernel, by decide +kernel⟩, by decide +kernel, by decide⟩
theorem mk_X0_isPartOf : mOKV mX0_isPartOf 0 4 := ⟨wb_640, wb_23, wb_30, wb_641, ⟨_, rfl, rfl⟩, ⟨by decide +kernel, by decide +kernel⟩, by decide +kernel, by decide⟩
theorem mk_X0_isToldSource : mOKV mX0_isToldSource 0 1 := ⟨wb_497, wb_498, wb_30, wb_499, ⟨_, rfl, rfl⟩, ⟨by decide +kernel, by decide +kernel⟩, by decide +kernel, by decide⟩
theorem mk_X0_isTrue : mOKV mX0_isTrue 0 2 := ⟨wb_658, wb_659, wb_30, wb_660, ⟨_, rfl, rfl⟩, ⟨by decide +kernel, by decide +kernel⟩, by decide +kernel, by decide⟩
theorem mk_X0_lesserWall : mOKV mX0_lesserWall 0 1 := ⟨wb_593, wb_594, wb_30, wb_595, ⟨_, rfl, rfl⟩, ⟨by decide +kernel, by decide +kernel⟩, by decide +kernel, by decide⟩
theorem mk_X0_listen : mOKV mX0_listen 0 1 := ⟨wb_357, wb_358, wb_30, wb_359, ⟨_, rfl, rfl⟩, ⟨by decide +kernel, by decide +kernel⟩, by decide +kernel, by decide⟩
theorem mk_X0_lostCount : mOKV mX0_lostCount 0 0 := ⟨wb_472, wb_473, wb_30, wb_474, ⟨_, rfl, rfl⟩, ⟨by decide +kernel, by decide +kernel⟩, by decide +kernel, by decide⟩
theorem mk_X0_lostTurns : mOKV mX0_lostTurns 0 1 := ⟨wb_476, wb_477, wb_30, wb_478, ⟨_, rfl, rfl⟩, ⟨by decide +kernel, by decide +kernel⟩, by decide +kernel, by decide⟩
theorem mk_X0_missedCount : mOKV mX0_missedCount 0 0 := ⟨wb_505, wb_506, wb_30, wb_507, ⟨_, rfl, rfl⟩, ⟨by decide +kernel, by decide +kernel⟩, by decide +kernel, by decide⟩
theorem mk_X0_movementOf : mOKV mX0_movementOf 0 1 := ⟨wb_405, wb_11, wb_30, wb_406, ⟨_, rfl, rfl⟩, ⟨by decide +kernel, by decide +kernel⟩, by decide +kernel, by decide⟩
theorem mk_X0_placeOf : mOKV mX0_placeOf 0 3 := ⟨wb_435, wb_15, wb_30, wb_436, ⟨_, rfl, rfl⟩, ⟨by decide +kernel, by decide +kernel⟩, by decide +kernel, by decide⟩
theorem mk_X0_sounds : mOKV mX0_sounds 0 1 := ⟨wb_401, wb_10, wb_30, wb_402, ⟨_, rfl, rfl⟩, ⟨by decide +kernel, by decide +kernel⟩, by decide +kernel, by decide⟩
theorem mk_X0_sourcesAt : mOKV mX0_sourcesAt 0 3 := ⟨wb_502, wb_18, wb_30, wb_503, ⟨_, rfl, rfl⟩, ⟨by decide +kernel, by decide +kernel⟩, by decide +kernel, by decide⟩
theorem mk_X0_sourcesTogether : mOKV mX0_sourcesTogether 0 3 := ⟨wb_643, wb_644, wb_30, wb_645, ⟨_, rfl, rfl⟩, ⟨by decide +kernel, by decide +kernel⟩, by decide +kernel, by decide⟩
theorem mk_X0_strengthOf : mOKV mX0_strengthOf 0 1 := ⟨wb_416, wb_417, wb_30, wb_418, ⟨_, rfl, rfl⟩, ⟨by decide +kernel, by decide +kernel⟩, by decide +kernel, by decide⟩
theorem mk_X0_strengthTogether : mOKV mX0_strengthTogether 0 3 := ⟨wb_635, wb_636, wb_30, wb_637, ⟨_, rfl, rfl⟩, ⟨by decide +kernel, by decide +kernel⟩, by decide +kernel, by decide⟩
theorem mk_X0_take : mOKV mX0_take 0 5 := ⟨wb_378, wb_6, wb_30, wb_379, ⟨_, rfl, rfl⟩, ⟨by decide +kernel, by decide +kernel⟩, by decide +kernel, by decide⟩
theorem mk_X0_takeGhost : mOKV mX0_takeGhost 0 3 := ⟨wb_387, wb_8, wb_30, wb_388, ⟨_, rfl, rfl⟩, ⟨by decide +kernel, by decide +kernel⟩, by decide +kernel, by decide⟩
theorem mk_X0_takeGhosts : mOKV mX0_takeGhosts 0 1 := ⟨wb_382, wb_7, wb_30, wb_383, ⟨_, rfl, rfl⟩, ⟨by decide +kernel, by decide +kernel⟩, by decide +kernel, by decide⟩
theorem mk_X0_takePitches : mOKV mX0_takePitches 0 0 := ⟨wb_397, wb_9, wb_30, wb_398, ⟨_, rfl, rfl⟩, ⟨by decide +kernel, by decide +kernel⟩, by decide +kernel, by decide⟩
theorem mk_X0_takeTargets : mOKV mX0_takeTargets 0 1 := ⟨wb_370, wb_5, wb_30, wb_371, ⟨_, rfl, rfl⟩, ⟨by decide +kernel, by decide +kernel⟩, by decide +kernel, by decide⟩
theorem mk_X0_toldCount : mOKV mX0_toldCount 0 0 := ⟨wb_484, wb_485, wb_30, wb_486, ⟨_, rfl, rfl⟩, ⟨by decide +kernel, by decide +kernel⟩, by decide +kernel, by decide⟩
theorem mk_X0_trueCount : mOKV mX0_trueCount 0 0 := ⟨wb_493, wb_494, wb_30, wb_495, ⟨_, rfl, rfl⟩, ⟨by decide +kernel, by decide +kernel⟩, by decide +kernel, by decide⟩
theorem mk_X0_turnsThatFit : mOKV mX0_turnsThatFit 0 2 := ⟨wb_488, wb_489, wb_30, wb_490, ⟨_, rfl, rfl⟩, ⟨by decide +kernel, by decide +kernel⟩, by decide +kernel, by decide⟩
theorem mk_X1_length : mOKV mX1_length 1 0 := ⟨wb_545, wb_546, wb_27, wb_547, ⟨_, rfl, rfl⟩, ⟨by decide +kernel, by decide +kernel⟩, by decide +kernel, by decide⟩
theorem mk_X3_addTurn : mOKV mX3_addTurn 3 1 := ⟨wb_329, wb_330, wb_26, wb_331, ⟨_, rfl, rfl⟩, ⟨by decide +kernel, by decide +kernel⟩, by decide +kernel, by decide⟩
theorem mk_X3_become : mOKV mX3_become 3 1 := ⟨wb_270, wb_271, wb_26, wb_272, ⟨_, rfl, rfl⟩, ⟨by decide +kernel, by decide +kernel⟩, by decide +kernel, by decide⟩
theorem mk_X3_blindBelow : mOKV mX3_blindBelow 3 0 := ⟨wb_361, wb_362, wb_26, wb_363, ⟨_, rfl, rfl⟩, ⟨by decide +kernel, by decide +kernel⟩, by decide +kernel, by decide⟩
theorem mk_X3_changeBlind : mOKV mX3_changeBlind 3 1 := ⟨wb_341, wb_342, wb_26, wb_343, ⟨_, rfl, rfl⟩, ⟨by decide +kernel, by decide +kernel⟩, by decide +kernel, by decide⟩
theorem mk_X3_changeLoud : mOKV mX3_changeLoud 3 1 := ⟨wb_345, wb_346, wb_26, wb_347, ⟨_, rfl, rfl⟩, ⟨by decide +kernel, by decide +kernel⟩, by decide +kernel, by decide⟩
theorem mk_X3_distanceOf : mOKV mX3_distanceOf 3 1 := ⟨wb_246, wb_247, wb_26, wb_248, ⟨_, rfl, rfl⟩, ⟨by decide +kernel, by decide +kernel⟩, by decide +kernel, by decide⟩
theorem mk_X3_forgetTurns : mOKV mX3_forgetTurns 3 0 := ⟨wb_325, wb_326, wb_26, wb_327, ⟨_, rfl, rfl⟩, ⟨by decide +kernel, by decide +kernel⟩, by decide +kernel, by decide⟩
theorem mk_X3_has : mOKV mX3_has 3 1 := ⟨wb_250, wb_251, wb_26, wb_252, ⟨_, rfl, rfl⟩, ⟨by decide +kernel, by decide +kernel⟩, by decide +kernel, by decide⟩
theorem mk_X3_hasTurn : mOKV mX3_hasTurn 3 1 := ⟨wb_353, wb_354, wb_26, wb_355, ⟨_, rfl, rfl⟩, ⟨by decide +kernel, by decide +kernel⟩, by decide +kernel, by decide⟩
theorem mk_X3_holds : mOKV mX3_holds 3 2 := ⟨wb_242, wb_243, wb_26, wb_244, ⟨_, rfl, rfl⟩, ⟨by decide +kernel, by decide +kernel⟩, by decide +kernel, by decide⟩
theorem mk_X3_isWall : mOKV mX3_isWall 3 1 := ⟨wb_302, wb_303, wb_26, wb_304, ⟨_, rfl, rfl⟩, ⟨by decide +kernel, by decide +kernel⟩, by decide +kernel, by decide⟩
theorem mk_X3_join : mOKV mX3_join 3 4 := ⟨wb_277, wb_278, wb_26, wb_279, ⟨_, rfl, rfl⟩, ⟨by decide +kernel, by decide +kernel⟩, by decide +kernel, by decide⟩
theorem mk_X3_leave : mOKV mX3_leave 3 1 := ⟨wb_290, wb_291, wb_26, wb_292, ⟨_, rfl, rfl⟩, ⟨by decide +kernel, by decide +kernel⟩, by decide +kernel, by decide⟩
theorem mk_X3_loudFrom : mOKV mX3_loudFrom 3 0 := ⟨wb_365, wb_366, wb_26, wb_367, ⟨_, rfl, rfl⟩, ⟨by decide +kernel, by decide +kernel⟩, by decide +kernel, by decide⟩
theorem mk_X3_moveAll : mOKV mX3_moveAll 3 0 := ⟨wb_310, wb_311, wb_26, wb_312, ⟨_, rfl, rfl⟩, ⟨by decide +kernel, by decide +kernel⟩, by decide +kernel, by decide⟩
theorem mk_X3_movementOf : mOKV mX3_movementOf 3 1 := ⟨wb_254, wb_255, wb_26, wb_256, ⟨_, rfl, rfl⟩, ⟨by decide +kernel, by decide +kernel⟩, by decide +kernel, by decide⟩
theorem mk_X3_put : mOKV mX3_put 3 5 := ⟨wb_282, wb_3, wb_26, wb_283, ⟨_, rfl, rfl⟩, ⟨by decide +kernel, by decide +kernel⟩, by decide +kernel, by decide⟩
theorem mk_X3_putAs : mOKV mX3_putAs 3 3 := ⟨wb_295, wb_4, wb_26, wb_296, ⟨_, rfl, rfl⟩, ⟨by decide +kernel, by decide +kernel⟩, by decide +kernel, by decide⟩
theorem mk_X3_spacingOf : mOKV mX3_spacingOf 3 1 := ⟨wb_421, wb_422, wb_26, wb_423, ⟨_, rfl, rfl⟩, ⟨by decide +kernel, by decide +kernel⟩, by decide +kernel, by decide⟩
theorem mk_X3_strengthOf : mOKV mX3_strengthOf 3 1 := ⟨wb_298, wb_299, wb_26, wb_300, ⟨_, rfl, rfl⟩, ⟨by decide +kernel, by decide +kernel⟩, by decide +kernel, by decide⟩
theorem mk_X3_targetCount : mOKV mX3_targetCount 3 0 := ⟨wb_258, wb_259, wb_26, wb_260, ⟨_, rfl, rfl⟩, ⟨by decide +kernel, by decide +kernel⟩, by decide +kernel, by decide⟩
theorem mk_X3_turnCount : mOKV mX3_turnCount 3 0 := ⟨wb_333, wb_334, wb_26, wb_335, ⟨_, rfl, rfl⟩, ⟨by decide +kernel, by decide +kernel⟩, by decide +kernel, by decide⟩
theorem mk_X3_wallCount : mOKV mX3_wallCount 3 0 := ⟨wb_509, wb_510, wb_26, wb_511, ⟨_, rfl, rfl⟩, ⟨by decide +kernel, by decide +kernel⟩, by decide +kernel, by decide⟩
theorem mk_X4_length : mOKV mX4_length 4 0 := ⟨wb_541, wb_542, wb_29, wb_543, ⟨_, rfl, rfl⟩, ⟨by decide +kernel, by decide +kernel⟩, by decide +kernel, by decide⟩
theorem mk_X4_write : mOKV mX4_write 4 1 := ⟨wb_515, wb_516, wb_29, wb_517, ⟨_, rfl, rfl⟩, ⟨by decide +kernel, by decide +kernel⟩, by decide +kernel, by decide⟩
theorem mk_X5_alike : mOKV mX5_alike 5 1 := ⟨wb_670, wb_671, wb_25, wb_672, ⟨_, rfl, rfl⟩, ⟨by decide +kernel, by decide +kernel⟩, by decide +kernel, by decide⟩
theorem mk_X5_asNumber : mOKS mX5_asNumber 1 := ⟨wb_602, wb_25, wb_603, ⟨by decide +kernel, by decide +kernel⟩, by decide +kernel, by decide⟩
theorem mk_X5_comingError : mOKV mX5_comingError 5 4 := ⟨wb_236, wb_0, wb_25, wb_237, ⟨_, rfl, rfl⟩, ⟨by decide +kernel, by decide +kernel⟩, by decide +kernel, by decide⟩
theorem mk_X5_commonDivisor : mOKS mX5_commonDivisor 2 := ⟨wb_683, wb_25, wb_684, ⟨by decide +kernel, by decide +kernel⟩, by decide +kernel, by decide⟩
theorem mk_X5_commonMultiple : mOKS mX5_commonMultiple 2 := ⟨wb_680, wb_25, wb_681, ⟨by decide +kernel, by decide +kernel⟩, by decide +kernel, by decide⟩
theorem mk_X5_count : mOKV mX5_count 5 1 := ⟨wb_449, wb_450, wb_25, wb_451, ⟨_, rfl, rfl⟩, ⟨by decide +kernel, by decide +kernel⟩, by decide +kernel, by decide⟩
theorem mk_X5_countHeard : mOKV mX5_countHeard 5 1 := ⟨wb_455, wb_17, wb_25, wb_456, ⟨_, rfl, rfl⟩, ⟨by decide +kernel, by decide +kernel⟩, by decide +kernel, by decide⟩
theorem mk_X5_drop : mOKV mX5_drop 5 1 := ⟨wb_285, wb_286, wb_25, wb_287, ⟨_, rfl, rfl⟩, ⟨by decide +kernel, by decide +kernel⟩, by decide +kernel, by decide⟩
theorem mk_X5_echo : mOKV mX5_echo 5 3 := ⟨wb_627, wb_628, wb_25, wb_629, ⟨_, rfl, rfl⟩, ⟨by decide +kernel, by decide +kernel⟩, by decide +kernel, by decide⟩
theorem mk_X5_firstCommonMultiple : mOKS mX5_firstCommonMultiple 2 := ⟨wb_674, wb_25, wb_675, ⟨by decide +kernel, by decide +kernel⟩, by decide +kernel, by decide⟩
theorem mk_X5_fits : mOKV mX5_fits 5 3 := ⟨wb_349, wb_350, wb_25, wb_351, ⟨_, rfl, rfl⟩, ⟨by decide +kernel, by decide +kernel⟩, by decide +kernel, by decide⟩
theorem mk_X5_forgetOldest : mOKV mX5_forgetOldest 5 0 := ⟨wb_267, wb_2, wb_25, wb_268, ⟨_, rfl, rfl⟩, ⟨by decide +kernel, by decide +kernel⟩, by decide +kernel, by decide⟩
theorem mk_X5_ghost : mOKV mX5_ghost 5 2 := ⟨wb_587, wb_588, wb_25, wb_589, ⟨_, rfl, rfl⟩, ⟨by decide +kernel, by decide +kernel⟩, by decide +kernel, by decide⟩
theorem mk_X5_go : mOKV mX5_go 5 0 := ⟨wb_306, wb_307, wb_25, wb_308, ⟨_, rfl, rfl⟩, ⟨by decide +kernel, by decide +kernel⟩, by decide +kernel, by decide⟩
theorem mk_X5_heardOf : mOKV mX5_heardOf 5 2 := ⟨wb_614, wb_22, wb_25, wb_615, ⟨_, rfl, rfl⟩, ⟨by decide +kernel, by decide +kernel⟩, by decide +kernel, by decide⟩
theorem mk_X5_ifTurn : mOKV mX5_ifTurn 5 2 := ⟨wb_549, wb_550, wb_25, wb_551, ⟨_, rfl, rfl⟩, ⟨by decide +kernel, by decide +kernel⟩, by decide +kernel, by decide⟩
theorem mk_X5_ifWall : mOKV mX5_ifWall 5 3 := ⟨wb_553, wb_554, wb_25, wb_555, ⟨_, rfl, rfl⟩, ⟨by decide +kernel, by decide +kernel⟩, by decide +kernel, by decide⟩
theorem mk_X5_isSpacing : mOKS mX5_isSpacing 1 := ⟨wb_319, wb_25, wb_320, ⟨by decide +kernel, by decide +kernel⟩, by decide +kernel, by decide⟩
theorem mk_X5_isSpacingOrNone : mOKS mX5_isSpacingOrNone 1 := ⟨wb_322, wb_25, wb_323, ⟨by decide +kernel, by decide +kernel⟩, by decide +kernel, by decide⟩
theorem mk_X5_isWithin : mOKS mX5_isWithin 3 := ⟨wb_239, wb_25, wb_240, ⟨by decide +kernel, by decide +kernel⟩, by decide +kernel, by decide⟩
theorem mk_X5_remainder : mOKS mX5_remainder 2 := ⟨wb_677, wb_25, wb_678, ⟨by decide +kernel, by decide +kernel⟩, by decide +kernel, by decide⟩
theorem mk_X5_remember : mOKV mX5_remember 5 0 := ⟨wb_263, wb_1, wb_25, wb_264, ⟨_, rfl, rfl⟩, ⟨by decide +kernel, by decide +kernel⟩, by decide +kernel, by decide⟩
theorem mk_X5_set : mOKV mX5_set 5 2 := ⟨wb_337, wb_338, wb_25, wb_339, ⟨_, rfl, rfl⟩, ⟨by decide +kernel, by decide +kernel⟩, by decide +kernel, by decide⟩
theorem mk_X5_spacings : mOKV mX5_spacings 5 4 := ⟨wb_315, wb_316, wb_25, wb_317, ⟨_, rfl, rfl⟩, ⟨by decide +kernel, by decide +kernel⟩, by decide +kernel, by decide⟩
theorem mk_X5_target : mOKV mX5_target 5 4 := ⟨wb_231, wb_232, wb_25, wb_233, ⟨_, rfl, rfl⟩, ⟨by decide +kernel, by decide +kernel⟩, by decide +kernel, by decide⟩
theorem mk_X5_targetOf : mOKV mX5_targetOf 5 2 := ⟨wb_605, wb_606, wb_25, wb_607, ⟨_, rfl, rfl⟩, ⟨by decide +kernel, by decide +kernel⟩, by decide +kernel, by decide⟩
theorem mk_X5_told : mOKV mX5_told 5 2 := ⟨wb_650, wb_651, wb_25, wb_652, ⟨_, rfl, rfl⟩, ⟨by decide +kernel, by decide +kernel⟩, by decide +kernel, by decide⟩
theorem mk_X5_truth : mOKV mX5_truth 5 0 := ⟨wb_663, wb_664, wb_25, wb_665, ⟨_, rfl, rfl⟩, ⟨by decide +kernel, by decide +kernel⟩, by decide +kernel, by decide⟩
theorem mk_X5_tryDistances : mOKS mX5_tryDistances 6 := ⟨wb_690, wb_25, wb_691, ⟨by decide +kernel, by decide +kernel⟩, by decide +kernel, by decide⟩
theorem mk_X5_unfold : mOKV mX5_unfold 5 3 := ⟨wb_686, wb_687, wb_25, wb_688, ⟨_, rfl, rfl⟩, ⟨by decide +kernel, by decide +kernel⟩, by decide +kernel, by decide⟩
theorem shq_0 : shp[0]? = some (0, 5, 10) := rfl
theorem shq_1 : shp[1]? = some (0, 3, 9) := rfl
theorem shq_2 : shp[2]? = some (1, 0, 6) := rfl
theorem shq_3 : shp[3]? = some (1, 0, 6) := rfl
theorem shq_4 : shp[4]? = some (1, 0, 6) := rfl
theorem shq_5 : shp[5]? = some (1, 1, 6) := rfl
theorem shq_6 : shp[6]? = some (1, 0, 4) := rfl
theorem shq_7 : shp[7]? = some (0, 3, 9) := rfl
theorem shq_8 : shp[8]? = some (1, 0, 6) := rfl
theorem shq_9 : shp[9]? = some (1, 0, 6) := rfl
theorem shq_10 : shp[10]? = some (1, 0, 6) := rfl
theorem shq_11 : shp[11]? = some (1, 1, 6) := rfl
theorem shq_12 : shp[12]? = some (1, 0, 4) := rfl
theorem shq_13 : shp[13]? = some (0, 3, 9) := rfl
theorem shq_14 : shp[14]? = some (1, 0, 6) := rfl
theorem shq_15 : shp[15]? = some (1, 0, 6) := rfl
theorem shq_16 : shp[16]? = some (1, 0, 6) := rfl
theorem shq_17 : shp[17]? = some (1, 1, 6) := rfl
theorem shq_18 : shp[18]? = some (1, 0, 4) := rfl
theorem shq_19 : shp[19]? = some (3, 4, 4) := rfl
theorem shq_20 : shp[20]? = some (0, 3, 9) := rfl
theorem shq_21 : shp[21]? = some (1, 0, 6) := rfl
theorem shq_22 : shp[22]? = some (1, 0, 6) := rfl
theorem shq_23 : shp[23]? = some (1, 0, 6) := rfl
theorem shq_24 : shp[24]? = some (1, 1, 6) := rfl
theorem shq_25 : shp[25]? = some (1, 0, 4) := rfl
theorem shq_26 : shp[26]? = some (0, 3, 9) := rfl
theorem shq_27 : shp[27]? = some (1, 0, 6) := rfl
theorem shq_28 : shp[28]? = some (1, 0, 6) := rfl
theorem shq_29 : shp[29]? = some (1, 0, 6) := rfl
theorem shq_30 : shp[30]? = some (1, 1, 6) := rfl
theorem shq_31 : shp[31]? = some (1, 0, 4) := rfl
theorem shq_32 : shp[32]? = some (0, 3, 9) := rfl
theorem shq_33 : shp[33]? = some (1, 0, 6) := rfl
theorem shq_34 : shp[34]? = some (1, 0, 6) := rfl
theorem shq_35 : shp[35]? = some (1, 0, 6) := rfl
theorem shq_36 : shp[36]? = some (1, 1, 6) := rfl
theorem shq_37 : shp[37]? = some (1, 0, 4) := rfl
theorem shq_38 : shp[38]? = some (0, 3, 9) := rfl
theorem shq_39 : shp[39]? = some (1, 0, 6) := rfl
theorem shq_40 : shp[40]? = some (1, 0, 6) := rfl
theorem shq_41 : shp[41]? = some (1, 0, 6) := rfl
theorem shq_42 : shp[42]? = some (1, 1, 6) := rfl
theorem shq_43 : shp[43]? = some (1, 0, 4) := rfl
theorem shq_44 : shp[44]? = some (0, 1, 2) := rfl
theorem shq_45 : shp[45]? = some (1, 2, 60) := rfl
theorem shq_46 : shp[46]? = some (0, 2, 13) := rfl
theorem shq_47 : shp[47]? = some (1, 0, 12) := rfl
theorem shq_48 : shp[48]? = some (1, 0, 12) := rfl
theorem shq_49 : shp[49]? = some (1, 0, 12) := rfl
theorem shq_50 : shp[50]? = some (1, 1, 12) := rfl
theorem shq_51 : shp[51]? = some (1, 0, 4) := rfl
theorem shq_52 : shp[52]? = some (0, 4, 2) := rfl
theorem shq_53 : shp[53]? = some (1, 2, 72) := rfl
theorem shq_54 : shp[54]? = some (0, 0, 16) := rfl
theorem shq_55 : shp[55]? = some (1, 0, 21) := rfl
theorem shq_56 : shp[56]? = some (1, 0, 21) := rfl
theorem shq_57 : shp[57]? = some (1, 0, 21) := rfl
theorem shq_58 : shp[58]? = some (1, 0, 21) := rfl
theorem shq_59 : shp[59]? = some (1, 0, 21) := rfl
theorem shq_60 : shp[60]? = some (1, 0, 4) := rfl
theorem shq_61 : shp[61]? = some (2, 3, 44) := rfl
theorem shq_62 : shp[62]? = some (1, 0, 11) := rfl
theorem shq_63 : shp[63]? = some (1, 0, 3600) := rfl
theorem shq_64 : shp[64]? = some (1, 0, 24) := rfl
theorem shq_65 : shp[65]? = some (1, 0, 63) := rfl
theorem shq_66 : shp[66]? = some (1, 0, 9) := rfl
theorem frq_0_0 : FR 0 0 = some 1 := rfl
theorem frq_0_1 : FR 0 1 = some 7 := rfl
theorem frq_0_2 : FR 0 2 = some 13 := rfl
theorem frq_0_3 : FR 0 3 = some 19 := rfl
theorem frq_0_4 : FR 0 4 = some 44 := rfl
theorem frq_0_5 : FR 0 5 = some 46 := rfl
theorem frq_0_6 : FR 0 6 = some 52 := rfl
theorem frq_0_7 : FR 0 7 = some 54 := rfl
theorem frq_0_8 : FR 0 8 = none := rfl
theorem frq_0_9 : FR 0 9 = none := rfl
theorem frq_44_0 : FR 44 0 = some 45 := rfl
theorem frq_44_1 : FR 44 1 = none := rfl
theorem frq_46_0 : FR 46 0 = some 47 := rfl
theorem frq_46_1 : FR 46 1 = some 48 := rfl
theorem frq_46_2 : FR 46 2 = some 49 := rfl
theorem frq_46_3 : FR 46 3 = some 50 := rfl
theorem frq_46_4 : FR 46 4 = some 51 := rfl
theorem frq_46_5 : FR 46 5 = none := rfl
theorem frq_46_6 : FR 46 6 = none := rfl
theorem frq_46_7 : FR 46 7 = none := rfl
theorem frq_46_8 : FR 46 8 = none := rfl
theorem frq_46_9 : FR 46 9 = none := rfl
theorem frq_46_10 : FR 46 10 = none := rfl
theorem frq_46_11 : FR 46 11 = none := rfl
theorem frq_46_12 : FR 46 12 = none := rfl
theorem frq_52_0 : FR 52 0 = some 53 := rfl
theorem frq_52_1 : FR 52 1 = none := rfl
theorem frq_54_0 : FR 54 0 = some 55 := rfl
theorem frq_54_1 : FR 54 1 = some 56 := rfl
theorem frq_54_2 : FR 54 2 = some 57 := rfl
theorem frq_54_3 : FR 54 3 = some 58 := rfl
theorem frq_54_4 : FR 54 4 = some 59 := rfl
theorem frq_54_5 : FR 54 5 = some 60 := rfl
theorem frq_54_6 : FR 54 6 = some 61 := rfl
theorem frq_54_7 : FR 54 7 = some 62 := rfl
theorem frq_54_8 : FR 54 8 = some 63 := rfl
theorem frq_54_9 : FR 54 9 = none := rfl
theorem frq_54_10 : FR 54 10 = none := rfl
theorem frq_54_11 : FR 54 11 = none := rfl
theorem frq_54_12 : FR 54 12 = none := rfl
theorem frq_54_13 : FR 54 13 = none := rfl
theorem frq_54_14 : FR 54 14 = none := rfl
theorem frq_54_15 : FR 54 15 = none := rfl
theorem sc_0 {a : Nat} (h : isSc a) : shp[a]? = some (0, 3, 9) := by rcases h with rfl | rfl | rfl | rfl | rfl | rfl | rfl <;> rfl
theorem sc_1 {a : Nat} (h : isSc a) : shp[a + 1]? = some (1, 0, 6) := by rcases h with rfl | rfl | rfl | rfl | rfl | rfl | rfl <;> rfl
theorem sc_2 {a : Nat} (h : isSc a) : shp[a + 2]? = some (1, 0, 6) := by rcases h with rfl | rfl | rfl | rfl | rfl | rfl | rfl <;> rfl
theorem sc_3 {a : Nat} (h : isSc a) : shp[a + 3]? = some (1, 0, 6) := by rcases h with rfl | rfl | rfl | rfl | rfl | rfl | rfl <;> rfl
theorem sc_4 {a : Nat} (h : isSc a) : shp[a + 4]? = some (1, 1, 6) := by rcases h with rfl | rfl | rfl | rfl | rfl | rfl | rfl <;> rfl
theorem sc_5 {a : Nat} (h : isSc a) : shp[a + 5]? = some (1, 0, 4) := by rcases h with rfl | rfl | rfl | rfl | rfl | rfl | rfl <;> rfl
theorem scr_0 {a : Nat} (h : isSc a) : FR a 0 = some (a + 1) := by rcases h with rfl | rfl | rfl | rfl | rfl | rfl | rfl <;> rfl
theorem scr_1 {a : Nat} (h : isSc a) : FR a 1 = some (a + 2) := by rcases h with rfl | rfl | rfl | rfl | rfl | rfl | rfl <;> rfl
theorem scr_2 {a : Nat} (h : isSc a) : FR a 2 = some (a + 3) := by rcases h with rfl | rfl | rfl | rfl | rfl | rfl | rfl <;> rfl
theorem scr_3 {a : Nat} (h : isSc a) : FR a 3 = some (a + 4) := by rcases h with rfl | rfl | rfl | rfl | rfl | rfl | rfl <;> rfl
theorem scr_4 {a : Nat} (h : isSc a) : FR a 4 = some (a + 5) := by rcases h with rfl | rfl | rfl | rfl | rfl | rfl | rfl <;> rfl
theorem scr_5 {a : Nat} (h : isSc a) : FR a 5 = none := by rcases h with rfl | rfl | rfl | rfl | rfl | rfl | rfl <;> rfl
theorem scr_6 {a : Nat} (h : isSc a) : FR a 6 = none := by rcases h with rfl | rfl | rfl | rfl | rfl | rfl | rfl <;> rfl
theorem scr_7 {a : Nat} (h : isSc a) : FR a 7 = none := by rcases h with rfl | rfl | rfl | rfl | rfl | rfl | rfl <;> rfl
theorem scr_8 {a : Nat} (h : isSc a) : FR a 8 = none := by rcases h with rfl | rfl | rfl | rfl | rfl | rfl | rfl <;> rfl
theorem ixk_0 : ix 0 = 0 := by decide +kernel
theorem ixk_1 : ix 1 = 1 := by decide +kernel
theorem ixk_2 : ix 2 = 2 := by decide +kernel
theorem ixk_3 : ix 3 = 3 := by decide +kernel
theorem ixk_4 : ix 4 = 4 := by decide +kernel
theorem ixk_5 : ix 5 = 5 := by decide +kernel
theorem ixk_6 : ix 6 = 6 := by decide +kernel
theorem ixk_7 : ix 7 = 7 := by decide +kernel
theorem ixk_8 : ix 8 = 8 := by decide +kernel
theorem k_bi_10 : (Int8.ofInt (10)).toInt32 = 10 := by decide +kernel
theorem k_bi_11 : (Int8.ofInt (11)).toInt32 = 11 := by decide +kernel
theorem k_bi_12 : (Int8.ofInt (12)).toInt32 = 12 := by decide +kernel
theorem k_bi_13 : (Int8.ofInt (13)).toInt32 = 13 := by decide +kernel
theorem k_bi_14 : (Int8.ofInt (14)).toInt32 = 14 := by decide +kernel
theorem k_bi_15 : (Int8.ofInt (15)).toInt32 = 15 := by decide +kernel
theorem k_bi_16 : (Int8.ofInt (16)).toInt32 = 16 := by decide +kernel
theorem k_bi_18 : (Int8.ofInt (18)).toInt32 = 18 := by decide +kernel
theorem k_bi_20 : (Int8.ofInt (20)).toInt32 = 20 := by decide +kernel
theorem k_bi_21 : (Int8.ofInt (21)).toInt32 = 21 := by decide +kernel
theorem k_bi_24 : (Int8.ofInt (24)).toInt32 = 24 := by decide +kernel
theorem k_bi_25 : (Int8.ofInt (25)).toInt32 = 25 := by decide +kernel
theorem k_bi_30 : (Int8.ofInt (30)).toInt32 = 30 := by decide +kernel
theorem k_bi_36 : (Int8.ofInt (36)).toInt32 = 36 := by decide +kernel
theorem k_bi_40 : (Int8.ofInt (40)).toInt32 = 40 := by decide +kernel
theorem k_bi_41 : (Int8.ofInt (41)).toInt32 = 41 := by decide +kernel
theorem k_bi_50 : (Int8.ofInt (50)).toInt32 = 50 := by decide +kernel
theorem k_bi_6 : (Int8.ofInt (6)).toInt32 = 6 := by decide +kernel
theorem k_bi_60 : (Int8.ofInt (60)).toInt32 = 60 := by decide +kernel
theorem k_bi_7 : (Int8.ofInt (7)).toInt32 = 7 := by decide +kernel
theorem k_bi_8 : (Int8.ofInt (8)).toInt32 = 8 := by decide +kernel
theorem k_bi_9 : (Int8.ofInt (9)).toInt32 = 9 := by decide +kernel
theorem k_bi_99 : (Int8.ofInt (99)).toInt32 = 99 := by decide +kernel
theorem k_bi_m2 : (Int8.ofInt (-2)).toInt32 = (-2) := by decide +kernel
theorem k_bi_m3 : (Int8.ofInt (-3)).toInt32 = (-3) := by decide +kernel
theorem k_bi_m4 : (Int8.ofInt (-4)).toInt32 = (-4) := by decide +kernel
theorem k_bi_m5 : (Int8.ofInt (-5)).toInt32 = (-5) := by decide +kernel
theorem k_ic_0 : Int32.ofInt (0) = 0 := by decide +kernel
theorem k_ic_1 : Int32.ofInt (1) = 1 := by decide +kernel
theorem k_ic_2 : Int32.ofInt (2) = 2 := by decide +kernel
theorem k_ic_3 : Int32.ofInt (3) = 3 := by decide +kernel
theorem k_ic_4 : Int32.ofInt (4) = 4 := by decide +kernel
theorem k_ic_5 : Int32.ofInt (5) = 5 := by decide +kernel
theorem k_ic_m1 : Int32.ofInt (-1) = (-1) := by decide +kernel
theorem k_lc_0 : Int64.ofNat (((0 : Fin 2)) : Nat) = 0 := by decide +kernel
theorem k_lc_1 : Int64.ofNat (((1 : Fin 2)) : Nat) = 1 := by decide +kernel
theorem k_on_11 : Int32.ofNat 11 = 11 := by decide +kernel
theorem k_on_4 : Int32.ofNat 4 = 4 := by decide +kernel
theorem k_on_44 : Int32.ofNat 44 = 44 := by decide +kernel
theorem k_si_200 : (Int16.ofInt (200)).toInt32 = 200 := by decide +kernel
theorem k_si_2500 : (Int16.ofInt (2500)).toInt32 = 2500 := by decide +kernel
theorem k_si_300 : (Int16.ofInt (300)).toInt32 = 300 := by decide +kernel
theorem k_si_301 : (Int16.ofInt (301)).toInt32 = 301 := by decide +kernel
theorem k_si_600 : (Int16.ofInt (600)).toInt32 = 600 := by decide +kernel
theorem k_si_601 : (Int16.ofInt (601)).toInt32 = 601 := by decide +kernel
theorem k_si_6600 : (Int16.ofInt (6600)).toInt32 = 6600 := by decide +kernel
theorem vik_0_9 : vp_in 0 9 := by unfold vp_in; decide +kernel
theorem vik_1_9 : vp_in 1 9 := by unfold vp_in; decide +kernel
theorem vik_2_9 : vp_in 2 9 := by unfold vp_in; decide +kernel
theorem vik_3_9 : vp_in 3 9 := by unfold vp_in; decide +kernel
theorem vik_4_9 : vp_in 4 9 := by unfold vp_in; decide +kernel
theorem vik_5_9 : vp_in 5 9 := by unfold vp_in; decide +kernel
theorem vik_6_9 : vp_in 6 9 := by unfold vp_in; decide +kernel
theorem vik_7_9 : vp_in 7 9 := by unfold vp_in; decide +kernel
theorem vik_8_9 : vp_in 8 9 := by unfold vp_in; decide +kernel
