section
-- ===== PART A: goes FIRST, ahead of the names: the tables' words, and 'selects' of the private methods out of them =====
/-- a private method of a class that the tables say can be made, by its rows of tables_1 -/
def lw_okq (q : MethodName × Nat) : Prop := (q.1.cls ≠ "java/lang/invoke/MethodHandle" ∧ q.1.cls ≠ "java/lang/invoke/VarHandle") ∧ Cond.instantiable q.1.cls q.2 ∈ tables_1 ∧ Cond.privateMethod q.1 ∈ tables_1 ∧ Cond.instanceMethod q.1 ∈ tables_1
theorem lw_p0 : lw_okq (⟨"EchoTurns", "comingError", "(IIIZ)I"⟩, 10) := ⟨⟨by decide +kernel, by decide +kernel⟩, List.mem_of_getElem? (i := 11) (by decide +kernel), List.mem_of_getElem? (i := 211) (by decide +kernel), List.mem_of_getElem? (i := 212) (by decide +kernel)⟩
theorem lw_p1 : lw_okq (⟨"EchoTurns", "remember", "()V"⟩, 10) := ⟨⟨by decide +kernel, by decide +kernel⟩, List.mem_of_getElem? (i := 11) (by decide +kernel), List.mem_of_getElem? (i := 238) (by decide +kernel), List.mem_of_getElem? (i := 239) (by decide +kernel)⟩
theorem lw_p2 : lw_okq (⟨"EchoTurns", "forgetOldest", "()V"⟩, 10) := ⟨⟨by decide +kernel, by decide +kernel⟩, List.mem_of_getElem? (i := 11) (by decide +kernel), List.mem_of_getElem? (i := 242) (by decide +kernel), List.mem_of_getElem? (i := 243) (by decide +kernel)⟩
theorem lw_p3 : lw_okq (⟨"EchoTurns$Scene", "put", "(IIIIZ)V"⟩, 9) := ⟨⟨by decide +kernel, by decide +kernel⟩, List.mem_of_getElem? (i := 19) (by decide +kernel), List.mem_of_getElem? (i := 257) (by decide +kernel), List.mem_of_getElem? (i := 258) (by decide +kernel)⟩
theorem lw_p4 : lw_okq (⟨"EchoTurns$Scene", "putAs", "(III)V"⟩, 9) := ⟨⟨by decide +kernel, by decide +kernel⟩, List.mem_of_getElem? (i := 19) (by decide +kernel), List.mem_of_getElem? (i := 270) (by decide +kernel), List.mem_of_getElem? (i := 271) (by decide +kernel)⟩
theorem lw_p5 : lw_okq (⟨"EchoTurns$Ear", "takeTargets", "(LEchoTurns$Scene;)V"⟩, 16) := ⟨⟨by decide +kernel, by decide +kernel⟩, List.mem_of_getElem? (i := 121) (by decide +kernel), List.mem_of_getElem? (i := 345) (by decide +kernel), List.mem_of_getElem? (i := 346) (by decide +kernel)⟩
theorem lw_p6 : lw_okq (⟨"EchoTurns$Ear", "take", "(IIIII)V"⟩, 16) := ⟨⟨by decide +kernel, by decide +kernel⟩, List.mem_of_getElem? (i := 121) (by decide +kernel), List.mem_of_getElem? (i := 353) (by decide +kernel), List.mem_of_getElem? (i := 354) (by decide +kernel)⟩
theorem lw_p7 : lw_okq (⟨"EchoTurns$Ear", "takeGhosts", "(LEchoTurns$Scene;)V"⟩, 16) := ⟨⟨by decide +kernel, by decide +kernel⟩, List.mem_of_getElem? (i := 121) (by decide +kernel), List.mem_of_getElem? (i := 357) (by decide +kernel), List.mem_of_getElem? (i := 358) (by decide +kernel)⟩
theorem lw_p8 : lw_okq (⟨"EchoTurns$Ear", "takeGhost", "(LEchoTurns$Scene;II)V"⟩, 16) := ⟨⟨by decide +kernel, by decide +kernel⟩, List.mem_of_getElem? (i := 121) (by decide +kernel), List.mem_of_getElem? (i := 362) (by decide +kernel), List.mem_of_getElem? (i := 363) (by decide +kernel)⟩
theorem lw_p9 : lw_okq (⟨"EchoTurns$Ear", "takePitches", "()V"⟩, 16) := ⟨⟨by decide +kernel, by decide +kernel⟩, List.mem_of_getElem? (i := 121) (by decide +kernel), List.mem_of_getElem? (i := 372) (by decide +kernel), List.mem_of_getElem? (i := 373) (by decide +kernel)⟩
theorem lw_p10 : lw_okq (⟨"EchoTurns$Ear", "sounds", "(I)Z"⟩, 16) := ⟨⟨by decide +kernel, by decide +kernel⟩, List.mem_of_getElem? (i := 121) (by decide +kernel), List.mem_of_getElem? (i := 376) (by decide +kernel), List.mem_of_getElem? (i := 377) (by decide +kernel)⟩
theorem lw_p11 : lw_okq (⟨"EchoTurns$Ear", "movementOf", "(I)I"⟩, 16) := ⟨⟨by decide +kernel, by decide +kernel⟩, List.mem_of_getElem? (i := 121) (by decide +kernel), List.mem_of_getElem? (i := 380) (by decide +kernel), List.mem_of_getElem? (i := 381) (by decide +kernel)⟩
theorem lw_p12 : lw_okq (⟨"EchoTurns$Ear", "has", "(I)Z"⟩, 16) := ⟨⟨by decide +kernel, by decide +kernel⟩, List.mem_of_getElem? (i := 121) (by decide +kernel), List.mem_of_getElem? (i := 384) (by decide +kernel), List.mem_of_getElem? (i := 385) (by decide +kernel)⟩
theorem lw_p13 : lw_okq (⟨"EchoTurns$Ear", "isFaint", "(I)Z"⟩, 16) := ⟨⟨by decide +kernel, by decide +kernel⟩, List.mem_of_getElem? (i := 121) (by decide +kernel), List.mem_of_getElem? (i := 388) (by decide +kernel), List.mem_of_getElem? (i := 389) (by decide +kernel)⟩
theorem lw_p14 : lw_okq (⟨"EchoTurns$Ear", "hearTurn", "(II)V"⟩, 16) := ⟨⟨by decide +kernel, by decide +kernel⟩, List.mem_of_getElem? (i := 121) (by decide +kernel), List.mem_of_getElem? (i := 402) (by decide +kernel), List.mem_of_getElem? (i := 403) (by decide +kernel)⟩
theorem lw_p15 : lw_okq (⟨"EchoTurns$Ear", "placeOf", "(III)I"⟩, 16) := ⟨⟨by decide +kernel, by decide +kernel⟩, List.mem_of_getElem? (i := 121) (by decide +kernel), List.mem_of_getElem? (i := 410) (by decide +kernel), List.mem_of_getElem? (i := 411) (by decide +kernel)⟩
def lw_privs_1 : List (MethodName × Nat) := [(⟨"EchoTurns", "comingError", "(IIIZ)I"⟩, 10), (⟨"EchoTurns", "remember", "()V"⟩, 10), (⟨"EchoTurns", "forgetOldest", "()V"⟩, 10), (⟨"EchoTurns$Scene", "put", "(IIIIZ)V"⟩, 9), (⟨"EchoTurns$Scene", "putAs", "(III)V"⟩, 9), (⟨"EchoTurns$Ear", "takeTargets", "(LEchoTurns$Scene;)V"⟩, 16), (⟨"EchoTurns$Ear", "take", "(IIIII)V"⟩, 16), (⟨"EchoTurns$Ear", "takeGhosts", "(LEchoTurns$Scene;)V"⟩, 16), (⟨"EchoTurns$Ear", "takeGhost", "(LEchoTurns$Scene;II)V"⟩, 16), (⟨"EchoTurns$Ear", "takePitches", "()V"⟩, 16), (⟨"EchoTurns$Ear", "sounds", "(I)Z"⟩, 16), (⟨"EchoTurns$Ear", "movementOf", "(I)I"⟩, 16), (⟨"EchoTurns$Ear", "has", "(I)Z"⟩, 16), (⟨"EchoTurns$Ear", "isFaint", "(I)Z"⟩, 16), (⟨"EchoTurns$Ear", "hearTurn", "(II)V"⟩, 16), (⟨"EchoTurns$Ear", "placeOf", "(III)I"⟩, 16)]
theorem lw_r1 : ∀ q ∈ lw_privs_1, lw_okq q := List.forall_mem_cons.mpr ⟨lw_p0, List.forall_mem_cons.mpr ⟨lw_p1, List.forall_mem_cons.mpr ⟨lw_p2, List.forall_mem_cons.mpr ⟨lw_p3, List.forall_mem_cons.mpr ⟨lw_p4, List.forall_mem_cons.mpr ⟨lw_p5, List.forall_mem_cons.mpr ⟨lw_p6, List.forall_mem_cons.mpr ⟨lw_p7, List.forall_mem_cons.mpr ⟨lw_p8, List.forall_mem_cons.mpr ⟨lw_p9, List.forall_mem_cons.mpr ⟨lw_p10, List.forall_mem_cons.mpr ⟨lw_p11, List.forall_mem_cons.mpr ⟨lw_p12, List.forall_mem_cons.mpr ⟨lw_p13, List.forall_mem_cons.mpr ⟨lw_p14, List.forall_mem_cons.mpr ⟨lw_p15, fun _ h => absurd h List.not_mem_nil⟩⟩⟩⟩⟩⟩⟩⟩⟩⟩⟩⟩⟩⟩⟩⟩
theorem lw_p16 : lw_okq (⟨"EchoTurns$Ear", "isHeard", "(III)Z"⟩, 16) := ⟨⟨by decide +kernel, by decide +kernel⟩, List.mem_of_getElem? (i := 121) (by decide +kernel), List.mem_of_getElem? (i := 421) (by decide +kernel), List.mem_of_getElem? (i := 422) (by decide +kernel)⟩
theorem lw_p17 : lw_okq (⟨"EchoTurns", "countHeard", "(I)I"⟩, 10) := ⟨⟨by decide +kernel, by decide +kernel⟩, List.mem_of_getElem? (i := 11) (by decide +kernel), List.mem_of_getElem? (i := 430) (by decide +kernel), List.mem_of_getElem? (i := 431) (by decide +kernel)⟩
theorem lw_p18 : lw_okq (⟨"EchoTurns$Ear", "sourcesAt", "(III)I"⟩, 16) := ⟨⟨by decide +kernel, by decide +kernel⟩, List.mem_of_getElem? (i := 121) (by decide +kernel), List.mem_of_getElem? (i := 477) (by decide +kernel), List.mem_of_getElem? (i := 478) (by decide +kernel)⟩
theorem lw_p19 : lw_okq (⟨"EchoTurns$Script", "put", "(C)V"⟩, 2) := ⟨⟨by decide +kernel, by decide +kernel⟩, List.mem_of_getElem? (i := 108) (by decide +kernel), List.mem_of_getElem? (i := 496) (by decide +kernel), List.mem_of_getElem? (i := 497) (by decide +kernel)⟩
theorem lw_p20 : lw_okq (⟨"EchoTurns$Script", "writeTarget", "(LEchoTurns$Scene;I)V"⟩, 2) := ⟨⟨by decide +kernel, by decide +kernel⟩, List.mem_of_getElem? (i := 108) (by decide +kernel), List.mem_of_getElem? (i := 500) (by decide +kernel), List.mem_of_getElem? (i := 501) (by decide +kernel)⟩
theorem lw_p21 : lw_okq (⟨"EchoTurns$Script", "writeNumber", "(I)V"⟩, 2) := ⟨⟨by decide +kernel, by decide +kernel⟩, List.mem_of_getElem? (i := 108) (by decide +kernel), List.mem_of_getElem? (i := 507) (by decide +kernel), List.mem_of_getElem? (i := 508) (by decide +kernel)⟩
theorem lw_p22 : lw_okq (⟨"EchoTurns", "heardOf", "(II)I"⟩, 10) := ⟨⟨by decide +kernel, by decide +kernel⟩, List.mem_of_getElem? (i := 11) (by decide +kernel), List.mem_of_getElem? (i := 589) (by decide +kernel), List.mem_of_getElem? (i := 590) (by decide +kernel)⟩
theorem lw_p23 : lw_okq (⟨"EchoTurns$Ear", "isPartOf", "(IIII)Z"⟩, 16) := ⟨⟨by decide +kernel, by decide +kernel⟩, List.mem_of_getElem? (i := 121) (by decide +kernel), List.mem_of_getElem? (i := 615) (by decide +kernel), List.mem_of_getElem? (i := 616) (by decide +kernel)⟩
def lw_privs_2 : List (MethodName × Nat) := [(⟨"EchoTurns$Ear", "isHeard", "(III)Z"⟩, 16), (⟨"EchoTurns", "countHeard", "(I)I"⟩, 10), (⟨"EchoTurns$Ear", "sourcesAt", "(III)I"⟩, 16), (⟨"EchoTurns$Script", "put", "(C)V"⟩, 2), (⟨"EchoTurns$Script", "writeTarget", "(LEchoTurns$Scene;I)V"⟩, 2), (⟨"EchoTurns$Script", "writeNumber", "(I)V"⟩, 2), (⟨"EchoTurns", "heardOf", "(II)I"⟩, 10), (⟨"EchoTurns$Ear", "isPartOf", "(IIII)Z"⟩, 16)]
theorem lw_r2 : ∀ q ∈ lw_privs_2, lw_okq q := List.forall_mem_cons.mpr ⟨lw_p16, List.forall_mem_cons.mpr ⟨lw_p17, List.forall_mem_cons.mpr ⟨lw_p18, List.forall_mem_cons.mpr ⟨lw_p19, List.forall_mem_cons.mpr ⟨lw_p20, List.forall_mem_cons.mpr ⟨lw_p21, List.forall_mem_cons.mpr ⟨lw_p22, List.forall_mem_cons.mpr ⟨lw_p23, fun _ h => absurd h List.not_mem_nil⟩⟩⟩⟩⟩⟩⟩⟩
def lw_privs : List (MethodName × Nat) := lw_privs_1 ++ (lw_privs_2)
def lw_tbl : List Cond := k2_sels lw_privs ++ tables_1
theorem lw_privs_ok : ∀ q ∈ lw_privs, lw_okq q := by
  show ∀ q ∈ lw_privs_1 ++ (lw_privs_2), lw_okq q
  exact List.forall_mem_append.mpr ⟨lw_r1, lw_r2⟩
/-- the streams that the claim lets the run draw from -/
abbrev lw_cs : List Choice := [Jvm.Choice.named "NaN.bits"]
theorem lw_bits : nanBits ∈ lw_cs := by first | decide | exact List.mem_cons_self | simp [lw_cs, nanBits]
end
section
def RX0 : String := "EchoTurns$Ear"
def TX0 : u_T := fun k => match k with
  | 0 => ("EchoTurns$Ear", "distances", "[I", true)
  | 1 => ("EchoTurns$Ear", "strengths", "[I", true)
  | 2 => ("EchoTurns$Ear", "movements", "[I", true)
  | 3 => ("EchoTurns$Ear", "lesserWalls", "[I", true)
  | 4 => ("EchoTurns$Ear", "greaterWalls", "[I", true)
  | 5 => ("EchoTurns$Ear", "spacing", "[I", true)
  | 6 => ("EchoTurns$Ear", "heard", "[J", true)
  | 7 => ("EchoTurns$Ear", "pitches", "[I", true)
  | 8 => ("EchoTurns$Ear", "open", "[I", true)
  | 9 => ("EchoTurns$Ear", "sources", "I", false)
  | 10 => ("EchoTurns$Ear", "targets", "I", false)
  | 11 => ("EchoTurns$Ear", "turns", "I", false)
  | 12 => ("EchoTurns$Ear", "blind", "I", false)
  | 13 => ("EchoTurns$Ear", "loud", "I", false)
  | 14 => ("EchoTurns$Ear", "pitchCount", "I", false)
  | _ => ("EchoTurns$Ear", "openCount", "I", false)
def tyX0 : Nat → FieldType := fun k => match k with
  | 0 => .array .int
  | 1 => .array .int
  | 2 => .array .int
  | 3 => .array .int
  | 4 => .array .int
  | 5 => .array .int
  | 6 => .array .long
  | 7 => .array .int
  | 8 => .array .int
  | 9 => .int
  | 10 => .int
  | 11 => .int
  | 12 => .int
  | 13 => .int
  | 14 => .int
  | _ => .int
theorem nmX0 : ∀ a, a < 16 → ∀ b, b < 16 → a ≠ b → (TX0 a).2.1 ≠ (TX0 b).2.1 := by decide +kernel
theorem tyX0_ok : ∀ k, k < 16 → parseFieldDescriptor (TX0 k).2.2.1 = some (tyX0 k) := by decide +kernel
abbrev cX0_init : ByteArray := prog_2_method_1_code
def yX0_init : MethodName := ⟨RX0, "<init>", "()V"⟩
abbrev cX0_listen : ByteArray := prog_2_method_2_code
def yX0_listen : MethodName := ⟨RX0, "listen", "(LEchoTurns$Scene;)V"⟩
abbrev cX0_takeTargets : ByteArray := prog_2_method_3_code
def yX0_takeTargets : MethodName := ⟨RX0, "takeTargets", "(LEchoTurns$Scene;)V"⟩
abbrev cX0_takeGhosts : ByteArray := prog_2_method_4_code
def yX0_takeGhosts : MethodName := ⟨RX0, "takeGhosts", "(LEchoTurns$Scene;)V"⟩
abbrev cX0_takeGhost : ByteArray := prog_2_method_5_code
def yX0_takeGhost : MethodName := ⟨RX0, "takeGhost", "(LEchoTurns$Scene;II)V"⟩
abbrev cX0_take : ByteArray := prog_2_method_6_code
def yX0_take : MethodName := ⟨RX0, "take", "(IIIII)V"⟩
abbrev cX0_takePitches : ByteArray := prog_2_method_7_code
def yX0_takePitches : MethodName := ⟨RX0, "takePitches", "()V"⟩
abbrev cX0_sounds : ByteArray := prog_2_method_8_code
def yX0_sounds : MethodName := ⟨RX0, "sounds", "(I)Z"⟩
abbrev cX0_hearTurn : ByteArray := prog_2_method_9_code
def yX0_hearTurn : MethodName := ⟨RX0, "hearTurn", "(II)V"⟩
abbrev cX0_has : ByteArray := prog_2_method_10_code
def yX0_has : MethodName := ⟨RX0, "has", "(I)Z"⟩
abbrev cX0_distanceOf : ByteArray := prog_2_method_11_code
def yX0_distanceOf : MethodName := ⟨RX0, "distanceOf", "(I)I"⟩
abbrev cX0_strengthOf : ByteArray := prog_2_method_12_code
def yX0_strengthOf : MethodName := ⟨RX0, "strengthOf", "(I)I"⟩
abbrev cX0_movementOf : ByteArray := prog_2_method_13_code
def yX0_movementOf : MethodName := ⟨RX0, "movementOf", "(I)I"⟩
abbrev cX0_lesserWall : ByteArray := prog_2_method_14_code
def yX0_lesserWall : MethodName := ⟨RX0, "lesserWall", "(I)I"⟩
abbrev cX0_greaterWall : ByteArray := prog_2_method_15_code
def yX0_greaterWall : MethodName := ⟨RX0, "greaterWall", "(I)I"⟩
abbrev cX0_isFaint : ByteArray := prog_2_method_16_code
def yX0_isFaint : MethodName := ⟨RX0, "isFaint", "(I)Z"⟩
abbrev cX0_placeOf : ByteArray := prog_2_method_17_code
def yX0_placeOf : MethodName := ⟨RX0, "placeOf", "(III)I"⟩
abbrev cX0_codeOf : ByteArray := prog_2_method_18_code
def yX0_codeOf : MethodName := ⟨RX0, "codeOf", "(II)I"⟩
abbrev cX0_isHeard : ByteArray := prog_2_method_19_code
def yX0_isHeard : MethodName := ⟨RX0, "isHeard", "(III)Z"⟩
abbrev cX0_ghostCount : ByteArray := prog_2_method_20_code
def yX0_ghostCount : MethodName := ⟨RX0, "ghostCount", "()I"⟩
abbrev cX0_ghostsOf : ByteArray := prog_2_method_21_code
def yX0_ghostsOf : MethodName := ⟨RX0, "ghostsOf", "(I)I"⟩
abbrev cX0_echoCount : ByteArray := prog_2_method_22_code
def yX0_echoCount : MethodName := ⟨RX0, "echoCount", "()I"⟩
abbrev cX0_lostCount : ByteArray := prog_2_method_23_code
def yX0_lostCount : MethodName := ⟨RX0, "lostCount", "()I"⟩
abbrev cX0_lostTurns : ByteArray := prog_2_method_24_code
def yX0_lostTurns : MethodName := ⟨RX0, "lostTurns", "(I)I"⟩
abbrev cX0_faintCount : ByteArray := prog_2_method_25_code
def yX0_faintCount : MethodName := ⟨RX0, "faintCount", "()I"⟩
abbrev cX0_findEcho : ByteArray := prog_2_method_26_code
def yX0_findEcho : MethodName := ⟨RX0, "findEcho", "(II)I"⟩
abbrev cX0_strengthTogether : ByteArray := prog_2_method_27_code
def yX0_strengthTogether : MethodName := ⟨RX0, "strengthTogether", "(III)I"⟩
abbrev cX0_sourcesTogether : ByteArray := prog_2_method_28_code
def yX0_sourcesTogether : MethodName := ⟨RX0, "sourcesTogether", "(III)I"⟩
abbrev cX0_isPartOf : ByteArray := prog_2_method_29_code
def yX0_isPartOf : MethodName := ⟨RX0, "isPartOf", "(IIII)Z"⟩
abbrev cX0_fitOf : ByteArray := prog_2_method_30_code
def yX0_fitOf : MethodName := ⟨RX0, "fitOf", "(III)I"⟩
abbrev cX0_turnsThatFit : ByteArray := prog_2_method_31_code
def yX0_turnsThatFit : MethodName := ⟨RX0, "turnsThatFit", "(II)I"⟩
abbrev cX0_isToldSource : ByteArray := prog_2_method_32_code
def yX0_isToldSource : MethodName := ⟨RX0, "isToldSource", "(I)Z"⟩
abbrev cX0_isTrue : ByteArray := prog_2_method_33_code
def yX0_isTrue : MethodName := ⟨RX0, "isTrue", "(II)Z"⟩
abbrev cX0_sourcesAt : ByteArray := prog_2_method_34_code
def yX0_sourcesAt : MethodName := ⟨RX0, "sourcesAt", "(III)I"⟩
abbrev cX0_toldCount : ByteArray := prog_2_method_35_code
def yX0_toldCount : MethodName := ⟨RX0, "toldCount", "()I"⟩
abbrev cX0_findTold : ByteArray := prog_2_method_36_code
def yX0_findTold : MethodName := ⟨RX0, "findTold", "(I)I"⟩
abbrev cX0_trueCount : ByteArray := prog_2_method_37_code
def yX0_trueCount : MethodName := ⟨RX0, "trueCount", "()I"⟩
abbrev cX0_missedCount : ByteArray := prog_2_method_38_code
def yX0_missedCount : MethodName := ⟨RX0, "missedCount", "()I"⟩
def RX1 : String := "EchoTurns$Pad"
def TX1 : u_T := fun k => match k with
  | 0 => ("EchoTurns$Pad", "signs", "[C", true)
  | _ => ("EchoTurns$Pad", "length", "I", false)
def tyX1 : Nat → FieldType := fun k => match k with
  | 0 => .array .char
  | _ => .int
theorem nmX1 : ∀ a, a < 2 → ∀ b, b < 2 → a ≠ b → (TX1 a).2.1 ≠ (TX1 b).2.1 := by decide +kernel
theorem tyX1_ok : ∀ k, k < 2 → parseFieldDescriptor (TX1 k).2.2.1 = some (tyX1 k) := by decide +kernel
abbrev cX1_init : ByteArray := prog_3_method_1_code
def yX1_init : MethodName := ⟨RX1, "<init>", "()V"⟩
abbrev cX1_length : ByteArray := prog_3_method_2_code
def yX1_length : MethodName := ⟨RX1, "length", "()I"⟩
def RX2 : String := "EchoTurns$Reading"
def TX2 : u_T := fun k => match k with
  | 0 => ("EchoTurns$Reading", "distances", "[I", true)
  | 1 => ("EchoTurns$Reading", "strengths", "[I", true)
  | 2 => ("EchoTurns$Reading", "movements", "[I", true)
  | 3 => ("EchoTurns$Reading", "walls", "[Z", true)
  | 4 => ("EchoTurns$Reading", "spacing", "[I", true)
  | 5 => ("EchoTurns$Reading", "targets", "I", false)
  | 6 => ("EchoTurns$Reading", "turns", "I", false)
  | 7 => ("EchoTurns$Reading", "state", "I", false)
  | 8 => ("EchoTurns$Reading", "number", "I", false)
  | 9 => ("EchoTurns$Reading", "distance", "I", false)
  | 10 => ("EchoTurns$Reading", "strength", "I", false)
  | 11 => ("EchoTurns$Reading", "wall", "Z", false)
  | _ => ("EchoTurns$Reading", "minus", "Z", false)
def tyX2 : Nat → FieldType := fun k => match k with
  | 0 => .array .int
  | 1 => .array .int
  | 2 => .array .int
  | 3 => .array .boolean
  | 4 => .array .int
  | 5 => .int
  | 6 => .int
  | 7 => .int
  | 8 => .int
  | 9 => .int
  | 10 => .int
  | 11 => .boolean
  | _ => .boolean
theorem nmX2 : ∀ a, a < 13 → ∀ b, b < 13 → a ≠ b → (TX2 a).2.1 ≠ (TX2 b).2.1 := by decide +kernel
theorem tyX2_ok : ∀ k, k < 13 → parseFieldDescriptor (TX2 k).2.2.1 = some (tyX2 k) := by decide +kernel
abbrev cX2_init : ByteArray := prog_4_method_1_code
def yX2_init : MethodName := ⟨RX2, "<init>", "()V"⟩
def RX3 : String := "EchoTurns$Scene"
def TX3 : u_T := fun k => match k with
  | 0 => ("EchoTurns$Scene", "distances", "[I", true)
  | 1 => ("EchoTurns$Scene", "strengths", "[I", true)
  | 2 => ("EchoTurns$Scene", "movements", "[I", true)
  | 3 => ("EchoTurns$Scene", "walls", "[Z", true)
  | 4 => ("EchoTurns$Scene", "spacing", "[I", true)
  | 5 => ("EchoTurns$Scene", "targets", "I", false)
  | 6 => ("EchoTurns$Scene", "turns", "I", false)
  | 7 => ("EchoTurns$Scene", "blind", "I", false)
  | _ => ("EchoTurns$Scene", "loud", "I", false)
def tyX3 : Nat → FieldType := fun k => match k with
  | 0 => .array .int
  | 1 => .array .int
  | 2 => .array .int
  | 3 => .array .boolean
  | 4 => .array .int
  | 5 => .int
  | 6 => .int
  | 7 => .int
  | _ => .int
theorem nmX3 : ∀ a, a < 9 → ∀ b, b < 9 → a ≠ b → (TX3 a).2.1 ≠ (TX3 b).2.1 := by decide +kernel
theorem tyX3_ok : ∀ k, k < 9 → parseFieldDescriptor (TX3 k).2.2.1 = some (tyX3 k) := by decide +kernel
abbrev cX3_init : ByteArray := prog_5_method_1_code
def yX3_init : MethodName := ⟨RX3, "<init>", "()V"⟩
abbrev cX3_become : ByteArray := prog_5_method_2_code
def yX3_become : MethodName := ⟨RX3, "become", "(LEchoTurns$Scene;)V"⟩
abbrev cX3_targetCount : ByteArray := prog_5_method_3_code
def yX3_targetCount : MethodName := ⟨RX3, "targetCount", "()I"⟩
abbrev cX3_turnCount : ByteArray := prog_5_method_4_code
def yX3_turnCount : MethodName := ⟨RX3, "turnCount", "()I"⟩
abbrev cX3_blindBelow : ByteArray := prog_5_method_5_code
def yX3_blindBelow : MethodName := ⟨RX3, "blindBelow", "()I"⟩
abbrev cX3_loudFrom : ByteArray := prog_5_method_6_code
def yX3_loudFrom : MethodName := ⟨RX3, "loudFrom", "()I"⟩
abbrev cX3_has : ByteArray := prog_5_method_7_code
def yX3_has : MethodName := ⟨RX3, "has", "(I)Z"⟩
abbrev cX3_hasTurn : ByteArray := prog_5_method_8_code
def yX3_hasTurn : MethodName := ⟨RX3, "hasTurn", "(I)Z"⟩
abbrev cX3_distanceOf : ByteArray := prog_5_method_9_code
def yX3_distanceOf : MethodName := ⟨RX3, "distanceOf", "(I)I"⟩
abbrev cX3_strengthOf : ByteArray := prog_5_method_10_code
def yX3_strengthOf : MethodName := ⟨RX3, "strengthOf", "(I)I"⟩
abbrev cX3_movementOf : ByteArray := prog_5_method_11_code
def yX3_movementOf : MethodName := ⟨RX3, "movementOf", "(I)I"⟩
abbrev cX3_isWall : ByteArray := prog_5_method_12_code
def yX3_isWall : MethodName := ⟨RX3, "isWall", "(I)Z"⟩
abbrev cX3_spacingOf : ByteArray := prog_5_method_13_code
def yX3_spacingOf : MethodName := ⟨RX3, "spacingOf", "(I)I"⟩
abbrev cX3_wallCount : ByteArray := prog_5_method_14_code
def yX3_wallCount : MethodName := ⟨RX3, "wallCount", "()I"⟩
abbrev cX3_holds : ByteArray := prog_5_method_15_code
def yX3_holds : MethodName := ⟨RX3, "holds", "(II)Z"⟩
abbrev cX3_join : ByteArray := prog_5_method_16_code
def yX3_join : MethodName := ⟨RX3, "join", "(IIIZ)I"⟩
abbrev cX3_put : ByteArray := prog_5_method_17_code
def yX3_put : MethodName := ⟨RX3, "put", "(IIIIZ)V"⟩
abbrev cX3_putAs : ByteArray := prog_5_method_18_code
def yX3_putAs : MethodName := ⟨RX3, "putAs", "(III)V"⟩
abbrev cX3_leave : ByteArray := prog_5_method_19_code
def yX3_leave : MethodName := ⟨RX3, "leave", "(I)V"⟩
abbrev cX3_moveAll : ByteArray := prog_5_method_21_code
def yX3_moveAll : MethodName := ⟨RX3, "moveAll", "()V"⟩
abbrev cX3_forgetTurns : ByteArray := prog_5_method_22_code
def yX3_forgetTurns : MethodName := ⟨RX3, "forgetTurns", "()V"⟩
abbrev cX3_addTurn : ByteArray := prog_5_method_23_code
def yX3_addTurn : MethodName := ⟨RX3, "addTurn", "(I)V"⟩
abbrev cX3_changeBlind : ByteArray := prog_5_method_24_code
def yX3_changeBlind : MethodName := ⟨RX3, "changeBlind", "(I)I"⟩
abbrev cX3_changeLoud : ByteArray := prog_5_method_25_code
def yX3_changeLoud : MethodName := ⟨RX3, "changeLoud", "(I)I"⟩
def RX4 : String := "EchoTurns$Script"
def TX4 : u_T := fun k => match k with
  | 0 => ("EchoTurns$Script", "signs", "[C", true)
  | _ => ("EchoTurns$Script", "length", "I", false)
def tyX4 : Nat → FieldType := fun k => match k with
  | 0 => .array .char
  | _ => .int
theorem nmX4 : ∀ a, a < 2 → ∀ b, b < 2 → a ≠ b → (TX4 a).2.1 ≠ (TX4 b).2.1 := by decide +kernel
theorem tyX4_ok : ∀ k, k < 2 → parseFieldDescriptor (TX4 k).2.2.1 = some (tyX4 k) := by decide +kernel
abbrev cX4_init : ByteArray := prog_6_method_1_code
def yX4_init : MethodName := ⟨RX4, "<init>", "()V"⟩
abbrev cX4_length : ByteArray := prog_6_method_2_code
def yX4_length : MethodName := ⟨RX4, "length", "()I"⟩
abbrev cX4_write : ByteArray := prog_6_method_4_code
def yX4_write : MethodName := ⟨RX4, "write", "(LEchoTurns$Scene;)V"⟩
abbrev cX4_writeTarget : ByteArray := prog_6_method_5_code
def yX4_writeTarget : MethodName := ⟨RX4, "writeTarget", "(LEchoTurns$Scene;I)V"⟩
abbrev cX4_writeNumber : ByteArray := prog_6_method_6_code
def yX4_writeNumber : MethodName := ⟨RX4, "writeNumber", "(I)V"⟩
abbrev cX4_digitSign : ByteArray := prog_6_method_7_code
def yX4_digitSign : MethodName := ⟨RX4, "digitSign", "(I)C"⟩
abbrev cX4_put : ByteArray := prog_6_method_8_code
def yX4_put : MethodName := ⟨RX4, "put", "(C)V"⟩
def RX5 : String := "EchoTurns"
def TX5 : u_T := fun k => match k with
  | 0 => ("EchoTurns", "scene", "LEchoTurns$Scene;", true)
  | 1 => ("EchoTurns", "spare", "LEchoTurns$Scene;", true)
  | 2 => ("EchoTurns", "snapshot", "LEchoTurns$Scene;", true)
  | 3 => ("EchoTurns", "past", "[LEchoTurns$Scene;", true)
  | 4 => ("EchoTurns", "pad", "LEchoTurns$Pad;", true)
  | 5 => ("EchoTurns", "reading", "LEchoTurns$Reading;", true)
  | 6 => ("EchoTurns", "script", "LEchoTurns$Script;", true)
  | 7 => ("EchoTurns", "ear", "LEchoTurns$Ear;", true)
  | 8 => ("EchoTurns", "saved", "Z", false)
  | _ => ("EchoTurns", "states", "I", false)
def tyX5 : Nat → FieldType := fun k => match k with
  | 0 => .object "EchoTurns$Scene"
  | 1 => .object "EchoTurns$Scene"
  | 2 => .object "EchoTurns$Scene"
  | 3 => .array (.object "EchoTurns$Scene")
  | 4 => .object "EchoTurns$Pad"
  | 5 => .object "EchoTurns$Reading"
  | 6 => .object "EchoTurns$Script"
  | 7 => .object "EchoTurns$Ear"
  | 8 => .boolean
  | _ => .int
theorem nmX5 : ∀ a, a < 10 → ∀ b, b < 10 → a ≠ b → (TX5 a).2.1 ≠ (TX5 b).2.1 := by decide +kernel
theorem tyX5_ok : ∀ k, k < 10 → parseFieldDescriptor (TX5 k).2.2.1 = some (tyX5 k) := by decide +kernel
abbrev cX5_init : ByteArray := prog_1_method_1_code
def yX5_init : MethodName := ⟨RX5, "<init>", "()V"⟩
abbrev cX5_target : ByteArray := prog_1_method_2_code
def yX5_target : MethodName := ⟨RX5, "target", "(IIIZ)I"⟩
abbrev cX5_drop : ByteArray := prog_1_method_3_code
def yX5_drop : MethodName := ⟨RX5, "drop", "(I)I"⟩
abbrev cX5_go : ByteArray := prog_1_method_4_code
def yX5_go : MethodName := ⟨RX5, "go", "()I"⟩
abbrev cX5_spacings : ByteArray := prog_1_method_5_code
def yX5_spacings : MethodName := ⟨RX5, "spacings", "(IIII)I"⟩
abbrev cX5_set : ByteArray := prog_1_method_6_code
def yX5_set : MethodName := ⟨RX5, "set", "(II)I"⟩
abbrev cX5_targetOf : ByteArray := prog_1_method_12_code
def yX5_targetOf : MethodName := ⟨RX5, "targetOf", "(II)I"⟩
abbrev cX5_ghost : ByteArray := prog_1_method_13_code
def yX5_ghost : MethodName := ⟨RX5, "ghost", "(II)I"⟩
abbrev cX5_echo : ByteArray := prog_1_method_14_code
def yX5_echo : MethodName := ⟨RX5, "echo", "(III)I"⟩
abbrev cX5_fits : ByteArray := prog_1_method_15_code
def yX5_fits : MethodName := ⟨RX5, "fits", "(III)I"⟩
abbrev cX5_told : ByteArray := prog_1_method_16_code
def yX5_told : MethodName := ⟨RX5, "told", "(II)I"⟩
abbrev cX5_alike : ByteArray := prog_1_method_17_code
def yX5_alike : MethodName := ⟨RX5, "alike", "(I)I"⟩
abbrev cX5_unfold : ByteArray := prog_1_method_18_code
def yX5_unfold : MethodName := ⟨RX5, "unfold", "(III)I"⟩
abbrev cX5_count : ByteArray := prog_1_method_19_code
def yX5_count : MethodName := ⟨RX5, "count", "(I)I"⟩
abbrev cX5_truth : ByteArray := prog_1_method_20_code
def yX5_truth : MethodName := ⟨RX5, "truth", "()D"⟩
abbrev cX5_ifTurn : ByteArray := prog_1_method_21_code
def yX5_ifTurn : MethodName := ⟨RX5, "ifTurn", "(II)I"⟩
abbrev cX5_ifWall : ByteArray := prog_1_method_23_code
def yX5_ifWall : MethodName := ⟨RX5, "ifWall", "(III)I"⟩
abbrev cX5_remember : ByteArray := prog_1_method_27_code
def yX5_remember : MethodName := ⟨RX5, "remember", "()V"⟩
abbrev cX5_forgetOldest : ByteArray := prog_1_method_28_code
def yX5_forgetOldest : MethodName := ⟨RX5, "forgetOldest", "()V"⟩
abbrev cX5_comingError : ByteArray := prog_1_method_29_code
def yX5_comingError : MethodName := ⟨RX5, "comingError", "(IIIZ)I"⟩
abbrev cX5_heardOf : ByteArray := prog_1_method_30_code
def yX5_heardOf : MethodName := ⟨RX5, "heardOf", "(II)I"⟩
abbrev cX5_countHeard : ByteArray := prog_1_method_31_code
def yX5_countHeard : MethodName := ⟨RX5, "countHeard", "(I)I"⟩
abbrev cX5_isWithin : ByteArray := prog_1_method_32_code
def yX5_isWithin : MethodName := ⟨RX5, "isWithin", "(III)Z"⟩
abbrev cX5_isSpacing : ByteArray := prog_1_method_33_code
def yX5_isSpacing : MethodName := ⟨RX5, "isSpacing", "(I)Z"⟩
abbrev cX5_isSpacingOrNone : ByteArray := prog_1_method_34_code
def yX5_isSpacingOrNone : MethodName := ⟨RX5, "isSpacingOrNone", "(I)Z"⟩
abbrev cX5_asNumber : ByteArray := prog_1_method_35_code
def yX5_asNumber : MethodName := ⟨RX5, "asNumber", "(Z)I"⟩
abbrev cX5_remainder : ByteArray := prog_1_method_36_code
def yX5_remainder : MethodName := ⟨RX5, "remainder", "(II)I"⟩
abbrev cX5_firstCommonMultiple : ByteArray := prog_1_method_37_code
def yX5_firstCommonMultiple : MethodName := ⟨RX5, "firstCommonMultiple", "(II)I"⟩
abbrev cX5_commonMultiple : ByteArray := prog_1_method_38_code
def yX5_commonMultiple : MethodName := ⟨RX5, "commonMultiple", "(II)I"⟩
abbrev cX5_commonDivisor : ByteArray := prog_1_method_39_code
def yX5_commonDivisor : MethodName := ⟨RX5, "commonDivisor", "(II)I"⟩
abbrev cX5_tryDistances : ByteArray := prog_1_method_40_code
def yX5_tryDistances : MethodName := ⟨RX5, "tryDistances", "(IIIIII)I"⟩
def RX6 : String := "EchoTurnsModel"
def TX6 : u_T := fun k => match k with
  | _ => ("", "", "", false)
def tyX6 : Nat → FieldType := fun k => match k with
  | _ => .int
theorem nmX6 : ∀ a, a < 0 → ∀ b, b < 0 → a ≠ b → (TX6 a).2.1 ≠ (TX6 b).2.1 := by decide +kernel
theorem tyX6_ok : ∀ k, k < 0 → parseFieldDescriptor (TX6 k).2.2.1 = some (tyX6 k) := by decide +kernel
def RJ13 : String := "java/lang/Long"
def TJ13 : u_T := fun k => match k with
  | _ => ("", "", "", false)
abbrev cJ13_bitCount_95d88 : ByteArray := prog_9_method_50_code
def yJ13_bitCount_95d88 : MethodName := ⟨RJ13, "bitCount", "(J)I"⟩
def RJ9 : String := "java/lang/Math"
def TJ9 : u_T := fun k => match k with
  | _ => ("", "", "", false)
abbrev cJ9_max_7cf53 : ByteArray := prog_10_method_65_code
def yJ9_max_7cf53 : MethodName := ⟨RJ9, "max", "(II)I"⟩
abbrev cJ9_min_7cf53 : ByteArray := prog_10_method_69_code
def yJ9_min_7cf53 : MethodName := ⟨RJ9, "min", "(II)I"⟩
def RJ10 : String := "java/lang/System"
def TJ10 : u_T := fun k => match k with
  | _ => ("", "", "", false)
def RL : String := "EchoTurnsLaw"
abbrev cL_cell : ByteArray := method_2_code
def yL_cell : MethodName := ⟨RL, "cell", "([II)I"⟩
abbrev cL_low : ByteArray := method_3_code
def yL_low : MethodName := ⟨RL, "low", "(II)I"⟩
abbrev cL_bodies : ByteArray := method_4_code
def yL_bodies : MethodName := ⟨RL, "bodies", "([I[I[I)V"⟩
abbrev cL_place : ByteArray := method_5_code
def yL_place : MethodName := ⟨RL, "place", "([IIII)I"⟩
abbrev cL_heard : ByteArray := method_6_code
def yL_heard : MethodName := ⟨RL, "heard", "([I[IIIIZ)I"⟩
abbrev cL_fit : ByteArray := method_7_code
def yL_fit : MethodName := ⟨RL, "fit", "([I[IIII)I"⟩
abbrev cL_told : ByteArray := method_8_code
def yL_told : MethodName := ⟨RL, "told", "([I[III)I"⟩
abbrev cL_isTrue : ByteArray := method_9_code
def yL_isTrue : MethodName := ⟨RL, "isTrue", "([I[III)Z"⟩
abbrev cL_targets : ByteArray := method_10_code
def yL_targets : MethodName := ⟨RL, "targets", "(LEchoTurns;[I[I[I)Z"⟩
abbrev cL_echoes : ByteArray := method_11_code
def yL_echoes : MethodName := ⟨RL, "echoes", "(LEchoTurns;[I[I)Z"⟩
abbrev cL_distances : ByteArray := method_12_code
def yL_distances : MethodName := ⟨RL, "distances", "(LEchoTurns;[I[I)Z"⟩
abbrev cL_numbers : ByteArray := method_13_code
def yL_numbers : MethodName := ⟨RL, "numbers", "(LEchoTurns;[II)Z"⟩
abbrev cL_law : ByteArray := code
def yL_law : MethodName := ⟨RL, "law", "([I)Z"⟩
abbrev vwCl : List vw_C := [(RX0, TX0, 16), (RX1, TX1, 2), (RX2, TX2, 13), (RX3, TX3, 9), (RX4, TX4, 2), (RX5, TX5, 10)]
end
section
/-! every word by its place among the tables' words -/
/-- the tables' words that hold wherever the machine has come to -/
def tbg : List Cond := lw_tbl.filter goodWord
theorem tbAt {i : Nat} {w : Cond} (h : lw_tbl[i]? = some w) (g : goodWord w = true) : w ∈ tbg := List.mem_filter.mpr ⟨List.mem_of_getElem? h, g⟩
def pmN : List (String × Nat × MethodName × String) := [(RX3, 75, yX5_isWithin, "EchoTurns")]
theorem wb_0 : Cond.selects RX5 yX5_comingError yX5_comingError ∈ tbg := tbAt (i := 0) (by decide +kernel) (by decide +kernel)
theorem wb_1 : Cond.selects RX5 yX5_remember yX5_remember ∈ tbg := tbAt (i := 1) (by decide +kernel) (by decide +kernel)
theorem wb_2 : Cond.selects RX5 yX5_forgetOldest yX5_forgetOldest ∈ tbg := tbAt (i := 2) (by decide +kernel) (by decide +kernel)
theorem wb_3 : Cond.selects RX3 yX3_put yX3_put ∈ tbg := tbAt (i := 3) (by decide +kernel) (by decide +kernel)
theorem wb_4 : Cond.selects RX3 yX3_putAs yX3_putAs ∈ tbg := tbAt (i := 4) (by decide +kernel) (by decide +kernel)
theorem wb_5 : Cond.selects RX0 yX0_takeTargets yX0_takeTargets ∈ tbg := tbAt (i := 5) (by decide +kernel) (by decide +kernel)
theorem wb_6 : Cond.selects RX0 yX0_take yX0_take ∈ tbg := tbAt (i := 6) (by decide +kernel) (by decide +kernel)
theorem wb_7 : Cond.selects RX0 yX0_takeGhosts yX0_takeGhosts ∈ tbg := tbAt (i := 7) (by decide +kernel) (by decide +kernel)
theorem wb_8 : Cond.selects RX0 yX0_takeGhost yX0_takeGhost ∈ tbg := tbAt (i := 8) (by decide +kernel) (by decide +kernel)
theorem wb_9 : Cond.selects RX0 yX0_takePitches yX0_takePitches ∈ tbg := tbAt (i := 9) (by decide +kernel) (by decide +kernel)
theorem wb_10 : Cond.selects RX0 yX0_sounds yX0_sounds ∈ tbg := tbAt (i := 10) (by decide +kernel) (by decide +kernel)
theorem wb_11 : Cond.selects RX0 yX0_movementOf yX0_movementOf ∈ tbg := tbAt (i := 11) (by decide +kernel) (by decide +kernel)
theorem wb_12 : Cond.selects RX0 yX0_has yX0_has ∈ tbg := tbAt (i := 12) (by decide +kernel) (by decide +kernel)
theorem wb_13 : Cond.selects RX0 yX0_isFaint yX0_isFaint ∈ tbg := tbAt (i := 13) (by decide +kernel) (by decide +kernel)
theorem wb_14 : Cond.selects RX0 yX0_hearTurn yX0_hearTurn ∈ tbg := tbAt (i := 14) (by decide +kernel) (by decide +kernel)
theorem wb_15 : Cond.selects RX0 yX0_placeOf yX0_placeOf ∈ tbg := tbAt (i := 15) (by decide +kernel) (by decide +kernel)
theorem wb_16 : Cond.selects RX0 yX0_isHeard yX0_isHeard ∈ tbg := tbAt (i := 16) (by decide +kernel) (by decide +kernel)
theorem wb_17 : Cond.selects RX5 yX5_countHeard yX5_countHeard ∈ tbg := tbAt (i := 17) (by decide +kernel) (by decide +kernel)
theorem wb_18 : Cond.selects RX0 yX0_sourcesAt yX0_sourcesAt ∈ tbg := tbAt (i := 18) (by decide +kernel) (by decide +kernel)
theorem wb_22 : Cond.selects RX5 yX5_heardOf yX5_heardOf ∈ tbg := tbAt (i := 22) (by decide +kernel) (by decide +kernel)
theorem wb_23 : Cond.selects RX0 yX0_isPartOf yX0_isPartOf ∈ tbg := tbAt (i := 23) (by decide +kernel) (by decide +kernel)
theorem wb_24 : Cond.initialized RL ∈ tbg := tbAt (i := 24) (by decide +kernel) (by decide +kernel)
theorem wb_25 : Cond.initialized RX5 ∈ tbg := tbAt (i := 25) (by decide +kernel) (by decide +kernel)
theorem wb_26 : Cond.initialized RX3 ∈ tbg := tbAt (i := 26) (by decide +kernel) (by decide +kernel)
theorem wb_27 : Cond.initialized RX1 ∈ tbg := tbAt (i := 27) (by decide +kernel) (by decide +kernel)
theorem wb_29 : Cond.initialized RX4 ∈ tbg := tbAt (i := 29) (by decide +kernel) (by decide +kernel)
theorem wb_30 : Cond.initialized RX0 ∈ tbg := tbAt (i := 30) (by decide +kernel) (by decide +kernel)
theorem wb_31 : Cond.initialized "java/lang/System" ∈ tbg := tbAt (i := 31) (by decide +kernel) (by decide +kernel)
theorem wb_32 : Cond.initialized "java/lang/Math" ∈ tbg := tbAt (i := 32) (by decide +kernel) (by decide +kernel)
theorem wb_33 : Cond.initialized RJ13 ∈ tbg := tbAt (i := 33) (by decide +kernel) (by decide +kernel)
theorem wb_48 : Cond.fieldLink RX3 9 (TX3 0).1 (TX3 0).2.1 (TX3 0).2.2.1 ∈ tbg := tbAt (i := 48) (by decide +kernel) (by decide +kernel)
theorem wb_49 : Cond.fieldLink RX3 15 (TX3 1).1 (TX3 1).2.1 (TX3 1).2.2.1 ∈ tbg := tbAt (i := 49) (by decide +kernel) (by decide +kernel)
theorem wb_50 : Cond.fieldLink RX3 18 (TX3 2).1 (TX3 2).2.1 (TX3 2).2.2.1 ∈ tbg := tbAt (i := 50) (by decide +kernel) (by decide +kernel)
theorem wb_51 : Cond.fieldLink RX3 21 (TX3 3).1 (TX3 3).2.1 (TX3 3).2.2.1 ∈ tbg := tbAt (i := 51) (by decide +kernel) (by decide +kernel)
theorem wb_52 : Cond.fieldLink RX3 25 (TX3 4).1 (TX3 4).2.1 (TX3 4).2.2.1 ∈ tbg := tbAt (i := 52) (by decide +kernel) (by decide +kernel)
theorem wb_53 : Cond.fieldLink RX3 28 (TX3 5).1 (TX3 5).2.1 (TX3 5).2.2.1 ∈ tbg := tbAt (i := 53) (by decide +kernel) (by decide +kernel)
theorem wb_54 : Cond.fieldLink RX3 32 (TX3 6).1 (TX3 6).2.1 (TX3 6).2.2.1 ∈ tbg := tbAt (i := 54) (by decide +kernel) (by decide +kernel)
theorem wb_55 : Cond.fieldLink RX3 35 (TX3 7).1 (TX3 7).2.1 (TX3 7).2.2.1 ∈ tbg := tbAt (i := 55) (by decide +kernel) (by decide +kernel)
theorem wb_56 : Cond.fieldLink RX3 38 (TX3 8).1 (TX3 8).2.1 (TX3 8).2.2.1 ∈ tbg := tbAt (i := 56) (by decide +kernel) (by decide +kernel)
theorem wb_57 : u_lay RX3 TX3 0 ∈ tbg := tbAt (i := 57) (by decide +kernel) (by decide +kernel)
theorem wb_59 : u_lay RX3 TX3 1 ∈ tbg := tbAt (i := 59) (by decide +kernel) (by decide +kernel)
theorem wb_61 : u_lay RX3 TX3 2 ∈ tbg := tbAt (i := 61) (by decide +kernel) (by decide +kernel)
theorem wb_63 : u_lay RX3 TX3 3 ∈ tbg := tbAt (i := 63) (by decide +kernel) (by decide +kernel)
theorem wb_65 : u_lay RX3 TX3 4 ∈ tbg := tbAt (i := 65) (by decide +kernel) (by decide +kernel)
theorem wb_67 : u_lay RX3 TX3 5 ∈ tbg := tbAt (i := 67) (by decide +kernel) (by decide +kernel)
theorem wb_69 : u_lay RX3 TX3 6 ∈ tbg := tbAt (i := 69) (by decide +kernel) (by decide +kernel)
theorem wb_71 : u_lay RX3 TX3 7 ∈ tbg := tbAt (i := 71) (by decide +kernel) (by decide +kernel)
theorem wb_73 : u_lay RX3 TX3 8 ∈ tbg := tbAt (i := 73) (by decide +kernel) (by decide +kernel)
theorem wb_87 : u_lay RX1 TX1 0 ∈ tbg := tbAt (i := 87) (by decide +kernel) (by decide +kernel)
theorem wb_89 : u_lay RX1 TX1 1 ∈ tbg := tbAt (i := 89) (by decide +kernel) (by decide +kernel)
theorem wb_104 : u_lay RX2 TX2 0 ∈ tbg := tbAt (i := 104) (by decide +kernel) (by decide +kernel)
theorem wb_106 : u_lay RX2 TX2 1 ∈ tbg := tbAt (i := 106) (by decide +kernel) (by decide +kernel)
theorem wb_108 : u_lay RX2 TX2 2 ∈ tbg := tbAt (i := 108) (by decide +kernel) (by decide +kernel)
theorem wb_110 : u_lay RX2 TX2 3 ∈ tbg := tbAt (i := 110) (by decide +kernel) (by decide +kernel)
theorem wb_112 : u_lay RX2 TX2 4 ∈ tbg := tbAt (i := 112) (by decide +kernel) (by decide +kernel)
theorem wb_114 : u_lay RX2 TX2 5 ∈ tbg := tbAt (i := 114) (by decide +kernel) (by decide +kernel)
theorem wb_116 : u_lay RX2 TX2 6 ∈ tbg := tbAt (i := 116) (by decide +kernel) (by decide +kernel)
theorem wb_118 : u_lay RX2 TX2 7 ∈ tbg := tbAt (i := 118) (by decide +kernel) (by decide +kernel)
theorem wb_120 : u_lay RX2 TX2 8 ∈ tbg := tbAt (i := 120) (by decide +kernel) (by decide +kernel)
theorem wb_122 : u_lay RX2 TX2 9 ∈ tbg := tbAt (i := 122) (by decide +kernel) (by decide +kernel)
theorem wb_124 : u_lay RX2 TX2 10 ∈ tbg := tbAt (i := 124) (by decide +kernel) (by decide +kernel)
theorem wb_126 : u_lay RX2 TX2 11 ∈ tbg := tbAt (i := 126) (by decide +kernel) (by decide +kernel)
theorem wb_128 : u_lay RX2 TX2 12 ∈ tbg := tbAt (i := 128) (by decide +kernel) (by decide +kernel)
theorem wb_139 : u_lay RX4 TX4 0 ∈ tbg := tbAt (i := 139) (by decide +kernel) (by decide +kernel)
theorem wb_141 : u_lay RX4 TX4 1 ∈ tbg := tbAt (i := 141) (by decide +kernel) (by decide +kernel)
theorem wb_150 : Cond.fieldLink RX0 11 (TX0 0).1 (TX0 0).2.1 (TX0 0).2.2.1 ∈ tbg := tbAt (i := 150) (by decide +kernel) (by decide +kernel)
theorem wb_151 : Cond.fieldLink RX0 15 (TX0 1).1 (TX0 1).2.1 (TX0 1).2.2.1 ∈ tbg := tbAt (i := 151) (by decide +kernel) (by decide +kernel)
theorem wb_152 : Cond.fieldLink RX0 18 (TX0 2).1 (TX0 2).2.1 (TX0 2).2.2.1 ∈ tbg := tbAt (i := 152) (by decide +kernel) (by decide +kernel)
theorem wb_153 : Cond.fieldLink RX0 21 (TX0 3).1 (TX0 3).2.1 (TX0 3).2.2.1 ∈ tbg := tbAt (i := 153) (by decide +kernel) (by decide +kernel)
theorem wb_154 : Cond.fieldLink RX0 24 (TX0 4).1 (TX0 4).2.1 (TX0 4).2.2.1 ∈ tbg := tbAt (i := 154) (by decide +kernel) (by decide +kernel)
theorem wb_155 : Cond.fieldLink RX0 27 (TX0 5).1 (TX0 5).2.1 (TX0 5).2.2.1 ∈ tbg := tbAt (i := 155) (by decide +kernel) (by decide +kernel)
theorem wb_156 : Cond.fieldLink RX0 30 (TX0 6).1 (TX0 6).2.1 (TX0 6).2.2.1 ∈ tbg := tbAt (i := 156) (by decide +kernel) (by decide +kernel)
theorem wb_157 : Cond.fieldLink RX0 34 (TX0 7).1 (TX0 7).2.1 (TX0 7).2.2.1 ∈ tbg := tbAt (i := 157) (by decide +kernel) (by decide +kernel)
theorem wb_159 : Cond.fieldLink RX0 40 (TX0 9).1 (TX0 9).2.1 (TX0 9).2.2.1 ∈ tbg := tbAt (i := 159) (by decide +kernel) (by decide +kernel)
theorem wb_160 : Cond.fieldLink RX0 66 (TX0 10).1 (TX0 10).2.1 (TX0 10).2.2.1 ∈ tbg := tbAt (i := 160) (by decide +kernel) (by decide +kernel)
theorem wb_161 : Cond.fieldLink RX0 44 (TX0 11).1 (TX0 11).2.1 (TX0 11).2.2.1 ∈ tbg := tbAt (i := 161) (by decide +kernel) (by decide +kernel)
theorem wb_162 : Cond.fieldLink RX0 53 (TX0 12).1 (TX0 12).2.1 (TX0 12).2.2.1 ∈ tbg := tbAt (i := 162) (by decide +kernel) (by decide +kernel)
theorem wb_163 : Cond.fieldLink RX0 59 (TX0 13).1 (TX0 13).2.1 (TX0 13).2.2.1 ∈ tbg := tbAt (i := 163) (by decide +kernel) (by decide +kernel)
theorem wb_164 : Cond.fieldLink RX0 119 (TX0 14).1 (TX0 14).2.1 (TX0 14).2.2.1 ∈ tbg := tbAt (i := 164) (by decide +kernel) (by decide +kernel)
theorem wb_165 : u_lay RX0 TX0 0 ∈ tbg := tbAt (i := 165) (by decide +kernel) (by decide +kernel)
theorem wb_167 : u_lay RX0 TX0 1 ∈ tbg := tbAt (i := 167) (by decide +kernel) (by decide +kernel)
theorem wb_169 : u_lay RX0 TX0 2 ∈ tbg := tbAt (i := 169) (by decide +kernel) (by decide +kernel)
theorem wb_171 : u_lay RX0 TX0 3 ∈ tbg := tbAt (i := 171) (by decide +kernel) (by decide +kernel)
theorem wb_173 : u_lay RX0 TX0 4 ∈ tbg := tbAt (i := 173) (by decide +kernel) (by decide +kernel)
theorem wb_175 : u_lay RX0 TX0 5 ∈ tbg := tbAt (i := 175) (by decide +kernel) (by decide +kernel)
theorem wb_177 : u_lay RX0 TX0 6 ∈ tbg := tbAt (i := 177) (by decide +kernel) (by decide +kernel)
theorem wb_179 : u_lay RX0 TX0 7 ∈ tbg := tbAt (i := 179) (by decide +kernel) (by decide +kernel)
theorem wb_181 : u_lay RX0 TX0 8 ∈ tbg := tbAt (i := 181) (by decide +kernel) (by decide +kernel)
theorem wb_183 : u_lay RX0 TX0 9 ∈ tbg := tbAt (i := 183) (by decide +kernel) (by decide +kernel)
theorem wb_185 : u_lay RX0 TX0 10 ∈ tbg := tbAt (i := 185) (by decide +kernel) (by decide +kernel)
theorem wb_187 : u_lay RX0 TX0 11 ∈ tbg := tbAt (i := 187) (by decide +kernel) (by decide +kernel)
theorem wb_189 : u_lay RX0 TX0 12 ∈ tbg := tbAt (i := 189) (by decide +kernel) (by decide +kernel)
theorem wb_191 : u_lay RX0 TX0 13 ∈ tbg := tbAt (i := 191) (by decide +kernel) (by decide +kernel)
theorem wb_193 : u_lay RX0 TX0 14 ∈ tbg := tbAt (i := 193) (by decide +kernel) (by decide +kernel)
theorem wb_195 : u_lay RX0 TX0 15 ∈ tbg := tbAt (i := 195) (by decide +kernel) (by decide +kernel)
theorem wb_199 : Cond.fieldLink RX5 12 (TX5 0).1 (TX5 0).2.1 (TX5 0).2.2.1 ∈ tbg := tbAt (i := 199) (by decide +kernel) (by decide +kernel)
theorem wb_200 : Cond.fieldLink RX5 16 (TX5 1).1 (TX5 1).2.1 (TX5 1).2.2.1 ∈ tbg := tbAt (i := 200) (by decide +kernel) (by decide +kernel)
theorem wb_202 : Cond.fieldLink RX5 22 (TX5 3).1 (TX5 3).2.1 (TX5 3).2.2.1 ∈ tbg := tbAt (i := 202) (by decide +kernel) (by decide +kernel)
theorem wb_203 : Cond.fieldLink RX5 29 (TX5 4).1 (TX5 4).2.1 (TX5 4).2.2.1 ∈ tbg := tbAt (i := 203) (by decide +kernel) (by decide +kernel)
theorem wb_205 : Cond.fieldLink RX5 43 (TX5 6).1 (TX5 6).2.1 (TX5 6).2.2.1 ∈ tbg := tbAt (i := 205) (by decide +kernel) (by decide +kernel)
theorem wb_206 : Cond.fieldLink RX5 50 (TX5 7).1 (TX5 7).2.1 (TX5 7).2.2.1 ∈ tbg := tbAt (i := 206) (by decide +kernel) (by decide +kernel)
theorem wb_208 : Cond.fieldLink RX5 58 (TX5 9).1 (TX5 9).2.1 (TX5 9).2.2.1 ∈ tbg := tbAt (i := 208) (by decide +kernel) (by decide +kernel)
theorem wb_209 : u_lay RX5 TX5 0 ∈ tbg := tbAt (i := 209) (by decide +kernel) (by decide +kernel)
theorem wb_211 : u_lay RX5 TX5 1 ∈ tbg := tbAt (i := 211) (by decide +kernel) (by decide +kernel)
theorem wb_213 : u_lay RX5 TX5 2 ∈ tbg := tbAt (i := 213) (by decide +kernel) (by decide +kernel)
theorem wb_215 : u_lay RX5 TX5 3 ∈ tbg := tbAt (i := 215) (by decide +kernel) (by decide +kernel)
theorem wb_217 : u_lay RX5 TX5 4 ∈ tbg := tbAt (i := 217) (by decide +kernel) (by decide +kernel)
theorem wb_219 : u_lay RX5 TX5 5 ∈ tbg := tbAt (i := 219) (by decide +kernel) (by decide +kernel)
theorem wb_221 : u_lay RX5 TX5 6 ∈ tbg := tbAt (i := 221) (by decide +kernel) (by decide +kernel)
theorem wb_223 : u_lay RX5 TX5 7 ∈ tbg := tbAt (i := 223) (by decide +kernel) (by decide +kernel)
theorem wb_225 : u_lay RX5 TX5 8 ∈ tbg := tbAt (i := 225) (by decide +kernel) (by decide +kernel)
theorem wb_227 : u_lay RX5 TX5 9 ∈ tbg := tbAt (i := 227) (by decide +kernel) (by decide +kernel)
theorem wb_230 : Cond.methodLink RL 72 yX5_target ∈ tbg := tbAt (i := 230) (by decide +kernel) (by decide +kernel)
theorem wb_231 : Cond.instanceMethod yX5_target ∈ tbg := tbAt (i := 231) (by decide +kernel) (by decide +kernel)
theorem wb_232 : Cond.selects RX5 yX5_target yX5_target ∈ tbg := tbAt (i := 232) (by decide +kernel) (by decide +kernel)
theorem wb_233 : Cond.code yX5_target cX5_target 6 (some .int) ∈ tbg := tbAt (i := 233) (by decide +kernel) (by decide +kernel)
theorem wb_234 : Cond.methodLink RX5 62 yX5_comingError ∈ tbg := tbAt (i := 234) (by decide +kernel) (by decide +kernel)
theorem wb_236 : Cond.instanceMethod yX5_comingError ∈ tbg := tbAt (i := 236) (by decide +kernel) (by decide +kernel)
theorem wb_237 : Cond.code yX5_comingError cX5_comingError 5 (some .int) ∈ tbg := tbAt (i := 237) (by decide +kernel) (by decide +kernel)
theorem wb_238 : Cond.methodLink RX5 102 yX5_isWithin ∈ tbg := tbAt (i := 238) (by decide +kernel) (by decide +kernel)
theorem wb_239 : Cond.static yX5_isWithin ∈ tbg := tbAt (i := 239) (by decide +kernel) (by decide +kernel)
theorem wb_240 : Cond.code yX5_isWithin cX5_isWithin 3 (some .boolean) ∈ tbg := tbAt (i := 240) (by decide +kernel) (by decide +kernel)
theorem wb_241 : Cond.methodLink RX5 249 yX3_holds ∈ tbg := tbAt (i := 241) (by decide +kernel) (by decide +kernel)
theorem wb_242 : Cond.instanceMethod yX3_holds ∈ tbg := tbAt (i := 242) (by decide +kernel) (by decide +kernel)
theorem wb_243 : Cond.selects RX3 yX3_holds yX3_holds ∈ tbg := tbAt (i := 243) (by decide +kernel) (by decide +kernel)
theorem wb_244 : Cond.code yX3_holds cX3_holds 4 (some .boolean) ∈ tbg := tbAt (i := 244) (by decide +kernel) (by decide +kernel)
theorem wb_245 : Cond.methodLink RX3 57 yX3_distanceOf ∈ tbg := tbAt (i := 245) (by decide +kernel) (by decide +kernel)
theorem wb_246 : Cond.instanceMethod yX3_distanceOf ∈ tbg := tbAt (i := 246) (by decide +kernel) (by decide +kernel)
theorem wb_247 : Cond.selects RX3 yX3_distanceOf yX3_distanceOf ∈ tbg := tbAt (i := 247) (by decide +kernel) (by decide +kernel)
theorem wb_248 : Cond.code yX3_distanceOf cX3_distanceOf 2 (some .int) ∈ tbg := tbAt (i := 248) (by decide +kernel) (by decide +kernel)
theorem wb_249 : Cond.methodLink RX3 47 yX3_has ∈ tbg := tbAt (i := 249) (by decide +kernel) (by decide +kernel)
theorem wb_250 : Cond.instanceMethod yX3_has ∈ tbg := tbAt (i := 250) (by decide +kernel) (by decide +kernel)
theorem wb_251 : Cond.selects RX3 yX3_has yX3_has ∈ tbg := tbAt (i := 251) (by decide +kernel) (by decide +kernel)
theorem wb_252 : Cond.code yX3_has cX3_has 2 (some .boolean) ∈ tbg := tbAt (i := 252) (by decide +kernel) (by decide +kernel)
theorem wb_253 : Cond.methodLink RX3 61 yX3_movementOf ∈ tbg := tbAt (i := 253) (by decide +kernel) (by decide +kernel)
theorem wb_254 : Cond.instanceMethod yX3_movementOf ∈ tbg := tbAt (i := 254) (by decide +kernel) (by decide +kernel)
theorem wb_255 : Cond.selects RX3 yX3_movementOf yX3_movementOf ∈ tbg := tbAt (i := 255) (by decide +kernel) (by decide +kernel)
theorem wb_256 : Cond.code yX3_movementOf cX3_movementOf 2 (some .int) ∈ tbg := tbAt (i := 256) (by decide +kernel) (by decide +kernel)
theorem wb_257 : Cond.methodLink RX5 80 yX3_targetCount ∈ tbg := tbAt (i := 257) (by decide +kernel) (by decide +kernel)
theorem wb_258 : Cond.instanceMethod yX3_targetCount ∈ tbg := tbAt (i := 258) (by decide +kernel) (by decide +kernel)
theorem wb_259 : Cond.selects RX3 yX3_targetCount yX3_targetCount ∈ tbg := tbAt (i := 259) (by decide +kernel) (by decide +kernel)
theorem wb_260 : Cond.code yX3_targetCount cX3_targetCount 1 (some .int) ∈ tbg := tbAt (i := 260) (by decide +kernel) (by decide +kernel)
theorem wb_261 : Cond.methodLink RX5 66 yX5_remember ∈ tbg := tbAt (i := 261) (by decide +kernel) (by decide +kernel)
theorem wb_263 : Cond.instanceMethod yX5_remember ∈ tbg := tbAt (i := 263) (by decide +kernel) (by decide +kernel)
theorem wb_264 : Cond.code yX5_remember cX5_remember 1 none ∈ tbg := tbAt (i := 264) (by decide +kernel) (by decide +kernel)
theorem wb_265 : Cond.methodLink RX5 246 yX5_forgetOldest ∈ tbg := tbAt (i := 265) (by decide +kernel) (by decide +kernel)
theorem wb_267 : Cond.instanceMethod yX5_forgetOldest ∈ tbg := tbAt (i := 267) (by decide +kernel) (by decide +kernel)
theorem wb_268 : Cond.code yX5_forgetOldest cX5_forgetOldest 3 none ∈ tbg := tbAt (i := 268) (by decide +kernel) (by decide +kernel)
theorem wb_269 : Cond.methodLink RX5 237 yX3_become ∈ tbg := tbAt (i := 269) (by decide +kernel) (by decide +kernel)
theorem wb_270 : Cond.instanceMethod yX3_become ∈ tbg := tbAt (i := 270) (by decide +kernel) (by decide +kernel)
theorem wb_271 : Cond.selects RX3 yX3_become yX3_become ∈ tbg := tbAt (i := 271) (by decide +kernel) (by decide +kernel)
theorem wb_272 : Cond.code yX3_become cX3_become 3 none ∈ tbg := tbAt (i := 272) (by decide +kernel) (by decide +kernel)
theorem wb_273 : Cond.methodLink RX3 41 arraycopyName ∈ tbg := tbAt (i := 273) (by decide +kernel) (by decide +kernel)
theorem wb_274 : Cond.static arraycopyName ∈ tbg := tbAt (i := 274) (by decide +kernel) (by decide +kernel)
theorem wb_275 : Cond.native arraycopyName ∈ tbg := tbAt (i := 275) (by decide +kernel) (by decide +kernel)
theorem wb_276 : Cond.methodLink RX5 69 yX3_join ∈ tbg := tbAt (i := 276) (by decide +kernel) (by decide +kernel)
theorem wb_277 : Cond.instanceMethod yX3_join ∈ tbg := tbAt (i := 277) (by decide +kernel) (by decide +kernel)
theorem wb_278 : Cond.selects RX3 yX3_join yX3_join ∈ tbg := tbAt (i := 278) (by decide +kernel) (by decide +kernel)
theorem wb_279 : Cond.code yX3_join cX3_join 5 (some .int) ∈ tbg := tbAt (i := 279) (by decide +kernel) (by decide +kernel)
theorem wb_280 : Cond.methodLink RX3 64 yX3_put ∈ tbg := tbAt (i := 280) (by decide +kernel) (by decide +kernel)
theorem wb_282 : Cond.instanceMethod yX3_put ∈ tbg := tbAt (i := 282) (by decide +kernel) (by decide +kernel)
theorem wb_283 : Cond.code yX3_put cX3_put 6 none ∈ tbg := tbAt (i := 283) (by decide +kernel) (by decide +kernel)
theorem wb_284 : Cond.methodLink RL 76 yX5_drop ∈ tbg := tbAt (i := 284) (by decide +kernel) (by decide +kernel)
theorem wb_285 : Cond.instanceMethod yX5_drop ∈ tbg := tbAt (i := 285) (by decide +kernel) (by decide +kernel)
theorem wb_286 : Cond.selects RX5 yX5_drop yX5_drop ∈ tbg := tbAt (i := 286) (by decide +kernel) (by decide +kernel)
theorem wb_287 : Cond.code yX5_drop cX5_drop 2 (some .int) ∈ tbg := tbAt (i := 287) (by decide +kernel) (by decide +kernel)
theorem wb_288 : Cond.methodLink RX5 72 yX3_has ∈ tbg := tbAt (i := 288) (by decide +kernel) (by decide +kernel)
theorem wb_289 : Cond.methodLink RX5 76 yX3_leave ∈ tbg := tbAt (i := 289) (by decide +kernel) (by decide +kernel)
theorem wb_290 : Cond.instanceMethod yX3_leave ∈ tbg := tbAt (i := 290) (by decide +kernel) (by decide +kernel)
theorem wb_291 : Cond.selects RX3 yX3_leave yX3_leave ∈ tbg := tbAt (i := 291) (by decide +kernel) (by decide +kernel)
theorem wb_292 : Cond.code yX3_leave cX3_leave 3 none ∈ tbg := tbAt (i := 292) (by decide +kernel) (by decide +kernel)
theorem wb_293 : Cond.methodLink RX3 71 yX3_putAs ∈ tbg := tbAt (i := 293) (by decide +kernel) (by decide +kernel)
theorem wb_295 : Cond.instanceMethod yX3_putAs ∈ tbg := tbAt (i := 295) (by decide +kernel) (by decide +kernel)
theorem wb_296 : Cond.code yX3_putAs cX3_putAs 4 none ∈ tbg := tbAt (i := 296) (by decide +kernel) (by decide +kernel)
theorem wb_297 : Cond.methodLink RX3 68 yX3_strengthOf ∈ tbg := tbAt (i := 297) (by decide +kernel) (by decide +kernel)
theorem wb_298 : Cond.instanceMethod yX3_strengthOf ∈ tbg := tbAt (i := 298) (by decide +kernel) (by decide +kernel)
theorem wb_299 : Cond.selects RX3 yX3_strengthOf yX3_strengthOf ∈ tbg := tbAt (i := 299) (by decide +kernel) (by decide +kernel)
theorem wb_300 : Cond.code yX3_strengthOf cX3_strengthOf 2 (some .int) ∈ tbg := tbAt (i := 300) (by decide +kernel) (by decide +kernel)
theorem wb_301 : Cond.methodLink RX3 54 yX3_isWall ∈ tbg := tbAt (i := 301) (by decide +kernel) (by decide +kernel)
theorem wb_302 : Cond.instanceMethod yX3_isWall ∈ tbg := tbAt (i := 302) (by decide +kernel) (by decide +kernel)
theorem wb_303 : Cond.selects RX3 yX3_isWall yX3_isWall ∈ tbg := tbAt (i := 303) (by decide +kernel) (by decide +kernel)
theorem wb_304 : Cond.code yX3_isWall cX3_isWall 2 (some .boolean) ∈ tbg := tbAt (i := 304) (by decide +kernel) (by decide +kernel)
theorem wb_305 : Cond.methodLink RL 79 yX5_go ∈ tbg := tbAt (i := 305) (by decide +kernel) (by decide +kernel)
theorem wb_306 : Cond.instanceMethod yX5_go ∈ tbg := tbAt (i := 306) (by decide +kernel) (by decide +kernel)
theorem wb_307 : Cond.selects RX5 yX5_go yX5_go ∈ tbg := tbAt (i := 307) (by decide +kernel) (by decide +kernel)
theorem wb_308 : Cond.code yX5_go cX5_go 1 (some .int) ∈ tbg := tbAt (i := 308) (by decide +kernel) (by decide +kernel)
theorem wb_309 : Cond.methodLink RX5 84 yX3_moveAll ∈ tbg := tbAt (i := 309) (by decide +kernel) (by decide +kernel)
theorem wb_310 : Cond.instanceMethod yX3_moveAll ∈ tbg := tbAt (i := 310) (by decide +kernel) (by decide +kernel)
theorem wb_311 : Cond.selects RX3 yX3_moveAll yX3_moveAll ∈ tbg := tbAt (i := 311) (by decide +kernel) (by decide +kernel)
theorem wb_312 : Cond.code yX3_moveAll cX3_moveAll 4 none ∈ tbg := tbAt (i := 312) (by decide +kernel) (by decide +kernel)
theorem wb_314 : Cond.methodLink RL 83 yX5_spacings ∈ tbg := tbAt (i := 314) (by decide +kernel) (by decide +kernel)
theorem wb_315 : Cond.instanceMethod yX5_spacings ∈ tbg := tbAt (i := 315) (by decide +kernel) (by decide +kernel)
theorem wb_316 : Cond.selects RX5 yX5_spacings yX5_spacings ∈ tbg := tbAt (i := 316) (by decide +kernel) (by decide +kernel)
theorem wb_317 : Cond.code yX5_spacings cX5_spacings 5 (some .int) ∈ tbg := tbAt (i := 317) (by decide +kernel) (by decide +kernel)
theorem wb_318 : Cond.methodLink RX5 87 yX5_isSpacing ∈ tbg := tbAt (i := 318) (by decide +kernel) (by decide +kernel)
theorem wb_319 : Cond.static yX5_isSpacing ∈ tbg := tbAt (i := 319) (by decide +kernel) (by decide +kernel)
theorem wb_320 : Cond.code yX5_isSpacing cX5_isSpacing 1 (some .boolean) ∈ tbg := tbAt (i := 320) (by decide +kernel) (by decide +kernel)
theorem wb_321 : Cond.methodLink RX5 90 yX5_isSpacingOrNone ∈ tbg := tbAt (i := 321) (by decide +kernel) (by decide +kernel)
theorem wb_322 : Cond.static yX5_isSpacingOrNone ∈ tbg := tbAt (i := 322) (by decide +kernel) (by decide +kernel)
theorem wb_323 : Cond.code yX5_isSpacingOrNone cX5_isSpacingOrNone 1 (some .boolean) ∈ tbg := tbAt (i := 323) (by decide +kernel) (by decide +kernel)
theorem wb_324 : Cond.methodLink RX5 93 yX3_forgetTurns ∈ tbg := tbAt (i := 324) (by decide +kernel) (by decide +kernel)
theorem wb_325 : Cond.instanceMethod yX3_forgetTurns ∈ tbg := tbAt (i := 325) (by decide +kernel) (by decide +kernel)
theorem wb_326 : Cond.selects RX3 yX3_forgetTurns yX3_forgetTurns ∈ tbg := tbAt (i := 326) (by decide +kernel) (by decide +kernel)
theorem wb_327 : Cond.code yX3_forgetTurns cX3_forgetTurns 1 none ∈ tbg := tbAt (i := 327) (by decide +kernel) (by decide +kernel)
theorem wb_328 : Cond.methodLink RX5 96 yX3_addTurn ∈ tbg := tbAt (i := 328) (by decide +kernel) (by decide +kernel)
theorem wb_329 : Cond.instanceMethod yX3_addTurn ∈ tbg := tbAt (i := 329) (by decide +kernel) (by decide +kernel)
theorem wb_330 : Cond.selects RX3 yX3_addTurn yX3_addTurn ∈ tbg := tbAt (i := 330) (by decide +kernel) (by decide +kernel)
theorem wb_331 : Cond.code yX3_addTurn cX3_addTurn 2 none ∈ tbg := tbAt (i := 331) (by decide +kernel) (by decide +kernel)
theorem wb_332 : Cond.methodLink RX5 99 yX3_turnCount ∈ tbg := tbAt (i := 332) (by decide +kernel) (by decide +kernel)
theorem wb_333 : Cond.instanceMethod yX3_turnCount ∈ tbg := tbAt (i := 333) (by decide +kernel) (by decide +kernel)
theorem wb_334 : Cond.selects RX3 yX3_turnCount yX3_turnCount ∈ tbg := tbAt (i := 334) (by decide +kernel) (by decide +kernel)
theorem wb_335 : Cond.code yX3_turnCount cX3_turnCount 1 (some .int) ∈ tbg := tbAt (i := 335) (by decide +kernel) (by decide +kernel)
theorem wb_336 : Cond.methodLink RL 87 yX5_set ∈ tbg := tbAt (i := 336) (by decide +kernel) (by decide +kernel)
theorem wb_337 : Cond.instanceMethod yX5_set ∈ tbg := tbAt (i := 337) (by decide +kernel) (by decide +kernel)
theorem wb_338 : Cond.selects RX5 yX5_set yX5_set ∈ tbg := tbAt (i := 338) (by decide +kernel) (by decide +kernel)
theorem wb_339 : Cond.code yX5_set cX5_set 3 (some .int) ∈ tbg := tbAt (i := 339) (by decide +kernel) (by decide +kernel)
theorem wb_340 : Cond.methodLink RX5 106 yX3_changeBlind ∈ tbg := tbAt (i := 340) (by decide +kernel) (by decide +kernel)
theorem wb_341 : Cond.instanceMethod yX3_changeBlind ∈ tbg := tbAt (i := 341) (by decide +kernel) (by decide +kernel)
theorem wb_342 : Cond.selects RX3 yX3_changeBlind yX3_changeBlind ∈ tbg := tbAt (i := 342) (by decide +kernel) (by decide +kernel)
theorem wb_343 : Cond.code yX3_changeBlind cX3_changeBlind 3 (some .int) ∈ tbg := tbAt (i := 343) (by decide +kernel) (by decide +kernel)
theorem wb_344 : Cond.methodLink RX5 110 yX3_changeLoud ∈ tbg := tbAt (i := 344) (by decide +kernel) (by decide +kernel)
theorem wb_345 : Cond.instanceMethod yX3_changeLoud ∈ tbg := tbAt (i := 345) (by decide +kernel) (by decide +kernel)
theorem wb_346 : Cond.selects RX3 yX3_changeLoud yX3_changeLoud ∈ tbg := tbAt (i := 346) (by decide +kernel) (by decide +kernel)
theorem wb_347 : Cond.code yX3_changeLoud cX3_changeLoud 3 (some .int) ∈ tbg := tbAt (i := 347) (by decide +kernel) (by decide +kernel)
theorem wb_348 : Cond.methodLink RL 106 yX5_fits ∈ tbg := tbAt (i := 348) (by decide +kernel) (by decide +kernel)
theorem wb_349 : Cond.instanceMethod yX5_fits ∈ tbg := tbAt (i := 349) (by decide +kernel) (by decide +kernel)
theorem wb_350 : Cond.selects RX5 yX5_fits yX5_fits ∈ tbg := tbAt (i := 350) (by decide +kernel) (by decide +kernel)
theorem wb_351 : Cond.code yX5_fits cX5_fits 4 (some .int) ∈ tbg := tbAt (i := 351) (by decide +kernel) (by decide +kernel)
theorem wb_352 : Cond.methodLink RX5 180 yX3_hasTurn ∈ tbg := tbAt (i := 352) (by decide +kernel) (by decide +kernel)
theorem wb_353 : Cond.instanceMethod yX3_hasTurn ∈ tbg := tbAt (i := 353) (by decide +kernel) (by decide +kernel)
theorem wb_354 : Cond.selects RX3 yX3_hasTurn yX3_hasTurn ∈ tbg := tbAt (i := 354) (by decide +kernel) (by decide +kernel)
theorem wb_355 : Cond.code yX3_hasTurn cX3_hasTurn 2 (some .boolean) ∈ tbg := tbAt (i := 355) (by decide +kernel) (by decide +kernel)
theorem wb_356 : Cond.methodLink RX5 163 yX0_listen ∈ tbg := tbAt (i := 356) (by decide +kernel) (by decide +kernel)
theorem wb_357 : Cond.instanceMethod yX0_listen ∈ tbg := tbAt (i := 357) (by decide +kernel) (by decide +kernel)
theorem wb_358 : Cond.selects RX0 yX0_listen yX0_listen ∈ tbg := tbAt (i := 358) (by decide +kernel) (by decide +kernel)
theorem wb_359 : Cond.code yX0_listen cX0_listen 3 none ∈ tbg := tbAt (i := 359) (by decide +kernel) (by decide +kernel)
theorem wb_360 : Cond.methodLink RX0 47 yX3_blindBelow ∈ tbg := tbAt (i := 360) (by decide +kernel) (by decide +kernel)
theorem wb_361 : Cond.instanceMethod yX3_blindBelow ∈ tbg := tbAt (i := 361) (by decide +kernel) (by decide +kernel)
theorem wb_362 : Cond.selects RX3 yX3_blindBelow yX3_blindBelow ∈ tbg := tbAt (i := 362) (by decide +kernel) (by decide +kernel)
theorem wb_363 : Cond.code yX3_blindBelow cX3_blindBelow 1 (some .int) ∈ tbg := tbAt (i := 363) (by decide +kernel) (by decide +kernel)
theorem wb_364 : Cond.methodLink RX0 56 yX3_loudFrom ∈ tbg := tbAt (i := 364) (by decide +kernel) (by decide +kernel)
theorem wb_365 : Cond.instanceMethod yX3_loudFrom ∈ tbg := tbAt (i := 365) (by decide +kernel) (by decide +kernel)
theorem wb_366 : Cond.selects RX3 yX3_loudFrom yX3_loudFrom ∈ tbg := tbAt (i := 366) (by decide +kernel) (by decide +kernel)
theorem wb_367 : Cond.code yX3_loudFrom cX3_loudFrom 1 (some .int) ∈ tbg := tbAt (i := 367) (by decide +kernel) (by decide +kernel)
theorem wb_368 : Cond.methodLink RX0 62 yX0_takeTargets ∈ tbg := tbAt (i := 368) (by decide +kernel) (by decide +kernel)
theorem wb_370 : Cond.instanceMethod yX0_takeTargets ∈ tbg := tbAt (i := 370) (by decide +kernel) (by decide +kernel)
theorem wb_371 : Cond.code yX0_takeTargets cX0_takeTargets 3 none ∈ tbg := tbAt (i := 371) (by decide +kernel) (by decide +kernel)
theorem wb_372 : Cond.methodLink RX0 86 yX3_targetCount ∈ tbg := tbAt (i := 372) (by decide +kernel) (by decide +kernel)
theorem wb_373 : Cond.methodLink RX0 89 yX3_distanceOf ∈ tbg := tbAt (i := 373) (by decide +kernel) (by decide +kernel)
theorem wb_374 : Cond.methodLink RX0 92 yX3_strengthOf ∈ tbg := tbAt (i := 374) (by decide +kernel) (by decide +kernel)
theorem wb_375 : Cond.methodLink RX0 95 yX3_movementOf ∈ tbg := tbAt (i := 375) (by decide +kernel) (by decide +kernel)
theorem wb_376 : Cond.methodLink RX0 98 yX0_take ∈ tbg := tbAt (i := 376) (by decide +kernel) (by decide +kernel)
theorem wb_378 : Cond.instanceMethod yX0_take ∈ tbg := tbAt (i := 378) (by decide +kernel) (by decide +kernel)
theorem wb_379 : Cond.code yX0_take cX0_take 6 none ∈ tbg := tbAt (i := 379) (by decide +kernel) (by decide +kernel)
theorem wb_380 : Cond.methodLink RX0 69 yX0_takeGhosts ∈ tbg := tbAt (i := 380) (by decide +kernel) (by decide +kernel)
theorem wb_382 : Cond.instanceMethod yX0_takeGhosts ∈ tbg := tbAt (i := 382) (by decide +kernel) (by decide +kernel)
theorem wb_383 : Cond.code yX0_takeGhosts cX0_takeGhosts 4 none ∈ tbg := tbAt (i := 383) (by decide +kernel) (by decide +kernel)
theorem wb_384 : Cond.methodLink RX0 102 yX3_isWall ∈ tbg := tbAt (i := 384) (by decide +kernel) (by decide +kernel)
theorem wb_385 : Cond.methodLink RX0 106 yX0_takeGhost ∈ tbg := tbAt (i := 385) (by decide +kernel) (by decide +kernel)
theorem wb_387 : Cond.instanceMethod yX0_takeGhost ∈ tbg := tbAt (i := 387) (by decide +kernel) (by decide +kernel)
theorem wb_388 : Cond.code yX0_takeGhost cX0_takeGhost 7 none ∈ tbg := tbAt (i := 388) (by decide +kernel) (by decide +kernel)
theorem wb_389 : Cond.methodLink RX0 110 Lib.Math.min.name ∈ tbg := tbAt (i := 389) (by decide +kernel) (by decide +kernel)
theorem wb_390 : Cond.static Lib.Math.min.name ∈ tbg := tbAt (i := 390) (by decide +kernel) (by decide +kernel)
theorem wb_391 : Cond.code Lib.Math.min.name Lib.Math.min.code 2 (some .int) ∈ tbg := tbAt (i := 391) (by decide +kernel) (by decide +kernel)
theorem wb_392 : Cond.methodLink RX0 116 Lib.Math.max.name ∈ tbg := tbAt (i := 392) (by decide +kernel) (by decide +kernel)
theorem wb_393 : Cond.static Lib.Math.max.name ∈ tbg := tbAt (i := 393) (by decide +kernel) (by decide +kernel)
theorem wb_394 : Cond.code Lib.Math.max.name Lib.Math.max.code 2 (some .int) ∈ tbg := tbAt (i := 394) (by decide +kernel) (by decide +kernel)
theorem wb_395 : Cond.methodLink RX0 72 yX0_takePitches ∈ tbg := tbAt (i := 395) (by decide +kernel) (by decide +kernel)
theorem wb_397 : Cond.instanceMethod yX0_takePitches ∈ tbg := tbAt (i := 397) (by decide +kernel) (by decide +kernel)
theorem wb_398 : Cond.code yX0_takePitches cX0_takePitches 2 none ∈ tbg := tbAt (i := 398) (by decide +kernel) (by decide +kernel)
theorem wb_399 : Cond.methodLink RX0 122 yX0_sounds ∈ tbg := tbAt (i := 399) (by decide +kernel) (by decide +kernel)
theorem wb_401 : Cond.instanceMethod yX0_sounds ∈ tbg := tbAt (i := 401) (by decide +kernel) (by decide +kernel)
theorem wb_402 : Cond.code yX0_sounds cX0_sounds 3 (some .boolean) ∈ tbg := tbAt (i := 402) (by decide +kernel) (by decide +kernel)
theorem wb_403 : Cond.methodLink RX0 125 yX0_movementOf ∈ tbg := tbAt (i := 403) (by decide +kernel) (by decide +kernel)
theorem wb_405 : Cond.instanceMethod yX0_movementOf ∈ tbg := tbAt (i := 405) (by decide +kernel) (by decide +kernel)
theorem wb_406 : Cond.code yX0_movementOf cX0_movementOf 2 (some .int) ∈ tbg := tbAt (i := 406) (by decide +kernel) (by decide +kernel)
theorem wb_407 : Cond.methodLink RX0 137 yX0_has ∈ tbg := tbAt (i := 407) (by decide +kernel) (by decide +kernel)
theorem wb_409 : Cond.instanceMethod yX0_has ∈ tbg := tbAt (i := 409) (by decide +kernel) (by decide +kernel)
theorem wb_410 : Cond.code yX0_has cX0_has 2 (some .boolean) ∈ tbg := tbAt (i := 410) (by decide +kernel) (by decide +kernel)
theorem wb_411 : Cond.methodLink RX0 126 yX0_isFaint ∈ tbg := tbAt (i := 411) (by decide +kernel) (by decide +kernel)
theorem wb_413 : Cond.instanceMethod yX0_isFaint ∈ tbg := tbAt (i := 413) (by decide +kernel) (by decide +kernel)
theorem wb_414 : Cond.code yX0_isFaint cX0_isFaint 2 (some .boolean) ∈ tbg := tbAt (i := 414) (by decide +kernel) (by decide +kernel)
theorem wb_415 : Cond.methodLink RX0 140 yX0_strengthOf ∈ tbg := tbAt (i := 415) (by decide +kernel) (by decide +kernel)
theorem wb_416 : Cond.instanceMethod yX0_strengthOf ∈ tbg := tbAt (i := 416) (by decide +kernel) (by decide +kernel)
theorem wb_417 : Cond.selects RX0 yX0_strengthOf yX0_strengthOf ∈ tbg := tbAt (i := 417) (by decide +kernel) (by decide +kernel)
theorem wb_418 : Cond.code yX0_strengthOf cX0_strengthOf 2 (some .int) ∈ tbg := tbAt (i := 418) (by decide +kernel) (by decide +kernel)
theorem wb_419 : Cond.methodLink RX0 75 yX3_turnCount ∈ tbg := tbAt (i := 419) (by decide +kernel) (by decide +kernel)
theorem wb_420 : Cond.methodLink RX0 78 yX3_spacingOf ∈ tbg := tbAt (i := 420) (by decide +kernel) (by decide +kernel)
theorem wb_421 : Cond.instanceMethod yX3_spacingOf ∈ tbg := tbAt (i := 421) (by decide +kernel) (by decide +kernel)
theorem wb_422 : Cond.selects RX3 yX3_spacingOf yX3_spacingOf ∈ tbg := tbAt (i := 422) (by decide +kernel) (by decide +kernel)
theorem wb_423 : Cond.code yX3_spacingOf cX3_spacingOf 2 (some .int) ∈ tbg := tbAt (i := 423) (by decide +kernel) (by decide +kernel)
theorem wb_424 : Cond.methodLink RX3 51 yX3_hasTurn ∈ tbg := tbAt (i := 424) (by decide +kernel) (by decide +kernel)
theorem wb_425 : Cond.methodLink RX0 82 yX0_hearTurn ∈ tbg := tbAt (i := 425) (by decide +kernel) (by decide +kernel)
theorem wb_427 : Cond.instanceMethod yX0_hearTurn ∈ tbg := tbAt (i := 427) (by decide +kernel) (by decide +kernel)
theorem wb_428 : Cond.code yX0_hearTurn cX0_hearTurn 6 none ∈ tbg := tbAt (i := 428) (by decide +kernel) (by decide +kernel)
theorem wb_429 : Cond.methodLink RX0 129 yX0_distanceOf ∈ tbg := tbAt (i := 429) (by decide +kernel) (by decide +kernel)
theorem wb_430 : Cond.instanceMethod yX0_distanceOf ∈ tbg := tbAt (i := 430) (by decide +kernel) (by decide +kernel)
theorem wb_431 : Cond.selects RX0 yX0_distanceOf yX0_distanceOf ∈ tbg := tbAt (i := 431) (by decide +kernel) (by decide +kernel)
theorem wb_432 : Cond.code yX0_distanceOf cX0_distanceOf 2 (some .int) ∈ tbg := tbAt (i := 432) (by decide +kernel) (by decide +kernel)
theorem wb_433 : Cond.methodLink RX0 130 yX0_placeOf ∈ tbg := tbAt (i := 433) (by decide +kernel) (by decide +kernel)
theorem wb_435 : Cond.instanceMethod yX0_placeOf ∈ tbg := tbAt (i := 435) (by decide +kernel) (by decide +kernel)
theorem wb_436 : Cond.code yX0_placeOf cX0_placeOf 6 (some .int) ∈ tbg := tbAt (i := 436) (by decide +kernel) (by decide +kernel)
theorem wb_437 : Cond.methodLink RX0 134 yX0_codeOf ∈ tbg := tbAt (i := 437) (by decide +kernel) (by decide +kernel)
theorem wb_438 : Cond.static yX0_codeOf ∈ tbg := tbAt (i := 438) (by decide +kernel) (by decide +kernel)
theorem wb_439 : Cond.code yX0_codeOf cX0_codeOf 2 (some .int) ∈ tbg := tbAt (i := 439) (by decide +kernel) (by decide +kernel)
theorem wb_440 : Cond.methodLink RX5 193 yX0_fitOf ∈ tbg := tbAt (i := 440) (by decide +kernel) (by decide +kernel)
theorem wb_441 : Cond.instanceMethod yX0_fitOf ∈ tbg := tbAt (i := 441) (by decide +kernel) (by decide +kernel)
theorem wb_442 : Cond.selects RX0 yX0_fitOf yX0_fitOf ∈ tbg := tbAt (i := 442) (by decide +kernel) (by decide +kernel)
theorem wb_443 : Cond.code yX0_fitOf cX0_fitOf 5 (some .int) ∈ tbg := tbAt (i := 443) (by decide +kernel) (by decide +kernel)
theorem wb_444 : Cond.methodLink RX0 156 yX0_isHeard ∈ tbg := tbAt (i := 444) (by decide +kernel) (by decide +kernel)
theorem wb_446 : Cond.instanceMethod yX0_isHeard ∈ tbg := tbAt (i := 446) (by decide +kernel) (by decide +kernel)
theorem wb_447 : Cond.code yX0_isHeard cX0_isHeard 5 (some .boolean) ∈ tbg := tbAt (i := 447) (by decide +kernel) (by decide +kernel)
theorem wb_448 : Cond.methodLink RL 37 yX5_count ∈ tbg := tbAt (i := 448) (by decide +kernel) (by decide +kernel)
theorem wb_449 : Cond.instanceMethod yX5_count ∈ tbg := tbAt (i := 449) (by decide +kernel) (by decide +kernel)
theorem wb_450 : Cond.selects RX5 yX5_count yX5_count ∈ tbg := tbAt (i := 450) (by decide +kernel) (by decide +kernel)
theorem wb_451 : Cond.code yX5_count cX5_count 2 (some .int) ∈ tbg := tbAt (i := 451) (by decide +kernel) (by decide +kernel)
theorem wb_452 : Cond.methodLink RX5 206 yX3_spacingOf ∈ tbg := tbAt (i := 452) (by decide +kernel) (by decide +kernel)
theorem wb_453 : Cond.methodLink RX5 219 yX5_countHeard ∈ tbg := tbAt (i := 453) (by decide +kernel) (by decide +kernel)
theorem wb_455 : Cond.instanceMethod yX5_countHeard ∈ tbg := tbAt (i := 455) (by decide +kernel) (by decide +kernel)
theorem wb_456 : Cond.code yX5_countHeard cX5_countHeard 2 (some .int) ∈ tbg := tbAt (i := 456) (by decide +kernel) (by decide +kernel)
theorem wb_457 : Cond.methodLink RX5 166 yX0_ghostCount ∈ tbg := tbAt (i := 457) (by decide +kernel) (by decide +kernel)
theorem wb_458 : Cond.instanceMethod yX0_ghostCount ∈ tbg := tbAt (i := 458) (by decide +kernel) (by decide +kernel)
theorem wb_459 : Cond.selects RX0 yX0_ghostCount yX0_ghostCount ∈ tbg := tbAt (i := 459) (by decide +kernel) (by decide +kernel)
theorem wb_460 : Cond.code yX0_ghostCount cX0_ghostCount 1 (some .int) ∈ tbg := tbAt (i := 460) (by decide +kernel) (by decide +kernel)
theorem wb_461 : Cond.methodLink RX5 258 yX0_echoCount ∈ tbg := tbAt (i := 461) (by decide +kernel) (by decide +kernel)
theorem wb_462 : Cond.instanceMethod yX0_echoCount ∈ tbg := tbAt (i := 462) (by decide +kernel) (by decide +kernel)
theorem wb_463 : Cond.selects RX0 yX0_echoCount yX0_echoCount ∈ tbg := tbAt (i := 463) (by decide +kernel) (by decide +kernel)
theorem wb_464 : Cond.code yX0_echoCount cX0_echoCount 3 (some .int) ∈ tbg := tbAt (i := 464) (by decide +kernel) (by decide +kernel)
theorem wb_465 : Cond.methodLink RX0 147 yJ13_bitCount_95d88 ∈ tbg := tbAt (i := 465) (by decide +kernel) (by decide +kernel)
theorem wb_466 : Cond.static yJ13_bitCount_95d88 ∈ tbg := tbAt (i := 466) (by decide +kernel) (by decide +kernel)
theorem wb_467 : Cond.code yJ13_bitCount_95d88 cJ13_bitCount_95d88 2 (some .int) ∈ tbg := tbAt (i := 467) (by decide +kernel) (by decide +kernel)
theorem wb_471 : Cond.methodLink RX5 261 yX0_lostCount ∈ tbg := tbAt (i := 471) (by decide +kernel) (by decide +kernel)
theorem wb_472 : Cond.instanceMethod yX0_lostCount ∈ tbg := tbAt (i := 472) (by decide +kernel) (by decide +kernel)
theorem wb_473 : Cond.selects RX0 yX0_lostCount yX0_lostCount ∈ tbg := tbAt (i := 473) (by decide +kernel) (by decide +kernel)
theorem wb_474 : Cond.code yX0_lostCount cX0_lostCount 3 (some .int) ∈ tbg := tbAt (i := 474) (by decide +kernel) (by decide +kernel)
theorem wb_475 : Cond.methodLink RX0 153 yX0_lostTurns ∈ tbg := tbAt (i := 475) (by decide +kernel) (by decide +kernel)
theorem wb_476 : Cond.instanceMethod yX0_lostTurns ∈ tbg := tbAt (i := 476) (by decide +kernel) (by decide +kernel)
theorem wb_477 : Cond.selects RX0 yX0_lostTurns yX0_lostTurns ∈ tbg := tbAt (i := 477) (by decide +kernel) (by decide +kernel)
theorem wb_478 : Cond.code yX0_lostTurns cX0_lostTurns 4 (some .int) ∈ tbg := tbAt (i := 478) (by decide +kernel) (by decide +kernel)
theorem wb_479 : Cond.methodLink RX5 264 yX0_faintCount ∈ tbg := tbAt (i := 479) (by decide +kernel) (by decide +kernel)
theorem wb_480 : Cond.instanceMethod yX0_faintCount ∈ tbg := tbAt (i := 480) (by decide +kernel) (by decide +kernel)
theorem wb_481 : Cond.selects RX0 yX0_faintCount yX0_faintCount ∈ tbg := tbAt (i := 481) (by decide +kernel) (by decide +kernel)
theorem wb_482 : Cond.code yX0_faintCount cX0_faintCount 3 (some .int) ∈ tbg := tbAt (i := 482) (by decide +kernel) (by decide +kernel)
theorem wb_483 : Cond.methodLink RX5 231 yX0_toldCount ∈ tbg := tbAt (i := 483) (by decide +kernel) (by decide +kernel)
theorem wb_484 : Cond.instanceMethod yX0_toldCount ∈ tbg := tbAt (i := 484) (by decide +kernel) (by decide +kernel)
theorem wb_485 : Cond.selects RX0 yX0_toldCount yX0_toldCount ∈ tbg := tbAt (i := 485) (by decide +kernel) (by decide +kernel)
theorem wb_486 : Cond.code yX0_toldCount cX0_toldCount 4 (some .int) ∈ tbg := tbAt (i := 486) (by decide +kernel) (by decide +kernel)
theorem wb_487 : Cond.methodLink RX0 167 yX0_turnsThatFit ∈ tbg := tbAt (i := 487) (by decide +kernel) (by decide +kernel)
theorem wb_488 : Cond.instanceMethod yX0_turnsThatFit ∈ tbg := tbAt (i := 488) (by decide +kernel) (by decide +kernel)
theorem wb_489 : Cond.selects RX0 yX0_turnsThatFit yX0_turnsThatFit ∈ tbg := tbAt (i := 489) (by decide +kernel) (by decide +kernel)
theorem wb_490 : Cond.code yX0_turnsThatFit cX0_turnsThatFit 6 (some .int) ∈ tbg := tbAt (i := 490) (by decide +kernel) (by decide +kernel)
theorem wb_491 : Cond.methodLink RX0 164 yX0_fitOf ∈ tbg := tbAt (i := 491) (by decide +kernel) (by decide +kernel)
theorem wb_492 : Cond.methodLink RX5 234 yX0_trueCount ∈ tbg := tbAt (i := 492) (by decide +kernel) (by decide +kernel)
theorem wb_493 : Cond.instanceMethod yX0_trueCount ∈ tbg := tbAt (i := 493) (by decide +kernel) (by decide +kernel)
theorem wb_494 : Cond.selects RX0 yX0_trueCount yX0_trueCount ∈ tbg := tbAt (i := 494) (by decide +kernel) (by decide +kernel)
theorem wb_495 : Cond.code yX0_trueCount cX0_trueCount 3 (some .int) ∈ tbg := tbAt (i := 495) (by decide +kernel) (by decide +kernel)
theorem wb_496 : Cond.methodLink RX0 173 yX0_isToldSource ∈ tbg := tbAt (i := 496) (by decide +kernel) (by decide +kernel)
theorem wb_497 : Cond.instanceMethod yX0_isToldSource ∈ tbg := tbAt (i := 497) (by decide +kernel) (by decide +kernel)
theorem wb_498 : Cond.selects RX0 yX0_isToldSource yX0_isToldSource ∈ tbg := tbAt (i := 498) (by decide +kernel) (by decide +kernel)
theorem wb_499 : Cond.code yX0_isToldSource cX0_isToldSource 2 (some .boolean) ∈ tbg := tbAt (i := 499) (by decide +kernel) (by decide +kernel)
theorem wb_500 : Cond.methodLink RX0 170 yX0_sourcesAt ∈ tbg := tbAt (i := 500) (by decide +kernel) (by decide +kernel)
theorem wb_502 : Cond.instanceMethod yX0_sourcesAt ∈ tbg := tbAt (i := 502) (by decide +kernel) (by decide +kernel)
theorem wb_503 : Cond.code yX0_sourcesAt cX0_sourcesAt 6 (some .int) ∈ tbg := tbAt (i := 503) (by decide +kernel) (by decide +kernel)
theorem wb_504 : Cond.methodLink RX5 240 yX0_missedCount ∈ tbg := tbAt (i := 504) (by decide +kernel) (by decide +kernel)
theorem wb_505 : Cond.instanceMethod yX0_missedCount ∈ tbg := tbAt (i := 505) (by decide +kernel) (by decide +kernel)
theorem wb_506 : Cond.selects RX0 yX0_missedCount yX0_missedCount ∈ tbg := tbAt (i := 506) (by decide +kernel) (by decide +kernel)
theorem wb_507 : Cond.code yX0_missedCount cX0_missedCount 3 (some .int) ∈ tbg := tbAt (i := 507) (by decide +kernel) (by decide +kernel)
theorem wb_508 : Cond.methodLink RX5 222 yX3_wallCount ∈ tbg := tbAt (i := 508) (by decide +kernel) (by decide +kernel)
theorem wb_509 : Cond.instanceMethod yX3_wallCount ∈ tbg := tbAt (i := 509) (by decide +kernel) (by decide +kernel)
theorem wb_510 : Cond.selects RX3 yX3_wallCount yX3_wallCount ∈ tbg := tbAt (i := 510) (by decide +kernel) (by decide +kernel)
theorem wb_511 : Cond.code yX3_wallCount cX3_wallCount 3 (some .int) ∈ tbg := tbAt (i := 511) (by decide +kernel) (by decide +kernel)
theorem wb_512 : Cond.methodLink RX5 225 yX3_blindBelow ∈ tbg := tbAt (i := 512) (by decide +kernel) (by decide +kernel)
theorem wb_513 : Cond.methodLink RX5 228 yX3_loudFrom ∈ tbg := tbAt (i := 513) (by decide +kernel) (by decide +kernel)
theorem wb_514 : Cond.methodLink RX5 136 yX4_write ∈ tbg := tbAt (i := 514) (by decide +kernel) (by decide +kernel)
theorem wb_515 : Cond.instanceMethod yX4_write ∈ tbg := tbAt (i := 515) (by decide +kernel) (by decide +kernel)
theorem wb_516 : Cond.selects RX4 yX4_write yX4_write ∈ tbg := tbAt (i := 516) (by decide +kernel) (by decide +kernel)
theorem wb_517 : Cond.code yX4_write cX4_write 3 none ∈ tbg := tbAt (i := 517) (by decide +kernel) (by decide +kernel)
theorem wb_540 : Cond.methodLink RX5 139 yX4_length ∈ tbg := tbAt (i := 540) (by decide +kernel) (by decide +kernel)
theorem wb_541 : Cond.instanceMethod yX4_length ∈ tbg := tbAt (i := 541) (by decide +kernel) (by decide +kernel)
theorem wb_542 : Cond.selects RX4 yX4_length yX4_length ∈ tbg := tbAt (i := 542) (by decide +kernel) (by decide +kernel)
theorem wb_543 : Cond.code yX4_length cX4_length 1 (some .int) ∈ tbg := tbAt (i := 543) (by decide +kernel) (by decide +kernel)
theorem wb_544 : Cond.methodLink RX5 117 yX1_length ∈ tbg := tbAt (i := 544) (by decide +kernel) (by decide +kernel)
theorem wb_545 : Cond.instanceMethod yX1_length ∈ tbg := tbAt (i := 545) (by decide +kernel) (by decide +kernel)
theorem wb_546 : Cond.selects RX1 yX1_length yX1_length ∈ tbg := tbAt (i := 546) (by decide +kernel) (by decide +kernel)
theorem wb_547 : Cond.code yX1_length cX1_length 1 (some .int) ∈ tbg := tbAt (i := 547) (by decide +kernel) (by decide +kernel)
theorem wb_548 : Cond.methodLink RL 112 yX5_ifTurn ∈ tbg := tbAt (i := 548) (by decide +kernel) (by decide +kernel)
theorem wb_549 : Cond.instanceMethod yX5_ifTurn ∈ tbg := tbAt (i := 549) (by decide +kernel) (by decide +kernel)
theorem wb_550 : Cond.selects RX5 yX5_ifTurn yX5_ifTurn ∈ tbg := tbAt (i := 550) (by decide +kernel) (by decide +kernel)
theorem wb_551 : Cond.code yX5_ifTurn cX5_ifTurn 3 (some .int) ∈ tbg := tbAt (i := 551) (by decide +kernel) (by decide +kernel)
theorem wb_552 : Cond.methodLink RL 69 yX5_ifWall ∈ tbg := tbAt (i := 552) (by decide +kernel) (by decide +kernel)
theorem wb_553 : Cond.instanceMethod yX5_ifWall ∈ tbg := tbAt (i := 553) (by decide +kernel) (by decide +kernel)
theorem wb_554 : Cond.selects RX5 yX5_ifWall yX5_ifWall ∈ tbg := tbAt (i := 554) (by decide +kernel) (by decide +kernel)
theorem wb_555 : Cond.code yX5_ifWall cX5_ifWall 5 (some .int) ∈ tbg := tbAt (i := 555) (by decide +kernel) (by decide +kernel)
theorem wb_556 : Cond.methodLink RL 65 yL_cell ∈ tbg := tbAt (i := 556) (by decide +kernel) (by decide +kernel)
theorem wb_557 : Cond.static yL_cell ∈ tbg := tbAt (i := 557) (by decide +kernel) (by decide +kernel)
theorem wb_558 : Cond.code yL_cell cL_cell 2 (some .int) ∈ tbg := tbAt (i := 558) (by decide +kernel) (by decide +kernel)
theorem wb_559 : Cond.constant RL 7 (32452867) ∈ tbg := tbAt (i := 559) (by decide +kernel) (by decide +kernel)
theorem wb_560 : Cond.constant RL 8 (15485863) ∈ tbg := tbAt (i := 560) (by decide +kernel) (by decide +kernel)
theorem wb_561 : Cond.methodLink RL 55 yL_low ∈ tbg := tbAt (i := 561) (by decide +kernel) (by decide +kernel)
theorem wb_562 : Cond.static yL_low ∈ tbg := tbAt (i := 562) (by decide +kernel) (by decide +kernel)
theorem wb_563 : Cond.code yL_low cL_low 2 (some .int) ∈ tbg := tbAt (i := 563) (by decide +kernel) (by decide +kernel)
theorem wb_564 : Cond.constant RL 9 (2147483647) ∈ tbg := tbAt (i := 564) (by decide +kernel) (by decide +kernel)
theorem wb_565 : Cond.methodLink RL 90 yL_bodies ∈ tbg := tbAt (i := 565) (by decide +kernel) (by decide +kernel)
theorem wb_566 : Cond.static yL_bodies ∈ tbg := tbAt (i := 566) (by decide +kernel) (by decide +kernel)
theorem wb_567 : Cond.code yL_bodies cL_bodies 9 none ∈ tbg := tbAt (i := 567) (by decide +kernel) (by decide +kernel)
theorem wb_568 : Cond.methodLink RL 20 yL_fit ∈ tbg := tbAt (i := 568) (by decide +kernel) (by decide +kernel)
theorem wb_569 : Cond.static yL_fit ∈ tbg := tbAt (i := 569) (by decide +kernel) (by decide +kernel)
theorem wb_570 : Cond.code yL_fit cL_fit 6 (some .int) ∈ tbg := tbAt (i := 570) (by decide +kernel) (by decide +kernel)
theorem wb_571 : Cond.methodLink RL 10 yL_place ∈ tbg := tbAt (i := 571) (by decide +kernel) (by decide +kernel)
theorem wb_572 : Cond.static yL_place ∈ tbg := tbAt (i := 572) (by decide +kernel) (by decide +kernel)
theorem wb_573 : Cond.code yL_place cL_place 5 (some .int) ∈ tbg := tbAt (i := 573) (by decide +kernel) (by decide +kernel)
theorem wb_574 : Cond.methodLink RL 16 yL_heard ∈ tbg := tbAt (i := 574) (by decide +kernel) (by decide +kernel)
theorem wb_575 : Cond.static yL_heard ∈ tbg := tbAt (i := 575) (by decide +kernel) (by decide +kernel)
theorem wb_576 : Cond.code yL_heard cL_heard 9 (some .int) ∈ tbg := tbAt (i := 576) (by decide +kernel) (by decide +kernel)
theorem wb_577 : Cond.methodLink RL 33 yL_told ∈ tbg := tbAt (i := 577) (by decide +kernel) (by decide +kernel)
theorem wb_578 : Cond.static yL_told ∈ tbg := tbAt (i := 578) (by decide +kernel) (by decide +kernel)
theorem wb_579 : Cond.code yL_told cL_told 7 (some .int) ∈ tbg := tbAt (i := 579) (by decide +kernel) (by decide +kernel)
theorem wb_580 : Cond.methodLink RL 45 yL_isTrue ∈ tbg := tbAt (i := 580) (by decide +kernel) (by decide +kernel)
theorem wb_581 : Cond.static yL_isTrue ∈ tbg := tbAt (i := 581) (by decide +kernel) (by decide +kernel)
theorem wb_582 : Cond.code yL_isTrue cL_isTrue 5 (some .boolean) ∈ tbg := tbAt (i := 582) (by decide +kernel) (by decide +kernel)
theorem wb_583 : Cond.methodLink RL 94 yL_targets ∈ tbg := tbAt (i := 583) (by decide +kernel) (by decide +kernel)
theorem wb_584 : Cond.static yL_targets ∈ tbg := tbAt (i := 584) (by decide +kernel) (by decide +kernel)
theorem wb_585 : Cond.code yL_targets cL_targets 11 (some .boolean) ∈ tbg := tbAt (i := 585) (by decide +kernel) (by decide +kernel)
theorem wb_586 : Cond.methodLink RL 24 yX5_ghost ∈ tbg := tbAt (i := 586) (by decide +kernel) (by decide +kernel)
theorem wb_587 : Cond.instanceMethod yX5_ghost ∈ tbg := tbAt (i := 587) (by decide +kernel) (by decide +kernel)
theorem wb_588 : Cond.selects RX5 yX5_ghost yX5_ghost ∈ tbg := tbAt (i := 588) (by decide +kernel) (by decide +kernel)
theorem wb_589 : Cond.code yX5_ghost cX5_ghost 4 (some .int) ∈ tbg := tbAt (i := 589) (by decide +kernel) (by decide +kernel)
theorem wb_590 : Cond.methodLink RX5 169 yX0_distanceOf ∈ tbg := tbAt (i := 590) (by decide +kernel) (by decide +kernel)
theorem wb_591 : Cond.methodLink RX5 170 yX0_strengthOf ∈ tbg := tbAt (i := 591) (by decide +kernel) (by decide +kernel)
theorem wb_592 : Cond.methodLink RX5 171 yX0_lesserWall ∈ tbg := tbAt (i := 592) (by decide +kernel) (by decide +kernel)
theorem wb_593 : Cond.instanceMethod yX0_lesserWall ∈ tbg := tbAt (i := 593) (by decide +kernel) (by decide +kernel)
theorem wb_594 : Cond.selects RX0 yX0_lesserWall yX0_lesserWall ∈ tbg := tbAt (i := 594) (by decide +kernel) (by decide +kernel)
theorem wb_595 : Cond.code yX0_lesserWall cX0_lesserWall 2 (some .int) ∈ tbg := tbAt (i := 595) (by decide +kernel) (by decide +kernel)
theorem wb_596 : Cond.methodLink RX5 174 yX0_greaterWall ∈ tbg := tbAt (i := 596) (by decide +kernel) (by decide +kernel)
theorem wb_597 : Cond.instanceMethod yX0_greaterWall ∈ tbg := tbAt (i := 597) (by decide +kernel) (by decide +kernel)
theorem wb_598 : Cond.selects RX0 yX0_greaterWall yX0_greaterWall ∈ tbg := tbAt (i := 598) (by decide +kernel) (by decide +kernel)
theorem wb_599 : Cond.code yX0_greaterWall cX0_greaterWall 2 (some .int) ∈ tbg := tbAt (i := 599) (by decide +kernel) (by decide +kernel)
theorem wb_600 : Cond.methodLink RX5 177 yX0_isToldSource ∈ tbg := tbAt (i := 600) (by decide +kernel) (by decide +kernel)
theorem wb_601 : Cond.methodLink RX5 155 yX5_asNumber ∈ tbg := tbAt (i := 601) (by decide +kernel) (by decide +kernel)
theorem wb_602 : Cond.static yX5_asNumber ∈ tbg := tbAt (i := 602) (by decide +kernel) (by decide +kernel)
theorem wb_603 : Cond.code yX5_asNumber cX5_asNumber 1 (some .int) ∈ tbg := tbAt (i := 603) (by decide +kernel) (by decide +kernel)
theorem wb_604 : Cond.methodLink RL 30 yX5_targetOf ∈ tbg := tbAt (i := 604) (by decide +kernel) (by decide +kernel)
theorem wb_605 : Cond.instanceMethod yX5_targetOf ∈ tbg := tbAt (i := 605) (by decide +kernel) (by decide +kernel)
theorem wb_606 : Cond.selects RX5 yX5_targetOf yX5_targetOf ∈ tbg := tbAt (i := 606) (by decide +kernel) (by decide +kernel)
theorem wb_607 : Cond.code yX5_targetOf cX5_targetOf 3 (some .int) ∈ tbg := tbAt (i := 607) (by decide +kernel) (by decide +kernel)
theorem wb_608 : Cond.methodLink RX5 143 yX3_distanceOf ∈ tbg := tbAt (i := 608) (by decide +kernel) (by decide +kernel)
theorem wb_609 : Cond.methodLink RX5 146 yX3_strengthOf ∈ tbg := tbAt (i := 609) (by decide +kernel) (by decide +kernel)
theorem wb_610 : Cond.methodLink RX5 149 yX3_movementOf ∈ tbg := tbAt (i := 610) (by decide +kernel) (by decide +kernel)
theorem wb_611 : Cond.methodLink RX5 152 yX3_isWall ∈ tbg := tbAt (i := 611) (by decide +kernel) (by decide +kernel)
theorem wb_612 : Cond.methodLink RX5 159 yX5_heardOf ∈ tbg := tbAt (i := 612) (by decide +kernel) (by decide +kernel)
theorem wb_614 : Cond.instanceMethod yX5_heardOf ∈ tbg := tbAt (i := 614) (by decide +kernel) (by decide +kernel)
theorem wb_615 : Cond.code yX5_heardOf cX5_heardOf 3 (some .int) ∈ tbg := tbAt (i := 615) (by decide +kernel) (by decide +kernel)
theorem wb_616 : Cond.methodLink RX5 252 yX0_lostTurns ∈ tbg := tbAt (i := 616) (by decide +kernel) (by decide +kernel)
theorem wb_617 : Cond.methodLink RX5 255 yX0_ghostsOf ∈ tbg := tbAt (i := 617) (by decide +kernel) (by decide +kernel)
theorem wb_618 : Cond.instanceMethod yX0_ghostsOf ∈ tbg := tbAt (i := 618) (by decide +kernel) (by decide +kernel)
theorem wb_619 : Cond.selects RX0 yX0_ghostsOf yX0_ghostsOf ∈ tbg := tbAt (i := 619) (by decide +kernel) (by decide +kernel)
theorem wb_620 : Cond.code yX0_ghostsOf cX0_ghostsOf 4 (some .int) ∈ tbg := tbAt (i := 620) (by decide +kernel) (by decide +kernel)
theorem wb_621 : Cond.methodLink RX0 141 yX0_lesserWall ∈ tbg := tbAt (i := 621) (by decide +kernel) (by decide +kernel)
theorem wb_622 : Cond.methodLink RX0 144 yX0_greaterWall ∈ tbg := tbAt (i := 622) (by decide +kernel) (by decide +kernel)
theorem wb_623 : Cond.methodLink RL 98 yL_echoes ∈ tbg := tbAt (i := 623) (by decide +kernel) (by decide +kernel)
theorem wb_624 : Cond.static yL_echoes ∈ tbg := tbAt (i := 624) (by decide +kernel) (by decide +kernel)
theorem wb_625 : Cond.code yL_echoes cL_echoes 11 (some .boolean) ∈ tbg := tbAt (i := 625) (by decide +kernel) (by decide +kernel)
theorem wb_626 : Cond.methodLink RL 41 yX5_echo ∈ tbg := tbAt (i := 626) (by decide +kernel) (by decide +kernel)
theorem wb_627 : Cond.instanceMethod yX5_echo ∈ tbg := tbAt (i := 627) (by decide +kernel) (by decide +kernel)
theorem wb_628 : Cond.selects RX5 yX5_echo yX5_echo ∈ tbg := tbAt (i := 628) (by decide +kernel) (by decide +kernel)
theorem wb_629 : Cond.code yX5_echo cX5_echo 7 (some .int) ∈ tbg := tbAt (i := 629) (by decide +kernel) (by decide +kernel)
theorem wb_630 : Cond.methodLink RX5 183 yX0_findEcho ∈ tbg := tbAt (i := 630) (by decide +kernel) (by decide +kernel)
theorem wb_631 : Cond.instanceMethod yX0_findEcho ∈ tbg := tbAt (i := 631) (by decide +kernel) (by decide +kernel)
theorem wb_632 : Cond.selects RX0 yX0_findEcho yX0_findEcho ∈ tbg := tbAt (i := 632) (by decide +kernel) (by decide +kernel)
theorem wb_633 : Cond.code yX0_findEcho cX0_findEcho 6 (some .int) ∈ tbg := tbAt (i := 633) (by decide +kernel) (by decide +kernel)
theorem wb_634 : Cond.methodLink RX5 186 yX0_strengthTogether ∈ tbg := tbAt (i := 634) (by decide +kernel) (by decide +kernel)
theorem wb_635 : Cond.instanceMethod yX0_strengthTogether ∈ tbg := tbAt (i := 635) (by decide +kernel) (by decide +kernel)
theorem wb_636 : Cond.selects RX0 yX0_strengthTogether yX0_strengthTogether ∈ tbg := tbAt (i := 636) (by decide +kernel) (by decide +kernel)
theorem wb_637 : Cond.code yX0_strengthTogether cX0_strengthTogether 6 (some .int) ∈ tbg := tbAt (i := 637) (by decide +kernel) (by decide +kernel)
theorem wb_638 : Cond.methodLink RX0 160 yX0_isPartOf ∈ tbg := tbAt (i := 638) (by decide +kernel) (by decide +kernel)
theorem wb_640 : Cond.instanceMethod yX0_isPartOf ∈ tbg := tbAt (i := 640) (by decide +kernel) (by decide +kernel)
theorem wb_641 : Cond.code yX0_isPartOf cX0_isPartOf 5 (some .boolean) ∈ tbg := tbAt (i := 641) (by decide +kernel) (by decide +kernel)
theorem wb_642 : Cond.methodLink RX5 190 yX0_sourcesTogether ∈ tbg := tbAt (i := 642) (by decide +kernel) (by decide +kernel)
theorem wb_643 : Cond.instanceMethod yX0_sourcesTogether ∈ tbg := tbAt (i := 643) (by decide +kernel) (by decide +kernel)
theorem wb_644 : Cond.selects RX0 yX0_sourcesTogether yX0_sourcesTogether ∈ tbg := tbAt (i := 644) (by decide +kernel) (by decide +kernel)
theorem wb_645 : Cond.code yX0_sourcesTogether cX0_sourcesTogether 6 (some .int) ∈ tbg := tbAt (i := 645) (by decide +kernel) (by decide +kernel)
theorem wb_646 : Cond.methodLink RL 109 yL_distances ∈ tbg := tbAt (i := 646) (by decide +kernel) (by decide +kernel)
theorem wb_647 : Cond.static yL_distances ∈ tbg := tbAt (i := 647) (by decide +kernel) (by decide +kernel)
theorem wb_648 : Cond.code yL_distances cL_distances 10 (some .boolean) ∈ tbg := tbAt (i := 648) (by decide +kernel) (by decide +kernel)
theorem wb_649 : Cond.methodLink RL 49 yX5_told ∈ tbg := tbAt (i := 649) (by decide +kernel) (by decide +kernel)
theorem wb_650 : Cond.instanceMethod yX5_told ∈ tbg := tbAt (i := 650) (by decide +kernel) (by decide +kernel)
theorem wb_651 : Cond.selects RX5 yX5_told yX5_told ∈ tbg := tbAt (i := 651) (by decide +kernel) (by decide +kernel)
theorem wb_652 : Cond.code yX5_told cX5_told 6 (some .int) ∈ tbg := tbAt (i := 652) (by decide +kernel) (by decide +kernel)
theorem wb_653 : Cond.methodLink RX5 196 yX0_findTold ∈ tbg := tbAt (i := 653) (by decide +kernel) (by decide +kernel)
theorem wb_654 : Cond.instanceMethod yX0_findTold ∈ tbg := tbAt (i := 654) (by decide +kernel) (by decide +kernel)
theorem wb_655 : Cond.selects RX0 yX0_findTold yX0_findTold ∈ tbg := tbAt (i := 655) (by decide +kernel) (by decide +kernel)
theorem wb_656 : Cond.code yX0_findTold cX0_findTold 5 (some .int) ∈ tbg := tbAt (i := 656) (by decide +kernel) (by decide +kernel)
theorem wb_657 : Cond.methodLink RX5 199 yX0_isTrue ∈ tbg := tbAt (i := 657) (by decide +kernel) (by decide +kernel)
theorem wb_658 : Cond.instanceMethod yX0_isTrue ∈ tbg := tbAt (i := 658) (by decide +kernel) (by decide +kernel)
theorem wb_659 : Cond.selects RX0 yX0_isTrue yX0_isTrue ∈ tbg := tbAt (i := 659) (by decide +kernel) (by decide +kernel)
theorem wb_660 : Cond.code yX0_isTrue cX0_isTrue 3 (some .boolean) ∈ tbg := tbAt (i := 660) (by decide +kernel) (by decide +kernel)
theorem wb_661 : Cond.methodLink RX5 203 yX0_turnsThatFit ∈ tbg := tbAt (i := 661) (by decide +kernel) (by decide +kernel)
theorem wb_662 : Cond.methodLink RL 51 yX5_truth ∈ tbg := tbAt (i := 662) (by decide +kernel) (by decide +kernel)
theorem wb_663 : Cond.instanceMethod yX5_truth ∈ tbg := tbAt (i := 663) (by decide +kernel) (by decide +kernel)
theorem wb_664 : Cond.selects RX5 yX5_truth yX5_truth ∈ tbg := tbAt (i := 664) (by decide +kernel) (by decide +kernel)
theorem wb_665 : Cond.code yX5_truth cX5_truth 2 (some .double) ∈ tbg := tbAt (i := 665) (by decide +kernel) (by decide +kernel)
theorem wb_666 : Cond.methodLink RL 102 yL_numbers ∈ tbg := tbAt (i := 666) (by decide +kernel) (by decide +kernel)
theorem wb_667 : Cond.static yL_numbers ∈ tbg := tbAt (i := 667) (by decide +kernel) (by decide +kernel)
theorem wb_668 : Cond.code yL_numbers cL_numbers 8 (some .boolean) ∈ tbg := tbAt (i := 668) (by decide +kernel) (by decide +kernel)
theorem wb_669 : Cond.methodLink RL 58 yX5_alike ∈ tbg := tbAt (i := 669) (by decide +kernel) (by decide +kernel)
theorem wb_670 : Cond.instanceMethod yX5_alike ∈ tbg := tbAt (i := 670) (by decide +kernel) (by decide +kernel)
theorem wb_671 : Cond.selects RX5 yX5_alike yX5_alike ∈ tbg := tbAt (i := 671) (by decide +kernel) (by decide +kernel)
theorem wb_672 : Cond.code yX5_alike cX5_alike 5 (some .int) ∈ tbg := tbAt (i := 672) (by decide +kernel) (by decide +kernel)
theorem wb_673 : Cond.methodLink RX5 209 yX5_firstCommonMultiple ∈ tbg := tbAt (i := 673) (by decide +kernel) (by decide +kernel)
theorem wb_674 : Cond.static yX5_firstCommonMultiple ∈ tbg := tbAt (i := 674) (by decide +kernel) (by decide +kernel)
theorem wb_675 : Cond.code yX5_firstCommonMultiple cX5_firstCommonMultiple 4 (some .int) ∈ tbg := tbAt (i := 675) (by decide +kernel) (by decide +kernel)
theorem wb_676 : Cond.methodLink RX5 267 yX5_remainder ∈ tbg := tbAt (i := 676) (by decide +kernel) (by decide +kernel)
theorem wb_677 : Cond.static yX5_remainder ∈ tbg := tbAt (i := 677) (by decide +kernel) (by decide +kernel)
theorem wb_678 : Cond.code yX5_remainder cX5_remainder 2 (some .int) ∈ tbg := tbAt (i := 678) (by decide +kernel) (by decide +kernel)
theorem wb_679 : Cond.methodLink RX5 212 yX5_commonMultiple ∈ tbg := tbAt (i := 679) (by decide +kernel) (by decide +kernel)
theorem wb_680 : Cond.static yX5_commonMultiple ∈ tbg := tbAt (i := 680) (by decide +kernel) (by decide +kernel)
theorem wb_681 : Cond.code yX5_commonMultiple cX5_commonMultiple 3 (some .int) ∈ tbg := tbAt (i := 681) (by decide +kernel) (by decide +kernel)
theorem wb_682 : Cond.methodLink RX5 270 yX5_commonDivisor ∈ tbg := tbAt (i := 682) (by decide +kernel) (by decide +kernel)
theorem wb_683 : Cond.static yX5_commonDivisor ∈ tbg := tbAt (i := 683) (by decide +kernel) (by decide +kernel)
theorem wb_684 : Cond.code yX5_commonDivisor cX5_commonDivisor 6 (some .int) ∈ tbg := tbAt (i := 684) (by decide +kernel) (by decide +kernel)
theorem wb_685 : Cond.methodLink RL 61 yX5_unfold ∈ tbg := tbAt (i := 685) (by decide +kernel) (by decide +kernel)
theorem wb_686 : Cond.instanceMethod yX5_unfold ∈ tbg := tbAt (i := 686) (by decide +kernel) (by decide +kernel)
theorem wb_687 : Cond.selects RX5 yX5_unfold yX5_unfold ∈ tbg := tbAt (i := 687) (by decide +kernel) (by decide +kernel)
theorem wb_688 : Cond.code yX5_unfold cX5_unfold 6 (some .int) ∈ tbg := tbAt (i := 688) (by decide +kernel) (by decide +kernel)
theorem wb_689 : Cond.methodLink RX5 215 yX5_tryDistances ∈ tbg := tbAt (i := 689) (by decide +kernel) (by decide +kernel)
theorem wb_690 : Cond.static yX5_tryDistances ∈ tbg := tbAt (i := 690) (by decide +kernel) (by decide +kernel)
theorem wb_691 : Cond.code yX5_tryDistances cX5_tryDistances 7 (some .int) ∈ tbg := tbAt (i := 691) (by decide +kernel) (by decide +kernel)
end
section
/-! PM: the whole world as one picture in numbers (cells by fixed numbers 0 .. 74), and a logic of programs over it -/
/-- int fields, int rows, the long row, the row of references -/
abbrev St : Type := (Nat → Nat → Int32) × (Nat → Nat → Int32) × (Nat → Int64) × (Nat → Nat)
def sF (σ : St) : Nat → Nat → Int32 := σ.1
def sA (σ : St) : Nat → Nat → Int32 := σ.2.1
def sL (σ : St) : Nat → Int64 := σ.2.2.1
def sP (σ : St) : Nat → Nat := σ.2.2.2
def setF (σ : St) (a k : Nat) (v : Int32) : St := (fun x y => if x = a ∧ y = k then v else sF σ x y, sA σ, sL σ, sP σ)
def setR (σ : St) (a : Nat) (g : Nat → Int32) : St := (sF σ, fun x => if x = a then g else sA σ x, sL σ, sP σ)
def setA (σ : St) (a i : Nat) (v : Int32) : St := setR σ a (upd (sA σ a) i v)
def setL (σ : St) (i : Nat) (v : Int64) : St := (sF σ, sA σ, vp_updL (sL σ) i v, sP σ)
def setP (σ : St) (i : Nat) (v : Nat) : St := (sF σ, sA σ, sL σ, fun j => if j = i then v else sP σ j)
/-- the shapes: (0, class, fields), (1, kind, length): kinds 0 int, 1 boolean, 2 char; (2, 3, length): longs; (3, 4, length): references -/
def shp : List (Nat × Nat × Nat) := [(0, 5, 10),
  (0, 3, 9), (1, 0, 6), (1, 0, 6), (1, 0, 6), (1, 1, 6), (1, 0, 4),
  (0, 3, 9), (1, 0, 6), (1, 0, 6), (1, 0, 6), (1, 1, 6), (1, 0, 4),
  (0, 3, 9), (1, 0, 6), (1, 0, 6), (1, 0, 6), (1, 1, 6), (1, 0, 4),
  (3, 4, 4),
  (0, 3, 9), (1, 0, 6), (1, 0, 6), (1, 0, 6), (1, 1, 6), (1, 0, 4),
  (0, 3, 9), (1, 0, 6), (1, 0, 6), (1, 0, 6), (1, 1, 6), (1, 0, 4),
  (0, 3, 9), (1, 0, 6), (1, 0, 6), (1, 0, 6), (1, 1, 6), (1, 0, 4),
  (0, 3, 9), (1, 0, 6), (1, 0, 6), (1, 0, 6), (1, 1, 6), (1, 0, 4),
  (0, 1, 2), (1, 2, 60),
  (0, 2, 13), (1, 0, 12), (1, 0, 12), (1, 0, 12), (1, 1, 12), (1, 0, 4),
  (0, 4, 2), (1, 2, 72),
  (0, 0, 16), (1, 0, 21), (1, 0, 21), (1, 0, 21), (1, 0, 21), (1, 0, 21), (1, 0, 4), (2, 3, 44), (1, 0, 11), (1, 0, 3600),
  (1, 0, 24), (1, 0, 63), (1, 0, 9)]
def isSc (a : Nat) : Prop := a = 1 ∨ a = 7 ∨ a = 13 ∨ a = 20 ∨ a = 26 ∨ a = 32 ∨ a = 38
/-- the fields that are references, all final: what cell they name -/
def FR (a k : Nat) : Option Nat :=
  if a = 0 then (match k with | 0 => some 1 | 1 => some 7 | 2 => some 13 | 3 => some 19 | 4 => some 44 | 5 => some 46 | 6 => some 52 | 7 => some 54 | _ => none)
  else if a = 44 ∨ a = 52 then (if k = 0 then some (a + 1) else none)
  else if a = 54 then (if k < 9 then some (a + 1 + k) else none)
  else (if k < 5 then some (a + 1 + k) else none)
abbrev GC : Type := va_G × (Nat → ClassId) × (Nat → Nat)
def ptr (ad : Nat → Nat) : Value → Value
  | .ref k => .ref (ad k)
  | v => v
def pm_fld (ad : Nat → Nat) (k : Nat) (σ : St) (j : Nat) : Value := match FR k j with
  | some q => .ref (ad q)
  | none => .int (sF σ k j)
def pm_cell (G : GC) (k : Nat) (σ : St) : va_E := match shp[k]? with
  | some (0, ci, n) => .inr (ci, (List.range n).map (pm_fld G.2.2 k σ))
  | some (1, t, n) => .inl (G.2.1 t, n, .inl (sA σ k))
  | some (2, t, n) => .inl (G.2.1 t, n, .inr (.inl (sL σ)))
  | some (_, t, n) => .inl (G.2.1 t, n, .inr (.inr (.inr (.inr (fun j => some (G.2.2 (sP σ j)))))))
  | none => .inr (0, [])
def pm_W (G : GC) (σ : St) : va_W := (List.range 67).map (fun k => (G.2.2 k, pm_cell G k σ))
def pm_tys (G : GC) : List (ClassId × FieldType) := [(G.2.1 0, .int), (G.2.1 1, .boolean), (G.2.1 2, .char), (G.2.1 3, .long), (G.2.1 4, .object "EchoTurns$Scene")]
def pm_A (G : GC) : Nat → Prop := fun q => ∃ k, k < 67 ∧ q = G.2.2 k
def pm_inj (G : GC) : Prop := ∀ i j, i < 67 → j < 67 → G.2.2 i = G.2.2 j → i = j
def pm_fit (σ : St) : Prop := ∀ (k n : Nat), shp[k]? = some (1, 1, n) → ∀ j, fits .boolean (.int (sA σ k j)) = true
def pm_H (G : GC) (σ : St) (H : Heap) : Prop := va_P G.1 vwCl (pm_W G σ) H ∧ pm_fit σ
/-- the links to the outer class's private methods -/
def pm_N (U : State) : Prop := ∀ q ∈ pmN, va_Nw (.methodLinkNest q.1 q.2.1 q.2.2.1 q.2.2.2) U
theorem pm_N.warm {s U : State} (hW : s.WarmedH U.vm) (h : pm_N s) : pm_N U := fun q hq => va_Nw.warmM hW (h q hq)
/-- a method: name, code, locals, answer -/
abbrev MI : Type := MethodName × ByteArray × Nat × Option FieldType
def pm_run (y : MI) (G : GC) (p : Program) (s : State) (m : MethodId) (args : Array Value) (meth : Method) (c : Code) : Prop :=
  p.tables.exec = Jvm.exec ∧ c.code = y.2.1 ∧ meth.sig.returnType = y.2.2.2 ∧ c.maxLocals = y.2.2.1 ∧ s.vm.findClass y.1.cls = some m.cls ∧ (∀ w ∈ tbg, w.before args s = true) ∧ meth.locks = false ∧ va_K G.1 vwCl (pm_tys G) s ∧ pm_inj G ∧ pm_N s
def rmz (d : Nat) : Room := { frames := d, cells := 0, slots := 0, locals := 31 * d }
def pm_L (ad : Nat → Nat) (lsA : Array Slot) (n : Nat) (ls : List Value) : Prop := lsA.size = n ∧ lv_wf lsA ∧ ls.length = n ∧ ∀ (i : Nat) (v : Value), ls[i]? = some v → v ≠ .null → lsA[i]? = some (.val (ptr ad v))
def pm_Q (G : GC) (Q : Option Value → St → Prop) : Array Value → State → Outcome → State → Prop := fun _ st o t => (∃ (r : Option Value) (σ' : St), o = .returned (r.map (ptr G.2.2)) ∧ Q r σ' ∧ pm_H G σ' t.heap) ∧ va_F (pm_A G) st t
def pm_P (G : GC) (as : List Value) (σ : St) : Array Value → State → Prop := fun v U => v = (as.map (ptr G.2.2)).toArray ∧ pm_H G σ U.heap ∧ va_K G.1 vwCl (pm_tys G) U ∧ pm_inj G ∧ pm_N U
def wsz (y : MI) : List Cond := .code y.1 y.2.1 y.2.2.1 y.2.2.2 :: tbg
/-- from this frame in this world the method comes to its end, and Q holds of the answer and the world -/
def Go (y : MI) (d : Nat) (pc : Nat) (ls st : List Value) (σ : St) (Q : Option Value → St → Prop) : Prop :=
  ∀ (l : Launch) (G : GC) (p : Program) (e : Env) (s : State) (m : MethodId) (args : Array Value) (below : List Frame) (meth : Method) (c : Code) (H : Heap) (locs : List Loc) (lsA : Array Slot),
    pm_run y G p s m args meth c → pm_H G σ H → va_S (pm_A G) s.heap H locs → pm_L G.2.2 lsA y.2.2.1 ls →
    W p l e (rmz d) s m args below meth c H locs 0 0 (MQ below (pm_Q G Q) args s 0 0 (pm_A G)) (F0 m pc lsA (st.map (ptr G.2.2)))
/-- a call of the method in this world comes back, and Q holds -/
def Call (d : Nat) (y : MI) (as : List Value) (σ : St) (Q : Option Value → St → Prop) : Prop :=
  ∀ (l : Launch) (G : GC), Met l y.1 (wsz y) (rmz d) (pm_P G as σ) (pm_Q G Q) 0 0 (pm_A G)
def QI (K : Int32 → St → Prop) : Option Value → St → Prop := fun r σ => ∃ x : Int32, r = some (.int x) ∧ K x σ
def QU (K : St → Prop) : Option Value → St → Prop := fun r σ => r = none ∧ K σ
abbrev CallI (d : Nat) (y : MI) (as : List Value) (σ : St) (K : Int32 → St → Prop) : Prop := Call d y as σ (QI K)
abbrev CallU (d : Nat) (y : MI) (as : List Value) (σ : St) (K : St → Prop) : Prop := Call d y as σ (QU K)
/-- the locals at a method's entry -/
def ent (as : List Value) (n : Nat) : List Value := as.flatMap (fun v => if v.category = 2 then [v, .null] else [v]) ++ List.replicate (n - (as.flatMap (fun v => if v.category = 2 then [v, Value.null] else [v])).length) .null
theorem ptr_cat (ad : Nat → Nat) (v : Value) : (ptr ad v).category = v.category := by cases v <;> rfl
theorem ptr_cats (ad : Nat → Nat) (st : List Value) : ((st.map (ptr ad)).map fun v => v.category) = st.map fun v => v.category := by
  rw [List.map_map]; exact List.map_congr_left fun v _ => ptr_cat ad v
theorem shp_lt {k : Nat} {x : Nat × Nat × Nat} (h : shp[k]? = some x) : k < 67 := (List.getElem?_eq_some_iff.mp h).1
theorem pm_get {G : GC} {σ : St} {k : Nat} (hk : k < 67) : (pm_W G σ)[k]? = some (G.2.2 k, pm_cell G k σ) := by
  simp [pm_W, List.getElem?_map, List.getElem?_range hk]
theorem pm_getS {G : GC} {σ : St} {k : Nat} {x : Nat × Nat × Nat} (h : shp[k]? = some x) : (pm_W G σ)[k]? = some (G.2.2 k, pm_cell G k σ) := pm_get (shp_lt h)
theorem pm_Wset {G : GC} {σ σ' : St} {k : Nat} {e : va_E} (hk : k < 67) (he : pm_cell G k σ' = e) (ho : ∀ j, j < 67 → j ≠ k → pm_cell G j σ' = pm_cell G j σ) : (pm_W G σ).set k (G.2.2 k, e) = pm_W G σ' := by
  apply List.ext_getElem?
  intro i
  rcases Nat.lt_or_ge i 67 with hi | hi
  · rw [pm_get hi]
    rcases Nat.decEq i k with h | h
    · rw [List.getElem?_set_ne (fun q => h q.symm), pm_get hi, ho i hi h]
    · subst h
      rw [List.getElem?_set_self (by simp [pm_W]; exact hk), he]
  · rw [List.getElem?_eq_none (by simp [pm_W]; exact hi), List.getElem?_eq_none (by simp [pm_W]; exact hi)]
theorem pm_D {G : GC} (hi : pm_inj G) (σ : St) : va_D (pm_A G) (pm_W G σ) := by
  have h67 : ∀ (i : Nat) (p : Nat × va_E), (pm_W G σ)[i]? = some p → i < 67 ∧ p.1 = G.2.2 i := by
    intro i p h
    have hlt : i < 67 := by
      have h1 := (List.getElem?_eq_some_iff.mp h).1
      simpa [pm_W] using h1
    rw [pm_get hlt] at h
    cases h
    exact ⟨hlt, rfl⟩
  refine ⟨fun i j p q h1 h2 h3 => ?_, fun k q h => ?_⟩
  · obtain ⟨a1, a2⟩ := h67 i p h1
    obtain ⟨b1, b2⟩ := h67 j q h2
    exact hi i j a1 b1 (by rw [← a2, ← b2]; exact h3)
  · obtain ⟨a1, a2⟩ := h67 k q h
    exact ⟨k, a1, a2⟩
theorem shp_long : ∀ j, j < 67 → ∀ t n, shp[j]? = some (2, t, n) → j = 61 := by
  intro j hj t n h
  have h1 : ∀ j, j < 67 → (shp[j]?).map (·.1) = some 2 → j = 61 := by decide +kernel
  exact h1 j hj (by rw [h]; rfl)
theorem shp_ref : ∀ j, j < 67 → ∀ i t n, shp[j]? = some (i + 3, t, n) → j = 19 := by
  intro j hj i t n h
  have h1 : ∀ j, j < 67 → (match shp[j]? with | some (0, _, _) => true | some (1, _, _) => true | some (2, _, _) => true | _ => decide (j = 19)) = true := by decide +kernel
  have h2 := h1 j hj
  rw [h] at h2
  simpa using h2
theorem cell_F {G : GC} {σ : St} {a k ci n : Nat} {v : Int32} (hs : shp[a]? = some (0, ci, n)) : ∀ j, j < 67 → j ≠ a → pm_cell G j (setF σ a k v) = pm_cell G j σ := by
  intro j hj hne
  unfold pm_cell
  have hf : pm_fld G.2.2 j (setF σ a k v) = pm_fld G.2.2 j σ := by
    funext i
    unfold pm_fld
    simp [setF, sF, hne]
  rw [hf]
  rfl
theorem cell_R {G : GC} {σ : St} {a : Nat} {g : Nat → Int32} : ∀ j, j < 67 → j ≠ a → pm_cell G j (setR σ a g) = pm_cell G j σ := by
  intro j hj hne
  unfold pm_cell
  have h1 : sA (setR σ a g) j = sA σ j := by simp [setR, sA, hne]
  rw [h1]
  rfl
theorem pm_setF {G : GC} {σ : St} {a k ci n : Nat} {v : Int32} (hs : shp[a]? = some (0, ci, n)) (hk : k < n) (hr : FR a k = none) :
    (pm_W G σ).set a (G.2.2 a, .inr (ci, ((List.range n).map (pm_fld G.2.2 a σ)).set k (.int v))) = pm_W G (setF σ a k v) := by
  refine pm_Wset (shp_lt hs) ?_ (cell_F hs)
  unfold pm_cell
  rw [hs]
  show Sum.inr (ci, _) = Sum.inr (ci, _)
  congr 2
  apply List.ext_getElem?
  intro i
  rcases Nat.lt_or_ge i n with hi | hi
  · rcases Nat.decEq i k with h | h
    · rw [List.getElem?_set_ne (fun q => h q.symm), List.getElem?_map, List.getElem?_map, List.getElem?_range hi]
      simp [pm_fld, setF, sF, h]
    · subst h
      rw [List.getElem?_set_self (by simp; exact hi), List.getElem?_map, List.getElem?_range hi]
      simp [pm_fld, setF, sF, hr]
  · rw [List.getElem?_eq_none (by simp; exact hi), List.getElem?_eq_none (by simp; exact hi)]
theorem pm_setR {G : GC} {σ : St} {a t n : Nat} {g : Nat → Int32} (hs : shp[a]? = some (1, t, n)) :
    (pm_W G σ).set a (G.2.2 a, .inl (G.2.1 t, n, .inl g)) = pm_W G (setR σ a g) := by
  refine pm_Wset (shp_lt hs) ?_ cell_R
  unfold pm_cell
  rw [hs]
  simp [setR, sA]
theorem pm_setL {G : GC} {σ : St} {i : Nat} {v : Int64} :
    (pm_W G σ).set 61 (G.2.2 61, .inl (G.2.1 3, 44, .inr (.inl (vp_updL (sL σ) i v)))) = pm_W G (setL σ i v) := by
  refine pm_Wset (by decide) rfl (fun j hj hne => ?_)
  unfold pm_cell
  have hf : pm_fld G.2.2 j (setL σ i v) = pm_fld G.2.2 j σ := rfl
  rw [hf]
  split <;> first | rfl | skip
  next h => exact absurd (shp_long j hj _ _ h) hne
theorem pm_setP {G : GC} {σ : St} {i v : Nat} :
    (pm_W G σ).set 19 (G.2.2 19, .inl (G.2.1 4, 4, .inr (.inr (.inr (.inr (va_up (fun j => some (G.2.2 (sP σ j))) i (some (G.2.2 v)))))))) = pm_W G (setP σ i v) := by
  have hfun : (fun j => some (G.2.2 (sP (setP σ i v) j))) = va_up (fun j => some (G.2.2 (sP σ j))) i (some (G.2.2 v)) := by
    funext j
    unfold va_up setP sP
    by_cases h : j = i <;> simp [h]
  refine pm_Wset (by decide) (by
    show (Sum.inl (G.2.1 4, 4, _) : va_E) = _
    rw [hfun]) (fun j hj hne => ?_)
  unfold pm_cell
  have hf : pm_fld G.2.2 j (setP σ i v) = pm_fld G.2.2 j σ := rfl
  rw [hf]
  rcases hsh : shp[j]? with _ | ⟨a, t, n⟩
  · rfl
  · match a, hsh with
    | 0, _ => rfl
    | 1, _ => rfl
    | 2, _ => rfl
    | k + 3, hsh => exact absurd (shp_ref j hj k _ _ hsh) hne
end
section
/-! the rows of PM's logic: an instruction a row -/
section GO
variable {y : MI} {d pc : Nat} {ls st : List Value} {σ : St} {Q : Option Value → St → Prop}
theorem Go.iconst {n : Int} {v : Int32} (hd : decode y.2.1 pc = .ok (.iconst n, 1)) (hv : Int32.ofInt n = v) (k : Go y d (pc + 1) ls (.int v :: st) σ Q) : Go y d pc ls st σ Q :=
  fun l G p e s m args below meth c H locs lsA R hH hS hL => lv_iconst R.1 R.2.1 hd hv (k l G p e s m args below meth c H locs lsA R hH hS hL)
theorem Go.bipush {n : Int} {v : Int32} (hd : decode y.2.1 pc = .ok (.bipush n, 2)) (hv : (Int8.ofInt n).toInt32 = v) (k : Go y d (pc + 2) ls (.int v :: st) σ Q) : Go y d pc ls st σ Q :=
  fun l G p e s m args below meth c H locs lsA R hH hS hL => lv_bipush R.1 R.2.1 hd hv (k l G p e s m args below meth c H locs lsA R hH hS hL)
theorem Go.sipush {n : Int} {v : Int32} (hd : decode y.2.1 pc = .ok (.sipush n, 3)) (hv : (Int16.ofInt n).toInt32 = v) (k : Go y d (pc + 3) ls (.int v :: st) σ Q) : Go y d pc ls st σ Q :=
  fun l G p e s m args below meth c H locs lsA R hH hS hL => lv_sipush R.1 R.2.1 hd hv (k l G p e s m args below meth c H locs lsA R hH hS hL)
theorem pm_L.at' {ad : Nat → Nat} {lsA : Array Slot} {n i : Nat} {ls : List Value} {v : Value} (h : pm_L ad lsA n ls) (hi : ls[i]? = some v) (hn : v ≠ .null) : lsA[i]? = some (.val (ptr ad v)) := h.2.2.2 i v hi hn
theorem Go.iload_n {j : Fin 4} {x : Int32} (i : Nat) (hd : decode y.2.1 pc = .ok (.iload_n j, 1)) (hj : (j : Nat) = i) (hl : ls[i]? = some (.int x)) (k : Go y d (pc + 1) ls (.int x :: st) σ Q) : Go y d pc ls st σ Q :=
  fun l G p e s m args below meth c H locs lsA R hH hS hL => lv_iload_n R.1 R.2.1 hd hj (hL.at' hl (by simp)) (k l G p e s m args below meth c H locs lsA R hH hS hL)
theorem Go.iload {i : Nat} {x : Int32} (hd : decode y.2.1 pc = .ok (.iload i, 2)) (hl : ls[i]? = some (.int x)) (k : Go y d (pc + 2) ls (.int x :: st) σ Q) : Go y d pc ls st σ Q :=
  fun l G p e s m args below meth c H locs lsA R hH hS hL => lv_iload R.1 R.2.1 hd (hL.at' hl (by simp)) (k l G p e s m args below meth c H locs lsA R hH hS hL)
theorem Go.aload_n {j : Fin 4} {x : Nat} (i : Nat) (hd : decode y.2.1 pc = .ok (.aload_n j, 1)) (hj : (j : Nat) = i) (hl : ls[i]? = some (.ref x)) (k : Go y d (pc + 1) ls (.ref x :: st) σ Q) : Go y d pc ls st σ Q :=
  fun l G p e s m args below meth c H locs lsA R hH hS hL => lv_aload_n R.1 R.2.1 hd hj (hL.at' hl (by simp)) (k l G p e s m args below meth c H locs lsA R hH hS hL)
theorem Go.lload_n {j : Fin 4} {x : Int64} (i : Nat) (hd : decode y.2.1 pc = .ok (.lload_n j, 1)) (hj : (j : Nat) = i) (hl : ls[i]? = some (.long x)) (k : Go y d (pc + 1) ls (.long x :: st) σ Q) : Go y d pc ls st σ Q :=
  fun l G p e s m args below meth c H locs lsA R hH hS hL => lv_lload_n R.1 R.2.1 hd hj (hL.at' hl (by simp)) (k l G p e s m args below meth c H locs lsA R hH hS hL)
/-- a store may not cut a value of two slots that is named -/
def lvok (ls : List Value) (i : Nat) : Bool := match i with
  | 0 => true
  | j + 1 => (ls.getD j .null).category != 2
theorem pm_L.store {ad : Nat → Nat} {ls : List Value} {n i : Nat} {v : Value} {lsA : Array Slot} (h : pm_L ad lsA n ls) (hi : i < n) (hok : lvok ls i = true) :
    ∃ lv : List (Nat × Value), lv_has lsA n lv ∧ ∀ lsB : Array Slot, lv_has lsB n ((i, ptr ad v) :: lv.filter (fun q => !(q.1 == i) && !(q.1 + 1 == i && q.2.category == 2))) → pm_L ad lsB n (ls.set i v) := by
  obtain ⟨h1, h2, h3, h4⟩ := h
  refine ⟨((List.range n).filterMap fun j => match ls[j]? with | some Value.null => none | some w => some (j, ptr ad w) | none => none), ⟨h1, h2, fun q hq => ?_⟩, fun lsB hB => ?_⟩
  · obtain ⟨j, -, hj⟩ := List.mem_filterMap.mp hq
    rcases hls : ls[j]? with _ | w
    · rw [hls] at hj; cases hj
    · rw [hls] at hj
      cases w <;> first | (cases hj; exact h4 j _ hls (by simp)) | cases hj
  · obtain ⟨b1, b2, b3⟩ := hB
    refine ⟨b1, b2, by simp [h3], fun j w hj hw => ?_⟩
    rcases Nat.decEq j i with hne | rfl
    · rw [List.getElem?_set_ne (fun z => hne z.symm)] at hj
      have hjn : j < n := by rw [← h3]; exact (List.getElem?_eq_some_iff.mp hj).1
      refine b3 (j, ptr ad w) (List.mem_cons_of_mem _ (List.mem_filter.mpr ⟨List.mem_filterMap.mpr ⟨j, List.mem_range.mpr hjn, ?_⟩, ?_⟩))
      · rw [hj]
        cases w <;> first | rfl | exact (hw rfl).elim
      · simp only [Bool.and_eq_true, Bool.not_eq_true', beq_eq_false_iff_ne, ne_eq, Bool.and_eq_false_iff]
        refine ⟨hne, ?_⟩
        rcases Nat.decEq (j + 1) i with hz | hz
        · exact Or.inl hz
        · right
          subst hz
          rw [ptr_cat]
          have hok2 : ((ls.getD j .null).category != 2) = true := hok
          have : ls.getD j .null = w := by simp [List.getD, hj]
          rw [this] at hok2
          simpa using hok2
    · rw [List.getElem?_set_self (by omega)] at hj
      cases hj
      exact b3 (j, ptr ad v) List.mem_cons_self
theorem Go.istore_n {j : Fin 4} {x : Int32} {ls' : List Value} (i : Nat) (hd : decode y.2.1 pc = .ok (.istore_n j, 1)) (hj : (j : Nat) = i) (hi : i < y.2.2.1) (hok : lvok ls i = true) (hl : ls.set i (.int x) = ls') (k : Go y d (pc + 1) ls' st σ Q) : Go y d pc ls (.int x :: st) σ Q := by
  intro l G p e s m args below meth c H locs lsA R hH hS hL
  obtain ⟨lv, h1, h2⟩ := hL.store (v := .int x) hi hok
  refine lv_istore_n R.1 R.2.1 hd hj h1 hi rfl (fun lsB hB => ?_)
  exact k l G p e s m args below meth c H locs lsB R hH hS (hl ▸ h2 lsB hB)
theorem Go.istore {i : Nat} {x : Int32} {ls' : List Value} (hd : decode y.2.1 pc = .ok (.istore i, 2)) (hi : i < y.2.2.1) (hok : lvok ls i = true) (hl : ls.set i (.int x) = ls') (k : Go y d (pc + 2) ls' st σ Q) : Go y d pc ls (.int x :: st) σ Q := by
  intro l G p e s m args below meth c H locs lsA R hH hS hL
  obtain ⟨lv, h1, h2⟩ := hL.store (v := .int x) hi hok
  refine lv_istore R.1 R.2.1 hd h1 hi rfl (fun lsB hB => ?_)
  exact k l G p e s m args below meth c H locs lsB R hH hS (hl ▸ h2 lsB hB)
theorem Go.astore_n {j : Fin 4} {x : Nat} {ls' : List Value} (i : Nat) (hd : decode y.2.1 pc = .ok (.astore_n j, 1)) (hj : (j : Nat) = i) (hi : i < y.2.2.1) (hok : lvok ls i = true) (hl : ls.set i (.ref x) = ls') (k : Go y d (pc + 1) ls' st σ Q) : Go y d pc ls (.ref x :: st) σ Q := by
  intro l G p e s m args below meth c H locs lsA R hH hS hL
  obtain ⟨lv, h1, h2⟩ := hL.store (v := .ref x) hi hok
  refine lv_astore_n R.1 R.2.1 hd hj h1 hi rfl (fun lsB hB => ?_)
  exact k l G p e s m args below meth c H locs lsB R hH hS (hl ▸ h2 lsB hB)
theorem Go.iinc {i : Nat} {n : Int} {x v : Int32} {ls' : List Value} (hd : decode y.2.1 pc = .ok (.iinc i n, 3)) (hx : ls[i]? = some (.int x)) (hv : x + Int32.ofInt n = v) (hi : i < y.2.2.1) (hok : lvok ls i = true) (hl : ls.set i (.int v) = ls') (k : Go y d (pc + 3) ls' st σ Q) : Go y d pc ls st σ Q := by
  intro l G p e s m args below meth c H locs lsA R hH hS hL
  obtain ⟨lv, h1, h2⟩ := hL.store (v := .int v) hi hok
  have h3 : lv_has lsA y.2.2.1 ((i, .int x) :: lv) := ⟨h1.1, h1.2.1, fun q hq => by
    rcases List.mem_cons.mp hq with rfl | hq
    · exact hL.at' hx (by simp)
    · exact h1.2.2 q hq⟩
  refine lv_iinc R.1 R.2.1 hd h3 (k := 0) rfl hv hi rfl (fun lsB hB => ?_)
  refine k l G p e s m args below meth c H locs lsB R hH hS (hl ▸ h2 lsB ?_)
  have e1 : ((i, Value.int x) :: lv).filter (fun q => !(q.1 == i) && !(q.1 + 1 == i && q.2.category == 2)) = lv.filter (fun q => !(q.1 == i) && !(q.1 + 1 == i && q.2.category == 2)) := by simp
  rw [e1] at hB
  exact hB
theorem Go.iadd {a b : Int32} (hd : decode y.2.1 pc = .ok (.iadd, 1)) (k : Go y d (pc + 1) ls (.int (a + b) :: st) σ Q) : Go y d pc ls (.int b :: .int a :: st) σ Q :=
  fun l G p e s m args below meth c H locs lsA R hH hS hL => lv_iadd R.1 R.2.1 hd (k l G p e s m args below meth c H locs lsA R hH hS hL)
theorem Go.isub {a b : Int32} (hd : decode y.2.1 pc = .ok (.isub, 1)) (k : Go y d (pc + 1) ls (.int (a - b) :: st) σ Q) : Go y d pc ls (.int b :: .int a :: st) σ Q :=
  fun l G p e s m args below meth c H locs lsA R hH hS hL => lv_isub R.1 R.2.1 hd (k l G p e s m args below meth c H locs lsA R hH hS hL)
theorem Go.imul {a b : Int32} (hd : decode y.2.1 pc = .ok (.imul, 1)) (k : Go y d (pc + 1) ls (.int (a * b) :: st) σ Q) : Go y d pc ls (.int b :: .int a :: st) σ Q :=
  fun l G p e s m args below meth c H locs lsA R hH hS hL => lv_imul R.1 R.2.1 hd (k l G p e s m args below meth c H locs lsA R hH hS hL)
/-- the remainder, as the machine has it -/
def irem (a b : Int32) : Int32 := a - a / b * b
theorem Go.idiv {a b : Int32} (hd : decode y.2.1 pc = .ok (.idiv, 1)) (hne : ¬ b = 0) (k : Go y d (pc + 1) ls (.int (a / b) :: st) σ Q) : Go y d pc ls (.int b :: .int a :: st) σ Q :=
  fun l G p e s m args below meth c H locs lsA R hH hS hL => lv_idiv R.1 R.2.1 hd hne (k l G p e s m args below meth c H locs lsA R hH hS hL)
theorem Go.irem {a b : Int32} (hd : decode y.2.1 pc = .ok (.irem, 1)) (hne : ¬ b = 0) (k : Go y d (pc + 1) ls (.int (irem a b) :: st) σ Q) : Go y d pc ls (.int b :: .int a :: st) σ Q :=
  fun l G p e s m args below meth c H locs lsA R hH hS hL => lv_irem R.1 R.2.1 hd hne (k l G p e s m args below meth c H locs lsA R hH hS hL)
theorem Go.ineg {a : Int32} (hd : decode y.2.1 pc = .ok (.ineg, 1)) (k : Go y d (pc + 1) ls (.int (-a) :: st) σ Q) : Go y d pc ls (.int a :: st) σ Q :=
  fun l G p e s m args below meth c H locs lsA R hH hS hL => lv_ineg R.1 R.2.1 hd (k l G p e s m args below meth c H locs lsA R hH hS hL)
theorem Go.i2c {a v : Int32} (hd : decode y.2.1 pc = .ok (.i2c, 1)) (hv : (a.toUInt32 % 65536).toInt32 = v) (k : Go y d (pc + 1) ls (.int v :: st) σ Q) : Go y d pc ls (.int a :: st) σ Q :=
  fun l G p e s m args below meth c H locs lsA R hH hS hL => lv_i2c R.1 R.2.1 hd hv (k l G p e s m args below meth c H locs lsA R hH hS hL)
theorem Go.dup {v : Value} (hd : decode y.2.1 pc = .ok (.dup, 1)) (hv : v.category = 1) (k : Go y d (pc + 1) ls (v :: v :: st) σ Q) : Go y d pc ls (v :: st) σ Q :=
  fun l G p e s m args below meth c H locs lsA R hH hS hL => lv_dup R.1 R.2.1 hd ((ptr_cat _ v).trans hv) (k l G p e s m args below meth c H locs lsA R hH hS hL)
theorem Go.dup2 {v w : Value} (hd : decode y.2.1 pc = .ok (.dup2, 1)) (hv : v.category = 1) (hw : w.category = 1) (k : Go y d (pc + 1) ls (v :: w :: v :: w :: st) σ Q) : Go y d pc ls (v :: w :: st) σ Q :=
  fun l G p e s m args below meth c H locs lsA R hH hS hL => lv_dup2_11 R.1 R.2.1 hd ((ptr_cat _ v).trans hv) ((ptr_cat _ w).trans hw) (k l G p e s m args below meth c H locs lsA R hH hS hL)
theorem Go.pop {v : Value} (hd : decode y.2.1 pc = .ok (.pop, 1)) (hv : v.category = 1) (k : Go y d (pc + 1) ls st σ Q) : Go y d pc ls (v :: st) σ Q :=
  fun l G p e s m args below meth c H locs lsA R hH hS hL => lv_pop R.1 R.2.1 hd ((ptr_cat _ v).trans hv) (k l G p e s m args below meth c H locs lsA R hH hS hL)
theorem Go.goto {off : Int} (t : Nat) (hd : decode y.2.1 pc = .ok (.goto off, 3)) (ht : (pc : Int) + off = (t : Int)) (k : Go y d t ls st σ Q) : Go y d pc ls st σ Q :=
  fun l G p e s m args below meth c H locs lsA R hH hS hL => lv_goto R.1 R.2.1 hd ht (k l G p e s m args below meth c H locs lsA R hH hS hL)
theorem Go.if_eq {x : Int32} {off : Int} (t : Nat) (hd : decode y.2.1 pc = .ok (.ifCond .eq off, 3)) (ht : (pc : Int) + off = (t : Int)) (k : (x = 0 → Go y d t ls st σ Q) ∧ (¬ x = 0 → Go y d (pc + 3) ls st σ Q)) : Go y d pc ls (.int x :: st) σ Q :=
  fun l G p e s m args below meth c H locs lsA R hH hS hL => lv_if_eq R.1 R.2.1 hd ht (fun q => k.1 q l G p e s m args below meth c H locs lsA R hH hS hL) (fun q => k.2 q l G p e s m args below meth c H locs lsA R hH hS hL)
theorem Go.icmp_eq {x y0 : Int32} {off : Int} (t : Nat) (hd : decode y.2.1 pc = .ok (.if_icmp .eq off, 3)) (ht : (pc : Int) + off = (t : Int)) (k : (x = y0 → Go y d t ls st σ Q) ∧ (¬ x = y0 → Go y d (pc + 3) ls st σ Q)) : Go y d pc ls (.int y0 :: .int x :: st) σ Q :=
  fun l G p e s m args below meth c H locs lsA R hH hS hL => lv_icmp_eq R.1 R.2.1 hd ht (fun q => k.1 q l G p e s m args below meth c H locs lsA R hH hS hL) (fun q => k.2 q l G p e s m args below meth c H locs lsA R hH hS hL)
theorem Go.if_ne {x : Int32} {off : Int} (t : Nat) (hd : decode y.2.1 pc = .ok (.ifCond .ne off, 3)) (ht : (pc : Int) + off = (t : Int)) (k : (¬ x = 0 → Go y d t ls st σ Q) ∧ (x = 0 → Go y d (pc + 3) ls st σ Q)) : Go y d pc ls (.int x :: st) σ Q :=
  fun l G p e s m args below meth c H locs lsA R hH hS hL => lv_if_ne R.1 R.2.1 hd ht (fun q => k.1 q l G p e s m args below meth c H locs lsA R hH hS hL) (fun q => k.2 q l G p e s m args below meth c H locs lsA R hH hS hL)
theorem Go.icmp_ne {x y0 : Int32} {off : Int} (t : Nat) (hd : decode y.2.1 pc = .ok (.if_icmp .ne off, 3)) (ht : (pc : Int) + off = (t : Int)) (k : (¬ x = y0 → Go y d t ls st σ Q) ∧ (x = y0 → Go y d (pc + 3) ls st σ Q)) : Go y d pc ls (.int y0 :: .int x :: st) σ Q :=
  fun l G p e s m args below meth c H locs lsA R hH hS hL => lv_icmp_ne R.1 R.2.1 hd ht (fun q => k.1 q l G p e s m args below meth c H locs lsA R hH hS hL) (fun q => k.2 q l G p e s m args below meth c H locs lsA R hH hS hL)
theorem Go.if_lt {x : Int32} {off : Int} (t : Nat) (hd : decode y.2.1 pc = .ok (.ifCond .lt off, 3)) (ht : (pc : Int) + off = (t : Int)) (k : (x < 0 → Go y d t ls st σ Q) ∧ (¬ x < 0 → Go y d (pc + 3) ls st σ Q)) : Go y d pc ls (.int x :: st) σ Q :=
  fun l G p e s m args below meth c H locs lsA R hH hS hL => lv_if_lt R.1 R.2.1 hd ht (fun q => k.1 q l G p e s m args below meth c H locs lsA R hH hS hL) (fun q => k.2 q l G p e s m args below meth c H locs lsA R hH hS hL)
theorem Go.icmp_lt {x y0 : Int32} {off : Int} (t : Nat) (hd : decode y.2.1 pc = .ok (.if_icmp .lt off, 3)) (ht : (pc : Int) + off = (t : Int)) (k : (x < y0 → Go y d t ls st σ Q) ∧ (¬ x < y0 → Go y d (pc + 3) ls st σ Q)) : Go y d pc ls (.int y0 :: .int x :: st) σ Q :=
  fun l G p e s m args below meth c H locs lsA R hH hS hL => lv_icmp_lt R.1 R.2.1 hd ht (fun q => k.1 q l G p e s m args below meth c H locs lsA R hH hS hL) (fun q => k.2 q l G p e s m args below meth c H locs lsA R hH hS hL)
theorem Go.if_ge {x : Int32} {off : Int} (t : Nat) (hd : decode y.2.1 pc = .ok (.ifCond .ge off, 3)) (ht : (pc : Int) + off = (t : Int)) (k : (0 ≤ x → Go y d t ls st σ Q) ∧ (¬ 0 ≤ x → Go y d (pc + 3) ls st σ Q)) : Go y d pc ls (.int x :: st) σ Q :=
  fun l G p e s m args below meth c H locs lsA R hH hS hL => lv_if_ge R.1 R.2.1 hd ht (fun q => k.1 q l G p e s m args below meth c H locs lsA R hH hS hL) (fun q => k.2 q l G p e s m args below meth c H locs lsA R hH hS hL)
theorem Go.icmp_ge {x y0 : Int32} {off : Int} (t : Nat) (hd : decode y.2.1 pc = .ok (.if_icmp .ge off, 3)) (ht : (pc : Int) + off = (t : Int)) (k : (y0 ≤ x → Go y d t ls st σ Q) ∧ (¬ y0 ≤ x → Go y d (pc + 3) ls st σ Q)) : Go y d pc ls (.int y0 :: .int x :: st) σ Q :=
  fun l G p e s m args below meth c H locs lsA R hH hS hL => lv_icmp_ge R.1 R.2.1 hd ht (fun q => k.1 q l G p e s m args below meth c H locs lsA R hH hS hL) (fun q => k.2 q l G p e s m args below meth c H locs lsA R hH hS hL)
theorem Go.if_gt {x : Int32} {off : Int} (t : Nat) (hd : decode y.2.1 pc = .ok (.ifCond .gt off, 3)) (ht : (pc : Int) + off = (t : Int)) (k : (0 < x → Go y d t ls st σ Q) ∧ (¬ 0 < x → Go y d (pc + 3) ls st σ Q)) : Go y d pc ls (.int x :: st) σ Q :=
  fun l G p e s m args below meth c H locs lsA R hH hS hL => lv_if_gt R.1 R.2.1 hd ht (fun q => k.1 q l G p e s m args below meth c H locs lsA R hH hS hL) (fun q => k.2 q l G p e s m args below meth c H locs lsA R hH hS hL)
theorem Go.icmp_gt {x y0 : Int32} {off : Int} (t : Nat) (hd : decode y.2.1 pc = .ok (.if_icmp .gt off, 3)) (ht : (pc : Int) + off = (t : Int)) (k : (y0 < x → Go y d t ls st σ Q) ∧ (¬ y0 < x → Go y d (pc + 3) ls st σ Q)) : Go y d pc ls (.int y0 :: .int x :: st) σ Q :=
  fun l G p e s m args below meth c H locs lsA R hH hS hL => lv_icmp_gt R.1 R.2.1 hd ht (fun q => k.1 q l G p e s m args below meth c H locs lsA R hH hS hL) (fun q => k.2 q l G p e s m args below meth c H locs lsA R hH hS hL)
theorem Go.if_le {x : Int32} {off : Int} (t : Nat) (hd : decode y.2.1 pc = .ok (.ifCond .le off, 3)) (ht : (pc : Int) + off = (t : Int)) (k : (x ≤ 0 → Go y d t ls st σ Q) ∧ (¬ x ≤ 0 → Go y d (pc + 3) ls st σ Q)) : Go y d pc ls (.int x :: st) σ Q :=
  fun l G p e s m args below meth c H locs lsA R hH hS hL => lv_if_le R.1 R.2.1 hd ht (fun q => k.1 q l G p e s m args below meth c H locs lsA R hH hS hL) (fun q => k.2 q l G p e s m args below meth c H locs lsA R hH hS hL)
theorem Go.icmp_le {x y0 : Int32} {off : Int} (t : Nat) (hd : decode y.2.1 pc = .ok (.if_icmp .le off, 3)) (ht : (pc : Int) + off = (t : Int)) (k : (x ≤ y0 → Go y d t ls st σ Q) ∧ (¬ x ≤ y0 → Go y d (pc + 3) ls st σ Q)) : Go y d pc ls (.int y0 :: .int x :: st) σ Q :=
  fun l G p e s m args below meth c H locs lsA R hH hS hL => lv_icmp_le R.1 R.2.1 hd ht (fun q => k.1 q l G p e s m args below meth c H locs lsA R hH hS hL) (fun q => k.2 q l G p e s m args below meth c H locs lsA R hH hS hL)
end GO
end
section
/-! the rows of PM's logic: fields, rows, calls, ends -/
def fldOK (own : String) (idx ci k N : Nat) : Prop := ∃ (C : String) (T : u_T), vwCl[ci]? = some (C, T, N) ∧ k < N ∧ (∀ w ∈ u_ws C T N, w ∈ tbg) ∧ Cond.fieldLink own idx (T k).1 (T k).2.1 (T k).2.2.1 ∈ tbg
def fputOK (own : String) (idx ci k N : Nat) (ty : FieldType) : Prop := ∃ (C : String) (T : u_T) (ty0 : Nat → FieldType), vwCl[ci]? = some (C, T, N) ∧ k < N ∧ (∀ w ∈ u_ws C T N, w ∈ tbg) ∧ Cond.fieldLink own idx (T k).1 (T k).2.1 (T k).2.2.1 ∈ tbg ∧
  (∀ k, k < N → parseFieldDescriptor (T k).2.2.1 = some (ty0 k)) ∧ (∀ a, a < N → ∀ b, b < N → a ≠ b → (T a).2.1 ≠ (T b).2.1) ∧ (T k).2.2.2 = false ∧ parseFieldDescriptor (T k).2.2.1 = some ty
theorem pm_obj {G : GC} {σ : St} {a ci N : Nat} (hs : shp[a]? = some (0, ci, N)) : (pm_W G σ)[a]? = some (G.2.2 a, .inr (ci, (List.range N).map (pm_fld G.2.2 a σ))) := by
  rw [pm_getS hs]
  unfold pm_cell
  rw [hs]
  rfl
theorem pm_row {G : GC} {σ : St} {a t n : Nat} (hs : shp[a]? = some (1, t, n)) : (pm_W G σ)[a]? = some (G.2.2 a, .inl (G.2.1 t, n, .inl (sA σ a))) := by
  rw [pm_getS hs]
  unfold pm_cell
  rw [hs]
  rfl
theorem pm_fldAt {ad : Nat → Nat} {σ : St} {a k N : Nat} (hk : k < N) : ((List.range N).map (pm_fld ad a σ))[k]? = some (pm_fld ad a σ k) := by
  simp [List.getElem?_map, List.getElem?_range hk]
section HEAP
variable {y : MI} {d pc : Nat} {ls st : List Value} {σ : St} {Q : Option Value → St → Prop}
theorem Go.getI {a idx ci k N : Nat} (hf : fldOK y.1.cls idx ci k N) (hs : shp[a]? = some (0, ci, N)) (hr : FR a k = none) (hd : decode y.2.1 pc = .ok (.getfield idx, 3)) (kk : Go y d (pc + 3) ls (.int (sF σ a k) :: st) σ Q) : Go y d pc ls (.ref a :: st) σ Q := by
  intro l G p e s m args below meth c H locs lsA R hH hS hL
  obtain ⟨C, T, hc, hk, hin, hln⟩ := hf
  obtain ⟨hx, hb, hret, hml, hown, hts, hlocks, hK, hinj, hN⟩ := id R
  refine va_get hx hb hts hin hown hK hH.1 a (pm_obj hs) hc k hk (hts _ hln) (fun _ h => h) (pm_fldAt hk) hd ?_
  have h := kk l G p e s m args below meth c H locs lsA R hH hS hL
  have e1 : pm_fld G.2.2 a σ k = .int (sF σ a k) := by unfold pm_fld; rw [hr]
  rw [e1]
  exact h
theorem Go.getR {a q idx ci k N : Nat} (hf : fldOK y.1.cls idx ci k N) (hs : shp[a]? = some (0, ci, N)) (hr : FR a k = some q) (hd : decode y.2.1 pc = .ok (.getfield idx, 3)) (kk : Go y d (pc + 3) ls (.ref q :: st) σ Q) : Go y d pc ls (.ref a :: st) σ Q := by
  intro l G p e s m args below meth c H locs lsA R hH hS hL
  obtain ⟨C, T, hc, hk, hin, hln⟩ := hf
  obtain ⟨hx, hb, hret, hml, hown, hts, hlocks, hK, hinj, hN⟩ := id R
  refine va_get hx hb hts hin hown hK hH.1 a (pm_obj hs) hc k hk (hts _ hln) (fun _ h => h) (pm_fldAt hk) hd ?_
  have h := kk l G p e s m args below meth c H locs lsA R hH hS hL
  have e1 : pm_fld G.2.2 a σ k = .ref (G.2.2 q) := by unfold pm_fld; rw [hr]
  rw [e1]
  exact h
theorem Go.put {a idx ci k N : Nat} {ty : FieldType} {x : Int32} (hf : fputOK y.1.cls idx ci k N ty) (hn : narrow ty (.int x) = .int x) (hfit : fits ty (.int x) = true) (hs : shp[a]? = some (0, ci, N)) (hr : FR a k = none) (hd : decode y.2.1 pc = .ok (.putfield idx, 3)) (kk : Go y d (pc + 3) ls st (setF σ a k x) Q) : Go y d pc ls (.int x :: .ref a :: st) σ Q := by
  intro l G p e s m args below meth c H locs lsA R hH hS hL
  obtain ⟨C, T, ty0, hc, hk, hin, hln, hty, hnm, hfin, hpd⟩ := hf
  obtain ⟨hx, hb, hret, hml, hown, hts, hlocks, hK, hinj, hN⟩ := id R
  refine va_put hx hb hts hin ty0 hty hnm hown hK hH.1 (pm_D hinj σ) hS a (pm_obj hs) hc k hk (hts _ hln) (fun _ h => h) hfin hpd hn hfit (by simp; exact hk) hd (fun H1 locs1 hP1 _ hS1 => ?_)
  have hP1 : va_P G.1 vwCl ((pm_W G σ).set a (G.2.2 a, .inr (ci, ((List.range N).map (pm_fld G.2.2 a σ)).set k (.int x)))) H1 := hP1
  rw [pm_setF hs hk hr] at hP1
  exact kk l G p e s m args below meth c H1 locs1 lsA R ⟨hP1, fun k n h j => hH.2 k n h j⟩ hS1 hL
theorem Go.putI {a idx ci k N : Nat} {x : Int32} (hf : fputOK y.1.cls idx ci k N .int) (hs : shp[a]? = some (0, ci, N)) (hr : FR a k = none) (hd : decode y.2.1 pc = .ok (.putfield idx, 3)) (kk : Go y d (pc + 3) ls st (setF σ a k x) Q) : Go y d pc ls (.int x :: .ref a :: st) σ Q :=
  Go.put hf rfl rfl hs hr hd kk
theorem bool_fit {x : Int32} (h : x = 0 ∨ x = 1) : narrow .boolean (.int x) = .int x ∧ fits .boolean (.int x) = true := by
  rcases h with rfl | rfl <;> exact ⟨rfl, rfl⟩
theorem Go.putZ {a idx ci k N : Nat} {x : Int32} (hv : x = 0 ∨ x = 1) (hf : fputOK y.1.cls idx ci k N .boolean) (hs : shp[a]? = some (0, ci, N)) (hr : FR a k = none) (hd : decode y.2.1 pc = .ok (.putfield idx, 3)) (kk : Go y d (pc + 3) ls st (setF σ a k x) Q) : Go y d pc ls (.int x :: .ref a :: st) σ Q :=
  Go.put hf (bool_fit hv).1 (bool_fit hv).2 hs hr hd kk
abbrev ix (i : Int32) : Nat := i.toNatClampNeg
theorem Go.iald {q n : Nat} {i : Int32} (hs : shp[q]? = some (1, 0, n)) (hd : decode y.2.1 pc = .ok (.iaload, 1)) (kk : vp_in i n ∧ Go y d (pc + 1) ls (.int (sA σ q (ix i)) :: st) σ Q) : Go y d pc ls (.int i :: .ref q :: st) σ Q := by
  intro l G p e s m args below meth c H locs lsA R hH hS hL
  exact va_iald R.1 R.2.1 R.2.2.2.2.2.2.2.1 hH.1 q 0 (pm_row hs) rfl kk.1 hd (kk.2 l G p e s m args below meth c H locs lsA R hH hS hL)
theorem Go.zald {q n : Nat} {i : Int32} (hs : shp[q]? = some (1, 1, n)) (hd : decode y.2.1 pc = .ok (.baload, 1)) (kk : vp_in i n ∧ Go y d (pc + 1) ls (.int (sA σ q (ix i)) :: st) σ Q) : Go y d pc ls (.int i :: .ref q :: st) σ Q := by
  intro l G p e s m args below meth c H locs lsA R hH hS hL
  exact va_zald R.1 R.2.1 R.2.2.2.2.2.2.2.1 hH.1 q 1 (pm_row hs) rfl kk.1 hd (kk.2 l G p e s m args below meth c H locs lsA R hH hS hL)
theorem Go.cald {q n : Nat} {i : Int32} (hs : shp[q]? = some (1, 2, n)) (hd : decode y.2.1 pc = .ok (.caload, 1)) (kk : vp_in i n ∧ Go y d (pc + 1) ls (.int (sA σ q (ix i)) :: st) σ Q) : Go y d pc ls (.int i :: .ref q :: st) σ Q := by
  intro l G p e s m args below meth c H locs lsA R hH hS hL
  exact va_cald R.1 R.2.1 R.2.2.2.2.2.2.2.1 hH.1 q 2 (pm_row hs) rfl kk.1 hd (kk.2 l G p e s m args below meth c H locs lsA R hH hS hL)
theorem shp_z {k n t m : Nat} (h : shp[k]? = some (1, t, n)) (h2 : shp[k]? = some (1, 1, m)) : t = 1 := by
  rw [h] at h2
  cases h2
  rfl
theorem pm_fit.setR {σ : St} {a t n : Nat} {g : Nat → Int32} (h : pm_fit σ) (hs : shp[a]? = some (1, t, n)) (hg : t = 1 → ∀ j, fits .boolean (.int (g j)) = true) : pm_fit (setR σ a g) := by
  intro k m hk j
  show fits .boolean (.int ((if k = a then g else sA σ k) j)) = true
  rcases Nat.decEq k a with hne | rfl
  · rw [if_neg hne]
    exact h k m hk j
  · rw [if_pos rfl]
    exact hg (shp_z hs hk) j
theorem Go.iast {q n : Nat} {i x : Int32} (hs : shp[q]? = some (1, 0, n)) (hd : decode y.2.1 pc = .ok (.iastore, 1)) (kk : vp_in i n ∧ Go y d (pc + 1) ls st (setA σ q (ix i) x) Q) : Go y d pc ls (.int x :: .int i :: .ref q :: st) σ Q := by
  intro l G p e s m args below meth c H locs lsA R hH hS hL
  refine va_iast R.1 R.2.1 R.2.2.2.2.2.2.2.1 hH.1 (pm_D R.2.2.2.2.2.2.2.2.1 σ) hS q 0 (pm_row hs) rfl kk.1 hd (fun H1 locs1 hP1 _ hS1 => ?_)
  rw [pm_setR hs] at hP1
  exact kk.2 l G p e s m args below meth c H1 locs1 lsA R ⟨hP1, hH.2.setR hs (fun h => by cases h)⟩ hS1 hL
/-- what a char row, a boolean row keeps of a number -/
abbrev nch (x : Int32) : Int32 := vp_nar .char x
abbrev nbo (x : Int32) : Int32 := vp_nar .boolean x
theorem Go.cast {q n : Nat} {i x : Int32} (hs : shp[q]? = some (1, 2, n)) (hd : decode y.2.1 pc = .ok (.castore, 1)) (kk : vp_in i n ∧ Go y d (pc + 1) ls st (setA σ q (ix i) (nch x)) Q) : Go y d pc ls (.int x :: .int i :: .ref q :: st) σ Q := by
  intro l G p e s m args below meth c H locs lsA R hH hS hL
  refine va_cast R.1 R.2.1 R.2.2.2.2.2.2.2.1 hH.1 (pm_D R.2.2.2.2.2.2.2.2.1 σ) hS q 2 (pm_row hs) rfl kk.1 hd (fun H1 locs1 hP1 _ hS1 => ?_)
  rw [pm_setR hs] at hP1
  exact kk.2 l G p e s m args below meth c H1 locs1 lsA R ⟨hP1, hH.2.setR hs (fun h => by cases h)⟩ hS1 hL
theorem nbo_fit (x : Int32) : fits .boolean (.int (nbo x)) = true := by
  show (x &&& 1 == 0 || x &&& 1 == 1) = true
  have h : x &&& 1 = 0 ∨ x &&& 1 = 1 := by
    obtain ⟨j, hj, e⟩ := pk_andE x (m := 1) 1 (by decide)
    rw [e]
    rcases (show j = 0 ∨ j = 1 by omega) with rfl | rfl
    · left; rfl
    · right; rfl
  rcases h with h | h <;> rw [h] <;> rfl
theorem Go.zast {q n : Nat} {i x : Int32} (hs : shp[q]? = some (1, 1, n)) (hd : decode y.2.1 pc = .ok (.bastore, 1)) (kk : vp_in i n ∧ Go y d (pc + 1) ls st (setA σ q (ix i) (nbo x)) Q) : Go y d pc ls (.int x :: .int i :: .ref q :: st) σ Q := by
  intro l G p e s m args below meth c H locs lsA R hH hS hL
  refine va_zast R.1 R.2.1 R.2.2.2.2.2.2.2.1 hH.1 (pm_D R.2.2.2.2.2.2.2.2.1 σ) hS q 1 (pm_row hs) rfl kk.1 hd (fun H1 locs1 hP1 _ hS1 => ?_)
  rw [pm_setR hs] at hP1
  refine kk.2 l G p e s m args below meth c H1 locs1 lsA R ⟨hP1, hH.2.setR hs (fun _ j => ?_)⟩ hS1 hL
  unfold upd
  by_cases h : j = ix i
  · rw [if_pos h]; exact nbo_fit x
  · rw [if_neg h]; exact hH.2 q n hs j
theorem Go.alen {q t n : Nat} {v : Int32} (hs : shp[q]? = some (1, t, n)) (ht : t < 3) (hv : Int32.ofNat n = v) (hd : decode y.2.1 pc = .ok (.arraylength, 1)) (kk : Go y d (pc + 1) ls (.int v :: st) σ Q) : Go y d pc ls (.ref q :: st) σ Q := by
  intro l G p e s m args below meth c H locs lsA R hH hS hL
  have h := kk l G p e s m args below meth c H locs lsA R hH hS hL
  match t, ht with
  | 0, _ => exact va_alen R.1 R.2.1 R.2.2.2.2.2.2.2.1 hH.1 q 0 (pm_row hs) (ty := .int) rfl hv hd h
  | 1, _ => exact va_alen R.1 R.2.1 R.2.2.2.2.2.2.2.1 hH.1 q 1 (pm_row hs) (ty := .boolean) rfl hv hd h
  | 2, _ => exact va_alen R.1 R.2.1 R.2.2.2.2.2.2.2.1 hH.1 q 2 (pm_row hs) (ty := .char) rfl hv hd h
theorem Go.alenL {v : Int32} (hv : Int32.ofNat 44 = v) (hd : decode y.2.1 pc = .ok (.arraylength, 1)) (kk : Go y d (pc + 1) ls (.int v :: st) σ Q) : Go y d pc ls (.ref 61 :: st) σ Q := by
  intro l G p e s m args below meth c H locs lsA R hH hS hL
  exact va_alen R.1 R.2.1 R.2.2.2.2.2.2.2.1 hH.1 61 3 (pm_get (by decide)) (ty := .long) rfl hv hd (kk l G p e s m args below meth c H locs lsA R hH hS hL)
theorem Go.alenP {v : Int32} (hv : Int32.ofNat 4 = v) (hd : decode y.2.1 pc = .ok (.arraylength, 1)) (kk : Go y d (pc + 1) ls (.int v :: st) σ Q) : Go y d pc ls (.ref 19 :: st) σ Q := by
  intro l G p e s m args below meth c H locs lsA R hH hS hL
  exact va_alen R.1 R.2.1 R.2.2.2.2.2.2.2.1 hH.1 19 4 (pm_get (by decide)) (ty := .object "EchoTurns$Scene") rfl hv hd (kk l G p e s m args below meth c H locs lsA R hH hS hL)
theorem Go.lald {i : Int32} (hd : decode y.2.1 pc = .ok (.laload, 1)) (kk : vp_in i 44 ∧ Go y d (pc + 1) ls (.long (sL σ (ix i)) :: st) σ Q) : Go y d pc ls (.int i :: .ref 61 :: st) σ Q := by
  intro l G p e s m args below meth c H locs lsA R hH hS hL
  exact va_lald R.1 R.2.1 R.2.2.2.2.2.2.2.1 hH.1 61 3 (pm_get (by decide)) rfl kk.1 hd (kk.2 l G p e s m args below meth c H locs lsA R hH hS hL)
theorem Go.last {i : Int32} {x : Int64} (hd : decode y.2.1 pc = .ok (.lastore, 1)) (kk : vp_in i 44 ∧ Go y d (pc + 1) ls st (setL σ (ix i) x) Q) : Go y d pc ls (.long x :: .int i :: .ref 61 :: st) σ Q := by
  intro l G p e s m args below meth c H locs lsA R hH hS hL
  refine va_last R.1 R.2.1 R.2.2.2.2.2.2.2.1 hH.1 (pm_D R.2.2.2.2.2.2.2.2.1 σ) hS 61 3 (pm_get (by decide)) rfl kk.1 hd (fun H1 locs1 hP1 _ hS1 => ?_)
  have hP1 : va_P G.1 vwCl ((pm_W G σ).set 61 (G.2.2 61, .inl (G.2.1 3, 44, .inr (.inl (vp_updL (sL σ) (ix i) x))))) H1 := hP1
  rw [pm_setL] at hP1
  exact kk.2 l G p e s m args below meth c H1 locs1 lsA R ⟨hP1, hH.2⟩ hS1 hL
theorem Go.aald {i : Int32} (hd : decode y.2.1 pc = .ok (.aaload, 1)) (kk : vp_in i 4 ∧ Go y d (pc + 1) ls (.ref (sP σ (ix i)) :: st) σ Q) : Go y d pc ls (.int i :: .ref 19 :: st) σ Q := by
  intro l G p e s m args below meth c H locs lsA R hH hS hL
  exact va_aldq R.1 R.2.1 R.2.2.2.2.2.2.2.1 hH.1 19 4 (pm_get (by decide)) rfl kk.1 hd (kk.2 l G p e s m args below meth c H locs lsA R hH hS hL)
theorem Go.aast {i : Int32} {v : Nat} (hv : shp[v]? = some (0, 3, 9)) (hd : decode y.2.1 pc = .ok (.aastore, 1)) (kk : vp_in i 4 ∧ Go y d (pc + 1) ls st (setP σ (ix i) v) Q) : Go y d pc ls (.ref v :: .int i :: .ref 19 :: st) σ Q := by
  intro l G p e s m args below meth c H locs lsA R hH hS hL
  refine va_astq R.1 R.2.1 R.2.2.2.2.2.2.2.1 hH.1 (pm_D R.2.2.2.2.2.2.2.2.1 σ) hS 19 4 v 3 (pm_get (by decide)) (r := (RX3, TX3, 9)) rfl (pm_obj hv) rfl kk.1 hd (fun H1 locs1 hP1 _ hS1 => ?_)
  have hP1 : va_P G.1 vwCl ((pm_W G σ).set 19 (G.2.2 19, .inl (G.2.1 4, 4, .inr (.inr (.inr (.inr (va_up (fun j => some (G.2.2 (sP σ j))) (ix i) (some (G.2.2 v))))))))) H1 := hP1
  rw [pm_setP] at hP1
  exact kk.2 l G p e s m args below meth c H1 locs1 lsA R ⟨hP1, hH.2⟩ hS1 hL
theorem Go.lconst {n : Fin 2} {v : Int64} (hd : decode y.2.1 pc = .ok (.lconst n, 1)) (hv : Int64.ofNat (n : Nat) = v) (k : Go y d (pc + 1) ls (.long v :: st) σ Q) : Go y d pc ls st σ Q :=
  fun l G p e s m args below meth c H locs lsA R hH hS hL => lv_lconst R.1 R.2.1 hd hv (k l G p e s m args below meth c H locs lsA R hH hS hL)
theorem Go.lshl {x v : Int64} {i : Int32} (hd : decode y.2.1 pc = .ok (.lshl, 1)) (hv : x <<< (i.toInt64 &&& 63) = v) (k : Go y d (pc + 1) ls (.long v :: st) σ Q) : Go y d pc ls (.int i :: .long x :: st) σ Q :=
  fun l G p e s m args below meth c H locs lsA R hH hS hL => lv_lshl R.1 R.2.1 hd hv (k l G p e s m args below meth c H locs lsA R hH hS hL)
theorem Go.lshr {x v : Int64} {i : Int32} (hd : decode y.2.1 pc = .ok (.lshr, 1)) (hv : x >>> (i.toInt64 &&& 63) = v) (k : Go y d (pc + 1) ls (.long v :: st) σ Q) : Go y d pc ls (.int i :: .long x :: st) σ Q :=
  fun l G p e s m args below meth c H locs lsA R hH hS hL => lv_lshr R.1 R.2.1 hd hv (k l G p e s m args below meth c H locs lsA R hH hS hL)
theorem Go.lor {a b : Int64} (hd : decode y.2.1 pc = .ok (.lor, 1)) (k : Go y d (pc + 1) ls (.long (a ||| b) :: st) σ Q) : Go y d pc ls (.long b :: .long a :: st) σ Q :=
  fun l G p e s m args below meth c H locs lsA R hH hS hL => lv_lor R.1 R.2.1 hd (k l G p e s m args below meth c H locs lsA R hH hS hL)
theorem Go.land {a b : Int64} (hd : decode y.2.1 pc = .ok (.land, 1)) (k : Go y d (pc + 1) ls (.long (a &&& b) :: st) σ Q) : Go y d pc ls (.long b :: .long a :: st) σ Q :=
  fun l G p e s m args below meth c H locs lsA R hH hS hL => lv_land R.1 R.2.1 hd (k l G p e s m args below meth c H locs lsA R hH hS hL)
theorem Go.lcmp {a b : Int64} (hd : decode y.2.1 pc = .ok (.lcmp, 1)) (k : Go y d (pc + 1) ls (.int (lg_cmp a b) :: st) σ Q) : Go y d pc ls (.long b :: .long a :: st) σ Q :=
  fun l G p e s m args below meth c H locs lsA R hH hS hL => W.lcmp R.1 R.2.1 hd (k l G p e s m args below meth c H locs lsA R hH hS hL)
theorem Go.iret {v : Int32} (hr : y.2.2.2 = some .int) (hd : decode y.2.1 pc = .ok (.ireturn, 1)) (k : Q (some (.int v)) σ) : Go y d pc ls [.int v] σ Q := by
  intro l G p e s m args below meth c H locs lsA R hH hS hL
  have hlocks := R.2.2.2.2.2.2.1
  exact W.iret R.1 R.2.1 (R.2.2.1.trans hr) (fun t ht _ => ⟨⟨some (.int v), σ, rfl, k, by rw [ht]; exact hH⟩, hS.F ht⟩) hS.2.2 hd
theorem Go.zret {v : Int32} {ty : FieldType} (hr : y.2.2.2 = some ty) (hn : narrow ty (.int v) = .int v) (hd : decode y.2.1 pc = .ok (.ireturn, 1)) (k : Q (some (.int v)) σ) : Go y d pc ls [.int v] σ Q := by
  intro l G p e s m args below meth c H locs lsA R hH hS hL
  have hlocks := R.2.2.2.2.2.2.1
  exact W.zret R.1 R.2.1 (R.2.2.1.trans hr) hn (fun t ht _ => ⟨⟨some (.int v), σ, rfl, k, by rw [ht]; exact hH⟩, hS.F ht⟩) hS.2.2 hd
theorem Go.vret (hr : y.2.2.2 = none) (hd : decode y.2.1 pc = .ok (.return_, 1)) (k : Q none σ) : Go y d pc ls [] σ Q := by
  intro l G p e s m args below meth c H locs lsA R hH hS hL
  have hlocks := R.2.2.2.2.2.2.1
  exact W.vret R.1 R.2.1 (R.2.2.1.trans hr) (fun t ht _ => ⟨⟨none, σ, rfl, k, by rw [ht]; exact hH⟩, hS.F ht⟩) hS.2.2 hd
end HEAP
end
section
/-! calls, switches, copies, entries -/
theorem wsAll : ∀ w ∈ tbg, (w.onTables && w.keeps) = true ∨ ∃ ty, w = .arrayClass ty := fun _ hw => good_of_word (List.mem_filter.mp hw).2
def mOKV (y : MI) (ci n : Nat) : Prop := Cond.instanceMethod y.1 ∈ tbg ∧ Cond.selects y.1.cls y.1 y.1 ∈ tbg ∧ Cond.initialized y.1.cls ∈ tbg ∧ Cond.code y.1 y.2.1 y.2.2.1 y.2.2.2 ∈ tbg ∧ (∃ q, vwCl[ci]? = some q ∧ q.1 = y.1.cls) ∧ (y.1.cls ≠ "java/lang/invoke/MethodHandle" ∧ y.1.cls ≠ "java/lang/invoke/VarHandle") ∧ (parseMethodDescriptor y.1.desc).map (fun d => d.parameters.length) = some n ∧ y.2.2.1 ≤ 12
def mOKS (y : MI) (n : Nat) : Prop := Cond.static y.1 ∈ tbg ∧ Cond.initialized y.1.cls ∈ tbg ∧ Cond.code y.1 y.2.1 y.2.2.1 y.2.2.2 ∈ tbg ∧ (y.1.cls ≠ "java/lang/invoke/MethodHandle" ∧ y.1.cls ≠ "java/lang/invoke/VarHandle") ∧ (parseMethodDescriptor y.1.desc).map (fun d => d.parameters.length) = some n ∧ y.2.2.1 ≤ 12
theorem pm_blind (G : GC) (as : List Value) (σ : St) : FrameBlind (pm_P G as σ) := by
  intro a U g mk ⟨h1, h2, h3, h4, h5⟩
  exact ⟨h1, h2, va_K.moved (u := U) (U := U.calling g mk a) (Vm.Alike.refl U.vm) h3, h4, fun q hq => va_Nw.same rfl rfl (h5 q hq)⟩
theorem pm_words {y : MI} {args : Array Value} {s : State} (hts : ∀ w ∈ tbg, w.before args s = true) (hc : Cond.code y.1 y.2.1 y.2.2.1 y.2.2.2 ∈ tbg) : ∀ w ∈ wsz y, ∀ (a' : Array Value) (U : State), s.WarmedH U.vm → w.before a' U = true := by
  intro w hw a' U hW
  have hm : w ∈ tbg := by
    rcases List.mem_cons.mp hw with rfl | h
    · exact hc
    · exact h
  exact word_at hW (wsAll w hm) (hts w hm)
theorem lenOK {desc : String} {n : Nat} (h : (parseMethodDescriptor desc).map (fun d => d.parameters.length) = some n) : ∀ sig, parseMethodDescriptor desc = some sig → n = sig.parameters.length := by
  intro sig hs
  rw [hs] at h
  exact (Option.some.inj h).symm
theorem rm_le {m d : Nat} (h : m ≤ 12) : (rmz d).frames + 1 ≤ (rmz (d + 1)).frames ∧ 8 + (m + 11) + (rmz d).locals ≤ (rmz (d + 1)).locals := by
  refine ⟨Nat.le_refl _, ?_⟩
  show 8 + (m + 11) + 31 * d ≤ 31 * (d + 1)
  omega
section CALLS
variable {y y2 : MI} {d pc idx : Nat} {ls st : List Value} {σ : St} {Q Q2 : Option Value → St → Prop}
/-- behind a call -/
theorem pm_back {l : Launch} {G : GC} {p : Program} {e : Env} {s : State} {m : MethodId} {args : Array Value} {below : List Frame} {meth : Method} {c : Code} {H : Heap} {locs : List Loc} {lsA : Array Slot} {st0 : List Value} {a2 : Array Value}
    (hr : va_Run p l e (rmz (d + 1)) s m args below meth c H locs 0 0 0 0 (F0 m pc lsA st0) (st.map (ptr G.2.2)) (pm_Q G Q2 a2) (pm_A G))
    (R : pm_run y G p s m args meth c) (hS : va_S (pm_A G) s.heap H locs) (hL : pm_L G.2.2 lsA y.2.2.1 ls)
    (hk : ∀ r σ', Q2 r σ' → Go y (d + 1) (pc + 3) ls (r.toList ++ st) σ' Q) :
    W p l e (rmz (d + 1)) s m args below meth c H locs 0 0 (MQ below (pm_Q G Q) args s 0 0 (pm_A G)) (F0 m pc lsA st0) := by
  intro T hT X
  obtain ⟨v, st₀, t, T', L, h0, X', hLc, e1, e2, ⟨⟨r, σ', ho, hq, hH'⟩, hz, hkp⟩, stp⟩ := hr T hT X
  rw [h0] at hz hkp
  have hv : v = r.map (ptr G.2.2) := Outcome.returned.inj ho
  subst hv
  have hS1 : va_S (pm_A G) s.heap T'.heap (locs ++ L) := by
    refine ⟨Nat.le_trans hS.1 (by rw [e1]; exact hz), fun q h1 h2 => ?_, fun q hq => ?_⟩
    · rw [e1, hkp q (Nat.lt_of_lt_of_le h1 hS.1) h2]; exact hS.2.1 q h1 h2
    · rcases List.mem_append.mp hq with h | h
      · exact hS.2.2 q h
      · exact hLc q h
  have key := hk r σ' hq l G p e s m args below meth c T'.heap (locs ++ L) lsA R (by rw [e1]; exact hH') hS1 hL
  have hst : (r.toList ++ st).map (ptr G.2.2) = (r.map (ptr G.2.2)).toList ++ st.map (ptr G.2.2) := by cases r <;> rfl
  rw [hst] at key
  obtain ⟨t2, a1, b1⟩ := key T' rfl X'
  exact ⟨t2, stp t2 a1, b1⟩
theorem Go.callV {a ci n N : Nat} {as : List Value} {st0 : List Value} (hm : mOKV y2 ci n) (hl : Cond.methodLink y.1.cls idx y2.1 ∈ tbg) (hs : shp[a]? = some (0, ci, N)) (hst : st0 = as.reverse ++ .ref a :: st) (hn : as.length = n) (hw : (st.map fun v => v.category).sum ≤ 8) (hd : decode y.2.1 pc = .ok (.invokevirtual idx, 3))
    (hc : Call d y2 (.ref a :: as) σ Q2) (hk : ∀ r σ', Q2 r σ' → Go y (d + 1) (pc + 3) ls (r.toList ++ st) σ' Q) : Go y (d + 1) pc ls st0 σ Q := by
  subst hst
  intro l G p e s m args below meth c H locs lsA R hH hS hL
  obtain ⟨hx, hb, hret, hml, hown, hts, hlocks, hK, hinj, hN⟩ := id R
  obtain ⟨m1, m2, m3, m4, ⟨q, hq, hqc⟩, m6, m7, m8⟩ := hm
  have hrv := va_recv hK hH.1 hq (pm_obj hs)
  rw [hqc] at hrv
  have hCW : CallW (rmz (d + 1)) s args y.1.cls y2.1.cls idx y2.1 y2.2.1 y2.2.2.1 y2.2.2.2 (wsz y2) (rmz d) 0 0 n :=
    ⟨⟨rfl, rfl, (rm_le m8).1, (rm_le m8).2, pm_words hts m4, List.mem_cons_self, hts _ m4, hts _ m3, m6, lenOK m7, hts _ hl⟩, hts _ m1, hts _ m2⟩
  have hrun := va_runV (p := p) (l := l) (e := e) (R := rmz (d + 1)) (s := s) (m := m) (args := args) (below := below) (meth := meth) (c := c) (H := H) (locs := locs) (cells := 0) (slots := 0) (b := G.2.2 a) (As := as.map (ptr G.2.2)) (rest := st.map (ptr G.2.2)) (g := F0 m pc lsA ((as.reverse ++ .ref a :: st).map (ptr G.2.2)))
    ⟨hx, hb, hml, hown, hts⟩ (hc l G) hCW ⟨pm_blind G _ σ, hrv, fun U hU hW => ⟨rfl, by rw [hU]; exact hH, va_K.moved hW.alike hK, hinj, pm_N.warm hW hN⟩⟩ rfl (by rw [List.length_map]; exact hn) hL.1 (by simp [ptr]) (lv_room (by rw [ptr_cats]; exact hw)) hd ⟨Nat.le_refl _, Nat.le_refl _⟩
  exact pm_back hrun R hS hL hk
theorem Go.callS {n : Nat} {as : List Value} {st0 : List Value} (hm : mOKS y2 n) (hl : Cond.methodLink y.1.cls idx y2.1 ∈ tbg) (hst : st0 = as.reverse ++ st) (hn : as.length = n) (hw : (st.map fun v => v.category).sum ≤ 8) (hd : decode y.2.1 pc = .ok (.invokestatic idx, 3))
    (hc : Call d y2 as σ Q2) (hk : ∀ r σ', Q2 r σ' → Go y (d + 1) (pc + 3) ls (r.toList ++ st) σ' Q) : Go y (d + 1) pc ls st0 σ Q := by
  subst hst
  intro l G p e s m args below meth c H locs lsA R hH hS hL
  obtain ⟨hx, hb, hret, hml, hown, hts, hlocks, hK, hinj, hN⟩ := id R
  obtain ⟨m1, m3, m4, m6, m7, m8⟩ := hm
  have hCB : CallB (rmz (d + 1)) s args y.1.cls idx y2.1 y2.2.1 y2.2.2.1 y2.2.2.2 (wsz y2) (rmz d) 0 0 n ∧ (Cond.static y2.1).before args s = true :=
    ⟨⟨rfl, rfl, (rm_le m8).1, (rm_le m8).2, pm_words hts m4, List.mem_cons_self, hts _ m4, hts _ m3, m6, lenOK m7, hts _ hl⟩, hts _ m1⟩
  have hrun := va_runS (p := p) (l := l) (e := e) (R := rmz (d + 1)) (s := s) (m := m) (args := args) (below := below) (meth := meth) (c := c) (H := H) (locs := locs) (cells := 0) (slots := 0) (As := as.map (ptr G.2.2)) (rest := st.map (ptr G.2.2)) (g := F0 m pc lsA ((as.reverse ++ st).map (ptr G.2.2)))
    ⟨hx, hb, hml, hown, hts⟩ (hc l G) hCB ⟨pm_blind G _ σ, fun U hU hW => ⟨rfl, by rw [hU]; exact hH, va_K.moved hW.alike hK, hinj, pm_N.warm hW hN⟩⟩ rfl (by rw [List.length_map]; exact hn) hL.1 (by simp) (lv_room (by rw [ptr_cats]; exact hw)) hd ⟨Nat.le_refl _, Nat.le_refl _⟩
  exact pm_back hrun R hS hL hk
theorem Go.callSN {n : Nat} {host : String} {as : List Value} {st0 : List Value} (hm : mOKS y2 n) (hl : (y.1.cls, idx, y2.1, host) ∈ pmN) (hst : st0 = as.reverse ++ st) (hn : as.length = n) (hw : (st.map fun v => v.category).sum ≤ 8) (hd : decode y.2.1 pc = .ok (.invokestatic idx, 3))
    (hc : Call d y2 as σ Q2) (hk : ∀ r σ', Q2 r σ' → Go y (d + 1) (pc + 3) ls (r.toList ++ st) σ' Q) : Go y (d + 1) pc ls st0 σ Q := by
  subst hst
  intro l G p e s m args below meth c H locs lsA R hH hS hL
  obtain ⟨hx, hb, hret, hml, hown, hts, hlocks, hK, hinj, hN⟩ := id R
  obtain ⟨m1, m3, m4, m6, m7, m8⟩ := hm
  have hCB : va_CN (rmz (d + 1)) s args y.1.cls idx y2.1 host y2.2.1 y2.2.2.1 y2.2.2.2 (wsz y2) (rmz d) 0 0 n ∧ (Cond.static y2.1).before args s = true ∧ True :=
    ⟨⟨⟨rfl, rfl, (rm_le m8).1, (rm_le m8).2, pm_words hts m4, List.mem_cons_self⟩, hts _ m4, hts _ m3, m6, lenOK m7, va_Nw.use rfl (hN _ hl)⟩, hts _ m1, trivial⟩
  have hrun := va_runSN (p := p) (l := l) (e := e) (R := rmz (d + 1)) (s := s) (m := m) (args := args) (below := below) (meth := meth) (c := c) (H := H) (locs := locs) (cells := 0) (slots := 0) (As := as.map (ptr G.2.2)) (rest := st.map (ptr G.2.2)) (g := F0 m pc lsA ((as.reverse ++ st).map (ptr G.2.2)))
    ⟨hx, hb, hml, hown, hts⟩ (hc l G) hCB ⟨pm_blind G _ σ, fun U hU hW => ⟨rfl, by rw [hU]; exact hH, va_K.moved hW.alike hK, hinj, pm_N.warm hW hN⟩⟩ rfl (by rw [List.length_map]; exact hn) hL.1 (by simp) (lv_room (by rw [ptr_cats]; exact hw)) hd ⟨Nat.le_refl _, Nat.le_refl _⟩
  exact pm_back hrun R hS hL hk
end CALLS
theorem flatMap_len (ad : Nat → Nat) (as : List Value) : (as.flatMap (fun v => if v.category = 2 then [v, Value.null] else [v])).length = (lg_sl (as.map (ptr ad))).length := by
  induction as with
  | nil => rfl
  | cons v vs ih =>
    have e1 : lg_sl ((v :: vs).map (ptr ad)) = (if (ptr ad v).category = 2 then [Slot.val (ptr ad v), Slot.second] else [Slot.val (ptr ad v)]) ++ lg_sl (vs.map (ptr ad)) := rfl
    rw [e1, List.flatMap_cons, List.length_append, List.length_append, ih, ptr_cat]
    by_cases h : v.category = 2 <;> simp [h]
theorem ent_at1 (ad : Nat → Nat) (as : List Value) : ∀ (i : Nat) (v : Value), (as.flatMap (fun v => if v.category = 2 then [v, Value.null] else [v]))[i]? = some v → v ≠ .null → (lg_sl (as.map (ptr ad)))[i]? = some (.val (ptr ad v)) := by
  induction as with
  | nil => intro i v h; simp at h
  | cons w ws ih =>
    intro i v h hn
    have e1 : lg_sl ((w :: ws).map (ptr ad)) = (if (ptr ad w).category = 2 then [Slot.val (ptr ad w), Slot.second] else [Slot.val (ptr ad w)]) ++ lg_sl (ws.map (ptr ad)) := rfl
    rw [e1, ptr_cat]
    rw [List.flatMap_cons] at h
    by_cases hc : w.category = 2
    · rw [if_pos hc] at h ⊢
      match i, h with
      | 0, h => simp at h; subst h; rfl
      | 1, h => simp at h; exact absurd h.symm hn
      | j + 2, h => exact ih j v (by simpa using h) hn
    · rw [if_neg hc] at h ⊢
      match i, h with
      | 0, h => simp at h; subst h; rfl
      | j + 1, h => exact ih j v (by simpa using h) hn
theorem Call_of_Go {y : MI} {d : Nat} {as ls : List Value} {σ : St} {Q : Option Value → St → Prop} (hy : plainName y.1.cls = true) (hls : ent as y.2.2.1 = ls) (hlen : (as.flatMap (fun v => if v.category = 2 then [v, Value.null] else [v])).length ≤ y.2.2.1) (h : Go y d 0 ls [] σ Q) : Call d y as σ Q := by
  intro l G
  refine Met.ofW (cc := y.2.1) (maxL := y.2.2.1) (ret := y.2.2.2) hy rfl ?_
  intro p e s m args below meth c s₁ B hml hv
  obtain ⟨rfl, hH, hK, hinj, hN⟩ := hv
  have hts := atoms_spec (ws := wsz y) B.pre
  have hown : s.vm.findClass y.1.cls = some m.cls := findClass_of_methodNamed B.named
  rw [lg_entry_eq]
  have hlen2 : (lg_sl (as.map (ptr G.2.2))).length ≤ y.2.2.1 := by rw [← flatMap_len]; exact hlen
  have hl := lv_entry (as.map (ptr G.2.2)) (n := y.2.2.1) hlen2
  refine h l G p e s m _ below meth c s.heap [] _ ⟨B.exec, B.bytes, B.returns, hml, hown, fun w hw => hts w (List.mem_cons_of_mem _ hw), B.notSynchronized, hK, hinj, hN⟩ hH va_S.rf ⟨hl.1, hl.2.1, ?_, ?_⟩
  · rw [← hls]
    unfold ent
    rw [List.length_append, List.length_replicate]
    omega
  · intro i v hi hn
    rw [← hls] at hi
    unfold ent at hi
    rw [List.getElem?_toArray]
    rcases Nat.lt_or_ge i (as.flatMap (fun v : Value => if v.category = 2 then [v, Value.null] else [v])).length with hlt | hge
    · rw [List.getElem?_append_left hlt] at hi
      rw [List.getElem?_append_left (by rw [← flatMap_len]; exact hlt)]
      exact ent_at1 G.2.2 as i v hi hn
    · rw [List.getElem?_append_right hge] at hi
      exact absurd (List.eq_of_mem_replicate (List.mem_of_getElem? hi)) hn
/-- less is known of the locals -/
theorem Go.weak {y : MI} {d pc : Nat} {ls ls' st : List Value} {σ : St} {Q : Option Value → St → Prop} (hlen : ls'.length = ls.length) (h : ∀ (i : Nat) (v : Value), ls'[i]? = some v → v ≠ .null → ls[i]? = some v) (k : Go y d pc ls' st σ Q) : Go y d pc ls st σ Q :=
  fun l G p e s m args below meth c H locs lsA R hH hS hL => k l G p e s m args below meth c H locs lsA R hH hS ⟨hL.1, hL.2.1, hlen.trans hL.2.2.1, fun i v hi hn => hL.2.2.2 i v (h i v hi hn) hn⟩
/-- forget places of the locals -/
theorem Go.drop {y : MI} {d pc : Nat} {ls ls' st : List Value} {σ : St} {Q : Option Value → St → Prop} (j : Nat) (h : ls.set j .null = ls') (k : Go y d pc ls' st σ Q) : Go y d pc ls st σ Q := by
  subst h
  refine Go.weak (by simp) (fun i v hi hn => ?_) k
  rcases Nat.decEq i j with hne | rfl
  · rw [List.getElem?_set_ne (fun z => hne z.symm)] at hi
    exact hi
  · rw [List.getElem?_set] at hi
    split at hi
    · split at hi
      · cases hi; exact absurd rfl hn
      · cases hi
    · exact hi
def casesG (x : Int32) (cs : List (Int32 × Nat)) (dt : Nat) (P : Nat → Prop) : Prop := match cs with
  | [] => P dt
  | (v, t) :: r => (x = v → P t) ∧ (¬ x = v → casesG x r dt P)
theorem casesG_hit {x : Int32} {dt t : Nat} {P : Nat → Prop} : ∀ (cs : List (Int32 × Nat)) (j : Nat), cs[j]? = some (x, t) → (∀ (i : Nat) (q : Int32 × Nat), i < j → cs[i]? = some q → ¬ x = q.1) → casesG x cs dt P → P t := by
  intro cs
  induction cs with
  | nil => intro j h; simp at h
  | cons q r ih =>
    intro j h hn k
    obtain ⟨v, t0⟩ := q
    match j, h with
    | 0, h => simp at h; obtain ⟨rfl, rfl⟩ := h; exact k.1 rfl
    | j + 1, h => exact ih j (by simpa using h) (fun i q hi hq => hn (i + 1) q (by omega) (by simpa using hq)) (k.2 (hn 0 (v, t0) (by omega) rfl))
theorem casesG_out {x : Int32} {dt : Nat} {P : Nat → Prop} : ∀ (cs : List (Int32 × Nat)), (∀ q ∈ cs, ¬ x = q.1) → casesG x cs dt P → P dt := by
  intro cs
  induction cs with
  | nil => intro _ k; exact k
  | cons q r ih =>
    intro hn k
    exact ih (fun q hq => hn q (List.mem_cons_of_mem _ hq)) (k.2 (hn q List.mem_cons_self))
def tswOK (pc : Nat) (dflt lo hi : Int) (offs : Array Int) (cs : List (Int32 × Nat)) (dt : Nat) : Bool :=
  decide ((pc : Int) + dflt = (dt : Int)) && decide (hi - lo + 1 = (cs.length : Int)) && decide (offs.size = cs.length) &&
  (List.range cs.length).all (fun j => match cs[j]?, offs[j]? with
    | some (v, t), some off => decide (v.toInt = lo + (j : Int)) && decide ((pc : Int) + off = (t : Int))
    | _, _ => false)
theorem Go.tsw {y : MI} {d pc : Nat} {ls st : List Value} {σ : St} {Q : Option Value → St → Prop} {x : Int32} {dflt lo hi : Int} {offs : Array Int} {len : Nat} (cs : List (Int32 × Nat)) (dt : Nat) (hd : decode y.2.1 pc = .ok (.tableswitch dflt lo hi offs, len)) (hok : tswOK pc dflt lo hi offs cs dt = true) (k : casesG x cs dt (fun t => Go y d t ls st σ Q)) : Go y d pc ls (.int x :: st) σ Q := by
  intro l G p e s m args below meth c H locs lsA R hH hS hL
  unfold tswOK at hok
  simp only [Bool.and_eq_true, decide_eq_true_eq] at hok
  obtain ⟨⟨⟨h1, h2⟩, h3⟩, h4⟩ := hok
  have hrow : ∀ (j : Nat) (q : Int32 × Nat), cs[j]? = some q → q.1.toInt = lo + (j : Int) ∧ ∃ off, offs[j]? = some off ∧ (pc : Int) + off = (q.2 : Int) := by
    intro j q hq
    have hj : j < cs.length := (List.getElem?_eq_some_iff.mp hq).1
    have h5 := List.all_eq_true.mp h4 j (List.mem_range.mpr hj)
    obtain ⟨off, ho⟩ : ∃ off, offs[j]? = some off := ⟨offs[j]'(by omega), by simp⟩
    rw [hq, ho] at h5
    simp only [Bool.and_eq_true, decide_eq_true_eq] at h5
    exact ⟨h5.1, off, ho, h5.2⟩
  by_cases hout : x.toInt < lo ∨ hi < x.toInt
  · refine lv_tableOut R.1 R.2.1 hd hout h1 ?_
    refine (casesG_out (P := fun t => Go y d t ls st σ Q) cs (fun q hq hx => ?_) k) l G p e s m args below meth c H locs lsA R hH hS hL
    obtain ⟨j, hj⟩ := List.getElem?_of_mem hq
    have h6 := (hrow j q hj).1
    have hjl : j < cs.length := (List.getElem?_eq_some_iff.mp hj).1
    rw [← hx] at h6
    omega
  · have hx1 : ¬ x.toInt < lo := fun h => hout (Or.inl h)
    have hx2 : ¬ hi < x.toInt := fun h => hout (Or.inr h)
    obtain ⟨j, hj⟩ : ∃ j : Nat, x.toInt = lo + (j : Int) := ⟨(x.toInt - lo).toNat, by omega⟩
    have hjl : j < cs.length := by omega
    obtain ⟨q, hq⟩ : ∃ q, cs[j]? = some q := ⟨cs[j], by simp [hjl]⟩
    obtain ⟨h6, off, ho, ht⟩ := hrow j q hq
    have hxq : x = q.1 := Int32.toInt_inj.mp (by omega)
    refine lv_tableIn R.1 R.2.1 hd hx1 hx2 (off := off) (tgt := q.2) (by rw [hj, show (lo + (j : Int) - lo).toNat = j by omega]; exact ho) ht ?_
    refine (casesG_hit (P := fun t => Go y d t ls st σ Q) (t := q.2) cs j (by rw [hq, hxq]) (fun i q2 hi hq2 hx3 => ?_) k) l G p e s m args below meth c H locs lsA R hH hS hL
    have h7 := (hrow i q2 hq2).1
    rw [← hx3] at h7
    omega
theorem Go.lsw {y : MI} {d pc : Nat} {ls st : List Value} {σ : St} {Q : Option Value → St → Prop} {x : Int32} {dflt : Int} {ps : Array (Int × Int)} {len : Nat} (cs : List (Int32 × Nat)) (dt : Nat) (hd : decode y.2.1 pc = .ok (.lookupswitch dflt ps, len)) (hp : (ps.toList.zip (ps.toList.drop 1)).all (fun (a, next) => a.1 < next.1) = true) (hdt : (pc : Int) + dflt = (dt : Int)) (hok : ps.toList = cs.map (fun q => (q.1.toInt, (q.2 : Int) - (pc : Int)))) (k : casesG x cs dt (fun t => Go y d t ls st σ Q)) : Go y d pc ls (.int x :: st) σ Q := by
  intro l G p e s m args below meth c H locs lsA R hH hS hL
  have key : ∀ (cs : List (Int32 × Nat)), casesG x cs dt (fun t => Go y d t ls st σ Q) → ∃ t : Nat, Op.lookupswitch.offset (cs.map (fun q => (q.1.toInt, (q.2 : Int) - (pc : Int)))) dflt x.toInt = (t : Int) - (pc : Int) ∧ Go y d t ls st σ Q := by
    intro cs
    induction cs with
    | nil => intro k; exact ⟨dt, by rw [List.map_nil, Op.lookupswitch.offset_nil]; omega, k⟩
    | cons q r ih =>
      intro k
      rw [List.map_cons, Op.lookupswitch.offset_cons]
      by_cases h : q.1.toInt = x.toInt
      · rw [if_pos h]
        exact ⟨q.2, rfl, k.1 (Int32.toInt_inj.mp h).symm⟩
      · rw [if_neg h]
        exact ih (k.2 (fun z => h (by rw [z])))
  obtain ⟨t, h1, h2⟩ := key cs k
  refine lv_lookup R.1 R.2.1 hd hp (off := (t : Int) - (pc : Int)) (tgt := t) (by rw [hok]; exact h1) (by omega) ?_
  exact h2 l G p e s m args below meth c H locs lsA R hH hS hL
theorem vp_in_lt {i : Int32} {n : Nat} (h : vp_in i n) : ix i < n := Nat.not_le.mp fun q => h (Or.inr q)
theorem Go.acopy {y : MI} {d pc idx : Nat} {ls st : List Value} {σ : St} {Q : Option Value → St → Prop} {q0 q1 t n0 n1 : Nat} {sp dp n : Int32} (hs0 : shp[q0]? = some (1, t, n0)) (hs1 : shp[q1]? = some (1, t, n1)) (ht : t < 2) (hl : Cond.methodLink y.1.cls idx arraycopyName ∈ tbg) (hnat : Cond.native arraycopyName ∈ tbg) (hstat : Cond.static arraycopyName ∈ tbg) (hini : Cond.initialized "java/lang/System" ∈ tbg)
    (h1 : ¬ sp < 0) (h2 : ¬ dp < 0) (h3 : ¬ n < 0) (h4 : ix sp + ix n ≤ n0) (h5 : ix dp + ix n ≤ n1) (hw : (st.map fun v => v.category).sum ≤ 8) (hd : decode y.2.1 pc = .ok (.invokestatic idx, 3))
    (kk : Go y (d + 1) (pc + 3) ls st (setR σ q1 (va_cpy (sA σ q0) (sA σ q1) (ix sp) (ix dp) (ix n))) Q) : Go y (d + 1) pc ls (.int n :: .int dp :: .ref q1 :: .int sp :: .ref q0 :: st) σ Q := by
  intro l G p e s m args below meth c H locs lsA R hH hS hL
  obtain ⟨hx, hb, hret, hml, hown, hts, hlocks, hK, hinj, hN⟩ := id R
  have hfr : 1 ≤ (rmz (d + 1)).frames := by show 1 ≤ d + 1; omega
  have hlo : ((st.map (ptr G.2.2)).map fun v => v.category).sum + (nativeFrameWords "java/lang/System" "arraycopy" 5 + 11) ≤ (rmz (d + 1)).locals := by
    rw [ptr_cats]
    show _ + (5 + 2 + 11) ≤ 31 * (d + 1)
    omega
  have hz : t = 1 → ∀ j, fits .boolean (.int (sA σ q0 j)) = true := fun h j => by subst h; exact hH.2 q0 n0 hs0 j
  have hz1 : t = 1 → ∀ j, fits .boolean (.int (sA σ q1 j)) = true := fun h j => by subst h; exact hH.2 q1 n1 hs1 j
  have go : ∀ H1 locs1, va_P G.1 vwCl ((pm_W G σ).set q1 (G.2.2 q1, .inl (G.2.1 t, n1, .inl (va_cpy (sA σ q0) (sA σ q1) (ix sp) (ix dp) (ix n))))) H1 → va_S (pm_A G) s.heap H1 locs1 → W p l e (rmz (d + 1)) s m args below meth c H1 locs1 0 0 (MQ below (pm_Q G Q) args s 0 0 (pm_A G)) (F0 m (pc + 3) lsA (st.map (ptr G.2.2))) := by
    intro H1 locs1 hP1 hS1
    rw [pm_setR hs1] at hP1
    refine kk l G p e s m args below meth c H1 locs1 lsA R ⟨hP1, hH.2.setR hs1 (fun h j => ?_)⟩ hS1 hL
    unfold va_cpy
    split
    · exact hz h _
    · exact hz1 h _
  match t, ht with
  | 0, _ => exact va_copyi hx hb (hml.trans hL.1.symm) hown (hts _ hl) (hts _ hnat) (hts _ hstat) (hts _ hini) hK hH.1 (pm_D hinj σ) hS q0 q1 0 0 (pm_row hs0) (pm_row hs1) rfl rfl rfl h1 h2 h3 h4 h5 (fun _ _ => rfl) hfr hlo hd (fun H1 locs1 hP1 _ hS1 => go H1 locs1 hP1 hS1)
  | 1, _ => exact va_copyi hx hb (hml.trans hL.1.symm) hown (hts _ hl) (hts _ hnat) (hts _ hstat) (hts _ hini) hK hH.1 (pm_D hinj σ) hS q0 q1 1 1 (pm_row hs0) (pm_row hs1) rfl rfl rfl h1 h2 h3 h4 h5 (fun _ _ => hz rfl _) hfr hlo hd (fun H1 locs1 hP1 _ hS1 => go H1 locs1 hP1 hS1)
theorem Go.mmax {y : MI} {d pc idx : Nat} {ls st : List Value} {σ : St} {Q : Option Value → St → Prop} {a b : Int32} (hl : Cond.methodLink y.1.cls idx Lib.Math.max.name ∈ tbg) (hstat : Cond.static Lib.Math.max.name ∈ tbg) (hini : Cond.initialized "java/lang/Math" ∈ tbg) (hcode : Cond.code Lib.Math.max.name Lib.Math.max.code 2 (some .int) ∈ tbg) (hw : (st.map fun v => v.category).sum ≤ 8) (hd : decode y.2.1 pc = .ok (.invokestatic idx, 3))
    (kk : Go y (d + 1) (pc + 3) ls (.int (if a < b then b else a) :: st) σ Q) : Go y (d + 1) pc ls (.int b :: .int a :: st) σ Q := by
  intro l G p e s m args below meth c H locs lsA R hH hS hL
  obtain ⟨hx, hb, hret, hml, hown, hts, hlocks, hK, hinj, hN⟩ := id R
  refine va_mmax hx hb (hml.trans hL.1.symm) hown (hts _ hl) (hts _ hstat) (hts _ hini) (hts _ hcode) (by show 1 ≤ d + 1; omega) (by rw [ptr_cats]; show _ + 13 ≤ 31 * (d + 1); omega) (Nat.le_refl _) (Nat.le_refl _) hd ?_
  exact kk l G p e s m args below meth c H locs lsA R hH hS hL
theorem Go.mmin {y : MI} {d pc idx : Nat} {ls st : List Value} {σ : St} {Q : Option Value → St → Prop} {a b : Int32} (hl : Cond.methodLink y.1.cls idx Lib.Math.min.name ∈ tbg) (hstat : Cond.static Lib.Math.min.name ∈ tbg) (hini : Cond.initialized "java/lang/Math" ∈ tbg) (hcode : Cond.code Lib.Math.min.name Lib.Math.min.code 2 (some .int) ∈ tbg) (hw : (st.map fun v => v.category).sum ≤ 8) (hd : decode y.2.1 pc = .ok (.invokestatic idx, 3))
    (kk : Go y (d + 1) (pc + 3) ls (.int (if b < a then b else a) :: st) σ Q) : Go y (d + 1) pc ls (.int b :: .int a :: st) σ Q := by
  intro l G p e s m args below meth c H locs lsA R hH hS hL
  obtain ⟨hx, hb, hret, hml, hown, hts, hlocks, hK, hinj, hN⟩ := id R
  refine va_mmin hx hb (hml.trans hL.1.symm) hown (hts _ hl) (hts _ hstat) (hts _ hini) (hts _ hcode) (by show 1 ≤ d + 1; omega) (by rw [ptr_cats]; show _ + 13 ≤ 31 * (d + 1); omega) (Nat.le_refl _) (Nat.le_refl _) hd ?_
  exact kk l G p e s m args below meth c H locs lsA R hH hS hL
theorem Go.ialdK {y : MI} {d pc : Nat} {ls st : List Value} {σ : St} {Q : Option Value → St → Prop} {q n k : Nat} {i : Int32} (hk : ix i = k) (hin : vp_in i n) (hs : shp[q]? = some (1, 0, n)) (hd : decode y.2.1 pc = .ok (.iaload, 1)) (kk : Go y d (pc + 1) ls (.int (sA σ q k) :: st) σ Q) : Go y d pc ls (.int i :: .ref q :: st) σ Q :=
  Go.iald hs hd ⟨hin, by rw [hk]; exact kk⟩
theorem Go.iastK {y : MI} {d pc : Nat} {ls st : List Value} {σ : St} {Q : Option Value → St → Prop} {q n k : Nat} {i x : Int32} (hk : ix i = k) (hin : vp_in i n) (hs : shp[q]? = some (1, 0, n)) (hd : decode y.2.1 pc = .ok (.iastore, 1)) (kk : Go y d (pc + 1) ls st (setA σ q k x) Q) : Go y d pc ls (.int x :: .int i :: .ref q :: st) σ Q :=
  Go.iast hs hd ⟨hin, by rw [hk]; exact kk⟩
end
section
/-! facts of methods and fields; shapes; numbers -/
theorem wc_max : Cond.code Lib.Math.max.name Lib.Math.max.code 2 (some .int) ∈ tbg := wb_394
theorem wc_min : Cond.code Lib.Math.min.name Lib.Math.min.code 2 (some .int) ∈ tbg := wb_391
theorem wi_Math : Cond.initialized "java/lang/Math" ∈ tbg := wb_32
theorem wi_Sys : Cond.initialized "java/lang/System" ∈ tbg := wb_31
theorem wk_L_7 : Cond.constant RL 7 (32452867) ∈ tbg := wb_559
theorem wk_L_8 : Cond.constant RL 8 (15485863) ∈ tbg := wb_560
theorem wk_L_9 : Cond.constant RL 9 (2147483647) ∈ tbg := wb_564
theorem wl_L_10 : Cond.methodLink RL 10 yL_place ∈ tbg := wb_571
theorem wl_L_102 : Cond.methodLink RL 102 yL_numbers ∈ tbg := wb_666
theorem wl_L_106 : Cond.methodLink RL 106 yX5_fits ∈ tbg := wb_348
theorem wl_L_109 : Cond.methodLink RL 109 yL_distances ∈ tbg := wb_646
theorem wl_L_112 : Cond.methodLink RL 112 yX5_ifTurn ∈ tbg := wb_548
theorem wl_L_16 : Cond.methodLink RL 16 yL_heard ∈ tbg := wb_574
theorem wl_L_20 : Cond.methodLink RL 20 yL_fit ∈ tbg := wb_568
theorem wl_L_24 : Cond.methodLink RL 24 yX5_ghost ∈ tbg := wb_586
theorem wl_L_30 : Cond.methodLink RL 30 yX5_targetOf ∈ tbg := wb_604
theorem wl_L_33 : Cond.methodLink RL 33 yL_told ∈ tbg := wb_577
theorem wl_L_37 : Cond.methodLink RL 37 yX5_count ∈ tbg := wb_448
theorem wl_L_41 : Cond.methodLink RL 41 yX5_echo ∈ tbg := wb_626
theorem wl_L_45 : Cond.methodLink RL 45 yL_isTrue ∈ tbg := wb_580
theorem wl_L_49 : Cond.methodLink RL 49 yX5_told ∈ tbg := wb_649
theorem wl_L_51 : Cond.methodLink RL 51 yX5_truth ∈ tbg := wb_662
theorem wl_L_55 : Cond.methodLink RL 55 yL_low ∈ tbg := wb_561
theorem wl_L_58 : Cond.methodLink RL 58 yX5_alike ∈ tbg := wb_669
theorem wl_L_61 : Cond.methodLink RL 61 yX5_unfold ∈ tbg := wb_685
theorem wl_L_65 : Cond.methodLink RL 65 yL_cell ∈ tbg := wb_556
theorem wl_L_69 : Cond.methodLink RL 69 yX5_ifWall ∈ tbg := wb_552
theorem wl_L_72 : Cond.methodLink RL 72 yX5_target ∈ tbg := wb_230
theorem wl_L_76 : Cond.methodLink RL 76 yX5_drop ∈ tbg := wb_284
theorem wl_L_79 : Cond.methodLink RL 79 yX5_go ∈ tbg := wb_305
theorem wl_L_83 : Cond.methodLink RL 83 yX5_spacings ∈ tbg := wb_314
theorem wl_L_87 : Cond.methodLink RL 87 yX5_set ∈ tbg := wb_336
theorem wl_L_90 : Cond.methodLink RL 90 yL_bodies ∈ tbg := wb_565
theorem wl_L_94 : Cond.methodLink RL 94 yL_targets ∈ tbg := wb_583
theorem wl_L_98 : Cond.methodLink RL 98 yL_echoes ∈ tbg := wb_623
theorem wl_X0_102 : Cond.methodLink RX0 102 yX3_isWall ∈ tbg := wb_384
theorem wl_X0_106 : Cond.methodLink RX0 106 yX0_takeGhost ∈ tbg := wb_385
theorem wl_X0_110 : Cond.methodLink RX0 110 Lib.Math.min.name ∈ tbg := wb_389
theorem wl_X0_116 : Cond.methodLink RX0 116 Lib.Math.max.name ∈ tbg := wb_392
theorem wl_X0_122 : Cond.methodLink RX0 122 yX0_sounds ∈ tbg := wb_399
theorem wl_X0_125 : Cond.methodLink RX0 125 yX0_movementOf ∈ tbg := wb_403
theorem wl_X0_126 : Cond.methodLink RX0 126 yX0_isFaint ∈ tbg := wb_411
theorem wl_X0_129 : Cond.methodLink RX0 129 yX0_distanceOf ∈ tbg := wb_429
theorem wl_X0_130 : Cond.methodLink RX0 130 yX0_placeOf ∈ tbg := wb_433
theorem wl_X0_134 : Cond.methodLink RX0 134 yX0_codeOf ∈ tbg := wb_437
theorem wl_X0_137 : Cond.methodLink RX0 137 yX0_has ∈ tbg := wb_407
theorem wl_X0_140 : Cond.methodLink RX0 140 yX0_strengthOf ∈ tbg := wb_415
theorem wl_X0_141 : Cond.methodLink RX0 141 yX0_lesserWall ∈ tbg := wb_621
theorem wl_X0_144 : Cond.methodLink RX0 144 yX0_greaterWall ∈ tbg := wb_622
theorem wl_X0_147 : Cond.methodLink RX0 147 yJ13_bitCount_95d88 ∈ tbg := wb_465
theorem wl_X0_153 : Cond.methodLink RX0 153 yX0_lostTurns ∈ tbg := wb_475
theorem wl_X0_156 : Cond.methodLink RX0 156 yX0_isHeard ∈ tbg := wb_444
theorem wl_X0_160 : Cond.methodLink RX0 160 yX0_isPartOf ∈ tbg := wb_638
theorem wl_X0_164 : Cond.methodLink RX0 164 yX0_fitOf ∈ tbg := wb_491
theorem wl_X0_167 : Cond.methodLink RX0 167 yX0_turnsThatFit ∈ tbg := wb_487
theorem wl_X0_170 : Cond.methodLink RX0 170 yX0_sourcesAt ∈ tbg := wb_500
theorem wl_X0_173 : Cond.methodLink RX0 173 yX0_isToldSource ∈ tbg := wb_496
theorem wl_X0_47 : Cond.methodLink RX0 47 yX3_blindBelow ∈ tbg := wb_360
theorem wl_X0_56 : Cond.methodLink RX0 56 yX3_loudFrom ∈ tbg := wb_364
theorem wl_X0_62 : Cond.methodLink RX0 62 yX0_takeTargets ∈ tbg := wb_368
theorem wl_X0_69 : Cond.methodLink RX0 69 yX0_takeGhosts ∈ tbg := wb_380
theorem wl_X0_72 : Cond.methodLink RX0 72 yX0_takePitches ∈ tbg := wb_395
theorem wl_X0_75 : Cond.methodLink RX0 75 yX3_turnCount ∈ tbg := wb_419
theorem wl_X0_78 : Cond.methodLink RX0 78 yX3_spacingOf ∈ tbg := wb_420
theorem wl_X0_82 : Cond.methodLink RX0 82 yX0_hearTurn ∈ tbg := wb_425
theorem wl_X0_86 : Cond.methodLink RX0 86 yX3_targetCount ∈ tbg := wb_372
theorem wl_X0_89 : Cond.methodLink RX0 89 yX3_distanceOf ∈ tbg := wb_373
theorem wl_X0_92 : Cond.methodLink RX0 92 yX3_strengthOf ∈ tbg := wb_374
theorem wl_X0_95 : Cond.methodLink RX0 95 yX3_movementOf ∈ tbg := wb_375
theorem wl_X0_98 : Cond.methodLink RX0 98 yX0_take ∈ tbg := wb_376
theorem wl_X3_41 : Cond.methodLink RX3 41 arraycopyName ∈ tbg := wb_273
theorem wl_X3_47 : Cond.methodLink RX3 47 yX3_has ∈ tbg := wb_249
theorem wl_X3_51 : Cond.methodLink RX3 51 yX3_hasTurn ∈ tbg := wb_424
theorem wl_X3_54 : Cond.methodLink RX3 54 yX3_isWall ∈ tbg := wb_301
theorem wl_X3_57 : Cond.methodLink RX3 57 yX3_distanceOf ∈ tbg := wb_245
theorem wl_X3_61 : Cond.methodLink RX3 61 yX3_movementOf ∈ tbg := wb_253
theorem wl_X3_64 : Cond.methodLink RX3 64 yX3_put ∈ tbg := wb_280
theorem wl_X3_68 : Cond.methodLink RX3 68 yX3_strengthOf ∈ tbg := wb_297
theorem wl_X3_71 : Cond.methodLink RX3 71 yX3_putAs ∈ tbg := wb_293
theorem wl_X5_102 : Cond.methodLink RX5 102 yX5_isWithin ∈ tbg := wb_238
theorem wl_X5_106 : Cond.methodLink RX5 106 yX3_changeBlind ∈ tbg := wb_340
theorem wl_X5_110 : Cond.methodLink RX5 110 yX3_changeLoud ∈ tbg := wb_344
theorem wl_X5_117 : Cond.methodLink RX5 117 yX1_length ∈ tbg := wb_544
theorem wl_X5_136 : Cond.methodLink RX5 136 yX4_write ∈ tbg := wb_514
theorem wl_X5_139 : Cond.methodLink RX5 139 yX4_length ∈ tbg := wb_540
theorem wl_X5_143 : Cond.methodLink RX5 143 yX3_distanceOf ∈ tbg := wb_608
theorem wl_X5_146 : Cond.methodLink RX5 146 yX3_strengthOf ∈ tbg := wb_609
theorem wl_X5_149 : Cond.methodLink RX5 149 yX3_movementOf ∈ tbg := wb_610
theorem wl_X5_152 : Cond.methodLink RX5 152 yX3_isWall ∈ tbg := wb_611
theorem wl_X5_155 : Cond.methodLink RX5 155 yX5_asNumber ∈ tbg := wb_601
theorem wl_X5_159 : Cond.methodLink RX5 159 yX5_heardOf ∈ tbg := wb_612
theorem wl_X5_163 : Cond.methodLink RX5 163 yX0_listen ∈ tbg := wb_356
theorem wl_X5_166 : Cond.methodLink RX5 166 yX0_ghostCount ∈ tbg := wb_457
theorem wl_X5_169 : Cond.methodLink RX5 169 yX0_distanceOf ∈ tbg := wb_590
theorem wl_X5_170 : Cond.methodLink RX5 170 yX0_strengthOf ∈ tbg := wb_591
theorem wl_X5_171 : Cond.methodLink RX5 171 yX0_lesserWall ∈ tbg := wb_592
theorem wl_X5_174 : Cond.methodLink RX5 174 yX0_greaterWall ∈ tbg := wb_596
theorem wl_X5_177 : Cond.methodLink RX5 177 yX0_isToldSource ∈ tbg := wb_600
theorem wl_X5_180 : Cond.methodLink RX5 180 yX3_hasTurn ∈ tbg := wb_352
theorem wl_X5_183 : Cond.methodLink RX5 183 yX0_findEcho ∈ tbg := wb_630
theorem wl_X5_186 : Cond.methodLink RX5 186 yX0_strengthTogether ∈ tbg := wb_634
theorem wl_X5_190 : Cond.methodLink RX5 190 yX0_sourcesTogether ∈ tbg := wb_642
theorem wl_X5_193 : Cond.methodLink RX5 193 yX0_fitOf ∈ tbg := wb_440
theorem wl_X5_196 : Cond.methodLink RX5 196 yX0_findTold ∈ tbg := wb_653
theorem wl_X5_199 : Cond.methodLink RX5 199 yX0_isTrue ∈ tbg := wb_657
theorem wl_X5_203 : Cond.methodLink RX5 203 yX0_turnsThatFit ∈ tbg := wb_661
theorem wl_X5_206 : Cond.methodLink RX5 206 yX3_spacingOf ∈ tbg := wb_452
theorem wl_X5_209 : Cond.methodLink RX5 209 yX5_firstCommonMultiple ∈ tbg := wb_673
theorem wl_X5_212 : Cond.methodLink RX5 212 yX5_commonMultiple ∈ tbg := wb_679
theorem wl_X5_215 : Cond.methodLink RX5 215 yX5_tryDistances ∈ tbg := wb_689
theorem wl_X5_219 : Cond.methodLink RX5 219 yX5_countHeard ∈ tbg := wb_453
theorem wl_X5_222 : Cond.methodLink RX5 222 yX3_wallCount ∈ tbg := wb_508
theorem wl_X5_225 : Cond.methodLink RX5 225 yX3_blindBelow ∈ tbg := wb_512
theorem wl_X5_228 : Cond.methodLink RX5 228 yX3_loudFrom ∈ tbg := wb_513
theorem wl_X5_231 : Cond.methodLink RX5 231 yX0_toldCount ∈ tbg := wb_483
theorem wl_X5_234 : Cond.methodLink RX5 234 yX0_trueCount ∈ tbg := wb_492
theorem wl_X5_237 : Cond.methodLink RX5 237 yX3_become ∈ tbg := wb_269
theorem wl_X5_240 : Cond.methodLink RX5 240 yX0_missedCount ∈ tbg := wb_504
theorem wl_X5_246 : Cond.methodLink RX5 246 yX5_forgetOldest ∈ tbg := wb_265
theorem wl_X5_249 : Cond.methodLink RX5 249 yX3_holds ∈ tbg := wb_241
theorem wl_X5_252 : Cond.methodLink RX5 252 yX0_lostTurns ∈ tbg := wb_616
theorem wl_X5_255 : Cond.methodLink RX5 255 yX0_ghostsOf ∈ tbg := wb_617
theorem wl_X5_258 : Cond.methodLink RX5 258 yX0_echoCount ∈ tbg := wb_461
theorem wl_X5_261 : Cond.methodLink RX5 261 yX0_lostCount ∈ tbg := wb_471
theorem wl_X5_264 : Cond.methodLink RX5 264 yX0_faintCount ∈ tbg := wb_479
theorem wl_X5_267 : Cond.methodLink RX5 267 yX5_remainder ∈ tbg := wb_676
theorem wl_X5_270 : Cond.methodLink RX5 270 yX5_commonDivisor ∈ tbg := wb_682
theorem wl_X5_62 : Cond.methodLink RX5 62 yX5_comingError ∈ tbg := wb_234
theorem wl_X5_66 : Cond.methodLink RX5 66 yX5_remember ∈ tbg := wb_261
theorem wl_X5_69 : Cond.methodLink RX5 69 yX3_join ∈ tbg := wb_276
theorem wl_X5_72 : Cond.methodLink RX5 72 yX3_has ∈ tbg := wb_288
theorem wl_X5_76 : Cond.methodLink RX5 76 yX3_leave ∈ tbg := wb_289
theorem wl_X5_80 : Cond.methodLink RX5 80 yX3_targetCount ∈ tbg := wb_257
theorem wl_X5_84 : Cond.methodLink RX5 84 yX3_moveAll ∈ tbg := wb_309
theorem wl_X5_87 : Cond.methodLink RX5 87 yX5_isSpacing ∈ tbg := wb_318
theorem wl_X5_90 : Cond.methodLink RX5 90 yX5_isSpacingOrNone ∈ tbg := wb_321
theorem wl_X5_93 : Cond.methodLink RX5 93 yX3_forgetTurns ∈ tbg := wb_324
theorem wl_X5_96 : Cond.methodLink RX5 96 yX3_addTurn ∈ tbg := wb_328
theorem wl_X5_99 : Cond.methodLink RX5 99 yX3_turnCount ∈ tbg := wb_332
theorem wn_copy : Cond.native arraycopyName ∈ tbg := wb_275
theorem wt_copy : Cond.static arraycopyName ∈ tbg := wb_274
theorem wt_max : Cond.static Lib.Math.max.name ∈ tbg := wb_393
theorem wt_min : Cond.static Lib.Math.min.name ∈ tbg := wb_390
set_option maxRecDepth 100000 in
theorem uw_X0 : ∀ w ∈ u_ws RX0 TX0 16, w ∈ tbg := (show ∀ w ∈ [u_lay RX0 TX0 0, u_lay RX0 TX0 1, u_lay RX0 TX0 2, u_lay RX0 TX0 3, u_lay RX0 TX0 4, u_lay RX0 TX0 5, u_lay RX0 TX0 6, u_lay RX0 TX0 7, u_lay RX0 TX0 8, u_lay RX0 TX0 9, u_lay RX0 TX0 10, u_lay RX0 TX0 11, u_lay RX0 TX0 12, u_lay RX0 TX0 13, u_lay RX0 TX0 14, u_lay RX0 TX0 15], w ∈ tbg from List.forall_mem_cons.mpr ⟨wb_165, List.forall_mem_cons.mpr ⟨wb_167, List.forall_mem_cons.mpr ⟨wb_169, List.forall_mem_cons.mpr ⟨wb_171, List.forall_mem_cons.mpr ⟨wb_173, List.forall_mem_cons.mpr ⟨wb_175, List.forall_mem_cons.mpr ⟨wb_177, List.forall_mem_cons.mpr ⟨wb_179, List.forall_mem_cons.mpr ⟨wb_181, List.forall_mem_cons.mpr ⟨wb_183, List.forall_mem_cons.mpr ⟨wb_185, List.forall_mem_cons.mpr ⟨wb_187, List.forall_mem_cons.mpr ⟨wb_189, List.forall_mem_cons.mpr ⟨wb_191, List.forall_mem_cons.mpr ⟨wb_193, List.forall_mem_cons.mpr ⟨wb_195, fun _ h => absurd h List.not_mem_nil⟩⟩⟩⟩⟩⟩⟩⟩⟩⟩⟩⟩⟩⟩⟩⟩)
set_option maxRecDepth 100000 in
theorem uw_X1 : ∀ w ∈ u_ws RX1 TX1 2, w ∈ tbg := (show ∀ w ∈ [u_lay RX1 TX1 0, u_lay RX1 TX1 1], w ∈ tbg from List.forall_mem_cons.mpr ⟨wb_87, List.forall_mem_cons.mpr ⟨wb_89, fun _ h => absurd h List.not_mem_nil⟩⟩)
set_option maxRecDepth 100000 in
theorem uw_X2 : ∀ w ∈ u_ws RX2 TX2 13, w ∈ tbg := (show ∀ w ∈ [u_lay RX2 TX2 0, u_lay RX2 TX2 1, u_lay RX2 TX2 2, u_lay RX2 TX2 3, u_lay RX2 TX2 4, u_lay RX2 TX2 5, u_lay RX2 TX2 6, u_lay RX2 TX2 7, u_lay RX2 TX2 8, u_lay RX2 TX2 9, u_lay RX2 TX2 10, u_lay RX2 TX2 11, u_lay RX2 TX2 12], w ∈ tbg from List.forall_mem_cons.mpr ⟨wb_104, List.forall_mem_cons.mpr ⟨wb_106, List.forall_mem_cons.mpr ⟨wb_108, List.forall_mem_cons.mpr ⟨wb_110, List.forall_mem_cons.mpr ⟨wb_112, List.forall_mem_cons.mpr ⟨wb_114, List.forall_mem_cons.mpr ⟨wb_116, List.forall_mem_cons.mpr ⟨wb_118, List.forall_mem_cons.mpr ⟨wb_120, List.forall_mem_cons.mpr ⟨wb_122, List.forall_mem_cons.mpr ⟨wb_124, List.forall_mem_cons.mpr ⟨wb_126, List.forall_mem_cons.mpr ⟨wb_128, fun _ h => absurd h List.not_mem_nil⟩⟩⟩⟩⟩⟩⟩⟩⟩⟩⟩⟩⟩)
set_option maxRecDepth 100000 in
theorem uw_X3 : ∀ w ∈ u_ws RX3 TX3 9, w ∈ tbg := (show ∀ w ∈ [u_lay RX3 TX3 0, u_lay RX3 TX3 1, u_lay RX3 TX3 2, u_lay RX3 TX3 3, u_lay RX3 TX3 4, u_lay RX3 TX3 5, u_lay RX3 TX3 6, u_lay RX3 TX3 7, u_lay RX3 TX3 8], w ∈ tbg from List.forall_mem_cons.mpr ⟨wb_57, List.forall_mem_cons.mpr ⟨wb_59, List.forall_mem_cons.mpr ⟨wb_61, List.forall_mem_cons.mpr ⟨wb_63, List.forall_mem_cons.mpr ⟨wb_65, List.forall_mem_cons.mpr ⟨wb_67, List.forall_mem_cons.mpr ⟨wb_69, List.forall_mem_cons.mpr ⟨wb_71, List.forall_mem_cons.mpr ⟨wb_73, fun _ h => absurd h List.not_mem_nil⟩⟩⟩⟩⟩⟩⟩⟩⟩)
set_option maxRecDepth 100000 in
theorem uw_X4 : ∀ w ∈ u_ws RX4 TX4 2, w ∈ tbg := (show ∀ w ∈ [u_lay RX4 TX4 0, u_lay RX4 TX4 1], w ∈ tbg from List.forall_mem_cons.mpr ⟨wb_139, List.forall_mem_cons.mpr ⟨wb_141, fun _ h => absurd h List.not_mem_nil⟩⟩)
set_option maxRecDepth 100000 in
theorem uw_X5 : ∀ w ∈ u_ws RX5 TX5 10, w ∈ tbg := (show ∀ w ∈ [u_lay RX5 TX5 0, u_lay RX5 TX5 1, u_lay RX5 TX5 2, u_lay RX5 TX5 3, u_lay RX5 TX5 4, u_lay RX5 TX5 5, u_lay RX5 TX5 6, u_lay RX5 TX5 7, u_lay RX5 TX5 8, u_lay RX5 TX5 9], w ∈ tbg from List.forall_mem_cons.mpr ⟨wb_209, List.forall_mem_cons.mpr ⟨wb_211, List.forall_mem_cons.mpr ⟨wb_213, List.forall_mem_cons.mpr ⟨wb_215, List.forall_mem_cons.mpr ⟨wb_217, List.forall_mem_cons.mpr ⟨wb_219, List.forall_mem_cons.mpr ⟨wb_221, List.forall_mem_cons.mpr ⟨wb_223, List.forall_mem_cons.mpr ⟨wb_225, List.forall_mem_cons.mpr ⟨wb_227, fun _ h => absurd h List.not_mem_nil⟩⟩⟩⟩⟩⟩⟩⟩⟩⟩)
theorem fk_X0_11 : fldOK RX0 11 0 0 16 := ⟨RX0, TX0, rfl, by decide, uw_X0, wb_150⟩
theorem fk_X0_15 : fldOK RX0 15 0 1 16 := ⟨RX0, TX0, rfl, by decide, uw_X0, wb_151⟩
theorem fk_X0_18 : fldOK RX0 18 0 2 16 := ⟨RX0, TX0, rfl, by decide, uw_X0, wb_152⟩
theorem fk_X0_21 : fldOK RX0 21 0 3 16 := ⟨RX0, TX0, rfl, by decide, uw_X0, wb_153⟩
theorem fk_X0_24 : fldOK RX0 24 0 4 16 := ⟨RX0, TX0, rfl, by decide, uw_X0, wb_154⟩
theorem fk_X0_27 : fldOK RX0 27 0 5 16 := ⟨RX0, TX0, rfl, by decide, uw_X0, wb_155⟩
theorem fk_X0_30 : fldOK RX0 30 0 6 16 := ⟨RX0, TX0, rfl, by decide, uw_X0, wb_156⟩
theorem fk_X0_34 : fldOK RX0 34 0 7 16 := ⟨RX0, TX0, rfl, by decide, uw_X0, wb_157⟩
theorem fk_X0_40 : fldOK RX0 40 0 9 16 := ⟨RX0, TX0, rfl, by decide, uw_X0, wb_159⟩
theorem fk_X0_44 : fldOK RX0 44 0 11 16 := ⟨RX0, TX0, rfl, by decide, uw_X0, wb_161⟩
theorem fk_X0_53 : fldOK RX0 53 0 12 16 := ⟨RX0, TX0, rfl, by decide, uw_X0, wb_162⟩
theorem fk_X0_59 : fldOK RX0 59 0 13 16 := ⟨RX0, TX0, rfl, by decide, uw_X0, wb_163⟩
theorem fk_X0_66 : fldOK RX0 66 0 10 16 := ⟨RX0, TX0, rfl, by decide, uw_X0, wb_160⟩
theorem fk_X0_119 : fldOK RX0 119 0 14 16 := ⟨RX0, TX0, rfl, by decide, uw_X0, wb_164⟩
theorem fk_X3_9 : fldOK RX3 9 3 0 9 := ⟨RX3, TX3, rfl, by decide, uw_X3, wb_48⟩
theorem fk_X3_15 : fldOK RX3 15 3 1 9 := ⟨RX3, TX3, rfl, by decide, uw_X3, wb_49⟩
theorem fk_X3_18 : fldOK RX3 18 3 2 9 := ⟨RX3, TX3, rfl, by decide, uw_X3, wb_50⟩
theorem fk_X3_21 : fldOK RX3 21 3 3 9 := ⟨RX3, TX3, rfl, by decide, uw_X3, wb_51⟩
theorem fk_X3_25 : fldOK RX3 25 3 4 9 := ⟨RX3, TX3, rfl, by decide, uw_X3, wb_52⟩
theorem fk_X3_28 : fldOK RX3 28 3 5 9 := ⟨RX3, TX3, rfl, by decide, uw_X3, wb_53⟩
theorem fk_X3_32 : fldOK RX3 32 3 6 9 := ⟨RX3, TX3, rfl, by decide, uw_X3, wb_54⟩
theorem fk_X3_35 : fldOK RX3 35 3 7 9 := ⟨RX3, TX3, rfl, by decide, uw_X3, wb_55⟩
theorem fk_X3_38 : fldOK RX3 38 3 8 9 := ⟨RX3, TX3, rfl, by decide, uw_X3, wb_56⟩
theorem fk_X5_12 : fldOK RX5 12 5 0 10 := ⟨RX5, TX5, rfl, by decide, uw_X5, wb_199⟩
theorem fk_X5_16 : fldOK RX5 16 5 1 10 := ⟨RX5, TX5, rfl, by decide, uw_X5, wb_200⟩
theorem fk_X5_22 : fldOK RX5 22 5 3 10 := ⟨RX5, TX5, rfl, by decide, uw_X5, wb_202⟩
theorem fk_X5_29 : fldOK RX5 29 5 4 10 := ⟨RX5, TX5, rfl, by decide, uw_X5, wb_203⟩
theorem fk_X5_43 : fldOK RX5 43 5 6 10 := ⟨RX5, TX5, rfl, by decide, uw_X5, wb_205⟩
theorem fk_X5_50 : fldOK RX5 50 5 7 10 := ⟨RX5, TX5, rfl, by decide, uw_X5, wb_206⟩
theorem fk_X5_58 : fldOK RX5 58 5 9 10 := ⟨RX5, TX5, rfl, by decide, uw_X5, wb_208⟩
theorem fp_X0_40 : fputOK RX0 40 0 9 16 .int := ⟨RX0, TX0, tyX0, rfl, by decide, uw_X0, wb_159, tyX0_ok, nmX0, rfl, by decide +kernel⟩
theorem fp_X0_44 : fputOK RX0 44 0 11 16 .int := ⟨RX0, TX0, tyX0, rfl, by decide, uw_X0, wb_161, tyX0_ok, nmX0, rfl, by decide +kernel⟩
theorem fp_X0_53 : fputOK RX0 53 0 12 16 .int := ⟨RX0, TX0, tyX0, rfl, by decide, uw_X0, wb_162, tyX0_ok, nmX0, rfl, by decide +kernel⟩
theorem fp_X0_59 : fputOK RX0 59 0 13 16 .int := ⟨RX0, TX0, tyX0, rfl, by decide, uw_X0, wb_163, tyX0_ok, nmX0, rfl, by decide +kernel⟩
theorem fp_X0_66 : fputOK RX0 66 0 10 16 .int := ⟨RX0, TX0, tyX0, rfl, by decide, uw_X0, wb_160, tyX0_ok, nmX0, rfl, by decide +kernel⟩
theorem fp_X0_119 : fputOK RX0 119 0 14 16 .int := ⟨RX0, TX0, tyX0, rfl, by decide, uw_X0, wb_164, tyX0_ok, nmX0, rfl, by decide +kernel⟩
theorem fp_X3_28 : fputOK RX3 28 3 5 9 .int := ⟨RX3, TX3, tyX3, rfl, by decide, uw_X3, wb_53, tyX3_ok, nmX3, rfl, by decide +kernel⟩
theorem fp_X3_32 : fputOK RX3 32 3 6 9 .int := ⟨RX3, TX3, tyX3, rfl, by decide, uw_X3, wb_54, tyX3_ok, nmX3, rfl, by decide +kernel⟩
theorem fp_X3_35 : fputOK RX3 35 3 7 9 .int := ⟨RX3, TX3, tyX3, rfl, by decide, uw_X3, wb_55, tyX3_ok, nmX3, rfl, by decide +kernel⟩
theorem fp_X3_38 : fputOK RX3 38 3 8 9 .int := ⟨RX3, TX3, tyX3, rfl, by decide, uw_X3, wb_56, tyX3_ok, nmX3, rfl, by decide +kernel⟩
theorem fp_X5_58 : fputOK RX5 58 5 9 10 .int := ⟨RX5, TX5, tyX5, rfl, by decide, uw_X5, wb_208, tyX5_ok, nmX5, rfl, by decide +kernel⟩
theorem wn_X3_75 : (RX3, 75, yX5_isWithin, "EchoTurns") ∈ pmN := by decide +kernel
def mX3_become : MI := (yX3_become, cX3_become, 3, none)
def mX3_targetCount : MI := (yX3_targetCount, cX3_targetCount, 1, some .int)
def mX3_turnCount : MI := (yX3_turnCount, cX3_turnCount, 1, some .int)
def mX3_blindBelow : MI := (yX3_blindBelow, cX3_blindBelow, 1, some .int)
def mX3_loudFrom : MI := (yX3_loudFrom, cX3_loudFrom, 1, some .int)
def mX3_has : MI := (yX3_has, cX3_has, 2, some .boolean)
def mX3_hasTurn : MI := (yX3_hasTurn, cX3_hasTurn, 2, some .boolean)
def mX3_distanceOf : MI := (yX3_distanceOf, cX3_distanceOf, 2, some .int)
def mX3_strengthOf : MI := (yX3_strengthOf, cX3_strengthOf, 2, some .int)
def mX3_movementOf : MI := (yX3_movementOf, cX3_movementOf, 2, some .int)
def mX3_isWall : MI := (yX3_isWall, cX3_isWall, 2, some .boolean)
def mX3_spacingOf : MI := (yX3_spacingOf, cX3_spacingOf, 2, some .int)
def mX3_wallCount : MI := (yX3_wallCount, cX3_wallCount, 3, some .int)
def mX3_holds : MI := (yX3_holds, cX3_holds, 4, some .boolean)
def mX3_join : MI := (yX3_join, cX3_join, 5, some .int)
def mX3_put : MI := (yX3_put, cX3_put, 6, none)
def mX3_putAs : MI := (yX3_putAs, cX3_putAs, 4, none)
def mX3_leave : MI := (yX3_leave, cX3_leave, 3, none)
def mX3_moveAll : MI := (yX3_moveAll, cX3_moveAll, 4, none)
def mX3_forgetTurns : MI := (yX3_forgetTurns, cX3_forgetTurns, 1, none)
def mX3_addTurn : MI := (yX3_addTurn, cX3_addTurn, 2, none)
def mX3_changeBlind : MI := (yX3_changeBlind, cX3_changeBlind, 3, some .int)
def mX3_changeLoud : MI := (yX3_changeLoud, cX3_changeLoud, 3, some .int)
def mX0_listen : MI := (yX0_listen, cX0_listen, 3, none)
def mX0_takeTargets : MI := (yX0_takeTargets, cX0_takeTargets, 3, none)
def mX0_takeGhosts : MI := (yX0_takeGhosts, cX0_takeGhosts, 4, none)
def mX0_takeGhost : MI := (yX0_takeGhost, cX0_takeGhost, 7, none)
def mX0_take : MI := (yX0_take, cX0_take, 6, none)
def mX0_takePitches : MI := (yX0_takePitches, cX0_takePitches, 2, none)
def mX0_sounds : MI := (yX0_sounds, cX0_sounds, 3, some .boolean)
def mX0_hearTurn : MI := (yX0_hearTurn, cX0_hearTurn, 6, none)
def mX0_has : MI := (yX0_has, cX0_has, 2, some .boolean)
def mX0_distanceOf : MI := (yX0_distanceOf, cX0_distanceOf, 2, some .int)
def mX0_strengthOf : MI := (yX0_strengthOf, cX0_strengthOf, 2, some .int)
def mX0_movementOf : MI := (yX0_movementOf, cX0_movementOf, 2, some .int)
def mX0_lesserWall : MI := (yX0_lesserWall, cX0_lesserWall, 2, some .int)
def mX0_greaterWall : MI := (yX0_greaterWall, cX0_greaterWall, 2, some .int)
def mX0_isFaint : MI := (yX0_isFaint, cX0_isFaint, 2, some .boolean)
def mX0_placeOf : MI := (yX0_placeOf, cX0_placeOf, 6, some .int)
def mX0_codeOf : MI := (yX0_codeOf, cX0_codeOf, 2, some .int)
def mX0_isHeard : MI := (yX0_isHeard, cX0_isHeard, 5, some .boolean)
def mX0_ghostCount : MI := (yX0_ghostCount, cX0_ghostCount, 1, some .int)
def mX0_ghostsOf : MI := (yX0_ghostsOf, cX0_ghostsOf, 4, some .int)
def mX0_echoCount : MI := (yX0_echoCount, cX0_echoCount, 3, some .int)
def mX0_lostCount : MI := (yX0_lostCount, cX0_lostCount, 3, some .int)
def mX0_lostTurns : MI := (yX0_lostTurns, cX0_lostTurns, 4, some .int)
def mX0_faintCount : MI := (yX0_faintCount, cX0_faintCount, 3, some .int)
def mX0_findEcho : MI := (yX0_findEcho, cX0_findEcho, 6, some .int)
def mX0_strengthTogether : MI := (yX0_strengthTogether, cX0_strengthTogether, 6, some .int)
def mX0_sourcesTogether : MI := (yX0_sourcesTogether, cX0_sourcesTogether, 6, some .int)
def mX0_isPartOf : MI := (yX0_isPartOf, cX0_isPartOf, 5, some .boolean)
def mX0_fitOf : MI := (yX0_fitOf, cX0_fitOf, 5, some .int)
def mX0_turnsThatFit : MI := (yX0_turnsThatFit, cX0_turnsThatFit, 6, some .int)
def mX0_isToldSource : MI := (yX0_isToldSource, cX0_isToldSource, 2, some .boolean)
def mX0_isTrue : MI := (yX0_isTrue, cX0_isTrue, 3, some .boolean)
def mX0_sourcesAt : MI := (yX0_sourcesAt, cX0_sourcesAt, 6, some .int)
def mX0_toldCount : MI := (yX0_toldCount, cX0_toldCount, 4, some .int)
def mX0_findTold : MI := (yX0_findTold, cX0_findTold, 5, some .int)
def mX0_trueCount : MI := (yX0_trueCount, cX0_trueCount, 3, some .int)
def mX0_missedCount : MI := (yX0_missedCount, cX0_missedCount, 3, some .int)
def mX1_length : MI := (yX1_length, cX1_length, 1, some .int)
def mX4_length : MI := (yX4_length, cX4_length, 1, some .int)
def mX4_write : MI := (yX4_write, cX4_write, 3, none)
def mX4_writeTarget : MI := (yX4_writeTarget, cX4_writeTarget, 4, none)
def mX4_writeNumber : MI := (yX4_writeNumber, cX4_writeNumber, 2, none)
def mX4_digitSign : MI := (yX4_digitSign, cX4_digitSign, 1, some .char)
def mX4_put : MI := (yX4_put, cX4_put, 2, none)
def mX5_target : MI := (yX5_target, cX5_target, 6, some .int)
def mX5_drop : MI := (yX5_drop, cX5_drop, 2, some .int)
def mX5_go : MI := (yX5_go, cX5_go, 1, some .int)
def mX5_spacings : MI := (yX5_spacings, cX5_spacings, 5, some .int)
def mX5_set : MI := (yX5_set, cX5_set, 3, some .int)
def mX5_targetOf : MI := (yX5_targetOf, cX5_targetOf, 3, some .int)
def mX5_ghost : MI := (yX5_ghost, cX5_ghost, 4, some .int)
def mX5_echo : MI := (yX5_echo, cX5_echo, 7, some .int)
def mX5_fits : MI := (yX5_fits, cX5_fits, 4, some .int)
def mX5_told : MI := (yX5_told, cX5_told, 6, some .int)
def mX5_alike : MI := (yX5_alike, cX5_alike, 5, some .int)
def mX5_unfold : MI := (yX5_unfold, cX5_unfold, 6, some .int)
def mX5_count : MI := (yX5_count, cX5_count, 2, some .int)
def mX5_ifTurn : MI := (yX5_ifTurn, cX5_ifTurn, 3, some .int)
def mX5_ifWall : MI := (yX5_ifWall, cX5_ifWall, 5, some .int)
def mX5_remember : MI := (yX5_remember, cX5_remember, 1, none)
def mX5_forgetOldest : MI := (yX5_forgetOldest, cX5_forgetOldest, 3, none)
def mX5_comingError : MI := (yX5_comingError, cX5_comingError, 5, some .int)
def mX5_heardOf : MI := (yX5_heardOf, cX5_heardOf, 3, some .int)
def mX5_countHeard : MI := (yX5_countHeard, cX5_countHeard, 2, some .int)
def mX5_isWithin : MI := (yX5_isWithin, cX5_isWithin, 3, some .boolean)
def mX5_isSpacing : MI := (yX5_isSpacing, cX5_isSpacing, 1, some .boolean)
def mX5_isSpacingOrNone : MI := (yX5_isSpacingOrNone, cX5_isSpacingOrNone, 1, some .boolean)
def mX5_asNumber : MI := (yX5_asNumber, cX5_asNumber, 1, some .int)
def mX5_remainder : MI := (yX5_remainder, cX5_remainder, 2, some .int)
def mX5_firstCommonMultiple : MI := (yX5_firstCommonMultiple, cX5_firstCommonMultiple, 4, some .int)
def mX5_commonMultiple : MI := (yX5_commonMultiple, cX5_commonMultiple, 3, some .int)
def mX5_commonDivisor : MI := (yX5_commonDivisor, cX5_commonDivisor, 6, some .int)
def mX5_tryDistances : MI := (yX5_tryDistances, cX5_tryDistances, 7, some .int)
def mL_low : MI := (yL_low, cL_low, 2, some .int)
def mL_bodies : MI := (yL_bodies, cL_bodies, 9, none)
def mL_place : MI := (yL_place, cL_place, 5, some .int)
def mL_heard : MI := (yL_heard, cL_heard, 9, some .int)
def mL_fit : MI := (yL_fit, cL_fit, 6, some .int)
def mL_told : MI := (yL_told, cL_told, 7, some .int)
def mL_isTrue : MI := (yL_isTrue, cL_isTrue, 5, some .boolean)
def mL_targets : MI := (yL_targets, cL_targets, 11, some .boolean)
def mL_echoes : MI := (yL_echoes, cL_echoes, 11, some .boolean)
def mL_distances : MI := (yL_distances, cL_distances, 10, some .boolean)
def mL_numbers : MI := (yL_numbers, cL_numbers, 8, some .boolean)
def mL_law : MI := (yL_law, cL_law, 18, some .boolean)
def mJ13_bitCount_95d88 : MI := (yJ13_bitCount_95d88, cJ13_bitCount_95d88, 2, some .int)
def mX5_truth : MI := (yX5_truth, cX5_truth, 2, some .double)
def mL_cell : MI := (yL_cell, cL_cell, 2, some .int)
theorem mk_J13_bitCount_95d88 : mOKS mJ13_bitCount_95d88 1 := ⟨wb_466, wb_33, wb_467, ⟨by decide +kernel, by decide +kernel⟩, by decide +kernel, by decide⟩
theorem mk_L_bodies : mOKS mL_bodies 3 := ⟨wb_566, wb_24, wb_567, ⟨by decide +kernel, by decide +kernel⟩, by decide +kernel, by decide⟩
theorem mk_L_cell : mOKS mL_cell 2 := ⟨wb_557, wb_24, wb_558, ⟨by decide +kernel, by decide +kernel⟩, by decide +kernel, by decide⟩
theorem mk_L_distances : mOKS mL_distances 3 := ⟨wb_647, wb_24, wb_648, ⟨by decide +kernel, by decide +kernel⟩, by decide +kernel, by decide⟩
theorem mk_L_echoes : mOKS mL_echoes 3 := ⟨wb_624, wb_24, wb_625, ⟨by decide +kernel, by decide +kernel⟩, by decide +kernel, by decide⟩
theorem mk_L_fit : mOKS mL_fit 5 := ⟨wb_569, wb_24, wb_570, ⟨by decide +kernel, by decide +kernel⟩, by decide +kernel, by decide⟩
theorem mk_L_heard : mOKS mL_heard 6 := ⟨wb_575, wb_24, wb_576, ⟨by decide +kernel, by decide +kernel⟩, by decide +kernel, by decide⟩
theorem mk_L_isTrue : mOKS mL_isTrue 4 := ⟨wb_581, wb_24, wb_582, ⟨by decide +kernel, by decide +kernel⟩, by decide +kernel, by decide⟩
theorem mk_L_low : mOKS mL_low 2 := ⟨wb_562, wb_24, wb_563, ⟨by decide +kernel, by decide +kernel⟩, by decide +kernel, by decide⟩
theorem mk_L_numbers : mOKS mL_numbers 3 := ⟨wb_667, wb_24, wb_668, ⟨by decide +kernel, by decide +kernel⟩, by decide +kernel, by decide⟩
theorem mk_L_place : mOKS mL_place 4 := ⟨wb_572, wb_24, wb_573, ⟨by decide +kernel, by decide +kernel⟩, by decide +kernel, by decide⟩
theorem mk_L_targets : mOKS mL_targets 4 := ⟨wb_584, wb_24, wb_585, ⟨by decide +kernel, by decide +kernel⟩, by decide +kernel, by decide⟩
theorem mk_L_told : mOKS mL_told 4 := ⟨wb_578, wb_24, wb_579, ⟨by decide +kernel, by decide +kernel⟩, by decide +kernel, by decide⟩
theorem mk_X0_codeOf : mOKS mX0_codeOf 2 := ⟨wb_438, wb_30, wb_439, ⟨by decide +kernel, by decide +kernel⟩, by decide +kernel, by decide⟩
theorem mk_X0_distanceOf : mOKV mX0_distanceOf 0 1 := ⟨wb_430, wb_431, wb_30, wb_432, ⟨_, rfl, rfl⟩, ⟨by decide +kernel, by decide +kernel⟩, by decide +kernel, by decide⟩
theorem mk_X0_echoCount : mOKV mX0_echoCount 0 0 := ⟨wb_462, wb_463, wb_30, wb_464, ⟨_, rfl, rfl⟩, ⟨by decide +kernel, by decide +kernel⟩, by decide +kernel, by decide⟩
theorem mk_X0_faintCount : mOKV mX0_faintCount 0 0 := ⟨wb_480, wb_481, wb_30, wb_482, ⟨_, rfl, rfl⟩, ⟨by decide +kernel, by decide +kernel⟩, by decide +kernel, by decide⟩
theorem mk_X0_findEcho : mOKV mX0_findEcho 0 2 := ⟨wb_631, wb_632, wb_30, wb_633, ⟨_, rfl, rfl⟩, ⟨by decide +kernel, by decide +kernel⟩, by decide +kernel, by decide⟩
theorem mk_X0_findTold : mOKV mX0_findTold 0 1 := ⟨wb_654, wb_655, wb_30, wb_656, ⟨_, rfl, rfl⟩, ⟨by decide +kernel, by decide +kernel⟩, by decide +kernel, by decide⟩
theorem mk_X0_fitOf : mOKV mX0_fitOf 0 3 := ⟨wb_441, wb_442, wb_30, wb_443, ⟨_, rfl, rfl⟩, ⟨by decide +kernel, by decide +kernel⟩, by decide +kernel, by decide⟩
theorem mk_X0_ghostCount : mOKV mX0_ghostCount 0 0 := ⟨wb_458, wb_459, wb_30, wb_460, ⟨_, rfl, rfl⟩, ⟨by decide +kernel, by decide +kernel⟩, by decide +kernel, by decide⟩
theorem mk_X0_ghostsOf : mOKV mX0_ghostsOf 0 1 := ⟨wb_618, wb_619, wb_30, wb_620, ⟨_, rfl, rfl⟩, ⟨by decide +kernel, by decide +kernel⟩, by decide +kernel, by decide⟩
theorem mk_X0_greaterWall : mOKV mX0_greaterWall 0 1 := ⟨wb_597, wb_598, wb_30, wb_599, ⟨_, rfl, rfl⟩, ⟨by decide +kernel, by decide +kernel⟩, by decide +kernel, by decide⟩
theorem mk_X0_has : mOKV mX0_has 0 1 := ⟨wb_409, wb_12, wb_30, wb_410, ⟨_, rfl, rfl⟩, ⟨by decide +kernel, by decide +kernel⟩, by decide +kernel, by decide⟩
theorem mk_X0_hearTurn : mOKV mX0_hearTurn 0 2 := ⟨wb_427, wb_14, wb_30, wb_428, ⟨_, rfl, rfl⟩, ⟨by decide +kernel, by decide +kernel⟩, by decide +kernel, by decide⟩
theorem mk_X0_isFaint : mOKV mX0_isFaint 0 1 := ⟨wb_413, wb_13, wb_30, wb_414, ⟨_, rfl, rfl⟩, ⟨by decide +kernel, by decide +kernel⟩, by decide +kernel, by decide⟩
theorem mk_X0_isHeard : mOKV mX0_isHeard 0 3 := ⟨wb_446, wb_16, wb_30, wb_447, ⟨_, rfl, rfl⟩, ⟨by decide +kernel, by decide +kernel⟩, by decide +kernel, by decide⟩
theorem mk_X0_isPartOf : mOKV mX0_isPartOf 0 4 := ⟨wb_640, wb_23, wb_30, wb_641, ⟨_, rfl, rfl⟩, ⟨by decide +kernel, by decide +kernel⟩, by decide +kernel, by decide⟩
theorem mk_X0_isToldSource : mOKV mX0_isToldSource 0 1 := ⟨wb_497, wb_498, wb_30, wb_499, ⟨_, rfl, rfl⟩, ⟨by decide +kernel, by decide +kernel⟩, by decide +kernel, by decide⟩
theorem mk_X0_isTrue : mOKV mX0_isTrue 0 2 := ⟨wb_658, wb_659, wb_30, wb_660, ⟨_, rfl, rfl⟩, ⟨by decide +kernel, by decide +kernel⟩, by decide +kernel, by decide⟩
theorem mk_X0_lesserWall : mOKV mX0_lesserWall 0 1 := ⟨wb_593, wb_594, wb_30, wb_595, ⟨_, rfl, rfl⟩, ⟨by decide +kernel, by decide +kernel⟩, by decide +kernel, by decide⟩
theorem mk_X0_listen : mOKV mX0_listen 0 1 := ⟨wb_357, wb_358, wb_30, wb_359, ⟨_, rfl, rfl⟩, ⟨by decide +kernel, by decide +kernel⟩, by decide +kernel, by decide⟩
theorem mk_X0_lostCount : mOKV mX0_lostCount 0 0 := ⟨wb_472, wb_473, wb_30, wb_474, ⟨_, rfl, rfl⟩, ⟨by decide +kernel, by decide +kernel⟩, by decide +kernel, by decide⟩
theorem mk_X0_lostTurns : mOKV mX0_lostTurns 0 1 := ⟨wb_476, wb_477, wb_30, wb_478, ⟨_, rfl, rfl⟩, ⟨by decide +kernel, by decide +kernel⟩, by decide +kernel, by decide⟩
theorem mk_X0_missedCount : mOKV mX0_missedCount 0 0 := ⟨wb_505, wb_506, wb_30, wb_507, ⟨_, rfl, rfl⟩, ⟨by decide +kernel, by decide +kernel⟩, by decide +kernel, by decide⟩
theorem mk_X0_movementOf : mOKV mX0_movementOf 0 1 := ⟨wb_405, wb_11, wb_30, wb_406, ⟨_, rfl, rfl⟩, ⟨by decide +kernel, by decide +kernel⟩, by decide +kernel, by decide⟩
theorem mk_X0_placeOf : mOKV mX0_placeOf 0 3 := ⟨wb_435, wb_15, wb_30, wb_436, ⟨_, rfl, rfl⟩, ⟨by decide +kernel, by decide +kernel⟩, by decide +kernel, by decide⟩
theorem mk_X0_sounds : mOKV mX0_sounds 0 1 := ⟨wb_401, wb_10, wb_30, wb_402, ⟨_, rfl, rfl⟩, ⟨by decide +kernel, by decide +kernel⟩, by decide +kernel, by decide⟩
theorem mk_X0_sourcesAt : mOKV mX0_sourcesAt 0 3 := ⟨wb_502, wb_18, wb_30, wb_503, ⟨_, rfl, rfl⟩, ⟨by decide +kernel, by decide +kernel⟩, by decide +kernel, by decide⟩
theorem mk_X0_sourcesTogether : mOKV mX0_sourcesTogether 0 3 := ⟨wb_643, wb_644, wb_30, wb_645, ⟨_, rfl, rfl⟩, ⟨by decide +kernel, by decide +kernel⟩, by decide +kernel, by decide⟩
theorem mk_X0_strengthOf : mOKV mX0_strengthOf 0 1 := ⟨wb_416, wb_417, wb_30, wb_418, ⟨_, rfl, rfl⟩, ⟨by decide +kernel, by decide +kernel⟩, by decide +kernel, by decide⟩
theorem mk_X0_strengthTogether : mOKV mX0_strengthTogether 0 3 := ⟨wb_635, wb_636, wb_30, wb_637, ⟨_, rfl, rfl⟩, ⟨by decide +kernel, by decide +kernel⟩, by decide +kernel, by decide⟩
theorem mk_X0_take : mOKV mX0_take 0 5 := ⟨wb_378, wb_6, wb_30, wb_379, ⟨_, rfl, rfl⟩, ⟨by decide +kernel, by decide +kernel⟩, by decide +kernel, by decide⟩
theorem mk_X0_takeGhost : mOKV mX0_takeGhost 0 3 := ⟨wb_387, wb_8, wb_30, wb_388, ⟨_, rfl, rfl⟩, ⟨by decide +kernel, by decide +kernel⟩, by decide +kernel, by decide⟩
theorem mk_X0_takeGhosts : mOKV mX0_takeGhosts 0 1 := ⟨wb_382, wb_7, wb_30, wb_383, ⟨_, rfl, rfl⟩, ⟨by decide +kernel, by decide +kernel⟩, by decide +kernel, by decide⟩
theorem mk_X0_takePitches : mOKV mX0_takePitches 0 0 := ⟨wb_397, wb_9, wb_30, wb_398, ⟨_, rfl, rfl⟩, ⟨by decide +kernel, by decide +kernel⟩, by decide +kernel, by decide⟩
theorem mk_X0_takeTargets : mOKV mX0_takeTargets 0 1 := ⟨wb_370, wb_5, wb_30, wb_371, ⟨_, rfl, rfl⟩, ⟨by decide +kernel, by decide +kernel⟩, by decide +kernel, by decide⟩
theorem mk_X0_toldCount : mOKV mX0_toldCount 0 0 := ⟨wb_484, wb_485, wb_30, wb_486, ⟨_, rfl, rfl⟩, ⟨by decide +kernel, by decide +kernel⟩, by decide +kernel, by decide⟩
theorem mk_X0_trueCount : mOKV mX0_trueCount 0 0 := ⟨wb_493, wb_494, wb_30, wb_495, ⟨_, rfl, rfl⟩, ⟨by decide +kernel, by decide +kernel⟩, by decide +kernel, by decide⟩
theorem mk_X0_turnsThatFit : mOKV mX0_turnsThatFit 0 2 := ⟨wb_488, wb_489, wb_30, wb_490, ⟨_, rfl, rfl⟩, ⟨by decide +kernel, by decide +kernel⟩, by decide +kernel, by decide⟩
theorem mk_X1_length : mOKV mX1_length 1 0 := ⟨wb_545, wb_546, wb_27, wb_547, ⟨_, rfl, rfl⟩, ⟨by decide +kernel, by decide +kernel⟩, by decide +kernel, by decide⟩
theorem mk_X3_addTurn : mOKV mX3_addTurn 3 1 := ⟨wb_329, wb_330, wb_26, wb_331, ⟨_, rfl, rfl⟩, ⟨by decide +kernel, by decide +kernel⟩, by decide +kernel, by decide⟩
theorem mk_X3_become : mOKV mX3_become 3 1 := ⟨wb_270, wb_271, wb_26, wb_272, ⟨_, rfl, rfl⟩, ⟨by decide +kernel, by decide +kernel⟩, by decide +kernel, by decide⟩
theorem mk_X3_blindBelow : mOKV mX3_blindBelow 3 0 := ⟨wb_361, wb_362, wb_26, wb_363, ⟨_, rfl, rfl⟩, ⟨by decide +kernel, by decide +kernel⟩, by decide +kernel, by decide⟩
theorem mk_X3_changeBlind : mOKV mX3_changeBlind 3 1 := ⟨wb_341, wb_342, wb_26, wb_343, ⟨_, rfl, rfl⟩, ⟨by decide +kernel, by decide +kernel⟩, by decide +kernel, by decide⟩
theorem mk_X3_changeLoud : mOKV mX3_changeLoud 3 1 := ⟨wb_345, wb_346, wb_26, wb_347, ⟨_, rfl, rfl⟩, ⟨by decide +kernel, by decide +kernel⟩, by decide +kernel, by decide⟩
theorem mk_X3_distanceOf : mOKV mX3_distanceOf 3 1 := ⟨wb_246, wb_247, wb_26, wb_248, ⟨_, rfl, rfl⟩, ⟨by decide +kernel, by decide +kernel⟩, by decide +kernel, by decide⟩
theorem mk_X3_forgetTurns : mOKV mX3_forgetTurns 3 0 := ⟨wb_325, wb_326, wb_26, wb_327, ⟨_, rfl, rfl⟩, ⟨by decide +kernel, by decide +kernel⟩, by decide +kernel, by decide⟩
theorem mk_X3_has : mOKV mX3_has 3 1 := ⟨wb_250, wb_251, wb_26, wb_252, ⟨_, rfl, rfl⟩, ⟨by decide +kernel, by decide +kernel⟩, by decide +kernel, by decide⟩
theorem mk_X3_hasTurn : mOKV mX3_hasTurn 3 1 := ⟨wb_353, wb_354, wb_26, wb_355, ⟨_, rfl, rfl⟩, ⟨by decide +kernel, by decide +kernel⟩, by decide +kernel, by decide⟩
theorem mk_X3_holds : mOKV mX3_holds 3 2 := ⟨wb_242, wb_243, wb_26, wb_244, ⟨_, rfl, rfl⟩, ⟨by decide +kernel, by decide +kernel⟩, by decide +kernel, by decide⟩
theorem mk_X3_isWall : mOKV mX3_isWall 3 1 := ⟨wb_302, wb_303, wb_26, wb_304, ⟨_, rfl, rfl⟩, ⟨by decide +kernel, by decide +kernel⟩, by decide +kernel, by decide⟩
theorem mk_X3_join : mOKV mX3_join 3 4 := ⟨wb_277, wb_278, wb_26, wb_279, ⟨_, rfl, rfl⟩, ⟨by decide +kernel, by decide +kernel⟩, by decide +kernel, by decide⟩
theorem mk_X3_leave : mOKV mX3_leave 3 1 := ⟨wb_290, wb_291, wb_26, wb_292, ⟨_, rfl, rfl⟩, ⟨by decide +kernel, by decide +kernel⟩, by decide +kernel, by decide⟩
theorem mk_X3_loudFrom : mOKV mX3_loudFrom 3 0 := ⟨wb_365, wb_366, wb_26, wb_367, ⟨_, rfl, rfl⟩, ⟨by decide +kernel, by decide +kernel⟩, by decide +kernel, by decide⟩
theorem mk_X3_moveAll : mOKV mX3_moveAll 3 0 := ⟨wb_310, wb_311, wb_26, wb_312, ⟨_, rfl, rfl⟩, ⟨by decide +kernel, by decide +kernel⟩, by decide +kernel, by decide⟩
theorem mk_X3_movementOf : mOKV mX3_movementOf 3 1 := ⟨wb_254, wb_255, wb_26, wb_256, ⟨_, rfl, rfl⟩, ⟨by decide +kernel, by decide +kernel⟩, by decide +kernel, by decide⟩
theorem mk_X3_put : mOKV mX3_put 3 5 := ⟨wb_282, wb_3, wb_26, wb_283, ⟨_, rfl, rfl⟩, ⟨by decide +kernel, by decide +kernel⟩, by decide +kernel, by decide⟩
theorem mk_X3_putAs : mOKV mX3_putAs 3 3 := ⟨wb_295, wb_4, wb_26, wb_296, ⟨_, rfl, rfl⟩, ⟨by decide +kernel, by decide +kernel⟩, by decide +kernel, by decide⟩
theorem mk_X3_spacingOf : mOKV mX3_spacingOf 3 1 := ⟨wb_421, wb_422, wb_26, wb_423, ⟨_, rfl, rfl⟩, ⟨by decide +kernel, by decide +kernel⟩, by decide +kernel, by decide⟩
theorem mk_X3_strengthOf : mOKV mX3_strengthOf 3 1 := ⟨wb_298, wb_299, wb_26, wb_300, ⟨_, rfl, rfl⟩, ⟨by decide +kernel, by decide +kernel⟩, by decide +kernel, by decide⟩
theorem mk_X3_targetCount : mOKV mX3_targetCount 3 0 := ⟨wb_258, wb_259, wb_26, wb_260, ⟨_, rfl, rfl⟩, ⟨by decide +kernel, by decide +kernel⟩, by decide +kernel, by decide⟩
theorem mk_X3_turnCount : mOKV mX3_turnCount 3 0 := ⟨wb_333, wb_334, wb_26, wb_335, ⟨_, rfl, rfl⟩, ⟨by decide +kernel, by decide +kernel⟩, by decide +kernel, by decide⟩
theorem mk_X3_wallCount : mOKV mX3_wallCount 3 0 := ⟨wb_509, wb_510, wb_26, wb_511, ⟨_, rfl, rfl⟩, ⟨by decide +kernel, by decide +kernel⟩, by decide +kernel, by decide⟩
theorem mk_X4_length : mOKV mX4_length 4 0 := ⟨wb_541, wb_542, wb_29, wb_543, ⟨_, rfl, rfl⟩, ⟨by decide +kernel, by decide +kernel⟩, by decide +kernel, by decide⟩
theorem mk_X4_write : mOKV mX4_write 4 1 := ⟨wb_515, wb_516, wb_29, wb_517, ⟨_, rfl, rfl⟩, ⟨by decide +kernel, by decide +kernel⟩, by decide +kernel, by decide⟩
theorem mk_X5_alike : mOKV mX5_alike 5 1 := ⟨wb_670, wb_671, wb_25, wb_672, ⟨_, rfl, rfl⟩, ⟨by decide +kernel, by decide +kernel⟩, by decide +kernel, by decide⟩
theorem mk_X5_asNumber : mOKS mX5_asNumber 1 := ⟨wb_602, wb_25, wb_603, ⟨by decide +kernel, by decide +kernel⟩, by decide +kernel, by decide⟩
theorem mk_X5_comingError : mOKV mX5_comingError 5 4 := ⟨wb_236, wb_0, wb_25, wb_237, ⟨_, rfl, rfl⟩, ⟨by decide +kernel, by decide +kernel⟩, by decide +kernel, by decide⟩
theorem mk_X5_commonDivisor : mOKS mX5_commonDivisor 2 := ⟨wb_683, wb_25, wb_684, ⟨by decide +kernel, by decide +kernel⟩, by decide +kernel, by decide⟩
theorem mk_X5_commonMultiple : mOKS mX5_commonMultiple 2 := ⟨wb_680, wb_25, wb_681, ⟨by decide +kernel, by decide +kernel⟩, by decide +kernel, by decide⟩
theorem mk_X5_count : mOKV mX5_count 5 1 := ⟨wb_449, wb_450, wb_25, wb_451, ⟨_, rfl, rfl⟩, ⟨by decide +kernel, by decide +kernel⟩, by decide +kernel, by decide⟩
theorem mk_X5_countHeard : mOKV mX5_countHeard 5 1 := ⟨wb_455, wb_17, wb_25, wb_456, ⟨_, rfl, rfl⟩, ⟨by decide +kernel, by decide +kernel⟩, by decide +kernel, by decide⟩
theorem mk_X5_drop : mOKV mX5_drop 5 1 := ⟨wb_285, wb_286, wb_25, wb_287, ⟨_, rfl, rfl⟩, ⟨by decide +kernel, by decide +kernel⟩, by decide +kernel, by decide⟩
theorem mk_X5_echo : mOKV mX5_echo 5 3 := ⟨wb_627, wb_628, wb_25, wb_629, ⟨_, rfl, rfl⟩, ⟨by decide +kernel, by decide +kernel⟩, by decide +kernel, by decide⟩
theorem mk_X5_firstCommonMultiple : mOKS mX5_firstCommonMultiple 2 := ⟨wb_674, wb_25, wb_675, ⟨by decide +kernel, by decide +kernel⟩, by decide +kernel, by decide⟩
theorem mk_X5_fits : mOKV mX5_fits 5 3 := ⟨wb_349, wb_350, wb_25, wb_351, ⟨_, rfl, rfl⟩, ⟨by decide +kernel, by decide +kernel⟩, by decide +kernel, by decide⟩
theorem mk_X5_forgetOldest : mOKV mX5_forgetOldest 5 0 := ⟨wb_267, wb_2, wb_25, wb_268, ⟨_, rfl, rfl⟩, ⟨by decide +kernel, by decide +kernel⟩, by decide +kernel, by decide⟩
theorem mk_X5_ghost : mOKV mX5_ghost 5 2 := ⟨wb_587, wb_588, wb_25, wb_589, ⟨_, rfl, rfl⟩, ⟨by decide +kernel, by decide +kernel⟩, by decide +kernel, by decide⟩
theorem mk_X5_go : mOKV mX5_go 5 0 := ⟨wb_306, wb_307, wb_25, wb_308, ⟨_, rfl, rfl⟩, ⟨by decide +kernel, by decide +kernel⟩, by decide +kernel, by decide⟩
theorem mk_X5_heardOf : mOKV mX5_heardOf 5 2 := ⟨wb_614, wb_22, wb_25, wb_615, ⟨_, rfl, rfl⟩, ⟨by decide +kernel, by decide +kernel⟩, by decide +kernel, by decide⟩
theorem mk_X5_ifTurn : mOKV mX5_ifTurn 5 2 := ⟨wb_549, wb_550, wb_25, wb_551, ⟨_, rfl, rfl⟩, ⟨by decide +kernel, by decide +kernel⟩, by decide +kernel, by decide⟩
theorem mk_X5_ifWall : mOKV mX5_ifWall 5 3 := ⟨wb_553, wb_554, wb_25, wb_555, ⟨_, rfl, rfl⟩, ⟨by decide +kernel, by decide +kernel⟩, by decide +kernel, by decide⟩
theorem mk_X5_isSpacing : mOKS mX5_isSpacing 1 := ⟨wb_319, wb_25, wb_320, ⟨by decide +kernel, by decide +kernel⟩, by decide +kernel, by decide⟩
theorem mk_X5_isSpacingOrNone : mOKS mX5_isSpacingOrNone 1 := ⟨wb_322, wb_25, wb_323, ⟨by decide +kernel, by decide +kernel⟩, by decide +kernel, by decide⟩
theorem mk_X5_isWithin : mOKS mX5_isWithin 3 := ⟨wb_239, wb_25, wb_240, ⟨by decide +kernel, by decide +kernel⟩, by decide +kernel, by decide⟩
theorem mk_X5_remainder : mOKS mX5_remainder 2 := ⟨wb_677, wb_25, wb_678, ⟨by decide +kernel, by decide +kernel⟩, by decide +kernel, by decide⟩
theorem mk_X5_remember : mOKV mX5_remember 5 0 := ⟨wb_263, wb_1, wb_25, wb_264, ⟨_, rfl, rfl⟩, ⟨by decide +kernel, by decide +kernel⟩, by decide +kernel, by decide⟩
theorem mk_X5_set : mOKV mX5_set 5 2 := ⟨wb_337, wb_338, wb_25, wb_339, ⟨_, rfl, rfl⟩, ⟨by decide +kernel, by decide +kernel⟩, by decide +kernel, by decide⟩
theorem mk_X5_spacings : mOKV mX5_spacings 5 4 := ⟨wb_315, wb_316, wb_25, wb_317, ⟨_, rfl, rfl⟩, ⟨by decide +kernel, by decide +kernel⟩, by decide +kernel, by decide⟩
theorem mk_X5_target : mOKV mX5_target 5 4 := ⟨wb_231, wb_232, wb_25, wb_233, ⟨_, rfl, rfl⟩, ⟨by decide +kernel, by decide +kernel⟩, by decide +kernel, by decide⟩
theorem mk_X5_targetOf : mOKV mX5_targetOf 5 2 := ⟨wb_605, wb_606, wb_25, wb_607, ⟨_, rfl, rfl⟩, ⟨by decide +kernel, by decide +kernel⟩, by decide +kernel, by decide⟩
theorem mk_X5_told : mOKV mX5_told 5 2 := ⟨wb_650, wb_651, wb_25, wb_652, ⟨_, rfl, rfl⟩, ⟨by decide +kernel, by decide +kernel⟩, by decide +kernel, by decide⟩
theorem mk_X5_truth : mOKV mX5_truth 5 0 := ⟨wb_663, wb_664, wb_25, wb_665, ⟨_, rfl, rfl⟩, ⟨by decide +kernel, by decide +kernel⟩, by decide +kernel, by decide⟩
theorem mk_X5_tryDistances : mOKS mX5_tryDistances 6 := ⟨wb_690, wb_25, wb_691, ⟨by decide +kernel, by decide +kernel⟩, by decide +kernel, by decide⟩
theorem mk_X5_unfold : mOKV mX5_unfold 5 3 := ⟨wb_686, wb_687, wb_25, wb_688, ⟨_, rfl, rfl⟩, ⟨by decide +kernel, by decide +kernel⟩, by decide +kernel, by decide⟩
theorem shq_0 : shp[0]? = some (0, 5, 10) := rfl
theorem shq_1 : shp[1]? = some (0, 3, 9) := rfl
theorem shq_2 : shp[2]? = some (1, 0, 6) := rfl
theorem shq_3 : shp[3]? = some (1, 0, 6) := rfl
theorem shq_4 : shp[4]? = some (1, 0, 6) := rfl
theorem shq_5 : shp[5]? = some (1, 1, 6) := rfl
theorem shq_6 : shp[6]? = some (1, 0, 4) := rfl
theorem shq_7 : shp[7]? = some (0, 3, 9) := rfl
theorem shq_8 : shp[8]? = some (1, 0, 6) := rfl
theorem shq_9 : shp[9]? = some (1, 0, 6) := rfl
theorem shq_10 : shp[10]? = some (1, 0, 6) := rfl
theorem shq_11 : shp[11]? = some (1, 1, 6) := rfl
theorem shq_12 : shp[12]? = some (1, 0, 4) := rfl
theorem shq_13 : shp[13]? = some (0, 3, 9) := rfl
theorem shq_14 : shp[14]? = some (1, 0, 6) := rfl
theorem shq_15 : shp[15]? = some (1, 0, 6) := rfl
theorem shq_16 : shp[16]? = some (1, 0, 6) := rfl
theorem shq_17 : shp[17]? = some (1, 1, 6) := rfl
theorem shq_18 : shp[18]? = some (1, 0, 4) := rfl
theorem shq_19 : shp[19]? = some (3, 4, 4) := rfl
theorem shq_20 : shp[20]? = some (0, 3, 9) := rfl
theorem shq_21 : shp[21]? = some (1, 0, 6) := rfl
theorem shq_22 : shp[22]? = some (1, 0, 6) := rfl
theorem shq_23 : shp[23]? = some (1, 0, 6) := rfl
theorem shq_24 : shp[24]? = some (1, 1, 6) := rfl
theorem shq_25 : shp[25]? = some (1, 0, 4) := rfl
theorem shq_26 : shp[26]? = some (0, 3, 9) := rfl
theorem shq_27 : shp[27]? = some (1, 0, 6) := rfl
theorem shq_28 : shp[28]? = some (1, 0, 6) := rfl
theorem shq_29 : shp[29]? = some (1, 0, 6) := rfl
theorem shq_30 : shp[30]? = some (1, 1, 6) := rfl
theorem shq_31 : shp[31]? = some (1, 0, 4) := rfl
theorem shq_32 : shp[32]? = some (0, 3, 9) := rfl
theorem shq_33 : shp[33]? = some (1, 0, 6) := rfl
theorem shq_34 : shp[34]? = some (1, 0, 6) := rfl
theorem shq_35 : shp[35]? = some (1, 0, 6) := rfl
theorem shq_36 : shp[36]? = some (1, 1, 6) := rfl
theorem shq_37 : shp[37]? = some (1, 0, 4) := rfl
theorem shq_38 : shp[38]? = some (0, 3, 9) := rfl
theorem shq_39 : shp[39]? = some (1, 0, 6) := rfl
theorem shq_40 : shp[40]? = some (1, 0, 6) := rfl
theorem shq_41 : shp[41]? = some (1, 0, 6) := rfl
theorem shq_42 : shp[42]? = some (1, 1, 6) := rfl
theorem shq_43 : shp[43]? = some (1, 0, 4) := rfl
theorem shq_44 : shp[44]? = some (0, 1, 2) := rfl
theorem shq_45 : shp[45]? = some (1, 2, 60) := rfl
theorem shq_46 : shp[46]? = some (0, 2, 13) := rfl
theorem shq_47 : shp[47]? = some (1, 0, 12) := rfl
theorem shq_48 : shp[48]? = some (1, 0, 12) := rfl
theorem shq_49 : shp[49]? = some (1, 0, 12) := rfl
theorem shq_50 : shp[50]? = some (1, 1, 12) := rfl
theorem shq_51 : shp[51]? = some (1, 0, 4) := rfl
theorem shq_52 : shp[52]? = some (0, 4, 2) := rfl
theorem shq_53 : shp[53]? = some (1, 2, 72) := rfl
theorem shq_54 : shp[54]? = some (0, 0, 16) := rfl
theorem shq_55 : shp[55]? = some (1, 0, 21) := rfl
theorem shq_56 : shp[56]? = some (1, 0, 21) := rfl
theorem shq_57 : shp[57]? = some (1, 0, 21) := rfl
theorem shq_58 : shp[58]? = some (1, 0, 21) := rfl
theorem shq_59 : shp[59]? = some (1, 0, 21) := rfl
theorem shq_60 : shp[60]? = some (1, 0, 4) := rfl
theorem shq_61 : shp[61]? = some (2, 3, 44) := rfl
theorem shq_62 : shp[62]? = some (1, 0, 11) := rfl
theorem shq_63 : shp[63]? = some (1, 0, 3600) := rfl
theorem shq_64 : shp[64]? = some (1, 0, 24) := rfl
theorem shq_65 : shp[65]? = some (1, 0, 63) := rfl
theorem shq_66 : shp[66]? = some (1, 0, 9) := rfl
theorem frq_0_0 : FR 0 0 = some 1 := rfl
theorem frq_0_1 : FR 0 1 = some 7 := rfl
theorem frq_0_2 : FR 0 2 = some 13 := rfl
theorem frq_0_3 : FR 0 3 = some 19 := rfl
theorem frq_0_4 : FR 0 4 = some 44 := rfl
theorem frq_0_5 : FR 0 5 = some 46 := rfl
theorem frq_0_6 : FR 0 6 = some 52 := rfl
theorem frq_0_7 : FR 0 7 = some 54 := rfl
theorem frq_0_8 : FR 0 8 = none := rfl
theorem frq_0_9 : FR 0 9 = none := rfl
theorem frq_44_0 : FR 44 0 = some 45 := rfl
theorem frq_44_1 : FR 44 1 = none := rfl
theorem frq_46_0 : FR 46 0 = some 47 := rfl
theorem frq_46_1 : FR 46 1 = some 48 := rfl
theorem frq_46_2 : FR 46 2 = some 49 := rfl
theorem frq_46_3 : FR 46 3 = some 50 := rfl
theorem frq_46_4 : FR 46 4 = some 51 := rfl
theorem frq_46_5 : FR 46 5 = none := rfl
theorem frq_46_6 : FR 46 6 = none := rfl
theorem frq_46_7 : FR 46 7 = none := rfl
theorem frq_46_8 : FR 46 8 = none := rfl
theorem frq_46_9 : FR 46 9 = none := rfl
theorem frq_46_10 : FR 46 10 = none := rfl
theorem frq_46_11 : FR 46 11 = none := rfl
theorem frq_46_12 : FR 46 12 = none := rfl
theorem frq_52_0 : FR 52 0 = some 53 := rfl
theorem frq_52_1 : FR 52 1 = none := rfl
theorem frq_54_0 : FR 54 0 = some 55 := rfl
theorem frq_54_1 : FR 54 1 = some 56 := rfl
theorem frq_54_2 : FR 54 2 = some 57 := rfl
theorem frq_54_3 : FR 54 3 = some 58 := rfl
theorem frq_54_4 : FR 54 4 = some 59 := rfl
theorem frq_54_5 : FR 54 5 = some 60 := rfl
theorem frq_54_6 : FR 54 6 = some 61 := rfl
theorem frq_54_7 : FR 54 7 = some 62 := rfl
theorem frq_54_8 : FR 54 8 = some 63 := rfl
theorem frq_54_9 : FR 54 9 = none := rfl
theorem frq_54_10 : FR 54 10 = none := rfl
theorem frq_54_11 : FR 54 11 = none := rfl
theorem frq_54_12 : FR 54 12 = none := rfl
theorem frq_54_13 : FR 54 13 = none := rfl
theorem frq_54_14 : FR 54 14 = none := rfl
theorem frq_54_15 : FR 54 15 = none := rfl
theorem sc_0 {a : Nat} (h : isSc a) : shp[a]? = some (0, 3, 9) := by rcases h with rfl | rfl | rfl | rfl | rfl | rfl | rfl <;> rfl
theorem sc_1 {a : Nat} (h : isSc a) : shp[a + 1]? = some (1, 0, 6) := by rcases h with rfl | rfl | rfl | rfl | rfl | rfl | rfl <;> rfl
theorem sc_2 {a : Nat} (h : isSc a) : shp[a + 2]? = some (1, 0, 6) := by rcases h with rfl | rfl | rfl | rfl | rfl | rfl | rfl <;> rfl
theorem sc_3 {a : Nat} (h : isSc a) : shp[a + 3]? = some (1, 0, 6) := by rcases h with rfl | rfl | rfl | rfl | rfl | rfl | rfl <;> rfl
theorem sc_4 {a : Nat} (h : isSc a) : shp[a + 4]? = some (1, 1, 6) := by rcases h with rfl | rfl | rfl | rfl | rfl | rfl | rfl <;> rfl
theorem sc_5 {a : Nat} (h : isSc a) : shp[a + 5]? = some (1, 0, 4) := by rcases h with rfl | rfl | rfl | rfl | rfl | rfl | rfl <;> rfl
theorem scr_0 {a : Nat} (h : isSc a) : FR a 0 = some (a + 1) := by rcases h with rfl | rfl | rfl | rfl | rfl | rfl | rfl <;> rfl
theorem scr_1 {a : Nat} (h : isSc a) : FR a 1 = some (a + 2) := by rcases h with rfl | rfl | rfl | rfl | rfl | rfl | rfl <;> rfl
theorem scr_2 {a : Nat} (h : isSc a) : FR a 2 = some (a + 3) := by rcases h with rfl | rfl | rfl | rfl | rfl | rfl | rfl <;> rfl
theorem scr_3 {a : Nat} (h : isSc a) : FR a 3 = some (a + 4) := by rcases h with rfl | rfl | rfl | rfl | rfl | rfl | rfl <;> rfl
theorem scr_4 {a : Nat} (h : isSc a) : FR a 4 = some (a + 5) := by rcases h with rfl | rfl | rfl | rfl | rfl | rfl | rfl <;> rfl
theorem scr_5 {a : Nat} (h : isSc a) : FR a 5 = none := by rcases h with rfl | rfl | rfl | rfl | rfl | rfl | rfl <;> rfl
theorem scr_6 {a : Nat} (h : isSc a) : FR a 6 = none := by rcases h with rfl | rfl | rfl | rfl | rfl | rfl | rfl <;> rfl
theorem scr_7 {a : Nat} (h : isSc a) : FR a 7 = none := by rcases h with rfl | rfl | rfl | rfl | rfl | rfl | rfl <;> rfl
theorem scr_8 {a : Nat} (h : isSc a) : FR a 8 = none := by rcases h with rfl | rfl | rfl | rfl | rfl | rfl | rfl <;> rfl
theorem ixk_0 : ix 0 = 0 := by decide +kernel
theorem ixk_1 : ix 1 = 1 := by decide +kernel
theorem ixk_2 : ix 2 = 2 := by decide +kernel
theorem ixk_3 : ix 3 = 3 := by decide +kernel
theorem ixk_4 : ix 4 = 4 := by decide +kernel
theorem ixk_5 : ix 5 = 5 := by decide +kernel
theorem ixk_6 : ix 6 = 6 := by decide +kernel
theorem ixk_7 : ix 7 = 7 := by decide +kernel
theorem ixk_8 : ix 8 = 8 := by decide +kernel
theorem k_bi_10 : (Int8.ofInt (10)).toInt32 = 10 := by decide +kernel
theorem k_bi_11 : (Int8.ofInt (11)).toInt32 = 11 := by decide +kernel
theorem k_bi_12 : (Int8.ofInt (12)).toInt32 = 12 := by decide +kernel
theorem k_bi_13 : (Int8.ofInt (13)).toInt32 = 13 := by decide +kernel
theorem k_bi_14 : (Int8.ofInt (14)).toInt32 = 14 := by decide +kernel
theorem k_bi_15 : (Int8.ofInt (15)).toInt32 = 15 := by decide +kernel
theorem k_bi_16 : (Int8.ofInt (16)).toInt32 = 16 := by decide +kernel
theorem k_bi_18 : (Int8.ofInt (18)).toInt32 = 18 := by decide +kernel
theorem k_bi_20 : (Int8.ofInt (20)).toInt32 = 20 := by decide +kernel
theorem k_bi_21 : (Int8.ofInt (21)).toInt32 = 21 := by decide +kernel
theorem k_bi_24 : (Int8.ofInt (24)).toInt32 = 24 := by decide +kernel
theorem k_bi_25 : (Int8.ofInt (25)).toInt32 = 25 := by decide +kernel
theorem k_bi_30 : (Int8.ofInt (30)).toInt32 = 30 := by decide +kernel
theorem k_bi_36 : (Int8.ofInt (36)).toInt32 = 36 := by decide +kernel
theorem k_bi_40 : (Int8.ofInt (40)).toInt32 = 40 := by decide +kernel
theorem k_bi_41 : (Int8.ofInt (41)).toInt32 = 41 := by decide +kernel
theorem k_bi_50 : (Int8.ofInt (50)).toInt32 = 50 := by decide +kernel
theorem k_bi_6 : (Int8.ofInt (6)).toInt32 = 6 := by decide +kernel
theorem k_bi_60 : (Int8.ofInt (60)).toInt32 = 60 := by decide +kernel
theorem k_bi_7 : (Int8.ofInt (7)).toInt32 = 7 := by decide +kernel
theorem k_bi_8 : (Int8.ofInt (8)).toInt32 = 8 := by decide +kernel
theorem k_bi_9 : (Int8.ofInt (9)).toInt32 = 9 := by decide +kernel
theorem k_bi_99 : (Int8.ofInt (99)).toInt32 = 99 := by decide +kernel
theorem k_bi_m2 : (Int8.ofInt (-2)).toInt32 = (-2) := by decide +kernel
theorem k_bi_m3 : (Int8.ofInt (-3)).toInt32 = (-3) := by decide +kernel
theorem k_bi_m4 : (Int8.ofInt (-4)).toInt32 = (-4) := by decide +kernel
theorem k_bi_m5 : (Int8.ofInt (-5)).toInt32 = (-5) := by decide +kernel
theorem k_ic_0 : Int32.ofInt (0) = 0 := by decide +kernel
theorem k_ic_1 : Int32.ofInt (1) = 1 := by decide +kernel
theorem k_ic_2 : Int32.ofInt (2) = 2 := by decide +kernel
theorem k_ic_3 : Int32.ofInt (3) = 3 := by decide +kernel
theorem k_ic_4 : Int32.ofInt (4) = 4 := by decide +kernel
theorem k_ic_5 : Int32.ofInt (5) = 5 := by decide +kernel
theorem k_ic_m1 : Int32.ofInt (-1) = (-1) := by decide +kernel
theorem k_lc_0 : Int64.ofNat (((0 : Fin 2)) : Nat) = 0 := by decide +kernel
theorem k_lc_1 : Int64.ofNat (((1 : Fin 2)) : Nat) = 1 := by decide +kernel
theorem k_on_11 : Int32.ofNat 11 = 11 := by decide +kernel
theorem k_on_4 : Int32.ofNat 4 = 4 := by decide +kernel
theorem k_on_44 : Int32.ofNat 44 = 44 := by decide +kernel
theorem k_si_200 : (Int16.ofInt (200)).toInt32 = 200 := by decide +kernel
theorem k_si_2500 : (Int16.ofInt (2500)).toInt32 = 2500 := by decide +kernel
theorem k_si_300 : (Int16.ofInt (300)).toInt32 = 300 := by decide +kernel
theorem k_si_301 : (Int16.ofInt (301)).toInt32 = 301 := by decide +kernel
theorem k_si_600 : (Int16.ofInt (600)).toInt32 = 600 := by decide +kernel
theorem k_si_601 : (Int16.ofInt (601)).toInt32 = 601 := by decide +kernel
theorem k_si_6600 : (Int16.ofInt (6600)).toInt32 = 6600 := by decide +kernel
theorem vik_0_9 : vp_in 0 9 := by unfold vp_in; decide +kernel
theorem vik_1_9 : vp_in 1 9 := by unfold vp_in; decide +kernel
theorem vik_2_9 : vp_in 2 9 := by unfold vp_in; decide +kernel
theorem vik_3_9 : vp_in 3 9 := by unfold vp_in; decide +kernel
theorem vik_4_9 : vp_in 4 9 := by unfold vp_in; decide +kernel
theorem vik_5_9 : vp_in 5 9 := by unfold vp_in; decide +kernel
theorem vik_6_9 : vp_in 6 9 := by unfold vp_in; decide +kernel
theorem vik_7_9 : vp_in 7 9 := by unfold vp_in; decide +kernel
theorem vik_8_9 : vp_in 8 9 := by unfold vp_in; decide +kernel
end
section
/-! more rows of PM's logic: what the law's methods and the doubles want -/
section GO2
variable {y : MI} {d pc : Nat} {ls st : List Value} {σ : St} {Q : Option Value → St → Prop}
theorem Go.aload {i : Nat} {x : Nat} (hd : decode y.2.1 pc = .ok (.aload i, 2)) (hl : ls[i]? = some (.ref x)) (k : Go y d (pc + 2) ls (.ref x :: st) σ Q) : Go y d pc ls st σ Q :=
  fun l G p e s m args below meth c H locs lsA R hH hS hL => lv_aload R.1 R.2.1 hd (hL.at' hl (by simp)) (k l G p e s m args below meth c H locs lsA R hH hS hL)
theorem Go.ishr {a b : Int32} (hd : decode y.2.1 pc = .ok (.ishr, 1)) (k : Go y d (pc + 1) ls (.int (a >>> (b &&& 31)) :: st) σ Q) : Go y d pc ls (.int b :: .int a :: st) σ Q :=
  fun l G p e s m args below meth c H locs lsA R hH hS hL => lv_ishr R.1 R.2.1 hd (k l G p e s m args below meth c H locs lsA R hH hS hL)
theorem Go.iand {a b : Int32} (hd : decode y.2.1 pc = .ok (.iand, 1)) (k : Go y d (pc + 1) ls (.int (a &&& b) :: st) σ Q) : Go y d pc ls (.int b :: .int a :: st) σ Q :=
  fun l G p e s m args below meth c H locs lsA R hH hS hL => lv_iand R.1 R.2.1 hd (k l G p e s m args below meth c H locs lsA R hH hS hL)
theorem Go.ldc {index : Nat} {v : Int32} (hw : Cond.constant y.1.cls index v ∈ tbg) (hd : decode y.2.1 pc = .ok (.ldc index, 2)) (k : Go y d (pc + 2) ls (.int v :: st) σ Q) : Go y d pc ls st σ Q :=
  fun l G p e s m args below meth c H locs lsA R hH hS hL => lv_ldc R.1 R.2.1 R.2.2.2.2.1 (R.2.2.2.2.2.1 _ hw) hd (k l G p e s m args below meth c H locs lsA R hH hS hL)
theorem Go.i2d {x : Int32} (hd : decode y.2.1 pc = .ok (.i2d, 1)) (k : Go y d (pc + 1) ls (.double (FP.i2d x) :: st) σ Q) : Go y d pc ls (.int x :: st) σ Q :=
  fun l G p e s m args below meth c H locs lsA R hH hS hL => lv_i2d R.1 R.2.1 hd (k l G p e s m args below meth c H locs lsA R hH hS hL)
theorem Go.ddiv {a b : UInt64} (hd : decode y.2.1 pc = .ok (.ddiv, 1)) (hne : vf_n64 (FP.ddiv a b)) (k : Go y d (pc + 1) ls (.double (FP.ddiv a b) :: st) σ Q) : Go y d pc ls (.double b :: .double a :: st) σ Q :=
  fun l G p e s m args below meth c H locs lsA R hH hS hL => lv_ddiv R.1 R.2.1 hd hne (k l G p e s m args below meth c H locs lsA R hH hS hL)
theorem Go.dconst1 (hd : decode y.2.1 pc = .ok (.dconst 1, 1)) (k : Go y d (pc + 1) ls (.double FP.dconst1 :: st) σ Q) : Go y d pc ls st σ Q :=
  fun l G p e s m args below meth c H locs lsA R hH hS hL => lv_dconst1 R.1 R.2.1 hd (k l G p e s m args below meth c H locs lsA R hH hS hL)
theorem Go.dret {v : UInt64} (hr : y.2.2.2 = some .double) (hd : decode y.2.1 pc = .ok (.dreturn, 1)) (k : Q (some (.double v)) σ) : Go y d pc ls [.double v] σ Q := by
  intro l G p e s m args below meth c H locs lsA R hH hS hL
  have hlocks := R.2.2.2.2.2.2.1
  exact W.dret R.1 R.2.1 (R.2.2.1.trans hr) (fun t ht _ => ⟨⟨some (.double v), σ, rfl, k, by rw [ht]; exact hH⟩, hS.F ht⟩) hS.2.2 hd
theorem Go.dcmp {a b : UInt64} {op : CmpOp} (hd : decode y.2.1 pc = .ok (.dcmp op, 1)) (k : Go y d (pc + 1) ls (.int (Op.cmpValue (FP.dcmp a b) op) :: st) σ Q) : Go y d pc ls (.double b :: .double a :: st) σ Q :=
  fun l G p e s m args below meth c H locs lsA R hH hS hL => lv_dcmp R.1 R.2.1 hd (k l G p e s m args below meth c H locs lsA R hH hS hL)
theorem Go.dload {i : Nat} {x : UInt64} (hd : decode y.2.1 pc = .ok (.dload i, 2)) (hl : ls[i]? = some (.double x)) (k : Go y d (pc + 2) ls (.double x :: st) σ Q) : Go y d pc ls st σ Q :=
  fun l G p e s m args below meth c H locs lsA R hH hS hL => lv_dload R.1 R.2.1 hd (hL.at' hl (by simp)) (k l G p e s m args below meth c H locs lsA R hH hS hL)
theorem Go.dstore {i : Nat} {x : UInt64} {ls' : List Value} (hd : decode y.2.1 pc = .ok (.dstore i, 2)) (hi : i + 1 < y.2.2.1) (hok : lvok ls i = true) (hl : (ls.set i (.double x)).set (i + 1) .null = ls') (k : Go y d (pc + 2) ls' st σ Q) : Go y d pc ls (.double x :: st) σ Q := by
  intro l G p e s m args below meth c H locs lsA R hH hS hL
  obtain ⟨h1, h2, h3, h4⟩ := hL
  have hlv : lv_has lsA y.2.2.1 ((List.range y.2.2.1).filterMap fun j => match ls[j]? with | some Value.null => none | some w => some (j, ptr G.2.2 w) | none => none) := by
    refine ⟨h1, h2, fun q hq => ?_⟩
    obtain ⟨j, -, hj⟩ := List.mem_filterMap.mp hq
    rcases hls : ls[j]? with _ | w
    · rw [hls] at hj; cases hj
    · rw [hls] at hj
      cases w <;> first | (cases hj; exact h4 j _ hls (by simp)) | cases hj
  refine lv_dstore R.1 R.2.1 hd hlv hi rfl (fun lsB hB => ?_)
  refine k l G p e s m args below meth c H locs lsB R hH hS ⟨hB.1, hB.2.1, by rw [← hl]; simp [h3], fun j w hj hw => ?_⟩
  rw [← hl] at hj
  rcases Nat.decEq j (i + 1) with hne | rfl
  · rw [List.getElem?_set_ne (fun z => hne z.symm)] at hj
    rcases Nat.decEq j i with hne2 | rfl
    · rw [List.getElem?_set_ne (fun z => hne2 z.symm)] at hj
      have hjn : j < y.2.2.1 := by rw [← h3]; exact (List.getElem?_eq_some_iff.mp hj).1
      refine hB.2.2 (j, ptr G.2.2 w) (List.mem_cons_of_mem _ (List.mem_filter.mpr ⟨List.mem_filterMap.mpr ⟨j, List.mem_range.mpr hjn, ?_⟩, ?_⟩))
      · rw [hj]
        cases w <;> first | rfl | exact (hw rfl).elim
      · simp only [Bool.and_eq_true, Bool.not_eq_true', beq_eq_false_iff_ne, ne_eq, Bool.and_eq_false_iff]
        refine ⟨hne2, hne, ?_⟩
        rcases Nat.decEq (j + 1) i with hz | hz
        · exact Or.inl hz
        · right
          subst hz
          rw [ptr_cat]
          have hok2 : ((ls.getD j .null).category != 2) = true := hok
          have : ls.getD j .null = w := by simp [List.getD, hj]
          rw [this] at hok2
          simpa using hok2
    · rw [List.getElem?_set_self (by omega)] at hj
      cases hj
      exact hB.2.2 (j, .double x) List.mem_cons_self
  · rw [List.getElem?_set_self (by simp; omega)] at hj
    cases hj
    exact (hw rfl).elim
end GO2
end
section
theorem dX3_become_0 : decode cX3_become 0 = .ok (.aload_n 1, 1) := by decide +kernel
theorem dX3_become_1 : decode cX3_become 1 = .ok (.getfield 9, 3) := by decide +kernel
theorem dX3_become_4 : decode cX3_become 4 = .ok (.iconst 0, 1) := by decide +kernel
theorem dX3_become_5 : decode cX3_become 5 = .ok (.aload_n 0, 1) := by decide +kernel
theorem dX3_become_6 : decode cX3_become 6 = .ok (.getfield 9, 3) := by decide +kernel
theorem dX3_become_9 : decode cX3_become 9 = .ok (.iconst 0, 1) := by decide +kernel
theorem dX3_become_10 : decode cX3_become 10 = .ok (.bipush 6, 2) := by decide +kernel
theorem dX3_become_12 : decode cX3_become 12 = .ok (.invokestatic 41, 3) := by decide +kernel
theorem dX3_become_15 : decode cX3_become 15 = .ok (.aload_n 1, 1) := by decide +kernel
theorem dX3_become_16 : decode cX3_become 16 = .ok (.getfield 15, 3) := by decide +kernel
theorem dX3_become_19 : decode cX3_become 19 = .ok (.iconst 0, 1) := by decide +kernel
theorem dX3_become_20 : decode cX3_become 20 = .ok (.aload_n 0, 1) := by decide +kernel
theorem dX3_become_21 : decode cX3_become 21 = .ok (.getfield 15, 3) := by decide +kernel
theorem dX3_become_24 : decode cX3_become 24 = .ok (.iconst 0, 1) := by decide +kernel
theorem dX3_become_25 : decode cX3_become 25 = .ok (.bipush 6, 2) := by decide +kernel
theorem dX3_become_27 : decode cX3_become 27 = .ok (.invokestatic 41, 3) := by decide +kernel
theorem dX3_become_30 : decode cX3_become 30 = .ok (.aload_n 1, 1) := by decide +kernel
theorem dX3_become_31 : decode cX3_become 31 = .ok (.getfield 18, 3) := by decide +kernel
theorem dX3_become_34 : decode cX3_become 34 = .ok (.iconst 0, 1) := by decide +kernel
theorem dX3_become_35 : decode cX3_become 35 = .ok (.aload_n 0, 1) := by decide +kernel
theorem dX3_become_36 : decode cX3_become 36 = .ok (.getfield 18, 3) := by decide +kernel
theorem dX3_become_39 : decode cX3_become 39 = .ok (.iconst 0, 1) := by decide +kernel
theorem dX3_become_40 : decode cX3_become 40 = .ok (.bipush 6, 2) := by decide +kernel
theorem dX3_become_42 : decode cX3_become 42 = .ok (.invokestatic 41, 3) := by decide +kernel
theorem dX3_become_45 : decode cX3_become 45 = .ok (.aload_n 1, 1) := by decide +kernel
theorem dX3_become_46 : decode cX3_become 46 = .ok (.getfield 25, 3) := by decide +kernel
theorem dX3_become_49 : decode cX3_become 49 = .ok (.iconst 0, 1) := by decide +kernel
theorem dX3_become_50 : decode cX3_become 50 = .ok (.aload_n 0, 1) := by decide +kernel
theorem dX3_become_51 : decode cX3_become 51 = .ok (.getfield 25, 3) := by decide +kernel
theorem dX3_become_54 : decode cX3_become 54 = .ok (.iconst 0, 1) := by decide +kernel
theorem dX3_become_55 : decode cX3_become 55 = .ok (.iconst 4, 1) := by decide +kernel
theorem dX3_become_56 : decode cX3_become 56 = .ok (.invokestatic 41, 3) := by decide +kernel
theorem dX3_become_59 : decode cX3_become 59 = .ok (.iconst 0, 1) := by decide +kernel
theorem dX3_become_60 : decode cX3_become 60 = .ok (.istore_n 2, 1) := by decide +kernel
theorem dX3_become_61 : decode cX3_become 61 = .ok (.iload_n 2, 1) := by decide +kernel
theorem dX3_become_62 : decode cX3_become 62 = .ok (.bipush 6, 2) := by decide +kernel
theorem dX3_become_64 : decode cX3_become 64 = .ok (.if_icmp .ge 21, 3) := by decide +kernel
theorem dX3_become_67 : decode cX3_become 67 = .ok (.aload_n 0, 1) := by decide +kernel
theorem dX3_become_68 : decode cX3_become 68 = .ok (.getfield 21, 3) := by decide +kernel
theorem dX3_become_71 : decode cX3_become 71 = .ok (.iload_n 2, 1) := by decide +kernel
theorem dX3_become_72 : decode cX3_become 72 = .ok (.aload_n 1, 1) := by decide +kernel
theorem dX3_become_73 : decode cX3_become 73 = .ok (.getfield 21, 3) := by decide +kernel
theorem dX3_become_76 : decode cX3_become 76 = .ok (.iload_n 2, 1) := by decide +kernel
theorem dX3_become_77 : decode cX3_become 77 = .ok (.baload, 1) := by decide +kernel
theorem dX3_become_78 : decode cX3_become 78 = .ok (.bastore, 1) := by decide +kernel
theorem dX3_become_79 : decode cX3_become 79 = .ok (.iinc 2 1, 3) := by decide +kernel
theorem dX3_become_82 : decode cX3_become 82 = .ok (.goto (-21), 3) := by decide +kernel
theorem dX3_become_85 : decode cX3_become 85 = .ok (.aload_n 0, 1) := by decide +kernel
theorem dX3_become_86 : decode cX3_become 86 = .ok (.aload_n 1, 1) := by decide +kernel
theorem dX3_become_87 : decode cX3_become 87 = .ok (.getfield 28, 3) := by decide +kernel
theorem dX3_become_90 : decode cX3_become 90 = .ok (.putfield 28, 3) := by decide +kernel
theorem dX3_become_93 : decode cX3_become 93 = .ok (.aload_n 0, 1) := by decide +kernel
theorem dX3_become_94 : decode cX3_become 94 = .ok (.aload_n 1, 1) := by decide +kernel
theorem dX3_become_95 : decode cX3_become 95 = .ok (.getfield 32, 3) := by decide +kernel
theorem dX3_become_98 : decode cX3_become 98 = .ok (.putfield 32, 3) := by decide +kernel
theorem dX3_become_101 : decode cX3_become 101 = .ok (.aload_n 0, 1) := by decide +kernel
theorem dX3_become_102 : decode cX3_become 102 = .ok (.aload_n 1, 1) := by decide +kernel
theorem dX3_become_103 : decode cX3_become 103 = .ok (.getfield 35, 3) := by decide +kernel
theorem dX3_become_106 : decode cX3_become 106 = .ok (.putfield 35, 3) := by decide +kernel
theorem dX3_become_109 : decode cX3_become 109 = .ok (.aload_n 0, 1) := by decide +kernel
theorem dX3_become_110 : decode cX3_become 110 = .ok (.aload_n 1, 1) := by decide +kernel
theorem dX3_become_111 : decode cX3_become 111 = .ok (.getfield 38, 3) := by decide +kernel
theorem dX3_become_114 : decode cX3_become 114 = .ok (.putfield 38, 3) := by decide +kernel
theorem dX3_become_117 : decode cX3_become 117 = .ok (.return_, 1) := by decide +kernel
theorem dX3_targetCount_0 : decode cX3_targetCount 0 = .ok (.aload_n 0, 1) := by decide +kernel
theorem dX3_targetCount_1 : decode cX3_targetCount 1 = .ok (.getfield 28, 3) := by decide +kernel
theorem dX3_targetCount_4 : decode cX3_targetCount 4 = .ok (.ireturn, 1) := by decide +kernel
theorem dX3_turnCount_0 : decode cX3_turnCount 0 = .ok (.aload_n 0, 1) := by decide +kernel
theorem dX3_turnCount_1 : decode cX3_turnCount 1 = .ok (.getfield 32, 3) := by decide +kernel
theorem dX3_turnCount_4 : decode cX3_turnCount 4 = .ok (.ireturn, 1) := by decide +kernel
theorem dX3_blindBelow_0 : decode cX3_blindBelow 0 = .ok (.aload_n 0, 1) := by decide +kernel
theorem dX3_blindBelow_1 : decode cX3_blindBelow 1 = .ok (.getfield 35, 3) := by decide +kernel
theorem dX3_blindBelow_4 : decode cX3_blindBelow 4 = .ok (.ireturn, 1) := by decide +kernel
theorem dX3_loudFrom_0 : decode cX3_loudFrom 0 = .ok (.aload_n 0, 1) := by decide +kernel
theorem dX3_loudFrom_1 : decode cX3_loudFrom 1 = .ok (.getfield 38, 3) := by decide +kernel
theorem dX3_loudFrom_4 : decode cX3_loudFrom 4 = .ok (.ireturn, 1) := by decide +kernel
theorem dX3_has_0 : decode cX3_has 0 = .ok (.iload_n 1, 1) := by decide +kernel
theorem dX3_has_1 : decode cX3_has 1 = .ok (.ifCond .lt 21, 3) := by decide +kernel
theorem dX3_has_4 : decode cX3_has 4 = .ok (.iload_n 1, 1) := by decide +kernel
theorem dX3_has_5 : decode cX3_has 5 = .ok (.aload_n 0, 1) := by decide +kernel
theorem dX3_has_6 : decode cX3_has 6 = .ok (.getfield 28, 3) := by decide +kernel
theorem dX3_has_9 : decode cX3_has 9 = .ok (.if_icmp .ge 13, 3) := by decide +kernel
theorem dX3_has_12 : decode cX3_has 12 = .ok (.iload_n 1, 1) := by decide +kernel
theorem dX3_has_13 : decode cX3_has 13 = .ok (.bipush 6, 2) := by decide +kernel
theorem dX3_has_15 : decode cX3_has 15 = .ok (.if_icmp .ge 7, 3) := by decide +kernel
theorem dX3_has_18 : decode cX3_has 18 = .ok (.iconst 1, 1) := by decide +kernel
theorem dX3_has_19 : decode cX3_has 19 = .ok (.goto 4, 3) := by decide +kernel
theorem dX3_has_22 : decode cX3_has 22 = .ok (.iconst 0, 1) := by decide +kernel
theorem dX3_has_23 : decode cX3_has 23 = .ok (.ireturn, 1) := by decide +kernel
theorem dX3_hasTurn_0 : decode cX3_hasTurn 0 = .ok (.iload_n 1, 1) := by decide +kernel
theorem dX3_hasTurn_1 : decode cX3_hasTurn 1 = .ok (.ifCond .lt 20, 3) := by decide +kernel
theorem dX3_hasTurn_4 : decode cX3_hasTurn 4 = .ok (.iload_n 1, 1) := by decide +kernel
theorem dX3_hasTurn_5 : decode cX3_hasTurn 5 = .ok (.aload_n 0, 1) := by decide +kernel
theorem dX3_hasTurn_6 : decode cX3_hasTurn 6 = .ok (.getfield 32, 3) := by decide +kernel
theorem dX3_hasTurn_9 : decode cX3_hasTurn 9 = .ok (.if_icmp .ge 12, 3) := by decide +kernel
theorem dX3_hasTurn_12 : decode cX3_hasTurn 12 = .ok (.iload_n 1, 1) := by decide +kernel
theorem dX3_hasTurn_13 : decode cX3_hasTurn 13 = .ok (.iconst 4, 1) := by decide +kernel
theorem dX3_hasTurn_14 : decode cX3_hasTurn 14 = .ok (.if_icmp .ge 7, 3) := by decide +kernel
theorem dX3_hasTurn_17 : decode cX3_hasTurn 17 = .ok (.iconst 1, 1) := by decide +kernel
theorem dX3_hasTurn_18 : decode cX3_hasTurn 18 = .ok (.goto 4, 3) := by decide +kernel
theorem dX3_hasTurn_21 : decode cX3_hasTurn 21 = .ok (.iconst 0, 1) := by decide +kernel
theorem dX3_hasTurn_22 : decode cX3_hasTurn 22 = .ok (.ireturn, 1) := by decide +kernel
theorem dX3_distanceOf_0 : decode cX3_distanceOf 0 = .ok (.aload_n 0, 1) := by decide +kernel
theorem dX3_distanceOf_1 : decode cX3_distanceOf 1 = .ok (.iload_n 1, 1) := by decide +kernel
theorem dX3_distanceOf_2 : decode cX3_distanceOf 2 = .ok (.invokevirtual 47, 3) := by decide +kernel
theorem dX3_distanceOf_5 : decode cX3_distanceOf 5 = .ok (.ifCond .eq 12, 3) := by decide +kernel
theorem dX3_distanceOf_8 : decode cX3_distanceOf 8 = .ok (.aload_n 0, 1) := by decide +kernel
theorem dX3_distanceOf_9 : decode cX3_distanceOf 9 = .ok (.getfield 9, 3) := by decide +kernel
theorem dX3_distanceOf_12 : decode cX3_distanceOf 12 = .ok (.iload_n 1, 1) := by decide +kernel
theorem dX3_distanceOf_13 : decode cX3_distanceOf 13 = .ok (.iaload, 1) := by decide +kernel
theorem dX3_distanceOf_14 : decode cX3_distanceOf 14 = .ok (.goto 4, 3) := by decide +kernel
theorem dX3_distanceOf_17 : decode cX3_distanceOf 17 = .ok (.iconst 0, 1) := by decide +kernel
theorem dX3_distanceOf_18 : decode cX3_distanceOf 18 = .ok (.ireturn, 1) := by decide +kernel
theorem dX3_strengthOf_0 : decode cX3_strengthOf 0 = .ok (.aload_n 0, 1) := by decide +kernel
theorem dX3_strengthOf_1 : decode cX3_strengthOf 1 = .ok (.iload_n 1, 1) := by decide +kernel
theorem dX3_strengthOf_2 : decode cX3_strengthOf 2 = .ok (.invokevirtual 47, 3) := by decide +kernel
theorem dX3_strengthOf_5 : decode cX3_strengthOf 5 = .ok (.ifCond .eq 12, 3) := by decide +kernel
theorem dX3_strengthOf_8 : decode cX3_strengthOf 8 = .ok (.aload_n 0, 1) := by decide +kernel
theorem dX3_strengthOf_9 : decode cX3_strengthOf 9 = .ok (.getfield 15, 3) := by decide +kernel
theorem dX3_strengthOf_12 : decode cX3_strengthOf 12 = .ok (.iload_n 1, 1) := by decide +kernel
theorem dX3_strengthOf_13 : decode cX3_strengthOf 13 = .ok (.iaload, 1) := by decide +kernel
theorem dX3_strengthOf_14 : decode cX3_strengthOf 14 = .ok (.goto 4, 3) := by decide +kernel
theorem dX3_strengthOf_17 : decode cX3_strengthOf 17 = .ok (.iconst 0, 1) := by decide +kernel
theorem dX3_strengthOf_18 : decode cX3_strengthOf 18 = .ok (.ireturn, 1) := by decide +kernel
theorem dX3_movementOf_0 : decode cX3_movementOf 0 = .ok (.aload_n 0, 1) := by decide +kernel
theorem dX3_movementOf_1 : decode cX3_movementOf 1 = .ok (.iload_n 1, 1) := by decide +kernel
theorem dX3_movementOf_2 : decode cX3_movementOf 2 = .ok (.invokevirtual 47, 3) := by decide +kernel
theorem dX3_movementOf_5 : decode cX3_movementOf 5 = .ok (.ifCond .eq 12, 3) := by decide +kernel
theorem dX3_movementOf_8 : decode cX3_movementOf 8 = .ok (.aload_n 0, 1) := by decide +kernel
theorem dX3_movementOf_9 : decode cX3_movementOf 9 = .ok (.getfield 18, 3) := by decide +kernel
theorem dX3_movementOf_12 : decode cX3_movementOf 12 = .ok (.iload_n 1, 1) := by decide +kernel
theorem dX3_movementOf_13 : decode cX3_movementOf 13 = .ok (.iaload, 1) := by decide +kernel
theorem dX3_movementOf_14 : decode cX3_movementOf 14 = .ok (.goto 4, 3) := by decide +kernel
theorem dX3_movementOf_17 : decode cX3_movementOf 17 = .ok (.iconst 0, 1) := by decide +kernel
theorem dX3_movementOf_18 : decode cX3_movementOf 18 = .ok (.ireturn, 1) := by decide +kernel
theorem dX3_isWall_0 : decode cX3_isWall 0 = .ok (.aload_n 0, 1) := by decide +kernel
theorem dX3_isWall_1 : decode cX3_isWall 1 = .ok (.iload_n 1, 1) := by decide +kernel
theorem dX3_isWall_2 : decode cX3_isWall 2 = .ok (.invokevirtual 47, 3) := by decide +kernel
theorem dX3_isWall_5 : decode cX3_isWall 5 = .ok (.ifCond .eq 16, 3) := by decide +kernel
theorem dX3_isWall_8 : decode cX3_isWall 8 = .ok (.aload_n 0, 1) := by decide +kernel
theorem dX3_isWall_9 : decode cX3_isWall 9 = .ok (.getfield 21, 3) := by decide +kernel
theorem dX3_isWall_12 : decode cX3_isWall 12 = .ok (.iload_n 1, 1) := by decide +kernel
theorem dX3_isWall_13 : decode cX3_isWall 13 = .ok (.baload, 1) := by decide +kernel
theorem dX3_isWall_14 : decode cX3_isWall 14 = .ok (.ifCond .eq 7, 3) := by decide +kernel
theorem dX3_isWall_17 : decode cX3_isWall 17 = .ok (.iconst 1, 1) := by decide +kernel
theorem dX3_isWall_18 : decode cX3_isWall 18 = .ok (.goto 4, 3) := by decide +kernel
theorem dX3_isWall_21 : decode cX3_isWall 21 = .ok (.iconst 0, 1) := by decide +kernel
theorem dX3_isWall_22 : decode cX3_isWall 22 = .ok (.ireturn, 1) := by decide +kernel
theorem dX3_spacingOf_0 : decode cX3_spacingOf 0 = .ok (.aload_n 0, 1) := by decide +kernel
theorem dX3_spacingOf_1 : decode cX3_spacingOf 1 = .ok (.iload_n 1, 1) := by decide +kernel
theorem dX3_spacingOf_2 : decode cX3_spacingOf 2 = .ok (.invokevirtual 51, 3) := by decide +kernel
theorem dX3_spacingOf_5 : decode cX3_spacingOf 5 = .ok (.ifCond .eq 12, 3) := by decide +kernel
theorem dX3_spacingOf_8 : decode cX3_spacingOf 8 = .ok (.aload_n 0, 1) := by decide +kernel
theorem dX3_spacingOf_9 : decode cX3_spacingOf 9 = .ok (.getfield 25, 3) := by decide +kernel
theorem dX3_spacingOf_12 : decode cX3_spacingOf 12 = .ok (.iload_n 1, 1) := by decide +kernel
theorem dX3_spacingOf_13 : decode cX3_spacingOf 13 = .ok (.iaload, 1) := by decide +kernel
theorem dX3_spacingOf_14 : decode cX3_spacingOf 14 = .ok (.goto 4, 3) := by decide +kernel
theorem dX3_spacingOf_17 : decode cX3_spacingOf 17 = .ok (.iconst 0, 1) := by decide +kernel
theorem dX3_spacingOf_18 : decode cX3_spacingOf 18 = .ok (.ireturn, 1) := by decide +kernel
theorem dX3_wallCount_0 : decode cX3_wallCount 0 = .ok (.iconst 0, 1) := by decide +kernel
theorem dX3_wallCount_1 : decode cX3_wallCount 1 = .ok (.istore_n 1, 1) := by decide +kernel
theorem dX3_wallCount_2 : decode cX3_wallCount 2 = .ok (.iconst 0, 1) := by decide +kernel
theorem dX3_wallCount_3 : decode cX3_wallCount 3 = .ok (.istore_n 2, 1) := by decide +kernel
theorem dX3_wallCount_4 : decode cX3_wallCount 4 = .ok (.iload_n 2, 1) := by decide +kernel
theorem dX3_wallCount_5 : decode cX3_wallCount 5 = .ok (.aload_n 0, 1) := by decide +kernel
theorem dX3_wallCount_6 : decode cX3_wallCount 6 = .ok (.getfield 28, 3) := by decide +kernel
theorem dX3_wallCount_9 : decode cX3_wallCount 9 = .ok (.if_icmp .ge 25, 3) := by decide +kernel
theorem dX3_wallCount_12 : decode cX3_wallCount 12 = .ok (.iload_n 1, 1) := by decide +kernel
theorem dX3_wallCount_13 : decode cX3_wallCount 13 = .ok (.aload_n 0, 1) := by decide +kernel
theorem dX3_wallCount_14 : decode cX3_wallCount 14 = .ok (.iload_n 2, 1) := by decide +kernel
theorem dX3_wallCount_15 : decode cX3_wallCount 15 = .ok (.invokevirtual 54, 3) := by decide +kernel
theorem dX3_wallCount_18 : decode cX3_wallCount 18 = .ok (.ifCond .eq 7, 3) := by decide +kernel
theorem dX3_wallCount_21 : decode cX3_wallCount 21 = .ok (.iconst 1, 1) := by decide +kernel
theorem dX3_wallCount_22 : decode cX3_wallCount 22 = .ok (.goto 4, 3) := by decide +kernel
theorem dX3_wallCount_25 : decode cX3_wallCount 25 = .ok (.iconst 0, 1) := by decide +kernel
theorem dX3_wallCount_26 : decode cX3_wallCount 26 = .ok (.iadd, 1) := by decide +kernel
theorem dX3_wallCount_27 : decode cX3_wallCount 27 = .ok (.istore_n 1, 1) := by decide +kernel
theorem dX3_wallCount_28 : decode cX3_wallCount 28 = .ok (.iinc 2 1, 3) := by decide +kernel
theorem dX3_wallCount_31 : decode cX3_wallCount 31 = .ok (.goto (-27), 3) := by decide +kernel
theorem dX3_wallCount_34 : decode cX3_wallCount 34 = .ok (.iload_n 1, 1) := by decide +kernel
theorem dX3_wallCount_35 : decode cX3_wallCount 35 = .ok (.ireturn, 1) := by decide +kernel
theorem dX3_holds_0 : decode cX3_holds 0 = .ok (.iconst 0, 1) := by decide +kernel
theorem dX3_holds_1 : decode cX3_holds 1 = .ok (.istore_n 3, 1) := by decide +kernel
theorem dX3_holds_2 : decode cX3_holds 2 = .ok (.iload_n 3, 1) := by decide +kernel
theorem dX3_holds_3 : decode cX3_holds 3 = .ok (.aload_n 0, 1) := by decide +kernel
theorem dX3_holds_4 : decode cX3_holds 4 = .ok (.getfield 28, 3) := by decide +kernel
theorem dX3_holds_7 : decode cX3_holds 7 = .ok (.if_icmp .ge 29, 3) := by decide +kernel
theorem dX3_holds_10 : decode cX3_holds 10 = .ok (.aload_n 0, 1) := by decide +kernel
theorem dX3_holds_11 : decode cX3_holds 11 = .ok (.iload_n 3, 1) := by decide +kernel
theorem dX3_holds_12 : decode cX3_holds 12 = .ok (.invokevirtual 57, 3) := by decide +kernel
theorem dX3_holds_15 : decode cX3_holds 15 = .ok (.iload_n 1, 1) := by decide +kernel
theorem dX3_holds_16 : decode cX3_holds 16 = .ok (.if_icmp .ne 14, 3) := by decide +kernel
theorem dX3_holds_19 : decode cX3_holds 19 = .ok (.aload_n 0, 1) := by decide +kernel
theorem dX3_holds_20 : decode cX3_holds 20 = .ok (.iload_n 3, 1) := by decide +kernel
theorem dX3_holds_21 : decode cX3_holds 21 = .ok (.invokevirtual 61, 3) := by decide +kernel
theorem dX3_holds_24 : decode cX3_holds 24 = .ok (.iload_n 2, 1) := by decide +kernel
theorem dX3_holds_25 : decode cX3_holds 25 = .ok (.if_icmp .ne 5, 3) := by decide +kernel
theorem dX3_holds_28 : decode cX3_holds 28 = .ok (.iconst 1, 1) := by decide +kernel
theorem dX3_holds_29 : decode cX3_holds 29 = .ok (.ireturn, 1) := by decide +kernel
theorem dX3_holds_30 : decode cX3_holds 30 = .ok (.iinc 3 1, 3) := by decide +kernel
theorem dX3_holds_33 : decode cX3_holds 33 = .ok (.goto (-31), 3) := by decide +kernel
theorem dX3_holds_36 : decode cX3_holds 36 = .ok (.iconst 0, 1) := by decide +kernel
theorem dX3_holds_37 : decode cX3_holds 37 = .ok (.ireturn, 1) := by decide +kernel
theorem dX3_join_0 : decode cX3_join 0 = .ok (.aload_n 0, 1) := by decide +kernel
theorem dX3_join_1 : decode cX3_join 1 = .ok (.getfield 28, 3) := by decide +kernel
theorem dX3_join_4 : decode cX3_join 4 = .ok (.bipush 6, 2) := by decide +kernel
theorem dX3_join_6 : decode cX3_join 6 = .ok (.if_icmp .lt 6, 3) := by decide +kernel
theorem dX3_join_9 : decode cX3_join 9 = .ok (.bipush (-3), 2) := by decide +kernel
theorem dX3_join_11 : decode cX3_join 11 = .ok (.ireturn, 1) := by decide +kernel
theorem dX3_join_12 : decode cX3_join 12 = .ok (.aload_n 0, 1) := by decide +kernel
theorem dX3_join_13 : decode cX3_join 13 = .ok (.dup, 1) := by decide +kernel
theorem dX3_join_14 : decode cX3_join 14 = .ok (.getfield 28, 3) := by decide +kernel
theorem dX3_join_17 : decode cX3_join 17 = .ok (.iconst 1, 1) := by decide +kernel
theorem dX3_join_18 : decode cX3_join 18 = .ok (.iadd, 1) := by decide +kernel
theorem dX3_join_19 : decode cX3_join 19 = .ok (.putfield 28, 3) := by decide +kernel
theorem dX3_join_22 : decode cX3_join 22 = .ok (.aload_n 0, 1) := by decide +kernel
theorem dX3_join_23 : decode cX3_join 23 = .ok (.aload_n 0, 1) := by decide +kernel
theorem dX3_join_24 : decode cX3_join 24 = .ok (.getfield 28, 3) := by decide +kernel
theorem dX3_join_27 : decode cX3_join 27 = .ok (.iconst 1, 1) := by decide +kernel
theorem dX3_join_28 : decode cX3_join 28 = .ok (.isub, 1) := by decide +kernel
theorem dX3_join_29 : decode cX3_join 29 = .ok (.iload_n 1, 1) := by decide +kernel
theorem dX3_join_30 : decode cX3_join 30 = .ok (.iload_n 2, 1) := by decide +kernel
theorem dX3_join_31 : decode cX3_join 31 = .ok (.iload_n 3, 1) := by decide +kernel
theorem dX3_join_32 : decode cX3_join 32 = .ok (.iload 4, 2) := by decide +kernel
theorem dX3_join_34 : decode cX3_join 34 = .ok (.invokevirtual 64, 3) := by decide +kernel
theorem dX3_join_37 : decode cX3_join 37 = .ok (.aload_n 0, 1) := by decide +kernel
theorem dX3_join_38 : decode cX3_join 38 = .ok (.getfield 28, 3) := by decide +kernel
theorem dX3_join_41 : decode cX3_join 41 = .ok (.iconst 1, 1) := by decide +kernel
theorem dX3_join_42 : decode cX3_join 42 = .ok (.isub, 1) := by decide +kernel
theorem dX3_join_43 : decode cX3_join 43 = .ok (.ireturn, 1) := by decide +kernel
theorem dX3_put_0 : decode cX3_put 0 = .ok (.aload_n 0, 1) := by decide +kernel
theorem dX3_put_1 : decode cX3_put 1 = .ok (.iload_n 1, 1) := by decide +kernel
theorem dX3_put_2 : decode cX3_put 2 = .ok (.invokevirtual 47, 3) := by decide +kernel
theorem dX3_put_5 : decode cX3_put 5 = .ok (.ifCond .eq 33, 3) := by decide +kernel
theorem dX3_put_8 : decode cX3_put 8 = .ok (.aload_n 0, 1) := by decide +kernel
theorem dX3_put_9 : decode cX3_put 9 = .ok (.getfield 9, 3) := by decide +kernel
theorem dX3_put_12 : decode cX3_put 12 = .ok (.iload_n 1, 1) := by decide +kernel
theorem dX3_put_13 : decode cX3_put 13 = .ok (.iload_n 2, 1) := by decide +kernel
theorem dX3_put_14 : decode cX3_put 14 = .ok (.iastore, 1) := by decide +kernel
theorem dX3_put_15 : decode cX3_put 15 = .ok (.aload_n 0, 1) := by decide +kernel
theorem dX3_put_16 : decode cX3_put 16 = .ok (.getfield 15, 3) := by decide +kernel
theorem dX3_put_19 : decode cX3_put 19 = .ok (.iload_n 1, 1) := by decide +kernel
theorem dX3_put_20 : decode cX3_put 20 = .ok (.iload_n 3, 1) := by decide +kernel
theorem dX3_put_21 : decode cX3_put 21 = .ok (.iastore, 1) := by decide +kernel
theorem dX3_put_22 : decode cX3_put 22 = .ok (.aload_n 0, 1) := by decide +kernel
theorem dX3_put_23 : decode cX3_put 23 = .ok (.getfield 18, 3) := by decide +kernel
theorem dX3_put_26 : decode cX3_put 26 = .ok (.iload_n 1, 1) := by decide +kernel
theorem dX3_put_27 : decode cX3_put 27 = .ok (.iload 4, 2) := by decide +kernel
theorem dX3_put_29 : decode cX3_put 29 = .ok (.iastore, 1) := by decide +kernel
theorem dX3_put_30 : decode cX3_put 30 = .ok (.aload_n 0, 1) := by decide +kernel
theorem dX3_put_31 : decode cX3_put 31 = .ok (.getfield 21, 3) := by decide +kernel
theorem dX3_put_34 : decode cX3_put 34 = .ok (.iload_n 1, 1) := by decide +kernel
theorem dX3_put_35 : decode cX3_put 35 = .ok (.iload 5, 2) := by decide +kernel
theorem dX3_put_37 : decode cX3_put 37 = .ok (.bastore, 1) := by decide +kernel
theorem dX3_put_38 : decode cX3_put 38 = .ok (.return_, 1) := by decide +kernel
theorem dX3_putAs_0 : decode cX3_putAs 0 = .ok (.aload_n 0, 1) := by decide +kernel
theorem dX3_putAs_1 : decode cX3_putAs 1 = .ok (.iload_n 2, 1) := by decide +kernel
theorem dX3_putAs_2 : decode cX3_putAs 2 = .ok (.iload_n 3, 1) := by decide +kernel
theorem dX3_putAs_3 : decode cX3_putAs 3 = .ok (.aload_n 0, 1) := by decide +kernel
theorem dX3_putAs_4 : decode cX3_putAs 4 = .ok (.iload_n 1, 1) := by decide +kernel
theorem dX3_putAs_5 : decode cX3_putAs 5 = .ok (.invokevirtual 68, 3) := by decide +kernel
theorem dX3_putAs_8 : decode cX3_putAs 8 = .ok (.aload_n 0, 1) := by decide +kernel
theorem dX3_putAs_9 : decode cX3_putAs 9 = .ok (.iload_n 1, 1) := by decide +kernel
theorem dX3_putAs_10 : decode cX3_putAs 10 = .ok (.invokevirtual 61, 3) := by decide +kernel
theorem dX3_putAs_13 : decode cX3_putAs 13 = .ok (.aload_n 0, 1) := by decide +kernel
theorem dX3_putAs_14 : decode cX3_putAs 14 = .ok (.iload_n 1, 1) := by decide +kernel
theorem dX3_putAs_15 : decode cX3_putAs 15 = .ok (.invokevirtual 54, 3) := by decide +kernel
theorem dX3_putAs_18 : decode cX3_putAs 18 = .ok (.invokevirtual 64, 3) := by decide +kernel
theorem dX3_putAs_21 : decode cX3_putAs 21 = .ok (.return_, 1) := by decide +kernel
theorem dX3_leave_0 : decode cX3_leave 0 = .ok (.aload_n 0, 1) := by decide +kernel
theorem dX3_leave_1 : decode cX3_leave 1 = .ok (.iload_n 1, 1) := by decide +kernel
theorem dX3_leave_2 : decode cX3_leave 2 = .ok (.invokevirtual 47, 3) := by decide +kernel
theorem dX3_leave_5 : decode cX3_leave 5 = .ok (.ifCond .ne 4, 3) := by decide +kernel
theorem dX3_leave_8 : decode cX3_leave 8 = .ok (.return_, 1) := by decide +kernel
theorem dX3_leave_9 : decode cX3_leave 9 = .ok (.iload_n 1, 1) := by decide +kernel
theorem dX3_leave_10 : decode cX3_leave 10 = .ok (.iconst 1, 1) := by decide +kernel
theorem dX3_leave_11 : decode cX3_leave 11 = .ok (.iadd, 1) := by decide +kernel
theorem dX3_leave_12 : decode cX3_leave 12 = .ok (.istore_n 2, 1) := by decide +kernel
theorem dX3_leave_13 : decode cX3_leave 13 = .ok (.iload_n 2, 1) := by decide +kernel
theorem dX3_leave_14 : decode cX3_leave 14 = .ok (.aload_n 0, 1) := by decide +kernel
theorem dX3_leave_15 : decode cX3_leave 15 = .ok (.getfield 28, 3) := by decide +kernel
theorem dX3_leave_18 : decode cX3_leave 18 = .ok (.if_icmp .ge 22, 3) := by decide +kernel
theorem dX3_leave_21 : decode cX3_leave 21 = .ok (.aload_n 0, 1) := by decide +kernel
theorem dX3_leave_22 : decode cX3_leave 22 = .ok (.iload_n 2, 1) := by decide +kernel
theorem dX3_leave_23 : decode cX3_leave 23 = .ok (.iload_n 2, 1) := by decide +kernel
theorem dX3_leave_24 : decode cX3_leave 24 = .ok (.iconst 1, 1) := by decide +kernel
theorem dX3_leave_25 : decode cX3_leave 25 = .ok (.isub, 1) := by decide +kernel
theorem dX3_leave_26 : decode cX3_leave 26 = .ok (.aload_n 0, 1) := by decide +kernel
theorem dX3_leave_27 : decode cX3_leave 27 = .ok (.iload_n 2, 1) := by decide +kernel
theorem dX3_leave_28 : decode cX3_leave 28 = .ok (.invokevirtual 57, 3) := by decide +kernel
theorem dX3_leave_31 : decode cX3_leave 31 = .ok (.invokevirtual 71, 3) := by decide +kernel
theorem dX3_leave_34 : decode cX3_leave 34 = .ok (.iinc 2 1, 3) := by decide +kernel
theorem dX3_leave_37 : decode cX3_leave 37 = .ok (.goto (-24), 3) := by decide +kernel
theorem dX3_leave_40 : decode cX3_leave 40 = .ok (.aload_n 0, 1) := by decide +kernel
theorem dX3_leave_41 : decode cX3_leave 41 = .ok (.dup, 1) := by decide +kernel
theorem dX3_leave_42 : decode cX3_leave 42 = .ok (.getfield 28, 3) := by decide +kernel
theorem dX3_leave_45 : decode cX3_leave 45 = .ok (.iconst 1, 1) := by decide +kernel
theorem dX3_leave_46 : decode cX3_leave 46 = .ok (.isub, 1) := by decide +kernel
theorem dX3_leave_47 : decode cX3_leave 47 = .ok (.putfield 28, 3) := by decide +kernel
theorem dX3_leave_50 : decode cX3_leave 50 = .ok (.return_, 1) := by decide +kernel
theorem dX3_moveAll_0 : decode cX3_moveAll 0 = .ok (.iconst 0, 1) := by decide +kernel
theorem dX3_moveAll_1 : decode cX3_moveAll 1 = .ok (.istore_n 1, 1) := by decide +kernel
theorem dX3_moveAll_2 : decode cX3_moveAll 2 = .ok (.iconst 0, 1) := by decide +kernel
theorem dX3_moveAll_3 : decode cX3_moveAll 3 = .ok (.istore_n 2, 1) := by decide +kernel
theorem dX3_moveAll_4 : decode cX3_moveAll 4 = .ok (.iload_n 2, 1) := by decide +kernel
theorem dX3_moveAll_5 : decode cX3_moveAll 5 = .ok (.aload_n 0, 1) := by decide +kernel
theorem dX3_moveAll_6 : decode cX3_moveAll 6 = .ok (.getfield 28, 3) := by decide +kernel
theorem dX3_moveAll_9 : decode cX3_moveAll 9 = .ok (.if_icmp .ge 47, 3) := by decide +kernel
theorem dX3_moveAll_12 : decode cX3_moveAll 12 = .ok (.aload_n 0, 1) := by decide +kernel
theorem dX3_moveAll_13 : decode cX3_moveAll 13 = .ok (.iload_n 2, 1) := by decide +kernel
theorem dX3_moveAll_14 : decode cX3_moveAll 14 = .ok (.invokevirtual 57, 3) := by decide +kernel
theorem dX3_moveAll_17 : decode cX3_moveAll 17 = .ok (.aload_n 0, 1) := by decide +kernel
theorem dX3_moveAll_18 : decode cX3_moveAll 18 = .ok (.iload_n 2, 1) := by decide +kernel
theorem dX3_moveAll_19 : decode cX3_moveAll 19 = .ok (.invokevirtual 61, 3) := by decide +kernel
theorem dX3_moveAll_22 : decode cX3_moveAll 22 = .ok (.aload_n 0, 1) := by decide +kernel
theorem dX3_moveAll_23 : decode cX3_moveAll 23 = .ok (.getfield 32, 3) := by decide +kernel
theorem dX3_moveAll_26 : decode cX3_moveAll 26 = .ok (.imul, 1) := by decide +kernel
theorem dX3_moveAll_27 : decode cX3_moveAll 27 = .ok (.iadd, 1) := by decide +kernel
theorem dX3_moveAll_28 : decode cX3_moveAll 28 = .ok (.istore_n 3, 1) := by decide +kernel
theorem dX3_moveAll_29 : decode cX3_moveAll 29 = .ok (.iload_n 3, 1) := by decide +kernel
theorem dX3_moveAll_30 : decode cX3_moveAll 30 = .ok (.iconst 1, 1) := by decide +kernel
theorem dX3_moveAll_31 : decode cX3_moveAll 31 = .ok (.sipush 300, 3) := by decide +kernel
theorem dX3_moveAll_34 : decode cX3_moveAll 34 = .ok (.invokestatic 75, 3) := by decide +kernel
theorem dX3_moveAll_37 : decode cX3_moveAll 37 = .ok (.ifCond .eq 13, 3) := by decide +kernel
theorem dX3_moveAll_40 : decode cX3_moveAll 40 = .ok (.aload_n 0, 1) := by decide +kernel
theorem dX3_moveAll_41 : decode cX3_moveAll 41 = .ok (.iload_n 2, 1) := by decide +kernel
theorem dX3_moveAll_42 : decode cX3_moveAll 42 = .ok (.iload_n 1, 1) := by decide +kernel
theorem dX3_moveAll_43 : decode cX3_moveAll 43 = .ok (.iload_n 3, 1) := by decide +kernel
theorem dX3_moveAll_44 : decode cX3_moveAll 44 = .ok (.invokevirtual 71, 3) := by decide +kernel
theorem dX3_moveAll_47 : decode cX3_moveAll 47 = .ok (.iinc 1 1, 3) := by decide +kernel
theorem dX3_moveAll_50 : decode cX3_moveAll 50 = .ok (.iinc 2 1, 3) := by decide +kernel
theorem dX3_moveAll_53 : decode cX3_moveAll 53 = .ok (.goto (-49), 3) := by decide +kernel
theorem dX3_moveAll_56 : decode cX3_moveAll 56 = .ok (.aload_n 0, 1) := by decide +kernel
theorem dX3_moveAll_57 : decode cX3_moveAll 57 = .ok (.iload_n 1, 1) := by decide +kernel
theorem dX3_moveAll_58 : decode cX3_moveAll 58 = .ok (.putfield 28, 3) := by decide +kernel
theorem dX3_moveAll_61 : decode cX3_moveAll 61 = .ok (.return_, 1) := by decide +kernel
theorem dX3_forgetTurns_0 : decode cX3_forgetTurns 0 = .ok (.aload_n 0, 1) := by decide +kernel
theorem dX3_forgetTurns_1 : decode cX3_forgetTurns 1 = .ok (.iconst 0, 1) := by decide +kernel
theorem dX3_forgetTurns_2 : decode cX3_forgetTurns 2 = .ok (.putfield 32, 3) := by decide +kernel
theorem dX3_forgetTurns_5 : decode cX3_forgetTurns 5 = .ok (.return_, 1) := by decide +kernel
theorem dX3_addTurn_0 : decode cX3_addTurn 0 = .ok (.iload_n 1, 1) := by decide +kernel
theorem dX3_addTurn_1 : decode cX3_addTurn 1 = .ok (.ifCond .le 38, 3) := by decide +kernel
theorem dX3_addTurn_4 : decode cX3_addTurn 4 = .ok (.aload_n 0, 1) := by decide +kernel
theorem dX3_addTurn_5 : decode cX3_addTurn 5 = .ok (.getfield 32, 3) := by decide +kernel
theorem dX3_addTurn_8 : decode cX3_addTurn 8 = .ok (.ifCond .lt 31, 3) := by decide +kernel
theorem dX3_addTurn_11 : decode cX3_addTurn 11 = .ok (.aload_n 0, 1) := by decide +kernel
theorem dX3_addTurn_12 : decode cX3_addTurn 12 = .ok (.getfield 32, 3) := by decide +kernel
theorem dX3_addTurn_15 : decode cX3_addTurn 15 = .ok (.iconst 4, 1) := by decide +kernel
theorem dX3_addTurn_16 : decode cX3_addTurn 16 = .ok (.if_icmp .ge 23, 3) := by decide +kernel
theorem dX3_addTurn_19 : decode cX3_addTurn 19 = .ok (.aload_n 0, 1) := by decide +kernel
theorem dX3_addTurn_20 : decode cX3_addTurn 20 = .ok (.getfield 25, 3) := by decide +kernel
theorem dX3_addTurn_23 : decode cX3_addTurn 23 = .ok (.aload_n 0, 1) := by decide +kernel
theorem dX3_addTurn_24 : decode cX3_addTurn 24 = .ok (.getfield 32, 3) := by decide +kernel
theorem dX3_addTurn_27 : decode cX3_addTurn 27 = .ok (.iload_n 1, 1) := by decide +kernel
theorem dX3_addTurn_28 : decode cX3_addTurn 28 = .ok (.iastore, 1) := by decide +kernel
theorem dX3_addTurn_29 : decode cX3_addTurn 29 = .ok (.aload_n 0, 1) := by decide +kernel
theorem dX3_addTurn_30 : decode cX3_addTurn 30 = .ok (.dup, 1) := by decide +kernel
theorem dX3_addTurn_31 : decode cX3_addTurn 31 = .ok (.getfield 32, 3) := by decide +kernel
theorem dX3_addTurn_34 : decode cX3_addTurn 34 = .ok (.iconst 1, 1) := by decide +kernel
theorem dX3_addTurn_35 : decode cX3_addTurn 35 = .ok (.iadd, 1) := by decide +kernel
theorem dX3_addTurn_36 : decode cX3_addTurn 36 = .ok (.putfield 32, 3) := by decide +kernel
theorem dX3_addTurn_39 : decode cX3_addTurn 39 = .ok (.return_, 1) := by decide +kernel
theorem dX3_changeBlind_0 : decode cX3_changeBlind 0 = .ok (.aload_n 0, 1) := by decide +kernel
theorem dX3_changeBlind_1 : decode cX3_changeBlind 1 = .ok (.getfield 35, 3) := by decide +kernel
theorem dX3_changeBlind_4 : decode cX3_changeBlind 4 = .ok (.istore_n 2, 1) := by decide +kernel
theorem dX3_changeBlind_5 : decode cX3_changeBlind 5 = .ok (.aload_n 0, 1) := by decide +kernel
theorem dX3_changeBlind_6 : decode cX3_changeBlind 6 = .ok (.iload_n 1, 1) := by decide +kernel
theorem dX3_changeBlind_7 : decode cX3_changeBlind 7 = .ok (.putfield 35, 3) := by decide +kernel
theorem dX3_changeBlind_10 : decode cX3_changeBlind 10 = .ok (.iload_n 2, 1) := by decide +kernel
theorem dX3_changeBlind_11 : decode cX3_changeBlind 11 = .ok (.ireturn, 1) := by decide +kernel
theorem dX3_changeLoud_0 : decode cX3_changeLoud 0 = .ok (.aload_n 0, 1) := by decide +kernel
theorem dX3_changeLoud_1 : decode cX3_changeLoud 1 = .ok (.getfield 38, 3) := by decide +kernel
theorem dX3_changeLoud_4 : decode cX3_changeLoud 4 = .ok (.istore_n 2, 1) := by decide +kernel
theorem dX3_changeLoud_5 : decode cX3_changeLoud 5 = .ok (.aload_n 0, 1) := by decide +kernel
theorem dX3_changeLoud_6 : decode cX3_changeLoud 6 = .ok (.iload_n 1, 1) := by decide +kernel
theorem dX3_changeLoud_7 : decode cX3_changeLoud 7 = .ok (.putfield 38, 3) := by decide +kernel
theorem dX3_changeLoud_10 : decode cX3_changeLoud 10 = .ok (.iload_n 2, 1) := by decide +kernel
theorem dX3_changeLoud_11 : decode cX3_changeLoud 11 = .ok (.ireturn, 1) := by decide +kernel
end
section
set_option maxHeartbeats 4000000 in
set_option maxRecDepth 100000 in
theorem sgX3_become_0 {d : Nat} {σ : St} {K : St → Prop} {a : Nat} (h_a : isSc a) {b : Nat} (h_b : isSc b) (h : ∀ s1, s1 = setR σ (a + 1) (va_cpy (sA σ (b + 1)) (sA σ (a + 1)) (ix 0) (ix 0) (ix 6)) → ∀ s2, s2 = setR s1 (a + 2) (va_cpy (sA s1 (b + 2)) (sA s1 (a + 2)) (ix 0) (ix 0) (ix 6)) → ∀ s3, s3 = setR s2 (a + 3) (va_cpy (sA s2 (b + 3)) (sA s2 (a + 3)) (ix 0) (ix 0) (ix 6)) → ∀ s4, s4 = setR s3 (a + 5) (va_cpy (sA s3 (b + 5)) (sA s3 (a + 5)) (ix 0) (ix 0) (ix 4)) → Go mX3_become (d + 1) 61 [.ref a, .ref b, .int 0] [] s4 (QU K)) : Go mX3_become (d + 1) 0 [.ref a, .ref b, .null] [] σ (QU K) := by
  refine Go.aload_n 1 dX3_become_0 rfl rfl (?_ : Go _ _ 1 _ _ _ _)
  refine Go.getR fk_X3_9 (sc_0 h_b) (scr_0 h_b) dX3_become_1 (?_ : Go _ _ 4 _ _ _ _)
  refine Go.iconst dX3_become_4 k_ic_0 (?_ : Go _ _ 5 _ _ _ _)
  refine Go.aload_n 0 dX3_become_5 rfl rfl (?_ : Go _ _ 6 _ _ _ _)
  refine Go.getR fk_X3_9 (sc_0 h_a) (scr_0 h_a) dX3_become_6 (?_ : Go _ _ 9 _ _ _ _)
  refine Go.iconst dX3_become_9 k_ic_0 (?_ : Go _ _ 10 _ _ _ _)
  refine Go.bipush dX3_become_10 k_bi_6 (?_ : Go _ _ 12 _ _ _ _)
  refine Go.acopy (sc_1 h_b) (sc_1 h_a) (by decide) wl_X3_41 wn_copy wt_copy wi_Sys (by decide) (by decide) (by decide) (by decide +kernel) (by decide +kernel) (Nat.le_of_ble_eq_true rfl) dX3_become_12 (?_ : Go _ _ 15 _ _ _ _)
  generalize es1 : setR σ (a + 1) (va_cpy (sA σ (b + 1)) (sA σ (a + 1)) (ix 0) (ix 0) (ix 6)) = s1
  have h := h s1 es1.symm
  refine Go.aload_n 1 dX3_become_15 rfl rfl (?_ : Go _ _ 16 _ _ _ _)
  refine Go.getR fk_X3_15 (sc_0 h_b) (scr_1 h_b) dX3_become_16 (?_ : Go _ _ 19 _ _ _ _)
  refine Go.iconst dX3_become_19 k_ic_0 (?_ : Go _ _ 20 _ _ _ _)
  refine Go.aload_n 0 dX3_become_20 rfl rfl (?_ : Go _ _ 21 _ _ _ _)
  refine Go.getR fk_X3_15 (sc_0 h_a) (scr_1 h_a) dX3_become_21 (?_ : Go _ _ 24 _ _ _ _)
  refine Go.iconst dX3_become_24 k_ic_0 (?_ : Go _ _ 25 _ _ _ _)
  refine Go.bipush dX3_become_25 k_bi_6 (?_ : Go _ _ 27 _ _ _ _)
  refine Go.acopy (sc_2 h_b) (sc_2 h_a) (by decide) wl_X3_41 wn_copy wt_copy wi_Sys (by decide) (by decide) (by decide) (by decide +kernel) (by decide +kernel) (Nat.le_of_ble_eq_true rfl) dX3_become_27 (?_ : Go _ _ 30 _ _ _ _)
  generalize es2 : setR s1 (a + 2) (va_cpy (sA s1 (b + 2)) (sA s1 (a + 2)) (ix 0) (ix 0) (ix 6)) = s2
  have h := h s2 es2.symm
  refine Go.aload_n 1 dX3_become_30 rfl rfl (?_ : Go _ _ 31 _ _ _ _)
  refine Go.getR fk_X3_18 (sc_0 h_b) (scr_2 h_b) dX3_become_31 (?_ : Go _ _ 34 _ _ _ _)
  refine Go.iconst dX3_become_34 k_ic_0 (?_ : Go _ _ 35 _ _ _ _)
  refine Go.aload_n 0 dX3_become_35 rfl rfl (?_ : Go _ _ 36 _ _ _ _)
  refine Go.getR fk_X3_18 (sc_0 h_a) (scr_2 h_a) dX3_become_36 (?_ : Go _ _ 39 _ _ _ _)
  refine Go.iconst dX3_become_39 k_ic_0 (?_ : Go _ _ 40 _ _ _ _)
  refine Go.bipush dX3_become_40 k_bi_6 (?_ : Go _ _ 42 _ _ _ _)
  refine Go.acopy (sc_3 h_b) (sc_3 h_a) (by decide) wl_X3_41 wn_copy wt_copy wi_Sys (by decide) (by decide) (by decide) (by decide +kernel) (by decide +kernel) (Nat.le_of_ble_eq_true rfl) dX3_become_42 (?_ : Go _ _ 45 _ _ _ _)
  generalize es3 : setR s2 (a + 3) (va_cpy (sA s2 (b + 3)) (sA s2 (a + 3)) (ix 0) (ix 0) (ix 6)) = s3
  have h := h s3 es3.symm
  refine Go.aload_n 1 dX3_become_45 rfl rfl (?_ : Go _ _ 46 _ _ _ _)
  refine Go.getR fk_X3_25 (sc_0 h_b) (scr_4 h_b) dX3_become_46 (?_ : Go _ _ 49 _ _ _ _)
  refine Go.iconst dX3_become_49 k_ic_0 (?_ : Go _ _ 50 _ _ _ _)
  refine Go.aload_n 0 dX3_become_50 rfl rfl (?_ : Go _ _ 51 _ _ _ _)
  refine Go.getR fk_X3_25 (sc_0 h_a) (scr_4 h_a) dX3_become_51 (?_ : Go _ _ 54 _ _ _ _)
  refine Go.iconst dX3_become_54 k_ic_0 (?_ : Go _ _ 55 _ _ _ _)
  refine Go.iconst dX3_become_55 k_ic_4 (?_ : Go _ _ 56 _ _ _ _)
  refine Go.acopy (sc_5 h_b) (sc_5 h_a) (by decide) wl_X3_41 wn_copy wt_copy wi_Sys (by decide) (by decide) (by decide) (by decide +kernel) (by decide +kernel) (Nat.le_of_ble_eq_true rfl) dX3_become_56 (?_ : Go _ _ 59 _ _ _ _)
  generalize es4 : setR s3 (a + 5) (va_cpy (sA s3 (b + 5)) (sA s3 (a + 5)) (ix 0) (ix 0) (ix 4)) = s4
  have h := h s4 es4.symm
  refine Go.iconst dX3_become_59 k_ic_0 (?_ : Go _ _ 60 _ _ _ _)
  refine Go.istore_n 2 dX3_become_60 rfl (by decide) rfl rfl (?_ : Go _ _ 61 [.ref a, .ref b, .int 0] _ _ _)
  exact h
theorem cgX3_become {d : Nat} {σ : St} {K : St → Prop} {a : Nat} (h_a : isSc a) {b : Nat} (h_b : isSc b) (h : ∀ s1, s1 = setR σ (a + 1) (va_cpy (sA σ (b + 1)) (sA σ (a + 1)) (ix 0) (ix 0) (ix 6)) → ∀ s2, s2 = setR s1 (a + 2) (va_cpy (sA s1 (b + 2)) (sA s1 (a + 2)) (ix 0) (ix 0) (ix 6)) → ∀ s3, s3 = setR s2 (a + 3) (va_cpy (sA s2 (b + 3)) (sA s2 (a + 3)) (ix 0) (ix 0) (ix 6)) → ∀ s4, s4 = setR s3 (a + 5) (va_cpy (sA s3 (b + 5)) (sA s3 (a + 5)) (ix 0) (ix 0) (ix 4)) → Go mX3_become (d + 1) 61 [.ref a, .ref b, .int 0] [] s4 (QU K)) : CallU (d + 1) mX3_become [.ref a, .ref b] σ K := Call_of_Go (by decide +kernel) (ls := [.ref a, .ref b, .null]) rfl (Nat.le_of_ble_eq_true rfl) (sgX3_become_0 h_a h_b h)
set_option maxHeartbeats 4000000 in
set_option maxRecDepth 100000 in
theorem sgX3_become_61 {d : Nat} {σ : St} {v2 : Int32} {K : St → Prop} {a : Nat} (h_a : isSc a) {b : Nat} (h_b : isSc b) (h : (6 ≤ v2 → ∀ s2, s2 = setF σ a 5 (sF σ b 5) → ∀ s3, s3 = setF s2 a 6 (sF s2 b 6) → ∀ s4, s4 = setF s3 a 7 (sF s3 b 7) → ∀ s5, s5 = setF s4 a 8 (sF s4 b 8) → K s5) ∧ (¬ 6 ≤ v2 → vp_in v2 6 ∧ vp_in v2 6 ∧ ∀ s6, s6 = setA σ (a + 4) (ix v2) (nbo (sA σ (b + 4) (ix v2))) → Go mX3_become (d + 1) 61 [.ref a, .ref b, .int (v2 + 1)] [] s6 (QU K))) : Go mX3_become (d + 1) 61 [.ref a, .ref b, .int v2] [] σ (QU K) := by
  refine Go.iload_n 2 dX3_become_61 rfl rfl (?_ : Go _ _ 62 _ _ _ _)
  refine Go.bipush dX3_become_62 k_bi_6 (?_ : Go _ _ 64 _ _ _ _)
  refine Go.icmp_ge 85 dX3_become_64 rfl ⟨fun c1 => ?_, fun c1 => (?_ : Go _ _ 67 _ _ _ _)⟩
  · have h := h.1 c1
    refine Go.aload_n 0 dX3_become_85 rfl rfl (?_ : Go _ _ 86 _ _ _ _)
    refine Go.aload_n 1 dX3_become_86 rfl rfl (?_ : Go _ _ 87 _ _ _ _)
    refine Go.getI fk_X3_28 (sc_0 h_b) (scr_5 h_b) dX3_become_87 (?_ : Go _ _ 90 _ _ _ _)
    refine Go.putI fp_X3_28 (sc_0 h_a) (scr_5 h_a) dX3_become_90 (?_ : Go _ _ 93 _ _ _ _)
    generalize es2 : setF σ a 5 (sF σ b 5) = s2
    have h := h s2 es2.symm
    refine Go.aload_n 0 dX3_become_93 rfl rfl (?_ : Go _ _ 94 _ _ _ _)
    refine Go.aload_n 1 dX3_become_94 rfl rfl (?_ : Go _ _ 95 _ _ _ _)
    refine Go.getI fk_X3_32 (sc_0 h_b) (scr_6 h_b) dX3_become_95 (?_ : Go _ _ 98 _ _ _ _)
    refine Go.putI fp_X3_32 (sc_0 h_a) (scr_6 h_a) dX3_become_98 (?_ : Go _ _ 101 _ _ _ _)
    generalize es3 : setF s2 a 6 (sF s2 b 6) = s3
    have h := h s3 es3.symm
    refine Go.aload_n 0 dX3_become_101 rfl rfl (?_ : Go _ _ 102 _ _ _ _)
    refine Go.aload_n 1 dX3_become_102 rfl rfl (?_ : Go _ _ 103 _ _ _ _)
    refine Go.getI fk_X3_35 (sc_0 h_b) (scr_7 h_b) dX3_become_103 (?_ : Go _ _ 106 _ _ _ _)
    refine Go.putI fp_X3_35 (sc_0 h_a) (scr_7 h_a) dX3_become_106 (?_ : Go _ _ 109 _ _ _ _)
    generalize es4 : setF s3 a 7 (sF s3 b 7) = s4
    have h := h s4 es4.symm
    refine Go.aload_n 0 dX3_become_109 rfl rfl (?_ : Go _ _ 110 _ _ _ _)
    refine Go.aload_n 1 dX3_become_110 rfl rfl (?_ : Go _ _ 111 _ _ _ _)
    refine Go.getI fk_X3_38 (sc_0 h_b) (scr_8 h_b) dX3_become_111 (?_ : Go _ _ 114 _ _ _ _)
    refine Go.putI fp_X3_38 (sc_0 h_a) (scr_8 h_a) dX3_become_114 (?_ : Go _ _ 117 _ _ _ _)
    generalize es5 : setF s4 a 8 (sF s4 b 8) = s5
    have h := h s5 es5.symm
    exact Go.vret rfl dX3_become_117 ⟨rfl, h⟩
  · have h := h.2 c1
    refine Go.aload_n 0 dX3_become_67 rfl rfl (?_ : Go _ _ 68 _ _ _ _)
    refine Go.getR fk_X3_21 (sc_0 h_a) (scr_3 h_a) dX3_become_68 (?_ : Go _ _ 71 _ _ _ _)
    refine Go.iload_n 2 dX3_become_71 rfl rfl (?_ : Go _ _ 72 _ _ _ _)
    refine Go.aload_n 1 dX3_become_72 rfl rfl (?_ : Go _ _ 73 _ _ _ _)
    refine Go.getR fk_X3_21 (sc_0 h_b) (scr_3 h_b) dX3_become_73 (?_ : Go _ _ 76 _ _ _ _)
    refine Go.iload_n 2 dX3_become_76 rfl rfl (?_ : Go _ _ 77 _ _ _ _)
    refine Go.zald (sc_4 h_b) dX3_become_77 ⟨h.1, (?_ : Go _ _ 78 _ _ _ _)⟩
    have h := h.2
    refine Go.zast (sc_4 h_a) dX3_become_78 ⟨h.1, (?_ : Go _ _ 79 _ _ _ _)⟩
    generalize es6 : setA σ (a + 4) (ix v2) (nbo (sA σ (b + 4) (ix v2))) = s6
    have h := h.2 s6 es6.symm
    refine Go.iinc dX3_become_79 rfl (congrArg (fun z => v2 + z) k_ic_1) (by decide) rfl rfl (?_ : Go _ _ 82 [.ref a, .ref b, .int (v2 + 1)] _ _ _)
    refine Go.goto 61 dX3_become_82 rfl ?_
    exact h
set_option maxHeartbeats 4000000 in
set_option maxRecDepth 100000 in
theorem sgX3_targetCount_0 {d : Nat} {σ : St} {K : Int32 → St → Prop} {a : Nat} (h_a : isSc a) (h : K (sF σ a 5) σ) : Go mX3_targetCount (d + 1) 0 [.ref a] [] σ (QI K) := by
  refine Go.aload_n 0 dX3_targetCount_0 rfl rfl (?_ : Go _ _ 1 _ _ _ _)
  refine Go.getI fk_X3_28 (sc_0 h_a) (scr_5 h_a) dX3_targetCount_1 (?_ : Go _ _ 4 _ _ _ _)
  exact Go.iret rfl dX3_targetCount_4 ⟨_, rfl, h⟩
theorem cgX3_targetCount {d : Nat} {σ : St} {K : Int32 → St → Prop} {a : Nat} (h_a : isSc a) (h : K (sF σ a 5) σ) : CallI (d + 1) mX3_targetCount [.ref a] σ K := Call_of_Go (by decide +kernel) (ls := [.ref a]) rfl (Nat.le_of_ble_eq_true rfl) (sgX3_targetCount_0 h_a h)
set_option maxHeartbeats 4000000 in
set_option maxRecDepth 100000 in
theorem sgX3_turnCount_0 {d : Nat} {σ : St} {K : Int32 → St → Prop} {a : Nat} (h_a : isSc a) (h : K (sF σ a 6) σ) : Go mX3_turnCount (d + 1) 0 [.ref a] [] σ (QI K) := by
  refine Go.aload_n 0 dX3_turnCount_0 rfl rfl (?_ : Go _ _ 1 _ _ _ _)
  refine Go.getI fk_X3_32 (sc_0 h_a) (scr_6 h_a) dX3_turnCount_1 (?_ : Go _ _ 4 _ _ _ _)
  exact Go.iret rfl dX3_turnCount_4 ⟨_, rfl, h⟩
theorem cgX3_turnCount {d : Nat} {σ : St} {K : Int32 → St → Prop} {a : Nat} (h_a : isSc a) (h : K (sF σ a 6) σ) : CallI (d + 1) mX3_turnCount [.ref a] σ K := Call_of_Go (by decide +kernel) (ls := [.ref a]) rfl (Nat.le_of_ble_eq_true rfl) (sgX3_turnCount_0 h_a h)
set_option maxHeartbeats 4000000 in
set_option maxRecDepth 100000 in
theorem sgX3_blindBelow_0 {d : Nat} {σ : St} {K : Int32 → St → Prop} {a : Nat} (h_a : isSc a) (h : K (sF σ a 7) σ) : Go mX3_blindBelow (d + 1) 0 [.ref a] [] σ (QI K) := by
  refine Go.aload_n 0 dX3_blindBelow_0 rfl rfl (?_ : Go _ _ 1 _ _ _ _)
  refine Go.getI fk_X3_35 (sc_0 h_a) (scr_7 h_a) dX3_blindBelow_1 (?_ : Go _ _ 4 _ _ _ _)
  exact Go.iret rfl dX3_blindBelow_4 ⟨_, rfl, h⟩
theorem cgX3_blindBelow {d : Nat} {σ : St} {K : Int32 → St → Prop} {a : Nat} (h_a : isSc a) (h : K (sF σ a 7) σ) : CallI (d + 1) mX3_blindBelow [.ref a] σ K := Call_of_Go (by decide +kernel) (ls := [.ref a]) rfl (Nat.le_of_ble_eq_true rfl) (sgX3_blindBelow_0 h_a h)
set_option maxHeartbeats 4000000 in
set_option maxRecDepth 100000 in
theorem sgX3_loudFrom_0 {d : Nat} {σ : St} {K : Int32 → St → Prop} {a : Nat} (h_a : isSc a) (h : K (sF σ a 8) σ) : Go mX3_loudFrom (d + 1) 0 [.ref a] [] σ (QI K) := by
  refine Go.aload_n 0 dX3_loudFrom_0 rfl rfl (?_ : Go _ _ 1 _ _ _ _)
  refine Go.getI fk_X3_38 (sc_0 h_a) (scr_8 h_a) dX3_loudFrom_1 (?_ : Go _ _ 4 _ _ _ _)
  exact Go.iret rfl dX3_loudFrom_4 ⟨_, rfl, h⟩
theorem cgX3_loudFrom {d : Nat} {σ : St} {K : Int32 → St → Prop} {a : Nat} (h_a : isSc a) (h : K (sF σ a 8) σ) : CallI (d + 1) mX3_loudFrom [.ref a] σ K := Call_of_Go (by decide +kernel) (ls := [.ref a]) rfl (Nat.le_of_ble_eq_true rfl) (sgX3_loudFrom_0 h_a h)
set_option maxHeartbeats 4000000 in
set_option maxRecDepth 100000 in
theorem sgX3_has_0 {d : Nat} {σ : St} {x1 : Int32} {K : Int32 → St → Prop} {a : Nat} (h_a : isSc a) (h : (x1 < 0 → K 0 σ) ∧ (¬ x1 < 0 → ((sF σ a 5) ≤ x1 → K 0 σ) ∧ (¬ (sF σ a 5) ≤ x1 → (6 ≤ x1 → K 0 σ) ∧ (¬ 6 ≤ x1 → K 1 σ)))) : Go mX3_has (d + 1) 0 [.ref a, .int x1] [] σ (QI K) := by
  refine Go.iload_n 1 dX3_has_0 rfl rfl (?_ : Go _ _ 1 _ _ _ _)
  refine Go.if_lt 22 dX3_has_1 rfl ⟨fun c1 => ?_, fun c1 => (?_ : Go _ _ 4 _ _ _ _)⟩
  · have h := h.1 c1
    refine Go.iconst dX3_has_22 k_ic_0 (?_ : Go _ _ 23 _ _ _ _)
    exact Go.zret rfl rfl dX3_has_23 ⟨_, rfl, h⟩
  · have h := h.2 c1
    refine Go.iload_n 1 dX3_has_4 rfl rfl (?_ : Go _ _ 5 _ _ _ _)
    refine Go.aload_n 0 dX3_has_5 rfl rfl (?_ : Go _ _ 6 _ _ _ _)
    refine Go.getI fk_X3_28 (sc_0 h_a) (scr_5 h_a) dX3_has_6 (?_ : Go _ _ 9 _ _ _ _)
    refine Go.icmp_ge 22 dX3_has_9 rfl ⟨fun c2 => ?_, fun c2 => (?_ : Go _ _ 12 _ _ _ _)⟩
    · have h := h.1 c2
      refine Go.iconst dX3_has_22 k_ic_0 (?_ : Go _ _ 23 _ _ _ _)
      exact Go.zret rfl rfl dX3_has_23 ⟨_, rfl, h⟩
    · have h := h.2 c2
      refine Go.iload_n 1 dX3_has_12 rfl rfl (?_ : Go _ _ 13 _ _ _ _)
      refine Go.bipush dX3_has_13 k_bi_6 (?_ : Go _ _ 15 _ _ _ _)
      refine Go.icmp_ge 22 dX3_has_15 rfl ⟨fun c3 => ?_, fun c3 => (?_ : Go _ _ 18 _ _ _ _)⟩
      · have h := h.1 c3
        refine Go.iconst dX3_has_22 k_ic_0 (?_ : Go _ _ 23 _ _ _ _)
        exact Go.zret rfl rfl dX3_has_23 ⟨_, rfl, h⟩
      · have h := h.2 c3
        refine Go.iconst dX3_has_18 k_ic_1 (?_ : Go _ _ 19 _ _ _ _)
        refine Go.goto 23 dX3_has_19 rfl ?_
        exact Go.zret rfl rfl dX3_has_23 ⟨_, rfl, h⟩
theorem cgX3_has {d : Nat} {σ : St} {x1 : Int32} {K : Int32 → St → Prop} {a : Nat} (h_a : isSc a) (h : (x1 < 0 → K 0 σ) ∧ (¬ x1 < 0 → ((sF σ a 5) ≤ x1 → K 0 σ) ∧ (¬ (sF σ a 5) ≤ x1 → (6 ≤ x1 → K 0 σ) ∧ (¬ 6 ≤ x1 → K 1 σ)))) : CallI (d + 1) mX3_has [.ref a, .int x1] σ K := Call_of_Go (by decide +kernel) (ls := [.ref a, .int x1]) rfl (Nat.le_of_ble_eq_true rfl) (sgX3_has_0 h_a h)
set_option maxHeartbeats 4000000 in
set_option maxRecDepth 100000 in
theorem sgX3_hasTurn_0 {d : Nat} {σ : St} {x1 : Int32} {K : Int32 → St → Prop} {a : Nat} (h_a : isSc a) (h : (x1 < 0 → K 0 σ) ∧ (¬ x1 < 0 → ((sF σ a 6) ≤ x1 → K 0 σ) ∧ (¬ (sF σ a 6) ≤ x1 → (4 ≤ x1 → K 0 σ) ∧ (¬ 4 ≤ x1 → K 1 σ)))) : Go mX3_hasTurn (d + 1) 0 [.ref a, .int x1] [] σ (QI K) := by
  refine Go.iload_n 1 dX3_hasTurn_0 rfl rfl (?_ : Go _ _ 1 _ _ _ _)
  refine Go.if_lt 21 dX3_hasTurn_1 rfl ⟨fun c1 => ?_, fun c1 => (?_ : Go _ _ 4 _ _ _ _)⟩
  · have h := h.1 c1
    refine Go.iconst dX3_hasTurn_21 k_ic_0 (?_ : Go _ _ 22 _ _ _ _)
    exact Go.zret rfl rfl dX3_hasTurn_22 ⟨_, rfl, h⟩
  · have h := h.2 c1
    refine Go.iload_n 1 dX3_hasTurn_4 rfl rfl (?_ : Go _ _ 5 _ _ _ _)
    refine Go.aload_n 0 dX3_hasTurn_5 rfl rfl (?_ : Go _ _ 6 _ _ _ _)
    refine Go.getI fk_X3_32 (sc_0 h_a) (scr_6 h_a) dX3_hasTurn_6 (?_ : Go _ _ 9 _ _ _ _)
    refine Go.icmp_ge 21 dX3_hasTurn_9 rfl ⟨fun c2 => ?_, fun c2 => (?_ : Go _ _ 12 _ _ _ _)⟩
    · have h := h.1 c2
      refine Go.iconst dX3_hasTurn_21 k_ic_0 (?_ : Go _ _ 22 _ _ _ _)
      exact Go.zret rfl rfl dX3_hasTurn_22 ⟨_, rfl, h⟩
    · have h := h.2 c2
      refine Go.iload_n 1 dX3_hasTurn_12 rfl rfl (?_ : Go _ _ 13 _ _ _ _)
      refine Go.iconst dX3_hasTurn_13 k_ic_4 (?_ : Go _ _ 14 _ _ _ _)
      refine Go.icmp_ge 21 dX3_hasTurn_14 rfl ⟨fun c3 => ?_, fun c3 => (?_ : Go _ _ 17 _ _ _ _)⟩
      · have h := h.1 c3
        refine Go.iconst dX3_hasTurn_21 k_ic_0 (?_ : Go _ _ 22 _ _ _ _)
        exact Go.zret rfl rfl dX3_hasTurn_22 ⟨_, rfl, h⟩
      · have h := h.2 c3
        refine Go.iconst dX3_hasTurn_17 k_ic_1 (?_ : Go _ _ 18 _ _ _ _)
        refine Go.goto 22 dX3_hasTurn_18 rfl ?_
        exact Go.zret rfl rfl dX3_hasTurn_22 ⟨_, rfl, h⟩
theorem cgX3_hasTurn {d : Nat} {σ : St} {x1 : Int32} {K : Int32 → St → Prop} {a : Nat} (h_a : isSc a) (h : (x1 < 0 → K 0 σ) ∧ (¬ x1 < 0 → ((sF σ a 6) ≤ x1 → K 0 σ) ∧ (¬ (sF σ a 6) ≤ x1 → (4 ≤ x1 → K 0 σ) ∧ (¬ 4 ≤ x1 → K 1 σ)))) : CallI (d + 1) mX3_hasTurn [.ref a, .int x1] σ K := Call_of_Go (by decide +kernel) (ls := [.ref a, .int x1]) rfl (Nat.le_of_ble_eq_true rfl) (sgX3_hasTurn_0 h_a h)
set_option maxHeartbeats 4000000 in
set_option maxRecDepth 100000 in
theorem sgX3_distanceOf_0 {d : Nat} {σ : St} {x1 : Int32} {K : Int32 → St → Prop} {a : Nat} (h_a : isSc a) (h : CallI d mX3_has [.ref a, .int x1] σ (fun r2 s1 => (r2 = 0 → K 0 s1) ∧ (¬ r2 = 0 → vp_in x1 6 ∧ K (sA s1 (a + 1) (ix x1)) s1))) : Go mX3_distanceOf (d + 1) 0 [.ref a, .int x1] [] σ (QI K) := by
  refine Go.aload_n 0 dX3_distanceOf_0 rfl rfl (?_ : Go _ _ 1 _ _ _ _)
  refine Go.iload_n 1 dX3_distanceOf_1 rfl rfl (?_ : Go _ _ 2 _ _ _ _)
  refine Go.callV (as := [.int x1]) (st := []) mk_X3_has wl_X3_47 (sc_0 h_a) rfl rfl (Nat.le_of_ble_eq_true rfl) dX3_distanceOf_2 h ?_
  rintro _ s1 ⟨r2, rfl, h⟩
  show Go _ _ 5 _ [.int r2] _ _
  refine Go.if_eq 17 dX3_distanceOf_5 rfl ⟨fun c3 => ?_, fun c3 => (?_ : Go _ _ 8 _ _ _ _)⟩
  · have h := h.1 c3
    refine Go.iconst dX3_distanceOf_17 k_ic_0 (?_ : Go _ _ 18 _ _ _ _)
    exact Go.iret rfl dX3_distanceOf_18 ⟨_, rfl, h⟩
  · have h := h.2 c3
    refine Go.aload_n 0 dX3_distanceOf_8 rfl rfl (?_ : Go _ _ 9 _ _ _ _)
    refine Go.getR fk_X3_9 (sc_0 h_a) (scr_0 h_a) dX3_distanceOf_9 (?_ : Go _ _ 12 _ _ _ _)
    refine Go.iload_n 1 dX3_distanceOf_12 rfl rfl (?_ : Go _ _ 13 _ _ _ _)
    refine Go.iald (sc_1 h_a) dX3_distanceOf_13 ⟨h.1, (?_ : Go _ _ 14 _ _ _ _)⟩
    have h := h.2
    refine Go.goto 18 dX3_distanceOf_14 rfl ?_
    exact Go.iret rfl dX3_distanceOf_18 ⟨_, rfl, h⟩
theorem cgX3_distanceOf {d : Nat} {σ : St} {x1 : Int32} {K : Int32 → St → Prop} {a : Nat} (h_a : isSc a) (h : CallI d mX3_has [.ref a, .int x1] σ (fun r2 s1 => (r2 = 0 → K 0 s1) ∧ (¬ r2 = 0 → vp_in x1 6 ∧ K (sA s1 (a + 1) (ix x1)) s1))) : CallI (d + 1) mX3_distanceOf [.ref a, .int x1] σ K := Call_of_Go (by decide +kernel) (ls := [.ref a, .int x1]) rfl (Nat.le_of_ble_eq_true rfl) (sgX3_distanceOf_0 h_a h)
set_option maxHeartbeats 4000000 in
set_option maxRecDepth 100000 in
theorem sgX3_strengthOf_0 {d : Nat} {σ : St} {x1 : Int32} {K : Int32 → St → Prop} {a : Nat} (h_a : isSc a) (h : CallI d mX3_has [.ref a, .int x1] σ (fun r2 s1 => (r2 = 0 → K 0 s1) ∧ (¬ r2 = 0 → vp_in x1 6 ∧ K (sA s1 (a + 2) (ix x1)) s1))) : Go mX3_strengthOf (d + 1) 0 [.ref a, .int x1] [] σ (QI K) := by
  refine Go.aload_n 0 dX3_strengthOf_0 rfl rfl (?_ : Go _ _ 1 _ _ _ _)
  refine Go.iload_n 1 dX3_strengthOf_1 rfl rfl (?_ : Go _ _ 2 _ _ _ _)
  refine Go.callV (as := [.int x1]) (st := []) mk_X3_has wl_X3_47 (sc_0 h_a) rfl rfl (Nat.le_of_ble_eq_true rfl) dX3_strengthOf_2 h ?_
  rintro _ s1 ⟨r2, rfl, h⟩
  show Go _ _ 5 _ [.int r2] _ _
  refine Go.if_eq 17 dX3_strengthOf_5 rfl ⟨fun c3 => ?_, fun c3 => (?_ : Go _ _ 8 _ _ _ _)⟩
  · have h := h.1 c3
    refine Go.iconst dX3_strengthOf_17 k_ic_0 (?_ : Go _ _ 18 _ _ _ _)
    exact Go.iret rfl dX3_strengthOf_18 ⟨_, rfl, h⟩
  · have h := h.2 c3
    refine Go.aload_n 0 dX3_strengthOf_8 rfl rfl (?_ : Go _ _ 9 _ _ _ _)
    refine Go.getR fk_X3_15 (sc_0 h_a) (scr_1 h_a) dX3_strengthOf_9 (?_ : Go _ _ 12 _ _ _ _)
    refine Go.iload_n 1 dX3_strengthOf_12 rfl rfl (?_ : Go _ _ 13 _ _ _ _)
    refine Go.iald (sc_2 h_a) dX3_strengthOf_13 ⟨h.1, (?_ : Go _ _ 14 _ _ _ _)⟩
    have h := h.2
    refine Go.goto 18 dX3_strengthOf_14 rfl ?_
    exact Go.iret rfl dX3_strengthOf_18 ⟨_, rfl, h⟩
theorem cgX3_strengthOf {d : Nat} {σ : St} {x1 : Int32} {K : Int32 → St → Prop} {a : Nat} (h_a : isSc a) (h : CallI d mX3_has [.ref a, .int x1] σ (fun r2 s1 => (r2 = 0 → K 0 s1) ∧ (¬ r2 = 0 → vp_in x1 6 ∧ K (sA s1 (a + 2) (ix x1)) s1))) : CallI (d + 1) mX3_strengthOf [.ref a, .int x1] σ K := Call_of_Go (by decide +kernel) (ls := [.ref a, .int x1]) rfl (Nat.le_of_ble_eq_true rfl) (sgX3_strengthOf_0 h_a h)
set_option maxHeartbeats 4000000 in
set_option maxRecDepth 100000 in
theorem sgX3_movementOf_0 {d : Nat} {σ : St} {x1 : Int32} {K : Int32 → St → Prop} {a : Nat} (h_a : isSc a) (h : CallI d mX3_has [.ref a, .int x1] σ (fun r2 s1 => (r2 = 0 → K 0 s1) ∧ (¬ r2 = 0 → vp_in x1 6 ∧ K (sA s1 (a + 3) (ix x1)) s1))) : Go mX3_movementOf (d + 1) 0 [.ref a, .int x1] [] σ (QI K) := by
  refine Go.aload_n 0 dX3_movementOf_0 rfl rfl (?_ : Go _ _ 1 _ _ _ _)
  refine Go.iload_n 1 dX3_movementOf_1 rfl rfl (?_ : Go _ _ 2 _ _ _ _)
  refine Go.callV (as := [.int x1]) (st := []) mk_X3_has wl_X3_47 (sc_0 h_a) rfl rfl (Nat.le_of_ble_eq_true rfl) dX3_movementOf_2 h ?_
  rintro _ s1 ⟨r2, rfl, h⟩
  show Go _ _ 5 _ [.int r2] _ _
  refine Go.if_eq 17 dX3_movementOf_5 rfl ⟨fun c3 => ?_, fun c3 => (?_ : Go _ _ 8 _ _ _ _)⟩
  · have h := h.1 c3
    refine Go.iconst dX3_movementOf_17 k_ic_0 (?_ : Go _ _ 18 _ _ _ _)
    exact Go.iret rfl dX3_movementOf_18 ⟨_, rfl, h⟩
  · have h := h.2 c3
    refine Go.aload_n 0 dX3_movementOf_8 rfl rfl (?_ : Go _ _ 9 _ _ _ _)
    refine Go.getR fk_X3_18 (sc_0 h_a) (scr_2 h_a) dX3_movementOf_9 (?_ : Go _ _ 12 _ _ _ _)
    refine Go.iload_n 1 dX3_movementOf_12 rfl rfl (?_ : Go _ _ 13 _ _ _ _)
    refine Go.iald (sc_3 h_a) dX3_movementOf_13 ⟨h.1, (?_ : Go _ _ 14 _ _ _ _)⟩
    have h := h.2
    refine Go.goto 18 dX3_movementOf_14 rfl ?_
    exact Go.iret rfl dX3_movementOf_18 ⟨_, rfl, h⟩
theorem cgX3_movementOf {d : Nat} {σ : St} {x1 : Int32} {K : Int32 → St → Prop} {a : Nat} (h_a : isSc a) (h : CallI d mX3_has [.ref a, .int x1] σ (fun r2 s1 => (r2 = 0 → K 0 s1) ∧ (¬ r2 = 0 → vp_in x1 6 ∧ K (sA s1 (a + 3) (ix x1)) s1))) : CallI (d + 1) mX3_movementOf [.ref a, .int x1] σ K := Call_of_Go (by decide +kernel) (ls := [.ref a, .int x1]) rfl (Nat.le_of_ble_eq_true rfl) (sgX3_movementOf_0 h_a h)
set_option maxHeartbeats 4000000 in
set_option maxRecDepth 100000 in
theorem sgX3_isWall_0 {d : Nat} {σ : St} {x1 : Int32} {K : Int32 → St → Prop} {a : Nat} (h_a : isSc a) (h : CallI d mX3_has [.ref a, .int x1] σ (fun r2 s1 => (r2 = 0 → K 0 s1) ∧ (¬ r2 = 0 → vp_in x1 6 ∧ ((sA s1 (a + 4) (ix x1)) = 0 → K 0 s1) ∧ (¬ (sA s1 (a + 4) (ix x1)) = 0 → K 1 s1)))) : Go mX3_isWall (d + 1) 0 [.ref a, .int x1] [] σ (QI K) := by
  refine Go.aload_n 0 dX3_isWall_0 rfl rfl (?_ : Go _ _ 1 _ _ _ _)
  refine Go.iload_n 1 dX3_isWall_1 rfl rfl (?_ : Go _ _ 2 _ _ _ _)
  refine Go.callV (as := [.int x1]) (st := []) mk_X3_has wl_X3_47 (sc_0 h_a) rfl rfl (Nat.le_of_ble_eq_true rfl) dX3_isWall_2 h ?_
  rintro _ s1 ⟨r2, rfl, h⟩
  show Go _ _ 5 _ [.int r2] _ _
  refine Go.if_eq 21 dX3_isWall_5 rfl ⟨fun c3 => ?_, fun c3 => (?_ : Go _ _ 8 _ _ _ _)⟩
  · have h := h.1 c3
    refine Go.iconst dX3_isWall_21 k_ic_0 (?_ : Go _ _ 22 _ _ _ _)
    exact Go.zret rfl rfl dX3_isWall_22 ⟨_, rfl, h⟩
  · have h := h.2 c3
    refine Go.aload_n 0 dX3_isWall_8 rfl rfl (?_ : Go _ _ 9 _ _ _ _)
    refine Go.getR fk_X3_21 (sc_0 h_a) (scr_3 h_a) dX3_isWall_9 (?_ : Go _ _ 12 _ _ _ _)
    refine Go.iload_n 1 dX3_isWall_12 rfl rfl (?_ : Go _ _ 13 _ _ _ _)
    refine Go.zald (sc_4 h_a) dX3_isWall_13 ⟨h.1, (?_ : Go _ _ 14 _ _ _ _)⟩
    have h := h.2
    refine Go.if_eq 21 dX3_isWall_14 rfl ⟨fun c4 => ?_, fun c4 => (?_ : Go _ _ 17 _ _ _ _)⟩
    · have h := h.1 c4
      refine Go.iconst dX3_isWall_21 k_ic_0 (?_ : Go _ _ 22 _ _ _ _)
      exact Go.zret rfl rfl dX3_isWall_22 ⟨_, rfl, h⟩
    · have h := h.2 c4
      refine Go.iconst dX3_isWall_17 k_ic_1 (?_ : Go _ _ 18 _ _ _ _)
      refine Go.goto 22 dX3_isWall_18 rfl ?_
      exact Go.zret rfl rfl dX3_isWall_22 ⟨_, rfl, h⟩
theorem cgX3_isWall {d : Nat} {σ : St} {x1 : Int32} {K : Int32 → St → Prop} {a : Nat} (h_a : isSc a) (h : CallI d mX3_has [.ref a, .int x1] σ (fun r2 s1 => (r2 = 0 → K 0 s1) ∧ (¬ r2 = 0 → vp_in x1 6 ∧ ((sA s1 (a + 4) (ix x1)) = 0 → K 0 s1) ∧ (¬ (sA s1 (a + 4) (ix x1)) = 0 → K 1 s1)))) : CallI (d + 1) mX3_isWall [.ref a, .int x1] σ K := Call_of_Go (by decide +kernel) (ls := [.ref a, .int x1]) rfl (Nat.le_of_ble_eq_true rfl) (sgX3_isWall_0 h_a h)
set_option maxHeartbeats 4000000 in
set_option maxRecDepth 100000 in
theorem sgX3_spacingOf_0 {d : Nat} {σ : St} {x1 : Int32} {K : Int32 → St → Prop} {a : Nat} (h_a : isSc a) (h : CallI d mX3_hasTurn [.ref a, .int x1] σ (fun r2 s1 => (r2 = 0 → K 0 s1) ∧ (¬ r2 = 0 → vp_in x1 4 ∧ K (sA s1 (a + 5) (ix x1)) s1))) : Go mX3_spacingOf (d + 1) 0 [.ref a, .int x1] [] σ (QI K) := by
  refine Go.aload_n 0 dX3_spacingOf_0 rfl rfl (?_ : Go _ _ 1 _ _ _ _)
  refine Go.iload_n 1 dX3_spacingOf_1 rfl rfl (?_ : Go _ _ 2 _ _ _ _)
  refine Go.callV (as := [.int x1]) (st := []) mk_X3_hasTurn wl_X3_51 (sc_0 h_a) rfl rfl (Nat.le_of_ble_eq_true rfl) dX3_spacingOf_2 h ?_
  rintro _ s1 ⟨r2, rfl, h⟩
  show Go _ _ 5 _ [.int r2] _ _
  refine Go.if_eq 17 dX3_spacingOf_5 rfl ⟨fun c3 => ?_, fun c3 => (?_ : Go _ _ 8 _ _ _ _)⟩
  · have h := h.1 c3
    refine Go.iconst dX3_spacingOf_17 k_ic_0 (?_ : Go _ _ 18 _ _ _ _)
    exact Go.iret rfl dX3_spacingOf_18 ⟨_, rfl, h⟩
  · have h := h.2 c3
    refine Go.aload_n 0 dX3_spacingOf_8 rfl rfl (?_ : Go _ _ 9 _ _ _ _)
    refine Go.getR fk_X3_25 (sc_0 h_a) (scr_4 h_a) dX3_spacingOf_9 (?_ : Go _ _ 12 _ _ _ _)
    refine Go.iload_n 1 dX3_spacingOf_12 rfl rfl (?_ : Go _ _ 13 _ _ _ _)
    refine Go.iald (sc_5 h_a) dX3_spacingOf_13 ⟨h.1, (?_ : Go _ _ 14 _ _ _ _)⟩
    have h := h.2
    refine Go.goto 18 dX3_spacingOf_14 rfl ?_
    exact Go.iret rfl dX3_spacingOf_18 ⟨_, rfl, h⟩
theorem cgX3_spacingOf {d : Nat} {σ : St} {x1 : Int32} {K : Int32 → St → Prop} {a : Nat} (h_a : isSc a) (h : CallI d mX3_hasTurn [.ref a, .int x1] σ (fun r2 s1 => (r2 = 0 → K 0 s1) ∧ (¬ r2 = 0 → vp_in x1 4 ∧ K (sA s1 (a + 5) (ix x1)) s1))) : CallI (d + 1) mX3_spacingOf [.ref a, .int x1] σ K := Call_of_Go (by decide +kernel) (ls := [.ref a, .int x1]) rfl (Nat.le_of_ble_eq_true rfl) (sgX3_spacingOf_0 h_a h)
set_option maxHeartbeats 4000000 in
set_option maxRecDepth 100000 in
theorem sgX3_wallCount_0 {d : Nat} {σ : St} {K : Int32 → St → Prop} {a : Nat} (h_a : isSc a) (h : Go mX3_wallCount (d + 1) 4 [.ref a, .int 0, .int 0] [] σ (QI K)) : Go mX3_wallCount (d + 1) 0 [.ref a, .null, .null] [] σ (QI K) := by
  refine Go.iconst dX3_wallCount_0 k_ic_0 (?_ : Go _ _ 1 _ _ _ _)
  refine Go.istore_n 1 dX3_wallCount_1 rfl (by decide) rfl rfl (?_ : Go _ _ 2 [.ref a, .int 0, .null] _ _ _)
  refine Go.iconst dX3_wallCount_2 k_ic_0 (?_ : Go _ _ 3 _ _ _ _)
  refine Go.istore_n 2 dX3_wallCount_3 rfl (by decide) rfl rfl (?_ : Go _ _ 4 [.ref a, .int 0, .int 0] _ _ _)
  exact h
theorem cgX3_wallCount {d : Nat} {σ : St} {K : Int32 → St → Prop} {a : Nat} (h_a : isSc a) (h : Go mX3_wallCount (d + 1) 4 [.ref a, .int 0, .int 0] [] σ (QI K)) : CallI (d + 1) mX3_wallCount [.ref a] σ K := Call_of_Go (by decide +kernel) (ls := [.ref a, .null, .null]) rfl (Nat.le_of_ble_eq_true rfl) (sgX3_wallCount_0 h_a h)
set_option maxHeartbeats 4000000 in
set_option maxRecDepth 100000 in
theorem sgX3_wallCount_4 {d : Nat} {σ : St} {v1 : Int32} {v2 : Int32} {K : Int32 → St → Prop} {a : Nat} (h_a : isSc a) (h : ((sF σ a 5) ≤ v2 → K v1 σ) ∧ (¬ (sF σ a 5) ≤ v2 → CallI d mX3_isWall [.ref a, .int v2] σ (fun r3 s2 => (r3 = 0 → Go mX3_wallCount (d + 1) 4 [.ref a, .int (v1 + 0), .int (v2 + 1)] [] s2 (QI K)) ∧ (¬ r3 = 0 → Go mX3_wallCount (d + 1) 4 [.ref a, .int (v1 + 1), .int (v2 + 1)] [] s2 (QI K))))) : Go mX3_wallCount (d + 1) 4 [.ref a, .int v1, .int v2] [] σ (QI K) := by
  refine Go.iload_n 2 dX3_wallCount_4 rfl rfl (?_ : Go _ _ 5 _ _ _ _)
  refine Go.aload_n 0 dX3_wallCount_5 rfl rfl (?_ : Go _ _ 6 _ _ _ _)
  refine Go.getI fk_X3_28 (sc_0 h_a) (scr_5 h_a) dX3_wallCount_6 (?_ : Go _ _ 9 _ _ _ _)
  refine Go.icmp_ge 34 dX3_wallCount_9 rfl ⟨fun c1 => ?_, fun c1 => (?_ : Go _ _ 12 _ _ _ _)⟩
  · have h := h.1 c1
    refine Go.iload_n 1 dX3_wallCount_34 rfl rfl (?_ : Go _ _ 35 _ _ _ _)
    exact Go.iret rfl dX3_wallCount_35 ⟨_, rfl, h⟩
  · have h := h.2 c1
    refine Go.iload_n 1 dX3_wallCount_12 rfl rfl (?_ : Go _ _ 13 _ _ _ _)
    refine Go.aload_n 0 dX3_wallCount_13 rfl rfl (?_ : Go _ _ 14 _ _ _ _)
    refine Go.iload_n 2 dX3_wallCount_14 rfl rfl (?_ : Go _ _ 15 _ _ _ _)
    refine Go.callV (as := [.int v2]) (st := [.int v1]) mk_X3_isWall wl_X3_54 (sc_0 h_a) rfl rfl (Nat.le_of_ble_eq_true rfl) dX3_wallCount_15 h ?_
    rintro _ s2 ⟨r3, rfl, h⟩
    show Go _ _ 18 _ [.int r3, .int v1] _ _
    refine Go.if_eq 25 dX3_wallCount_18 rfl ⟨fun c4 => ?_, fun c4 => (?_ : Go _ _ 21 _ _ _ _)⟩
    · have h := h.1 c4
      refine Go.iconst dX3_wallCount_25 k_ic_0 (?_ : Go _ _ 26 _ _ _ _)
      refine Go.iadd dX3_wallCount_26 (?_ : Go _ _ 27 _ _ _ _)
      refine Go.istore_n 1 dX3_wallCount_27 rfl (by decide) rfl rfl (?_ : Go _ _ 28 [.ref a, .int (v1 + 0), .int v2] _ _ _)
      refine Go.iinc dX3_wallCount_28 rfl (congrArg (fun z => v2 + z) k_ic_1) (by decide) rfl rfl (?_ : Go _ _ 31 [.ref a, .int (v1 + 0), .int (v2 + 1)] _ _ _)
      refine Go.goto 4 dX3_wallCount_31 rfl ?_
      exact h
    · have h := h.2 c4
      refine Go.iconst dX3_wallCount_21 k_ic_1 (?_ : Go _ _ 22 _ _ _ _)
      refine Go.goto 26 dX3_wallCount_22 rfl ?_
      refine Go.iadd dX3_wallCount_26 (?_ : Go _ _ 27 _ _ _ _)
      refine Go.istore_n 1 dX3_wallCount_27 rfl (by decide) rfl rfl (?_ : Go _ _ 28 [.ref a, .int (v1 + 1), .int v2] _ _ _)
      refine Go.iinc dX3_wallCount_28 rfl (congrArg (fun z => v2 + z) k_ic_1) (by decide) rfl rfl (?_ : Go _ _ 31 [.ref a, .int (v1 + 1), .int (v2 + 1)] _ _ _)
      refine Go.goto 4 dX3_wallCount_31 rfl ?_
      exact h
set_option maxHeartbeats 4000000 in
set_option maxRecDepth 100000 in
theorem sgX3_holds_0 {d : Nat} {σ : St} {x1 : Int32} {x2 : Int32} {K : Int32 → St → Prop} {a : Nat} (h_a : isSc a) (h : Go mX3_holds (d + 1) 2 [.ref a, .int x1, .int x2, .int 0] [] σ (QI K)) : Go mX3_holds (d + 1) 0 [.ref a, .int x1, .int x2, .null] [] σ (QI K) := by
  refine Go.iconst dX3_holds_0 k_ic_0 (?_ : Go _ _ 1 _ _ _ _)
  refine Go.istore_n 3 dX3_holds_1 rfl (by decide) rfl rfl (?_ : Go _ _ 2 [.ref a, .int x1, .int x2, .int 0] _ _ _)
  exact h
theorem cgX3_holds {d : Nat} {σ : St} {x1 : Int32} {x2 : Int32} {K : Int32 → St → Prop} {a : Nat} (h_a : isSc a) (h : Go mX3_holds (d + 1) 2 [.ref a, .int x1, .int x2, .int 0] [] σ (QI K)) : CallI (d + 1) mX3_holds [.ref a, .int x1, .int x2] σ K := Call_of_Go (by decide +kernel) (ls := [.ref a, .int x1, .int x2, .null]) rfl (Nat.le_of_ble_eq_true rfl) (sgX3_holds_0 h_a h)
set_option maxHeartbeats 4000000 in
set_option maxRecDepth 100000 in
theorem sgX3_holds_2 {d : Nat} {σ : St} {v1 : Int32} {v2 : Int32} {v3 : Int32} {K : Int32 → St → Prop} {a : Nat} (h_a : isSc a) (h : ((sF σ a 5) ≤ v3 → K 0 σ) ∧ (¬ (sF σ a 5) ≤ v3 → CallI d mX3_distanceOf [.ref a, .int v3] σ (fun r3 s2 => (¬ r3 = v1 → Go mX3_holds (d + 1) 2 [.ref a, .int v1, .int v2, .int (v3 + 1)] [] s2 (QI K)) ∧ (r3 = v1 → CallI d mX3_movementOf [.ref a, .int v3] s2 (fun r6 s5 => (¬ r6 = v2 → Go mX3_holds (d + 1) 2 [.ref a, .int v1, .int v2, .int (v3 + 1)] [] s5 (QI K)) ∧ (r6 = v2 → K 1 s5)))))) : Go mX3_holds (d + 1) 2 [.ref a, .int v1, .int v2, .int v3] [] σ (QI K) := by
  refine Go.iload_n 3 dX3_holds_2 rfl rfl (?_ : Go _ _ 3 _ _ _ _)
  refine Go.aload_n 0 dX3_holds_3 rfl rfl (?_ : Go _ _ 4 _ _ _ _)
  refine Go.getI fk_X3_28 (sc_0 h_a) (scr_5 h_a) dX3_holds_4 (?_ : Go _ _ 7 _ _ _ _)
  refine Go.icmp_ge 36 dX3_holds_7 rfl ⟨fun c1 => ?_, fun c1 => (?_ : Go _ _ 10 _ _ _ _)⟩
  · have h := h.1 c1
    refine Go.iconst dX3_holds_36 k_ic_0 (?_ : Go _ _ 37 _ _ _ _)
    exact Go.zret rfl rfl dX3_holds_37 ⟨_, rfl, h⟩
  · have h := h.2 c1
    refine Go.aload_n 0 dX3_holds_10 rfl rfl (?_ : Go _ _ 11 _ _ _ _)
    refine Go.iload_n 3 dX3_holds_11 rfl rfl (?_ : Go _ _ 12 _ _ _ _)
    refine Go.callV (as := [.int v3]) (st := []) mk_X3_distanceOf wl_X3_57 (sc_0 h_a) rfl rfl (Nat.le_of_ble_eq_true rfl) dX3_holds_12 h ?_
    rintro _ s2 ⟨r3, rfl, h⟩
    show Go _ _ 15 _ [.int r3] _ _
    refine Go.iload_n 1 dX3_holds_15 rfl rfl (?_ : Go _ _ 16 _ _ _ _)
    refine Go.icmp_ne 30 dX3_holds_16 rfl ⟨fun c4 => ?_, fun c4 => (?_ : Go _ _ 19 _ _ _ _)⟩
    · have h := h.1 c4
      refine Go.iinc dX3_holds_30 rfl (congrArg (fun z => v3 + z) k_ic_1) (by decide) rfl rfl (?_ : Go _ _ 33 [.ref a, .int v1, .int v2, .int (v3 + 1)] _ _ _)
      refine Go.goto 2 dX3_holds_33 rfl ?_
      exact h
    · have h := h.2 c4
      refine Go.aload_n 0 dX3_holds_19 rfl rfl (?_ : Go _ _ 20 _ _ _ _)
      refine Go.iload_n 3 dX3_holds_20 rfl rfl (?_ : Go _ _ 21 _ _ _ _)
      refine Go.callV (as := [.int v3]) (st := []) mk_X3_movementOf wl_X3_61 (sc_0 h_a) rfl rfl (Nat.le_of_ble_eq_true rfl) dX3_holds_21 h ?_
      rintro _ s5 ⟨r6, rfl, h⟩
      show Go _ _ 24 _ [.int r6] _ _
      refine Go.iload_n 2 dX3_holds_24 rfl rfl (?_ : Go _ _ 25 _ _ _ _)
      refine Go.icmp_ne 30 dX3_holds_25 rfl ⟨fun c7 => ?_, fun c7 => (?_ : Go _ _ 28 _ _ _ _)⟩
      · have h := h.1 c7
        refine Go.iinc dX3_holds_30 rfl (congrArg (fun z => v3 + z) k_ic_1) (by decide) rfl rfl (?_ : Go _ _ 33 [.ref a, .int v1, .int v2, .int (v3 + 1)] _ _ _)
        refine Go.goto 2 dX3_holds_33 rfl ?_
        exact h
      · have h := h.2 c7
        refine Go.iconst dX3_holds_28 k_ic_1 (?_ : Go _ _ 29 _ _ _ _)
        exact Go.zret rfl rfl dX3_holds_29 ⟨_, rfl, h⟩
set_option maxHeartbeats 4000000 in
set_option maxRecDepth 100000 in
theorem sgX3_join_0 {d : Nat} {σ : St} {x1 : Int32} {x2 : Int32} {x3 : Int32} {x4 : Int32} {K : Int32 → St → Prop} {a : Nat} (h_a : isSc a) (h : ((sF σ a 5) < 6 → ∀ s2, s2 = setF σ a 5 ((sF σ a 5) + 1) → CallU d mX3_put [.ref a, .int ((sF s2 a 5) - 1), .int x1, .int x2, .int x3, .int x4] s2 (fun s3 => K ((sF s3 a 5) - 1) s3)) ∧ (¬ (sF σ a 5) < 6 → K (-3) σ)) : Go mX3_join (d + 1) 0 [.ref a, .int x1, .int x2, .int x3, .int x4] [] σ (QI K) := by
  refine Go.aload_n 0 dX3_join_0 rfl rfl (?_ : Go _ _ 1 _ _ _ _)
  refine Go.getI fk_X3_28 (sc_0 h_a) (scr_5 h_a) dX3_join_1 (?_ : Go _ _ 4 _ _ _ _)
  refine Go.bipush dX3_join_4 k_bi_6 (?_ : Go _ _ 6 _ _ _ _)
  refine Go.icmp_lt 12 dX3_join_6 rfl ⟨fun c1 => ?_, fun c1 => (?_ : Go _ _ 9 _ _ _ _)⟩
  · have h := h.1 c1
    refine Go.aload_n 0 dX3_join_12 rfl rfl (?_ : Go _ _ 13 _ _ _ _)
    refine Go.dup dX3_join_13 rfl (?_ : Go _ _ 14 _ _ _ _)
    refine Go.getI fk_X3_28 (sc_0 h_a) (scr_5 h_a) dX3_join_14 (?_ : Go _ _ 17 _ _ _ _)
    refine Go.iconst dX3_join_17 k_ic_1 (?_ : Go _ _ 18 _ _ _ _)
    refine Go.iadd dX3_join_18 (?_ : Go _ _ 19 _ _ _ _)
    refine Go.putI fp_X3_28 (sc_0 h_a) (scr_5 h_a) dX3_join_19 (?_ : Go _ _ 22 _ _ _ _)
    generalize es2 : setF σ a 5 ((sF σ a 5) + 1) = s2
    have h := h s2 es2.symm
    refine Go.aload_n 0 dX3_join_22 rfl rfl (?_ : Go _ _ 23 _ _ _ _)
    refine Go.aload_n 0 dX3_join_23 rfl rfl (?_ : Go _ _ 24 _ _ _ _)
    refine Go.getI fk_X3_28 (sc_0 h_a) (scr_5 h_a) dX3_join_24 (?_ : Go _ _ 27 _ _ _ _)
    refine Go.iconst dX3_join_27 k_ic_1 (?_ : Go _ _ 28 _ _ _ _)
    refine Go.isub dX3_join_28 (?_ : Go _ _ 29 _ _ _ _)
    refine Go.iload_n 1 dX3_join_29 rfl rfl (?_ : Go _ _ 30 _ _ _ _)
    refine Go.iload_n 2 dX3_join_30 rfl rfl (?_ : Go _ _ 31 _ _ _ _)
    refine Go.iload_n 3 dX3_join_31 rfl rfl (?_ : Go _ _ 32 _ _ _ _)
    refine Go.iload dX3_join_32 rfl (?_ : Go _ _ 34 _ _ _ _)
    refine Go.callV (as := [.int ((sF s2 a 5) - 1), .int x1, .int x2, .int x3, .int x4]) (st := []) mk_X3_put wl_X3_64 (sc_0 h_a) rfl rfl (Nat.le_of_ble_eq_true rfl) dX3_join_34 h ?_
    rintro _ s3 ⟨rfl, h⟩
    show Go _ _ 37 _ [] _ _
    refine Go.aload_n 0 dX3_join_37 rfl rfl (?_ : Go _ _ 38 _ _ _ _)
    refine Go.getI fk_X3_28 (sc_0 h_a) (scr_5 h_a) dX3_join_38 (?_ : Go _ _ 41 _ _ _ _)
    refine Go.iconst dX3_join_41 k_ic_1 (?_ : Go _ _ 42 _ _ _ _)
    refine Go.isub dX3_join_42 (?_ : Go _ _ 43 _ _ _ _)
    exact Go.iret rfl dX3_join_43 ⟨_, rfl, h⟩
  · have h := h.2 c1
    refine Go.bipush dX3_join_9 k_bi_m3 (?_ : Go _ _ 11 _ _ _ _)
    exact Go.iret rfl dX3_join_11 ⟨_, rfl, h⟩
theorem cgX3_join {d : Nat} {σ : St} {x1 : Int32} {x2 : Int32} {x3 : Int32} {x4 : Int32} {K : Int32 → St → Prop} {a : Nat} (h_a : isSc a) (h : ((sF σ a 5) < 6 → ∀ s2, s2 = setF σ a 5 ((sF σ a 5) + 1) → CallU d mX3_put [.ref a, .int ((sF s2 a 5) - 1), .int x1, .int x2, .int x3, .int x4] s2 (fun s3 => K ((sF s3 a 5) - 1) s3)) ∧ (¬ (sF σ a 5) < 6 → K (-3) σ)) : CallI (d + 1) mX3_join [.ref a, .int x1, .int x2, .int x3, .int x4] σ K := Call_of_Go (by decide +kernel) (ls := [.ref a, .int x1, .int x2, .int x3, .int x4]) rfl (Nat.le_of_ble_eq_true rfl) (sgX3_join_0 h_a h)
set_option maxHeartbeats 4000000 in
set_option maxRecDepth 100000 in
theorem sgX3_put_0 {d : Nat} {σ : St} {x1 : Int32} {x2 : Int32} {x3 : Int32} {x4 : Int32} {x5 : Int32} {K : St → Prop} {a : Nat} (h_a : isSc a) (h : CallI d mX3_has [.ref a, .int x1] σ (fun r2 s1 => (r2 = 0 → K s1) ∧ (¬ r2 = 0 → vp_in x1 6 ∧ ∀ s4, s4 = setA s1 (a + 1) (ix x1) x2 → vp_in x1 6 ∧ ∀ s5, s5 = setA s4 (a + 2) (ix x1) x3 → vp_in x1 6 ∧ ∀ s6, s6 = setA s5 (a + 3) (ix x1) x4 → vp_in x1 6 ∧ ∀ s7, s7 = setA s6 (a + 4) (ix x1) (nbo x5) → K s7))) : Go mX3_put (d + 1) 0 [.ref a, .int x1, .int x2, .int x3, .int x4, .int x5] [] σ (QU K) := by
  refine Go.aload_n 0 dX3_put_0 rfl rfl (?_ : Go _ _ 1 _ _ _ _)
  refine Go.iload_n 1 dX3_put_1 rfl rfl (?_ : Go _ _ 2 _ _ _ _)
  refine Go.callV (as := [.int x1]) (st := []) mk_X3_has wl_X3_47 (sc_0 h_a) rfl rfl (Nat.le_of_ble_eq_true rfl) dX3_put_2 h ?_
  rintro _ s1 ⟨r2, rfl, h⟩
  show Go _ _ 5 _ [.int r2] _ _
  refine Go.if_eq 38 dX3_put_5 rfl ⟨fun c3 => ?_, fun c3 => (?_ : Go _ _ 8 _ _ _ _)⟩
  · have h := h.1 c3
    exact Go.vret rfl dX3_put_38 ⟨rfl, h⟩
  · have h := h.2 c3
    refine Go.aload_n 0 dX3_put_8 rfl rfl (?_ : Go _ _ 9 _ _ _ _)
    refine Go.getR fk_X3_9 (sc_0 h_a) (scr_0 h_a) dX3_put_9 (?_ : Go _ _ 12 _ _ _ _)
    refine Go.iload_n 1 dX3_put_12 rfl rfl (?_ : Go _ _ 13 _ _ _ _)
    refine Go.iload_n 2 dX3_put_13 rfl rfl (?_ : Go _ _ 14 _ _ _ _)
    refine Go.iast (sc_1 h_a) dX3_put_14 ⟨h.1, (?_ : Go _ _ 15 _ _ _ _)⟩
    generalize es4 : setA s1 (a + 1) (ix x1) x2 = s4
    have h := h.2 s4 es4.symm
    refine Go.aload_n 0 dX3_put_15 rfl rfl (?_ : Go _ _ 16 _ _ _ _)
    refine Go.getR fk_X3_15 (sc_0 h_a) (scr_1 h_a) dX3_put_16 (?_ : Go _ _ 19 _ _ _ _)
    refine Go.iload_n 1 dX3_put_19 rfl rfl (?_ : Go _ _ 20 _ _ _ _)
    refine Go.iload_n 3 dX3_put_20 rfl rfl (?_ : Go _ _ 21 _ _ _ _)
    refine Go.iast (sc_2 h_a) dX3_put_21 ⟨h.1, (?_ : Go _ _ 22 _ _ _ _)⟩
    generalize es5 : setA s4 (a + 2) (ix x1) x3 = s5
    have h := h.2 s5 es5.symm
    refine Go.aload_n 0 dX3_put_22 rfl rfl (?_ : Go _ _ 23 _ _ _ _)
    refine Go.getR fk_X3_18 (sc_0 h_a) (scr_2 h_a) dX3_put_23 (?_ : Go _ _ 26 _ _ _ _)
    refine Go.iload_n 1 dX3_put_26 rfl rfl (?_ : Go _ _ 27 _ _ _ _)
    refine Go.iload dX3_put_27 rfl (?_ : Go _ _ 29 _ _ _ _)
    refine Go.iast (sc_3 h_a) dX3_put_29 ⟨h.1, (?_ : Go _ _ 30 _ _ _ _)⟩
    generalize es6 : setA s5 (a + 3) (ix x1) x4 = s6
    have h := h.2 s6 es6.symm
    refine Go.aload_n 0 dX3_put_30 rfl rfl (?_ : Go _ _ 31 _ _ _ _)
    refine Go.getR fk_X3_21 (sc_0 h_a) (scr_3 h_a) dX3_put_31 (?_ : Go _ _ 34 _ _ _ _)
    refine Go.iload_n 1 dX3_put_34 rfl rfl (?_ : Go _ _ 35 _ _ _ _)
    refine Go.iload dX3_put_35 rfl (?_ : Go _ _ 37 _ _ _ _)
    refine Go.zast (sc_4 h_a) dX3_put_37 ⟨h.1, (?_ : Go _ _ 38 _ _ _ _)⟩
    generalize es7 : setA s6 (a + 4) (ix x1) (nbo x5) = s7
    have h := h.2 s7 es7.symm
    exact Go.vret rfl dX3_put_38 ⟨rfl, h⟩
theorem cgX3_put {d : Nat} {σ : St} {x1 : Int32} {x2 : Int32} {x3 : Int32} {x4 : Int32} {x5 : Int32} {K : St → Prop} {a : Nat} (h_a : isSc a) (h : CallI d mX3_has [.ref a, .int x1] σ (fun r2 s1 => (r2 = 0 → K s1) ∧ (¬ r2 = 0 → vp_in x1 6 ∧ ∀ s4, s4 = setA s1 (a + 1) (ix x1) x2 → vp_in x1 6 ∧ ∀ s5, s5 = setA s4 (a + 2) (ix x1) x3 → vp_in x1 6 ∧ ∀ s6, s6 = setA s5 (a + 3) (ix x1) x4 → vp_in x1 6 ∧ ∀ s7, s7 = setA s6 (a + 4) (ix x1) (nbo x5) → K s7))) : CallU (d + 1) mX3_put [.ref a, .int x1, .int x2, .int x3, .int x4, .int x5] σ K := Call_of_Go (by decide +kernel) (ls := [.ref a, .int x1, .int x2, .int x3, .int x4, .int x5]) rfl (Nat.le_of_ble_eq_true rfl) (sgX3_put_0 h_a h)
set_option maxHeartbeats 4000000 in
set_option maxRecDepth 100000 in
theorem sgX3_putAs_0 {d : Nat} {σ : St} {x1 : Int32} {x2 : Int32} {x3 : Int32} {K : St → Prop} {a : Nat} (h_a : isSc a) (h : CallI d mX3_strengthOf [.ref a, .int x1] σ (fun r2 s1 => CallI d mX3_movementOf [.ref a, .int x1] s1 (fun r4 s3 => CallI d mX3_isWall [.ref a, .int x1] s3 (fun r6 s5 => CallU d mX3_put [.ref a, .int x2, .int x3, .int r2, .int r4, .int r6] s5 (fun s7 => K s7))))) : Go mX3_putAs (d + 1) 0 [.ref a, .int x1, .int x2, .int x3] [] σ (QU K) := by
  refine Go.aload_n 0 dX3_putAs_0 rfl rfl (?_ : Go _ _ 1 _ _ _ _)
  refine Go.iload_n 2 dX3_putAs_1 rfl rfl (?_ : Go _ _ 2 _ _ _ _)
  refine Go.iload_n 3 dX3_putAs_2 rfl rfl (?_ : Go _ _ 3 _ _ _ _)
  refine Go.aload_n 0 dX3_putAs_3 rfl rfl (?_ : Go _ _ 4 _ _ _ _)
  refine Go.iload_n 1 dX3_putAs_4 rfl rfl (?_ : Go _ _ 5 _ _ _ _)
  refine Go.callV (as := [.int x1]) (st := [.int x3, .int x2, .ref a]) mk_X3_strengthOf wl_X3_68 (sc_0 h_a) rfl rfl (Nat.le_of_ble_eq_true rfl) dX3_putAs_5 h ?_
  rintro _ s1 ⟨r2, rfl, h⟩
  show Go _ _ 8 _ [.int r2, .int x3, .int x2, .ref a] _ _
  refine Go.aload_n 0 dX3_putAs_8 rfl rfl (?_ : Go _ _ 9 _ _ _ _)
  refine Go.iload_n 1 dX3_putAs_9 rfl rfl (?_ : Go _ _ 10 _ _ _ _)
  refine Go.callV (as := [.int x1]) (st := [.int r2, .int x3, .int x2, .ref a]) mk_X3_movementOf wl_X3_61 (sc_0 h_a) rfl rfl (Nat.le_of_ble_eq_true rfl) dX3_putAs_10 h ?_
  rintro _ s3 ⟨r4, rfl, h⟩
  show Go _ _ 13 _ [.int r4, .int r2, .int x3, .int x2, .ref a] _ _
  refine Go.aload_n 0 dX3_putAs_13 rfl rfl (?_ : Go _ _ 14 _ _ _ _)
  refine Go.iload_n 1 dX3_putAs_14 rfl rfl (?_ : Go _ _ 15 _ _ _ _)
  refine Go.callV (as := [.int x1]) (st := [.int r4, .int r2, .int x3, .int x2, .ref a]) mk_X3_isWall wl_X3_54 (sc_0 h_a) rfl rfl (Nat.le_of_ble_eq_true rfl) dX3_putAs_15 h ?_
  rintro _ s5 ⟨r6, rfl, h⟩
  show Go _ _ 18 _ [.int r6, .int r4, .int r2, .int x3, .int x2, .ref a] _ _
  refine Go.callV (as := [.int x2, .int x3, .int r2, .int r4, .int r6]) (st := []) mk_X3_put wl_X3_64 (sc_0 h_a) rfl rfl (Nat.le_of_ble_eq_true rfl) dX3_putAs_18 h ?_
  rintro _ s7 ⟨rfl, h⟩
  show Go _ _ 21 _ [] _ _
  exact Go.vret rfl dX3_putAs_21 ⟨rfl, h⟩
theorem cgX3_putAs {d : Nat} {σ : St} {x1 : Int32} {x2 : Int32} {x3 : Int32} {K : St → Prop} {a : Nat} (h_a : isSc a) (h : CallI d mX3_strengthOf [.ref a, .int x1] σ (fun r2 s1 => CallI d mX3_movementOf [.ref a, .int x1] s1 (fun r4 s3 => CallI d mX3_isWall [.ref a, .int x1] s3 (fun r6 s5 => CallU d mX3_put [.ref a, .int x2, .int x3, .int r2, .int r4, .int r6] s5 (fun s7 => K s7))))) : CallU (d + 1) mX3_putAs [.ref a, .int x1, .int x2, .int x3] σ K := Call_of_Go (by decide +kernel) (ls := [.ref a, .int x1, .int x2, .int x3]) rfl (Nat.le_of_ble_eq_true rfl) (sgX3_putAs_0 h_a h)
set_option maxHeartbeats 4000000 in
set_option maxRecDepth 100000 in
theorem sgX3_leave_0 {d : Nat} {σ : St} {x1 : Int32} {K : St → Prop} {a : Nat} (h_a : isSc a) (h : CallI d mX3_has [.ref a, .int x1] σ (fun r2 s1 => (¬ r2 = 0 → Go mX3_leave (d + 1) 13 [.ref a, .int x1, .int (x1 + 1)] [] s1 (QU K)) ∧ (r2 = 0 → K s1))) : Go mX3_leave (d + 1) 0 [.ref a, .int x1, .null] [] σ (QU K) := by
  refine Go.aload_n 0 dX3_leave_0 rfl rfl (?_ : Go _ _ 1 _ _ _ _)
  refine Go.iload_n 1 dX3_leave_1 rfl rfl (?_ : Go _ _ 2 _ _ _ _)
  refine Go.callV (as := [.int x1]) (st := []) mk_X3_has wl_X3_47 (sc_0 h_a) rfl rfl (Nat.le_of_ble_eq_true rfl) dX3_leave_2 h ?_
  rintro _ s1 ⟨r2, rfl, h⟩
  show Go _ _ 5 _ [.int r2] _ _
  refine Go.if_ne 9 dX3_leave_5 rfl ⟨fun c3 => ?_, fun c3 => (?_ : Go _ _ 8 _ _ _ _)⟩
  · have h := h.1 c3
    refine Go.iload_n 1 dX3_leave_9 rfl rfl (?_ : Go _ _ 10 _ _ _ _)
    refine Go.iconst dX3_leave_10 k_ic_1 (?_ : Go _ _ 11 _ _ _ _)
    refine Go.iadd dX3_leave_11 (?_ : Go _ _ 12 _ _ _ _)
    refine Go.istore_n 2 dX3_leave_12 rfl (by decide) rfl rfl (?_ : Go _ _ 13 [.ref a, .int x1, .int (x1 + 1)] _ _ _)
    exact h
  · have h := h.2 c3
    exact Go.vret rfl dX3_leave_8 ⟨rfl, h⟩
theorem cgX3_leave {d : Nat} {σ : St} {x1 : Int32} {K : St → Prop} {a : Nat} (h_a : isSc a) (h : CallI d mX3_has [.ref a, .int x1] σ (fun r2 s1 => (¬ r2 = 0 → Go mX3_leave (d + 1) 13 [.ref a, .int x1, .int (x1 + 1)] [] s1 (QU K)) ∧ (r2 = 0 → K s1))) : CallU (d + 1) mX3_leave [.ref a, .int x1] σ K := Call_of_Go (by decide +kernel) (ls := [.ref a, .int x1, .null]) rfl (Nat.le_of_ble_eq_true rfl) (sgX3_leave_0 h_a h)
set_option maxHeartbeats 4000000 in
set_option maxRecDepth 100000 in
theorem sgX3_leave_13 {d : Nat} {σ : St} {v1 : Int32} {v2 : Int32} {K : St → Prop} {a : Nat} (h_a : isSc a) (h : ((sF σ a 5) ≤ v2 → ∀ s2, s2 = setF σ a 5 ((sF σ a 5) - 1) → K s2) ∧ (¬ (sF σ a 5) ≤ v2 → CallI d mX3_distanceOf [.ref a, .int v2] σ (fun r4 s3 => CallU d mX3_putAs [.ref a, .int v2, .int (v2 - 1), .int r4] s3 (fun s5 => Go mX3_leave (d + 1) 13 [.ref a, .int v1, .int (v2 + 1)] [] s5 (QU K))))) : Go mX3_leave (d + 1) 13 [.ref a, .int v1, .int v2] [] σ (QU K) := by
  refine Go.iload_n 2 dX3_leave_13 rfl rfl (?_ : Go _ _ 14 _ _ _ _)
  refine Go.aload_n 0 dX3_leave_14 rfl rfl (?_ : Go _ _ 15 _ _ _ _)
  refine Go.getI fk_X3_28 (sc_0 h_a) (scr_5 h_a) dX3_leave_15 (?_ : Go _ _ 18 _ _ _ _)
  refine Go.icmp_ge 40 dX3_leave_18 rfl ⟨fun c1 => ?_, fun c1 => (?_ : Go _ _ 21 _ _ _ _)⟩
  · have h := h.1 c1
    refine Go.aload_n 0 dX3_leave_40 rfl rfl (?_ : Go _ _ 41 _ _ _ _)
    refine Go.dup dX3_leave_41 rfl (?_ : Go _ _ 42 _ _ _ _)
    refine Go.getI fk_X3_28 (sc_0 h_a) (scr_5 h_a) dX3_leave_42 (?_ : Go _ _ 45 _ _ _ _)
    refine Go.iconst dX3_leave_45 k_ic_1 (?_ : Go _ _ 46 _ _ _ _)
    refine Go.isub dX3_leave_46 (?_ : Go _ _ 47 _ _ _ _)
    refine Go.putI fp_X3_28 (sc_0 h_a) (scr_5 h_a) dX3_leave_47 (?_ : Go _ _ 50 _ _ _ _)
    generalize es2 : setF σ a 5 ((sF σ a 5) - 1) = s2
    have h := h s2 es2.symm
    exact Go.vret rfl dX3_leave_50 ⟨rfl, h⟩
  · have h := h.2 c1
    refine Go.aload_n 0 dX3_leave_21 rfl rfl (?_ : Go _ _ 22 _ _ _ _)
    refine Go.iload_n 2 dX3_leave_22 rfl rfl (?_ : Go _ _ 23 _ _ _ _)
    refine Go.iload_n 2 dX3_leave_23 rfl rfl (?_ : Go _ _ 24 _ _ _ _)
    refine Go.iconst dX3_leave_24 k_ic_1 (?_ : Go _ _ 25 _ _ _ _)
    refine Go.isub dX3_leave_25 (?_ : Go _ _ 26 _ _ _ _)
    refine Go.aload_n 0 dX3_leave_26 rfl rfl (?_ : Go _ _ 27 _ _ _ _)
    refine Go.iload_n 2 dX3_leave_27 rfl rfl (?_ : Go _ _ 28 _ _ _ _)
    refine Go.callV (as := [.int v2]) (st := [.int (v2 - 1), .int v2, .ref a]) mk_X3_distanceOf wl_X3_57 (sc_0 h_a) rfl rfl (Nat.le_of_ble_eq_true rfl) dX3_leave_28 h ?_
    rintro _ s3 ⟨r4, rfl, h⟩
    show Go _ _ 31 _ [.int r4, .int (v2 - 1), .int v2, .ref a] _ _
    refine Go.callV (as := [.int v2, .int (v2 - 1), .int r4]) (st := []) mk_X3_putAs wl_X3_71 (sc_0 h_a) rfl rfl (Nat.le_of_ble_eq_true rfl) dX3_leave_31 h ?_
    rintro _ s5 ⟨rfl, h⟩
    show Go _ _ 34 _ [] _ _
    refine Go.iinc dX3_leave_34 rfl (congrArg (fun z => v2 + z) k_ic_1) (by decide) rfl rfl (?_ : Go _ _ 37 [.ref a, .int v1, .int (v2 + 1)] _ _ _)
    refine Go.goto 13 dX3_leave_37 rfl ?_
    exact h
set_option maxHeartbeats 4000000 in
set_option maxRecDepth 100000 in
theorem sgX3_moveAll_0 {d : Nat} {σ : St} {K : St → Prop} {a : Nat} (h_a : isSc a) (h : Go mX3_moveAll (d + 1) 4 [.ref a, .int 0, .int 0, .null] [] σ (QU K)) : Go mX3_moveAll (d + 1) 0 [.ref a, .null, .null, .null] [] σ (QU K) := by
  refine Go.iconst dX3_moveAll_0 k_ic_0 (?_ : Go _ _ 1 _ _ _ _)
  refine Go.istore_n 1 dX3_moveAll_1 rfl (by decide) rfl rfl (?_ : Go _ _ 2 [.ref a, .int 0, .null, .null] _ _ _)
  refine Go.iconst dX3_moveAll_2 k_ic_0 (?_ : Go _ _ 3 _ _ _ _)
  refine Go.istore_n 2 dX3_moveAll_3 rfl (by decide) rfl rfl (?_ : Go _ _ 4 [.ref a, .int 0, .int 0, .null] _ _ _)
  exact h
theorem cgX3_moveAll {d : Nat} {σ : St} {K : St → Prop} {a : Nat} (h_a : isSc a) (h : Go mX3_moveAll (d + 1) 4 [.ref a, .int 0, .int 0, .null] [] σ (QU K)) : CallU (d + 1) mX3_moveAll [.ref a] σ K := Call_of_Go (by decide +kernel) (ls := [.ref a, .null, .null, .null]) rfl (Nat.le_of_ble_eq_true rfl) (sgX3_moveAll_0 h_a h)
set_option maxHeartbeats 4000000 in
set_option maxRecDepth 100000 in
theorem sgX3_moveAll_4 {d : Nat} {σ : St} {v1 : Int32} {v2 : Int32} {K : St → Prop} {a : Nat} (h_a : isSc a) (h : ((sF σ a 5) ≤ v2 → ∀ s2, s2 = setF σ a 5 v1 → K s2) ∧ (¬ (sF σ a 5) ≤ v2 → CallI d mX3_distanceOf [.ref a, .int v2] σ (fun r4 s3 => CallI d mX3_movementOf [.ref a, .int v2] s3 (fun r6 s5 => CallI d mX5_isWithin [.int (r4 + (r6 * (sF s5 a 6))), .int 1, .int 300] s5 (fun r8 s7 => (r8 = 0 → Go mX3_moveAll (d + 1) 4 [.ref a, .int v1, .int (v2 + 1), .null] [] s7 (QU K)) ∧ (¬ r8 = 0 → CallU d mX3_putAs [.ref a, .int v2, .int v1, .int (r4 + (r6 * (sF s5 a 6)))] s7 (fun s10 => Go mX3_moveAll (d + 1) 4 [.ref a, .int (v1 + 1), .int (v2 + 1), .null] [] s10 (QU K)))))))) : Go mX3_moveAll (d + 1) 4 [.ref a, .int v1, .int v2, .null] [] σ (QU K) := by
  refine Go.iload_n 2 dX3_moveAll_4 rfl rfl (?_ : Go _ _ 5 _ _ _ _)
  refine Go.aload_n 0 dX3_moveAll_5 rfl rfl (?_ : Go _ _ 6 _ _ _ _)
  refine Go.getI fk_X3_28 (sc_0 h_a) (scr_5 h_a) dX3_moveAll_6 (?_ : Go _ _ 9 _ _ _ _)
  refine Go.icmp_ge 56 dX3_moveAll_9 rfl ⟨fun c1 => ?_, fun c1 => (?_ : Go _ _ 12 _ _ _ _)⟩
  · have h := h.1 c1
    refine Go.aload_n 0 dX3_moveAll_56 rfl rfl (?_ : Go _ _ 57 _ _ _ _)
    refine Go.iload_n 1 dX3_moveAll_57 rfl rfl (?_ : Go _ _ 58 _ _ _ _)
    refine Go.putI fp_X3_28 (sc_0 h_a) (scr_5 h_a) dX3_moveAll_58 (?_ : Go _ _ 61 _ _ _ _)
    generalize es2 : setF σ a 5 v1 = s2
    have h := h s2 es2.symm
    exact Go.vret rfl dX3_moveAll_61 ⟨rfl, h⟩
  · have h := h.2 c1
    refine Go.aload_n 0 dX3_moveAll_12 rfl rfl (?_ : Go _ _ 13 _ _ _ _)
    refine Go.iload_n 2 dX3_moveAll_13 rfl rfl (?_ : Go _ _ 14 _ _ _ _)
    refine Go.callV (as := [.int v2]) (st := []) mk_X3_distanceOf wl_X3_57 (sc_0 h_a) rfl rfl (Nat.le_of_ble_eq_true rfl) dX3_moveAll_14 h ?_
    rintro _ s3 ⟨r4, rfl, h⟩
    show Go _ _ 17 _ [.int r4] _ _
    refine Go.aload_n 0 dX3_moveAll_17 rfl rfl (?_ : Go _ _ 18 _ _ _ _)
    refine Go.iload_n 2 dX3_moveAll_18 rfl rfl (?_ : Go _ _ 19 _ _ _ _)
    refine Go.callV (as := [.int v2]) (st := [.int r4]) mk_X3_movementOf wl_X3_61 (sc_0 h_a) rfl rfl (Nat.le_of_ble_eq_true rfl) dX3_moveAll_19 h ?_
    rintro _ s5 ⟨r6, rfl, h⟩
    show Go _ _ 22 _ [.int r6, .int r4] _ _
    refine Go.aload_n 0 dX3_moveAll_22 rfl rfl (?_ : Go _ _ 23 _ _ _ _)
    refine Go.getI fk_X3_32 (sc_0 h_a) (scr_6 h_a) dX3_moveAll_23 (?_ : Go _ _ 26 _ _ _ _)
    refine Go.imul dX3_moveAll_26 (?_ : Go _ _ 27 _ _ _ _)
    refine Go.iadd dX3_moveAll_27 (?_ : Go _ _ 28 _ _ _ _)
    refine Go.istore_n 3 dX3_moveAll_28 rfl (by decide) rfl rfl (?_ : Go _ _ 29 [.ref a, .int v1, .int v2, .int (r4 + (r6 * (sF s5 a 6)))] _ _ _)
    refine Go.iload_n 3 dX3_moveAll_29 rfl rfl (?_ : Go _ _ 30 _ _ _ _)
    refine Go.iconst dX3_moveAll_30 k_ic_1 (?_ : Go _ _ 31 _ _ _ _)
    refine Go.sipush dX3_moveAll_31 k_si_300 (?_ : Go _ _ 34 _ _ _ _)
    refine Go.callSN (as := [.int (r4 + (r6 * (sF s5 a 6))), .int 1, .int 300]) (st := []) mk_X5_isWithin wn_X3_75 rfl rfl (Nat.le_of_ble_eq_true rfl) dX3_moveAll_34 h ?_
    rintro _ s7 ⟨r8, rfl, h⟩
    show Go _ _ 37 _ [.int r8] _ _
    refine Go.if_eq 50 dX3_moveAll_37 rfl ⟨fun c9 => ?_, fun c9 => (?_ : Go _ _ 40 _ _ _ _)⟩
    · have h := h.1 c9
      refine Go.iinc dX3_moveAll_50 rfl (congrArg (fun z => v2 + z) k_ic_1) (by decide) rfl rfl (?_ : Go _ _ 53 [.ref a, .int v1, .int (v2 + 1), .int (r4 + (r6 * (sF s5 a 6)))] _ _ _)
      refine Go.goto 4 dX3_moveAll_53 rfl ?_
      refine Go.drop (ls' := [.ref a, .int v1, .int (v2 + 1), .null]) 3 rfl ?_
      exact h
    · have h := h.2 c9
      refine Go.aload_n 0 dX3_moveAll_40 rfl rfl (?_ : Go _ _ 41 _ _ _ _)
      refine Go.iload_n 2 dX3_moveAll_41 rfl rfl (?_ : Go _ _ 42 _ _ _ _)
      refine Go.iload_n 1 dX3_moveAll_42 rfl rfl (?_ : Go _ _ 43 _ _ _ _)
      refine Go.iload_n 3 dX3_moveAll_43 rfl rfl (?_ : Go _ _ 44 _ _ _ _)
      refine Go.callV (as := [.int v2, .int v1, .int (r4 + (r6 * (sF s5 a 6)))]) (st := []) mk_X3_putAs wl_X3_71 (sc_0 h_a) rfl rfl (Nat.le_of_ble_eq_true rfl) dX3_moveAll_44 h ?_
      rintro _ s10 ⟨rfl, h⟩
      show Go _ _ 47 _ [] _ _
      refine Go.iinc dX3_moveAll_47 rfl (congrArg (fun z => v1 + z) k_ic_1) (by decide) rfl rfl (?_ : Go _ _ 50 [.ref a, .int (v1 + 1), .int v2, .int (r4 + (r6 * (sF s5 a 6)))] _ _ _)
      refine Go.iinc dX3_moveAll_50 rfl (congrArg (fun z => v2 + z) k_ic_1) (by decide) rfl rfl (?_ : Go _ _ 53 [.ref a, .int (v1 + 1), .int (v2 + 1), .int (r4 + (r6 * (sF s5 a 6)))] _ _ _)
      refine Go.goto 4 dX3_moveAll_53 rfl ?_
      refine Go.drop (ls' := [.ref a, .int (v1 + 1), .int (v2 + 1), .null]) 3 rfl ?_
      exact h
set_option maxHeartbeats 4000000 in
set_option maxRecDepth 100000 in
theorem sgX3_forgetTurns_0 {d : Nat} {σ : St} {K : St → Prop} {a : Nat} (h_a : isSc a) (h : ∀ s1, s1 = setF σ a 6 0 → K s1) : Go mX3_forgetTurns (d + 1) 0 [.ref a] [] σ (QU K) := by
  refine Go.aload_n 0 dX3_forgetTurns_0 rfl rfl (?_ : Go _ _ 1 _ _ _ _)
  refine Go.iconst dX3_forgetTurns_1 k_ic_0 (?_ : Go _ _ 2 _ _ _ _)
  refine Go.putI fp_X3_32 (sc_0 h_a) (scr_6 h_a) dX3_forgetTurns_2 (?_ : Go _ _ 5 _ _ _ _)
  generalize es1 : setF σ a 6 0 = s1
  have h := h s1 es1.symm
  exact Go.vret rfl dX3_forgetTurns_5 ⟨rfl, h⟩
theorem cgX3_forgetTurns {d : Nat} {σ : St} {K : St → Prop} {a : Nat} (h_a : isSc a) (h : ∀ s1, s1 = setF σ a 6 0 → K s1) : CallU (d + 1) mX3_forgetTurns [.ref a] σ K := Call_of_Go (by decide +kernel) (ls := [.ref a]) rfl (Nat.le_of_ble_eq_true rfl) (sgX3_forgetTurns_0 h_a h)
set_option maxHeartbeats 4000000 in
set_option maxRecDepth 100000 in
theorem sgX3_addTurn_0 {d : Nat} {σ : St} {x1 : Int32} {K : St → Prop} {a : Nat} (h_a : isSc a) (h : (x1 ≤ 0 → K σ) ∧ (¬ x1 ≤ 0 → ((sF σ a 6) < 0 → K σ) ∧ (¬ (sF σ a 6) < 0 → (4 ≤ (sF σ a 6) → K σ) ∧ (¬ 4 ≤ (sF σ a 6) → vp_in (sF σ a 6) 4 ∧ ∀ s4, s4 = setA σ (a + 5) (ix (sF σ a 6)) x1 → ∀ s5, s5 = setF s4 a 6 ((sF s4 a 6) + 1) → K s5)))) : Go mX3_addTurn (d + 1) 0 [.ref a, .int x1] [] σ (QU K) := by
  refine Go.iload_n 1 dX3_addTurn_0 rfl rfl (?_ : Go _ _ 1 _ _ _ _)
  refine Go.if_le 39 dX3_addTurn_1 rfl ⟨fun c1 => ?_, fun c1 => (?_ : Go _ _ 4 _ _ _ _)⟩
  · have h := h.1 c1
    exact Go.vret rfl dX3_addTurn_39 ⟨rfl, h⟩
  · have h := h.2 c1
    refine Go.aload_n 0 dX3_addTurn_4 rfl rfl (?_ : Go _ _ 5 _ _ _ _)
    refine Go.getI fk_X3_32 (sc_0 h_a) (scr_6 h_a) dX3_addTurn_5 (?_ : Go _ _ 8 _ _ _ _)
    refine Go.if_lt 39 dX3_addTurn_8 rfl ⟨fun c2 => ?_, fun c2 => (?_ : Go _ _ 11 _ _ _ _)⟩
    · have h := h.1 c2
      exact Go.vret rfl dX3_addTurn_39 ⟨rfl, h⟩
    · have h := h.2 c2
      refine Go.aload_n 0 dX3_addTurn_11 rfl rfl (?_ : Go _ _ 12 _ _ _ _)
      refine Go.getI fk_X3_32 (sc_0 h_a) (scr_6 h_a) dX3_addTurn_12 (?_ : Go _ _ 15 _ _ _ _)
      refine Go.iconst dX3_addTurn_15 k_ic_4 (?_ : Go _ _ 16 _ _ _ _)
      refine Go.icmp_ge 39 dX3_addTurn_16 rfl ⟨fun c3 => ?_, fun c3 => (?_ : Go _ _ 19 _ _ _ _)⟩
      · have h := h.1 c3
        exact Go.vret rfl dX3_addTurn_39 ⟨rfl, h⟩
      · have h := h.2 c3
        refine Go.aload_n 0 dX3_addTurn_19 rfl rfl (?_ : Go _ _ 20 _ _ _ _)
        refine Go.getR fk_X3_25 (sc_0 h_a) (scr_4 h_a) dX3_addTurn_20 (?_ : Go _ _ 23 _ _ _ _)
        refine Go.aload_n 0 dX3_addTurn_23 rfl rfl (?_ : Go _ _ 24 _ _ _ _)
        refine Go.getI fk_X3_32 (sc_0 h_a) (scr_6 h_a) dX3_addTurn_24 (?_ : Go _ _ 27 _ _ _ _)
        refine Go.iload_n 1 dX3_addTurn_27 rfl rfl (?_ : Go _ _ 28 _ _ _ _)
        refine Go.iast (sc_5 h_a) dX3_addTurn_28 ⟨h.1, (?_ : Go _ _ 29 _ _ _ _)⟩
        generalize es4 : setA σ (a + 5) (ix (sF σ a 6)) x1 = s4
        have h := h.2 s4 es4.symm
        refine Go.aload_n 0 dX3_addTurn_29 rfl rfl (?_ : Go _ _ 30 _ _ _ _)
        refine Go.dup dX3_addTurn_30 rfl (?_ : Go _ _ 31 _ _ _ _)
        refine Go.getI fk_X3_32 (sc_0 h_a) (scr_6 h_a) dX3_addTurn_31 (?_ : Go _ _ 34 _ _ _ _)
        refine Go.iconst dX3_addTurn_34 k_ic_1 (?_ : Go _ _ 35 _ _ _ _)
        refine Go.iadd dX3_addTurn_35 (?_ : Go _ _ 36 _ _ _ _)
        refine Go.putI fp_X3_32 (sc_0 h_a) (scr_6 h_a) dX3_addTurn_36 (?_ : Go _ _ 39 _ _ _ _)
        generalize es5 : setF s4 a 6 ((sF s4 a 6) + 1) = s5
        have h := h s5 es5.symm
        exact Go.vret rfl dX3_addTurn_39 ⟨rfl, h⟩
theorem cgX3_addTurn {d : Nat} {σ : St} {x1 : Int32} {K : St → Prop} {a : Nat} (h_a : isSc a) (h : (x1 ≤ 0 → K σ) ∧ (¬ x1 ≤ 0 → ((sF σ a 6) < 0 → K σ) ∧ (¬ (sF σ a 6) < 0 → (4 ≤ (sF σ a 6) → K σ) ∧ (¬ 4 ≤ (sF σ a 6) → vp_in (sF σ a 6) 4 ∧ ∀ s4, s4 = setA σ (a + 5) (ix (sF σ a 6)) x1 → ∀ s5, s5 = setF s4 a 6 ((sF s4 a 6) + 1) → K s5)))) : CallU (d + 1) mX3_addTurn [.ref a, .int x1] σ K := Call_of_Go (by decide +kernel) (ls := [.ref a, .int x1]) rfl (Nat.le_of_ble_eq_true rfl) (sgX3_addTurn_0 h_a h)
set_option maxHeartbeats 4000000 in
set_option maxRecDepth 100000 in
theorem sgX3_changeBlind_0 {d : Nat} {σ : St} {x1 : Int32} {K : Int32 → St → Prop} {a : Nat} (h_a : isSc a) (h : ∀ s1, s1 = setF σ a 7 x1 → K (sF σ a 7) s1) : Go mX3_changeBlind (d + 1) 0 [.ref a, .int x1, .null] [] σ (QI K) := by
  refine Go.aload_n 0 dX3_changeBlind_0 rfl rfl (?_ : Go _ _ 1 _ _ _ _)
  refine Go.getI fk_X3_35 (sc_0 h_a) (scr_7 h_a) dX3_changeBlind_1 (?_ : Go _ _ 4 _ _ _ _)
  refine Go.istore_n 2 dX3_changeBlind_4 rfl (by decide) rfl rfl (?_ : Go _ _ 5 [.ref a, .int x1, .int (sF σ a 7)] _ _ _)
  refine Go.aload_n 0 dX3_changeBlind_5 rfl rfl (?_ : Go _ _ 6 _ _ _ _)
  refine Go.iload_n 1 dX3_changeBlind_6 rfl rfl (?_ : Go _ _ 7 _ _ _ _)
  refine Go.putI fp_X3_35 (sc_0 h_a) (scr_7 h_a) dX3_changeBlind_7 (?_ : Go _ _ 10 _ _ _ _)
  generalize es1 : setF σ a 7 x1 = s1
  have h := h s1 es1.symm
  refine Go.iload_n 2 dX3_changeBlind_10 rfl rfl (?_ : Go _ _ 11 _ _ _ _)
  exact Go.iret rfl dX3_changeBlind_11 ⟨_, rfl, h⟩
theorem cgX3_changeBlind {d : Nat} {σ : St} {x1 : Int32} {K : Int32 → St → Prop} {a : Nat} (h_a : isSc a) (h : ∀ s1, s1 = setF σ a 7 x1 → K (sF σ a 7) s1) : CallI (d + 1) mX3_changeBlind [.ref a, .int x1] σ K := Call_of_Go (by decide +kernel) (ls := [.ref a, .int x1, .null]) rfl (Nat.le_of_ble_eq_true rfl) (sgX3_changeBlind_0 h_a h)
set_option maxHeartbeats 4000000 in
set_option maxRecDepth 100000 in
theorem sgX3_changeLoud_0 {d : Nat} {σ : St} {x1 : Int32} {K : Int32 → St → Prop} {a : Nat} (h_a : isSc a) (h : ∀ s1, s1 = setF σ a 8 x1 → K (sF σ a 8) s1) : Go mX3_changeLoud (d + 1) 0 [.ref a, .int x1, .null] [] σ (QI K) := by
  refine Go.aload_n 0 dX3_changeLoud_0 rfl rfl (?_ : Go _ _ 1 _ _ _ _)
  refine Go.getI fk_X3_38 (sc_0 h_a) (scr_8 h_a) dX3_changeLoud_1 (?_ : Go _ _ 4 _ _ _ _)
  refine Go.istore_n 2 dX3_changeLoud_4 rfl (by decide) rfl rfl (?_ : Go _ _ 5 [.ref a, .int x1, .int (sF σ a 8)] _ _ _)
  refine Go.aload_n 0 dX3_changeLoud_5 rfl rfl (?_ : Go _ _ 6 _ _ _ _)
  refine Go.iload_n 1 dX3_changeLoud_6 rfl rfl (?_ : Go _ _ 7 _ _ _ _)
  refine Go.putI fp_X3_38 (sc_0 h_a) (scr_8 h_a) dX3_changeLoud_7 (?_ : Go _ _ 10 _ _ _ _)
  generalize es1 : setF σ a 8 x1 = s1
  have h := h s1 es1.symm
  refine Go.iload_n 2 dX3_changeLoud_10 rfl rfl (?_ : Go _ _ 11 _ _ _ _)
  exact Go.iret rfl dX3_changeLoud_11 ⟨_, rfl, h⟩
theorem cgX3_changeLoud {d : Nat} {σ : St} {x1 : Int32} {K : Int32 → St → Prop} {a : Nat} (h_a : isSc a) (h : ∀ s1, s1 = setF σ a 8 x1 → K (sF σ a 8) s1) : CallI (d + 1) mX3_changeLoud [.ref a, .int x1] σ K := Call_of_Go (by decide +kernel) (ls := [.ref a, .int x1, .null]) rfl (Nat.le_of_ble_eq_true rfl) (sgX3_changeLoud_0 h_a h)
end
section
theorem dL_low_0 : decode cL_low 0 = .ok (.iload_n 0, 1) := by decide +kernel
theorem dL_low_1 : decode cL_low 1 = .ok (.ldc 9, 2) := by decide +kernel
theorem dL_low_3 : decode cL_low 3 = .ok (.iand, 1) := by decide +kernel
theorem dL_low_4 : decode cL_low 4 = .ok (.iload_n 1, 1) := by decide +kernel
theorem dL_low_5 : decode cL_low 5 = .ok (.irem, 1) := by decide +kernel
theorem dL_low_6 : decode cL_low 6 = .ok (.ireturn, 1) := by decide +kernel
theorem dL_bodies_0 : decode cL_bodies 0 = .ok (.iconst 0, 1) := by decide +kernel
theorem dL_bodies_1 : decode cL_bodies 1 = .ok (.istore_n 3, 1) := by decide +kernel
theorem dL_bodies_2 : decode cL_bodies 2 = .ok (.iconst 0, 1) := by decide +kernel
theorem dL_bodies_3 : decode cL_bodies 3 = .ok (.istore 4, 2) := by decide +kernel
theorem dL_bodies_5 : decode cL_bodies 5 = .ok (.iload 4, 2) := by decide +kernel
theorem dL_bodies_7 : decode cL_bodies 7 = .ok (.aload_n 2, 1) := by decide +kernel
theorem dL_bodies_8 : decode cL_bodies 8 = .ok (.bipush 6, 2) := by decide +kernel
theorem dL_bodies_10 : decode cL_bodies 10 = .ok (.iaload, 1) := by decide +kernel
theorem dL_bodies_11 : decode cL_bodies 11 = .ok (.if_icmp .ge 53, 3) := by decide +kernel
theorem dL_bodies_14 : decode cL_bodies 14 = .ok (.aload_n 1, 1) := by decide +kernel
theorem dL_bodies_15 : decode cL_bodies 15 = .ok (.iconst 3, 1) := by decide +kernel
theorem dL_bodies_16 : decode cL_bodies 16 = .ok (.iload_n 3, 1) := by decide +kernel
theorem dL_bodies_17 : decode cL_bodies 17 = .ok (.imul, 1) := by decide +kernel
theorem dL_bodies_18 : decode cL_bodies 18 = .ok (.aload_n 0, 1) := by decide +kernel
theorem dL_bodies_19 : decode cL_bodies 19 = .ok (.iconst 4, 1) := by decide +kernel
theorem dL_bodies_20 : decode cL_bodies 20 = .ok (.iload 4, 2) := by decide +kernel
theorem dL_bodies_22 : decode cL_bodies 22 = .ok (.imul, 1) := by decide +kernel
theorem dL_bodies_23 : decode cL_bodies 23 = .ok (.iaload, 1) := by decide +kernel
theorem dL_bodies_24 : decode cL_bodies 24 = .ok (.iastore, 1) := by decide +kernel
theorem dL_bodies_25 : decode cL_bodies 25 = .ok (.aload_n 1, 1) := by decide +kernel
theorem dL_bodies_26 : decode cL_bodies 26 = .ok (.iconst 3, 1) := by decide +kernel
theorem dL_bodies_27 : decode cL_bodies 27 = .ok (.iload_n 3, 1) := by decide +kernel
theorem dL_bodies_28 : decode cL_bodies 28 = .ok (.imul, 1) := by decide +kernel
theorem dL_bodies_29 : decode cL_bodies 29 = .ok (.iconst 1, 1) := by decide +kernel
theorem dL_bodies_30 : decode cL_bodies 30 = .ok (.iadd, 1) := by decide +kernel
theorem dL_bodies_31 : decode cL_bodies 31 = .ok (.aload_n 0, 1) := by decide +kernel
theorem dL_bodies_32 : decode cL_bodies 32 = .ok (.iconst 4, 1) := by decide +kernel
theorem dL_bodies_33 : decode cL_bodies 33 = .ok (.iload 4, 2) := by decide +kernel
theorem dL_bodies_35 : decode cL_bodies 35 = .ok (.imul, 1) := by decide +kernel
theorem dL_bodies_36 : decode cL_bodies 36 = .ok (.iconst 1, 1) := by decide +kernel
theorem dL_bodies_37 : decode cL_bodies 37 = .ok (.iadd, 1) := by decide +kernel
theorem dL_bodies_38 : decode cL_bodies 38 = .ok (.iaload, 1) := by decide +kernel
theorem dL_bodies_39 : decode cL_bodies 39 = .ok (.iastore, 1) := by decide +kernel
theorem dL_bodies_40 : decode cL_bodies 40 = .ok (.aload_n 1, 1) := by decide +kernel
theorem dL_bodies_41 : decode cL_bodies 41 = .ok (.iconst 3, 1) := by decide +kernel
theorem dL_bodies_42 : decode cL_bodies 42 = .ok (.iload_n 3, 1) := by decide +kernel
theorem dL_bodies_43 : decode cL_bodies 43 = .ok (.imul, 1) := by decide +kernel
theorem dL_bodies_44 : decode cL_bodies 44 = .ok (.iconst 2, 1) := by decide +kernel
theorem dL_bodies_45 : decode cL_bodies 45 = .ok (.iadd, 1) := by decide +kernel
theorem dL_bodies_46 : decode cL_bodies 46 = .ok (.aload_n 0, 1) := by decide +kernel
theorem dL_bodies_47 : decode cL_bodies 47 = .ok (.iconst 4, 1) := by decide +kernel
theorem dL_bodies_48 : decode cL_bodies 48 = .ok (.iload 4, 2) := by decide +kernel
theorem dL_bodies_50 : decode cL_bodies 50 = .ok (.imul, 1) := by decide +kernel
theorem dL_bodies_51 : decode cL_bodies 51 = .ok (.iconst 2, 1) := by decide +kernel
theorem dL_bodies_52 : decode cL_bodies 52 = .ok (.iadd, 1) := by decide +kernel
theorem dL_bodies_53 : decode cL_bodies 53 = .ok (.iaload, 1) := by decide +kernel
theorem dL_bodies_54 : decode cL_bodies 54 = .ok (.iastore, 1) := by decide +kernel
theorem dL_bodies_55 : decode cL_bodies 55 = .ok (.iinc 3 1, 3) := by decide +kernel
theorem dL_bodies_58 : decode cL_bodies 58 = .ok (.iinc 4 1, 3) := by decide +kernel
theorem dL_bodies_61 : decode cL_bodies 61 = .ok (.goto (-56), 3) := by decide +kernel
theorem dL_bodies_64 : decode cL_bodies 64 = .ok (.iconst 0, 1) := by decide +kernel
theorem dL_bodies_65 : decode cL_bodies 65 = .ok (.istore 4, 2) := by decide +kernel
theorem dL_bodies_67 : decode cL_bodies 67 = .ok (.iload 4, 2) := by decide +kernel
theorem dL_bodies_69 : decode cL_bodies 69 = .ok (.bipush 36, 2) := by decide +kernel
theorem dL_bodies_71 : decode cL_bodies 71 = .ok (.if_icmp .ge 169, 3) := by decide +kernel
theorem dL_bodies_74 : decode cL_bodies 74 = .ok (.iload 4, 2) := by decide +kernel
theorem dL_bodies_76 : decode cL_bodies 76 = .ok (.bipush 6, 2) := by decide +kernel
theorem dL_bodies_78 : decode cL_bodies 78 = .ok (.idiv, 1) := by decide +kernel
theorem dL_bodies_79 : decode cL_bodies 79 = .ok (.istore 5, 2) := by decide +kernel
theorem dL_bodies_81 : decode cL_bodies 81 = .ok (.iload 4, 2) := by decide +kernel
theorem dL_bodies_83 : decode cL_bodies 83 = .ok (.bipush 6, 2) := by decide +kernel
theorem dL_bodies_85 : decode cL_bodies 85 = .ok (.irem, 1) := by decide +kernel
theorem dL_bodies_86 : decode cL_bodies 86 = .ok (.istore 6, 2) := by decide +kernel
theorem dL_bodies_88 : decode cL_bodies 88 = .ok (.iload 5, 2) := by decide +kernel
theorem dL_bodies_90 : decode cL_bodies 90 = .ok (.iload 6, 2) := by decide +kernel
theorem dL_bodies_92 : decode cL_bodies 92 = .ok (.if_icmp .ge 142, 3) := by decide +kernel
theorem dL_bodies_95 : decode cL_bodies 95 = .ok (.iload 6, 2) := by decide +kernel
theorem dL_bodies_97 : decode cL_bodies 97 = .ok (.aload_n 2, 1) := by decide +kernel
theorem dL_bodies_98 : decode cL_bodies 98 = .ok (.bipush 6, 2) := by decide +kernel
theorem dL_bodies_100 : decode cL_bodies 100 = .ok (.iaload, 1) := by decide +kernel
theorem dL_bodies_101 : decode cL_bodies 101 = .ok (.if_icmp .ge 133, 3) := by decide +kernel
theorem dL_bodies_104 : decode cL_bodies 104 = .ok (.aload_n 0, 1) := by decide +kernel
theorem dL_bodies_105 : decode cL_bodies 105 = .ok (.iconst 4, 1) := by decide +kernel
theorem dL_bodies_106 : decode cL_bodies 106 = .ok (.iload 5, 2) := by decide +kernel
theorem dL_bodies_108 : decode cL_bodies 108 = .ok (.imul, 1) := by decide +kernel
theorem dL_bodies_109 : decode cL_bodies 109 = .ok (.iconst 3, 1) := by decide +kernel
theorem dL_bodies_110 : decode cL_bodies 110 = .ok (.iadd, 1) := by decide +kernel
theorem dL_bodies_111 : decode cL_bodies 111 = .ok (.iaload, 1) := by decide +kernel
theorem dL_bodies_112 : decode cL_bodies 112 = .ok (.aload_n 0, 1) := by decide +kernel
theorem dL_bodies_113 : decode cL_bodies 113 = .ok (.iconst 4, 1) := by decide +kernel
theorem dL_bodies_114 : decode cL_bodies 114 = .ok (.iload 6, 2) := by decide +kernel
theorem dL_bodies_116 : decode cL_bodies 116 = .ok (.imul, 1) := by decide +kernel
theorem dL_bodies_117 : decode cL_bodies 117 = .ok (.iconst 3, 1) := by decide +kernel
theorem dL_bodies_118 : decode cL_bodies 118 = .ok (.iadd, 1) := by decide +kernel
theorem dL_bodies_119 : decode cL_bodies 119 = .ok (.iaload, 1) := by decide +kernel
theorem dL_bodies_120 : decode cL_bodies 120 = .ok (.iadd, 1) := by decide +kernel
theorem dL_bodies_121 : decode cL_bodies 121 = .ok (.iconst 2, 1) := by decide +kernel
theorem dL_bodies_122 : decode cL_bodies 122 = .ok (.if_icmp .ne 112, 3) := by decide +kernel
theorem dL_bodies_125 : decode cL_bodies 125 = .ok (.aload_n 0, 1) := by decide +kernel
theorem dL_bodies_126 : decode cL_bodies 126 = .ok (.iconst 4, 1) := by decide +kernel
theorem dL_bodies_127 : decode cL_bodies 127 = .ok (.iload 5, 2) := by decide +kernel
theorem dL_bodies_129 : decode cL_bodies 129 = .ok (.imul, 1) := by decide +kernel
theorem dL_bodies_130 : decode cL_bodies 130 = .ok (.iconst 1, 1) := by decide +kernel
theorem dL_bodies_131 : decode cL_bodies 131 = .ok (.iadd, 1) := by decide +kernel
theorem dL_bodies_132 : decode cL_bodies 132 = .ok (.iaload, 1) := by decide +kernel
theorem dL_bodies_133 : decode cL_bodies 133 = .ok (.aload_n 0, 1) := by decide +kernel
theorem dL_bodies_134 : decode cL_bodies 134 = .ok (.iconst 4, 1) := by decide +kernel
theorem dL_bodies_135 : decode cL_bodies 135 = .ok (.iload 6, 2) := by decide +kernel
theorem dL_bodies_137 : decode cL_bodies 137 = .ok (.imul, 1) := by decide +kernel
theorem dL_bodies_138 : decode cL_bodies 138 = .ok (.iconst 1, 1) := by decide +kernel
theorem dL_bodies_139 : decode cL_bodies 139 = .ok (.iadd, 1) := by decide +kernel
theorem dL_bodies_140 : decode cL_bodies 140 = .ok (.iaload, 1) := by decide +kernel
theorem dL_bodies_141 : decode cL_bodies 141 = .ok (.imul, 1) := by decide +kernel
theorem dL_bodies_142 : decode cL_bodies 142 = .ok (.sipush 200, 3) := by decide +kernel
theorem dL_bodies_145 : decode cL_bodies 145 = .ok (.if_icmp .lt 89, 3) := by decide +kernel
theorem dL_bodies_148 : decode cL_bodies 148 = .ok (.aload_n 0, 1) := by decide +kernel
theorem dL_bodies_149 : decode cL_bodies 149 = .ok (.iconst 4, 1) := by decide +kernel
theorem dL_bodies_150 : decode cL_bodies 150 = .ok (.iload 5, 2) := by decide +kernel
theorem dL_bodies_152 : decode cL_bodies 152 = .ok (.imul, 1) := by decide +kernel
theorem dL_bodies_153 : decode cL_bodies 153 = .ok (.iaload, 1) := by decide +kernel
theorem dL_bodies_154 : decode cL_bodies 154 = .ok (.istore 7, 2) := by decide +kernel
theorem dL_bodies_156 : decode cL_bodies 156 = .ok (.aload_n 0, 1) := by decide +kernel
theorem dL_bodies_157 : decode cL_bodies 157 = .ok (.iconst 4, 1) := by decide +kernel
theorem dL_bodies_158 : decode cL_bodies 158 = .ok (.iload 6, 2) := by decide +kernel
theorem dL_bodies_160 : decode cL_bodies 160 = .ok (.imul, 1) := by decide +kernel
theorem dL_bodies_161 : decode cL_bodies 161 = .ok (.iaload, 1) := by decide +kernel
theorem dL_bodies_162 : decode cL_bodies 162 = .ok (.istore 8, 2) := by decide +kernel
theorem dL_bodies_164 : decode cL_bodies 164 = .ok (.aload_n 1, 1) := by decide +kernel
theorem dL_bodies_165 : decode cL_bodies 165 = .ok (.iconst 3, 1) := by decide +kernel
theorem dL_bodies_166 : decode cL_bodies 166 = .ok (.iload_n 3, 1) := by decide +kernel
theorem dL_bodies_167 : decode cL_bodies 167 = .ok (.imul, 1) := by decide +kernel
theorem dL_bodies_168 : decode cL_bodies 168 = .ok (.iload 7, 2) := by decide +kernel
theorem dL_bodies_170 : decode cL_bodies 170 = .ok (.iload 8, 2) := by decide +kernel
theorem dL_bodies_172 : decode cL_bodies 172 = .ok (.if_icmp .ge 14, 3) := by decide +kernel
theorem dL_bodies_175 : decode cL_bodies 175 = .ok (.iload 8, 2) := by decide +kernel
theorem dL_bodies_177 : decode cL_bodies 177 = .ok (.iload 8, 2) := by decide +kernel
theorem dL_bodies_179 : decode cL_bodies 179 = .ok (.iadd, 1) := by decide +kernel
theorem dL_bodies_180 : decode cL_bodies 180 = .ok (.iload 7, 2) := by decide +kernel
theorem dL_bodies_182 : decode cL_bodies 182 = .ok (.isub, 1) := by decide +kernel
theorem dL_bodies_183 : decode cL_bodies 183 = .ok (.goto 11, 3) := by decide +kernel
theorem dL_bodies_186 : decode cL_bodies 186 = .ok (.iload 7, 2) := by decide +kernel
theorem dL_bodies_188 : decode cL_bodies 188 = .ok (.iload 7, 2) := by decide +kernel
theorem dL_bodies_190 : decode cL_bodies 190 = .ok (.iadd, 1) := by decide +kernel
theorem dL_bodies_191 : decode cL_bodies 191 = .ok (.iload 8, 2) := by decide +kernel
theorem dL_bodies_193 : decode cL_bodies 193 = .ok (.isub, 1) := by decide +kernel
theorem dL_bodies_194 : decode cL_bodies 194 = .ok (.iastore, 1) := by decide +kernel
theorem dL_bodies_195 : decode cL_bodies 195 = .ok (.aload_n 1, 1) := by decide +kernel
theorem dL_bodies_196 : decode cL_bodies 196 = .ok (.iconst 3, 1) := by decide +kernel
theorem dL_bodies_197 : decode cL_bodies 197 = .ok (.iload_n 3, 1) := by decide +kernel
theorem dL_bodies_198 : decode cL_bodies 198 = .ok (.imul, 1) := by decide +kernel
theorem dL_bodies_199 : decode cL_bodies 199 = .ok (.iconst 1, 1) := by decide +kernel
theorem dL_bodies_200 : decode cL_bodies 200 = .ok (.iadd, 1) := by decide +kernel
theorem dL_bodies_201 : decode cL_bodies 201 = .ok (.aload_n 0, 1) := by decide +kernel
theorem dL_bodies_202 : decode cL_bodies 202 = .ok (.iconst 4, 1) := by decide +kernel
theorem dL_bodies_203 : decode cL_bodies 203 = .ok (.iload 5, 2) := by decide +kernel
theorem dL_bodies_205 : decode cL_bodies 205 = .ok (.imul, 1) := by decide +kernel
theorem dL_bodies_206 : decode cL_bodies 206 = .ok (.iconst 1, 1) := by decide +kernel
theorem dL_bodies_207 : decode cL_bodies 207 = .ok (.iadd, 1) := by decide +kernel
theorem dL_bodies_208 : decode cL_bodies 208 = .ok (.iaload, 1) := by decide +kernel
theorem dL_bodies_209 : decode cL_bodies 209 = .ok (.aload_n 0, 1) := by decide +kernel
theorem dL_bodies_210 : decode cL_bodies 210 = .ok (.iconst 4, 1) := by decide +kernel
theorem dL_bodies_211 : decode cL_bodies 211 = .ok (.iload 6, 2) := by decide +kernel
theorem dL_bodies_213 : decode cL_bodies 213 = .ok (.imul, 1) := by decide +kernel
theorem dL_bodies_214 : decode cL_bodies 214 = .ok (.iconst 1, 1) := by decide +kernel
theorem dL_bodies_215 : decode cL_bodies 215 = .ok (.iadd, 1) := by decide +kernel
theorem dL_bodies_216 : decode cL_bodies 216 = .ok (.iaload, 1) := by decide +kernel
theorem dL_bodies_217 : decode cL_bodies 217 = .ok (.imul, 1) := by decide +kernel
theorem dL_bodies_218 : decode cL_bodies 218 = .ok (.sipush 200, 3) := by decide +kernel
theorem dL_bodies_221 : decode cL_bodies 221 = .ok (.idiv, 1) := by decide +kernel
theorem dL_bodies_222 : decode cL_bodies 222 = .ok (.iastore, 1) := by decide +kernel
theorem dL_bodies_223 : decode cL_bodies 223 = .ok (.aload_n 1, 1) := by decide +kernel
theorem dL_bodies_224 : decode cL_bodies 224 = .ok (.iconst 3, 1) := by decide +kernel
theorem dL_bodies_225 : decode cL_bodies 225 = .ok (.iload_n 3, 1) := by decide +kernel
theorem dL_bodies_226 : decode cL_bodies 226 = .ok (.imul, 1) := by decide +kernel
theorem dL_bodies_227 : decode cL_bodies 227 = .ok (.iconst 2, 1) := by decide +kernel
theorem dL_bodies_228 : decode cL_bodies 228 = .ok (.iadd, 1) := by decide +kernel
theorem dL_bodies_229 : decode cL_bodies 229 = .ok (.iconst 0, 1) := by decide +kernel
theorem dL_bodies_230 : decode cL_bodies 230 = .ok (.iastore, 1) := by decide +kernel
theorem dL_bodies_231 : decode cL_bodies 231 = .ok (.iinc 3 1, 3) := by decide +kernel
theorem dL_bodies_234 : decode cL_bodies 234 = .ok (.iinc 4 1, 3) := by decide +kernel
theorem dL_bodies_237 : decode cL_bodies 237 = .ok (.goto (-170), 3) := by decide +kernel
theorem dL_bodies_240 : decode cL_bodies 240 = .ok (.aload_n 2, 1) := by decide +kernel
theorem dL_bodies_241 : decode cL_bodies 241 = .ok (.bipush 8, 2) := by decide +kernel
theorem dL_bodies_243 : decode cL_bodies 243 = .ok (.iload_n 3, 1) := by decide +kernel
theorem dL_bodies_244 : decode cL_bodies 244 = .ok (.iastore, 1) := by decide +kernel
theorem dL_bodies_245 : decode cL_bodies 245 = .ok (.return_, 1) := by decide +kernel
theorem dL_place_0 : decode cL_place 0 = .ok (.iload_n 1, 1) := by decide +kernel
theorem dL_place_1 : decode cL_place 1 = .ok (.iload_n 2, 1) := by decide +kernel
theorem dL_place_2 : decode cL_place 2 = .ok (.iload_n 3, 1) := by decide +kernel
theorem dL_place_3 : decode cL_place 3 = .ok (.imul, 1) := by decide +kernel
theorem dL_place_4 : decode cL_place 4 = .ok (.iadd, 1) := by decide +kernel
theorem dL_place_5 : decode cL_place 5 = .ok (.istore 4, 2) := by decide +kernel
theorem dL_place_7 : decode cL_place 7 = .ok (.iload 4, 2) := by decide +kernel
theorem dL_place_9 : decode cL_place 9 = .ok (.ifCond .ge 7, 3) := by decide +kernel
theorem dL_place_12 : decode cL_place 12 = .ok (.iconst 0, 1) := by decide +kernel
theorem dL_place_13 : decode cL_place 13 = .ok (.goto 9, 3) := by decide +kernel
theorem dL_place_16 : decode cL_place 16 = .ok (.iload 4, 2) := by decide +kernel
theorem dL_place_18 : decode cL_place 18 = .ok (.aload_n 0, 1) := by decide +kernel
theorem dL_place_19 : decode cL_place 19 = .ok (.iload_n 3, 1) := by decide +kernel
theorem dL_place_20 : decode cL_place 20 = .ok (.iaload, 1) := by decide +kernel
theorem dL_place_21 : decode cL_place 21 = .ok (.irem, 1) := by decide +kernel
theorem dL_place_22 : decode cL_place 22 = .ok (.ireturn, 1) := by decide +kernel
theorem dL_heard_0 : decode cL_heard 0 = .ok (.iconst 0, 1) := by decide +kernel
theorem dL_heard_1 : decode cL_heard 1 = .ok (.istore 6, 2) := by decide +kernel
theorem dL_heard_3 : decode cL_heard 3 = .ok (.iconst 0, 1) := by decide +kernel
theorem dL_heard_4 : decode cL_heard 4 = .ok (.istore 7, 2) := by decide +kernel
theorem dL_heard_6 : decode cL_heard 6 = .ok (.iload 7, 2) := by decide +kernel
theorem dL_heard_8 : decode cL_heard 8 = .ok (.aload_n 1, 1) := by decide +kernel
theorem dL_heard_9 : decode cL_heard 9 = .ok (.bipush 8, 2) := by decide +kernel
theorem dL_heard_11 : decode cL_heard 11 = .ok (.iaload, 1) := by decide +kernel
theorem dL_heard_12 : decode cL_heard 12 = .ok (.if_icmp .ge 98, 3) := by decide +kernel
theorem dL_heard_15 : decode cL_heard 15 = .ok (.iload_n 3, 1) := by decide +kernel
theorem dL_heard_16 : decode cL_heard 16 = .ok (.aload_n 1, 1) := by decide +kernel
theorem dL_heard_17 : decode cL_heard 17 = .ok (.iconst 4, 1) := by decide +kernel
theorem dL_heard_18 : decode cL_heard 18 = .ok (.iaload, 1) := by decide +kernel
theorem dL_heard_19 : decode cL_heard 19 = .ok (.if_icmp .lt 91, 3) := by decide +kernel
theorem dL_heard_22 : decode cL_heard 22 = .ok (.aload_n 0, 1) := by decide +kernel
theorem dL_heard_23 : decode cL_heard 23 = .ok (.iconst 3, 1) := by decide +kernel
theorem dL_heard_24 : decode cL_heard 24 = .ok (.iload 7, 2) := by decide +kernel
theorem dL_heard_26 : decode cL_heard 26 = .ok (.imul, 1) := by decide +kernel
theorem dL_heard_27 : decode cL_heard 27 = .ok (.iconst 2, 1) := by decide +kernel
theorem dL_heard_28 : decode cL_heard 28 = .ok (.iadd, 1) := by decide +kernel
theorem dL_heard_29 : decode cL_heard 29 = .ok (.iaload, 1) := by decide +kernel
theorem dL_heard_30 : decode cL_heard 30 = .ok (.iload 4, 2) := by decide +kernel
theorem dL_heard_32 : decode cL_heard 32 = .ok (.if_icmp .ne 38, 3) := by decide +kernel
theorem dL_heard_35 : decode cL_heard 35 = .ok (.aload_n 0, 1) := by decide +kernel
theorem dL_heard_36 : decode cL_heard 36 = .ok (.iconst 3, 1) := by decide +kernel
theorem dL_heard_37 : decode cL_heard 37 = .ok (.iload 7, 2) := by decide +kernel
theorem dL_heard_39 : decode cL_heard 39 = .ok (.imul, 1) := by decide +kernel
theorem dL_heard_40 : decode cL_heard 40 = .ok (.iconst 1, 1) := by decide +kernel
theorem dL_heard_41 : decode cL_heard 41 = .ok (.iadd, 1) := by decide +kernel
theorem dL_heard_42 : decode cL_heard 42 = .ok (.iaload, 1) := by decide +kernel
theorem dL_heard_43 : decode cL_heard 43 = .ok (.aload_n 1, 1) := by decide +kernel
theorem dL_heard_44 : decode cL_heard 44 = .ok (.iconst 5, 1) := by decide +kernel
theorem dL_heard_45 : decode cL_heard 45 = .ok (.iaload, 1) := by decide +kernel
theorem dL_heard_46 : decode cL_heard 46 = .ok (.if_icmp .lt 24, 3) := by decide +kernel
theorem dL_heard_49 : decode cL_heard 49 = .ok (.aload_n 1, 1) := by decide +kernel
theorem dL_heard_50 : decode cL_heard 50 = .ok (.aload_n 0, 1) := by decide +kernel
theorem dL_heard_51 : decode cL_heard 51 = .ok (.iconst 3, 1) := by decide +kernel
theorem dL_heard_52 : decode cL_heard 52 = .ok (.iload 7, 2) := by decide +kernel
theorem dL_heard_54 : decode cL_heard 54 = .ok (.imul, 1) := by decide +kernel
theorem dL_heard_55 : decode cL_heard 55 = .ok (.iaload, 1) := by decide +kernel
theorem dL_heard_56 : decode cL_heard 56 = .ok (.iload 4, 2) := by decide +kernel
theorem dL_heard_58 : decode cL_heard 58 = .ok (.iload_n 2, 1) := by decide +kernel
theorem dL_heard_59 : decode cL_heard 59 = .ok (.invokestatic 10, 3) := by decide +kernel
theorem dL_heard_62 : decode cL_heard 62 = .ok (.iload_n 3, 1) := by decide +kernel
theorem dL_heard_63 : decode cL_heard 63 = .ok (.if_icmp .ne 7, 3) := by decide +kernel
theorem dL_heard_66 : decode cL_heard 66 = .ok (.iconst 1, 1) := by decide +kernel
theorem dL_heard_67 : decode cL_heard 67 = .ok (.goto 4, 3) := by decide +kernel
theorem dL_heard_70 : decode cL_heard 70 = .ok (.iconst 0, 1) := by decide +kernel
theorem dL_heard_71 : decode cL_heard 71 = .ok (.istore 8, 2) := by decide +kernel
theorem dL_heard_73 : decode cL_heard 73 = .ok (.iload 6, 2) := by decide +kernel
theorem dL_heard_75 : decode cL_heard 75 = .ok (.iload 8, 2) := by decide +kernel
theorem dL_heard_77 : decode cL_heard 77 = .ok (.ifCond .eq 23, 3) := by decide +kernel
theorem dL_heard_80 : decode cL_heard 80 = .ok (.iload 5, 2) := by decide +kernel
theorem dL_heard_82 : decode cL_heard 82 = .ok (.ifCond .eq 7, 3) := by decide +kernel
theorem dL_heard_85 : decode cL_heard 85 = .ok (.iconst 1, 1) := by decide +kernel
theorem dL_heard_86 : decode cL_heard 86 = .ok (.goto 15, 3) := by decide +kernel
theorem dL_heard_89 : decode cL_heard 89 = .ok (.aload_n 0, 1) := by decide +kernel
theorem dL_heard_90 : decode cL_heard 90 = .ok (.iconst 3, 1) := by decide +kernel
theorem dL_heard_91 : decode cL_heard 91 = .ok (.iload 7, 2) := by decide +kernel
theorem dL_heard_93 : decode cL_heard 93 = .ok (.imul, 1) := by decide +kernel
theorem dL_heard_94 : decode cL_heard 94 = .ok (.iconst 1, 1) := by decide +kernel
theorem dL_heard_95 : decode cL_heard 95 = .ok (.iadd, 1) := by decide +kernel
theorem dL_heard_96 : decode cL_heard 96 = .ok (.iaload, 1) := by decide +kernel
theorem dL_heard_97 : decode cL_heard 97 = .ok (.goto 4, 3) := by decide +kernel
theorem dL_heard_100 : decode cL_heard 100 = .ok (.iconst 0, 1) := by decide +kernel
theorem dL_heard_101 : decode cL_heard 101 = .ok (.iadd, 1) := by decide +kernel
theorem dL_heard_102 : decode cL_heard 102 = .ok (.istore 6, 2) := by decide +kernel
theorem dL_heard_104 : decode cL_heard 104 = .ok (.iinc 7 1, 3) := by decide +kernel
theorem dL_heard_107 : decode cL_heard 107 = .ok (.goto (-101), 3) := by decide +kernel
theorem dL_heard_110 : decode cL_heard 110 = .ok (.iload 6, 2) := by decide +kernel
theorem dL_heard_112 : decode cL_heard 112 = .ok (.ireturn, 1) := by decide +kernel
theorem dL_fit_0 : decode cL_fit 0 = .ok (.aload_n 1, 1) := by decide +kernel
theorem dL_fit_1 : decode cL_fit 1 = .ok (.iload_n 2, 1) := by decide +kernel
theorem dL_fit_2 : decode cL_fit 2 = .ok (.iload_n 3, 1) := by decide +kernel
theorem dL_fit_3 : decode cL_fit 3 = .ok (.iload 4, 2) := by decide +kernel
theorem dL_fit_5 : decode cL_fit 5 = .ok (.invokestatic 10, 3) := by decide +kernel
theorem dL_fit_8 : decode cL_fit 8 = .ok (.istore 5, 2) := by decide +kernel
theorem dL_fit_10 : decode cL_fit 10 = .ok (.iload 5, 2) := by decide +kernel
theorem dL_fit_12 : decode cL_fit 12 = .ok (.aload_n 1, 1) := by decide +kernel
theorem dL_fit_13 : decode cL_fit 13 = .ok (.iconst 4, 1) := by decide +kernel
theorem dL_fit_14 : decode cL_fit 14 = .ok (.iaload, 1) := by decide +kernel
theorem dL_fit_15 : decode cL_fit 15 = .ok (.if_icmp .ge 7, 3) := by decide +kernel
theorem dL_fit_18 : decode cL_fit 18 = .ok (.iconst 2, 1) := by decide +kernel
theorem dL_fit_19 : decode cL_fit 19 = .ok (.goto 22, 3) := by decide +kernel
theorem dL_fit_22 : decode cL_fit 22 = .ok (.aload_n 0, 1) := by decide +kernel
theorem dL_fit_23 : decode cL_fit 23 = .ok (.aload_n 1, 1) := by decide +kernel
theorem dL_fit_24 : decode cL_fit 24 = .ok (.iload 4, 2) := by decide +kernel
theorem dL_fit_26 : decode cL_fit 26 = .ok (.iload 5, 2) := by decide +kernel
theorem dL_fit_28 : decode cL_fit 28 = .ok (.iload_n 3, 1) := by decide +kernel
theorem dL_fit_29 : decode cL_fit 29 = .ok (.iconst 0, 1) := by decide +kernel
theorem dL_fit_30 : decode cL_fit 30 = .ok (.invokestatic 16, 3) := by decide +kernel
theorem dL_fit_33 : decode cL_fit 33 = .ok (.ifCond .le 7, 3) := by decide +kernel
theorem dL_fit_36 : decode cL_fit 36 = .ok (.iconst 1, 1) := by decide +kernel
theorem dL_fit_37 : decode cL_fit 37 = .ok (.goto 4, 3) := by decide +kernel
theorem dL_fit_40 : decode cL_fit 40 = .ok (.iconst 0, 1) := by decide +kernel
theorem dL_fit_41 : decode cL_fit 41 = .ok (.ireturn, 1) := by decide +kernel
theorem dL_told_0 : decode cL_told 0 = .ok (.iconst 0, 1) := by decide +kernel
theorem dL_told_1 : decode cL_told 1 = .ok (.istore 4, 2) := by decide +kernel
theorem dL_told_3 : decode cL_told 3 = .ok (.iconst 0, 1) := by decide +kernel
theorem dL_told_4 : decode cL_told 4 = .ok (.istore 5, 2) := by decide +kernel
theorem dL_told_6 : decode cL_told 6 = .ok (.iload 5, 2) := by decide +kernel
theorem dL_told_8 : decode cL_told 8 = .ok (.aload_n 1, 1) := by decide +kernel
theorem dL_told_9 : decode cL_told 9 = .ok (.bipush 7, 2) := by decide +kernel
theorem dL_told_11 : decode cL_told 11 = .ok (.iaload, 1) := by decide +kernel
theorem dL_told_12 : decode cL_told 12 = .ok (.if_icmp .ge 43, 3) := by decide +kernel
theorem dL_told_15 : decode cL_told 15 = .ok (.aload_n 0, 1) := by decide +kernel
theorem dL_told_16 : decode cL_told 16 = .ok (.aload_n 1, 1) := by decide +kernel
theorem dL_told_17 : decode cL_told 17 = .ok (.iload_n 2, 1) := by decide +kernel
theorem dL_told_18 : decode cL_told 18 = .ok (.iload_n 3, 1) := by decide +kernel
theorem dL_told_19 : decode cL_told 19 = .ok (.iload 5, 2) := by decide +kernel
theorem dL_told_21 : decode cL_told 21 = .ok (.invokestatic 20, 3) := by decide +kernel
theorem dL_told_24 : decode cL_told 24 = .ok (.istore 6, 2) := by decide +kernel
theorem dL_told_26 : decode cL_told 26 = .ok (.iload 6, 2) := by decide +kernel
theorem dL_told_28 : decode cL_told 28 = .ok (.ifCond .ne 5, 3) := by decide +kernel
theorem dL_told_31 : decode cL_told 31 = .ok (.iconst 0, 1) := by decide +kernel
theorem dL_told_32 : decode cL_told 32 = .ok (.ireturn, 1) := by decide +kernel
theorem dL_told_33 : decode cL_told 33 = .ok (.iload 4, 2) := by decide +kernel
theorem dL_told_35 : decode cL_told 35 = .ok (.iload 6, 2) := by decide +kernel
theorem dL_told_37 : decode cL_told 37 = .ok (.iconst 1, 1) := by decide +kernel
theorem dL_told_38 : decode cL_told 38 = .ok (.if_icmp .ne 7, 3) := by decide +kernel
theorem dL_told_41 : decode cL_told 41 = .ok (.iconst 1, 1) := by decide +kernel
theorem dL_told_42 : decode cL_told 42 = .ok (.goto 4, 3) := by decide +kernel
theorem dL_told_45 : decode cL_told 45 = .ok (.iconst 0, 1) := by decide +kernel
theorem dL_told_46 : decode cL_told 46 = .ok (.iadd, 1) := by decide +kernel
theorem dL_told_47 : decode cL_told 47 = .ok (.istore 4, 2) := by decide +kernel
theorem dL_told_49 : decode cL_told 49 = .ok (.iinc 5 1, 3) := by decide +kernel
theorem dL_told_52 : decode cL_told 52 = .ok (.goto (-46), 3) := by decide +kernel
theorem dL_told_55 : decode cL_told 55 = .ok (.iload 4, 2) := by decide +kernel
theorem dL_told_57 : decode cL_told 57 = .ok (.ireturn, 1) := by decide +kernel
theorem dL_isTrue_0 : decode cL_isTrue 0 = .ok (.iconst 0, 1) := by decide +kernel
theorem dL_isTrue_1 : decode cL_isTrue 1 = .ok (.istore 4, 2) := by decide +kernel
theorem dL_isTrue_3 : decode cL_isTrue 3 = .ok (.iload 4, 2) := by decide +kernel
theorem dL_isTrue_5 : decode cL_isTrue 5 = .ok (.aload_n 1, 1) := by decide +kernel
theorem dL_isTrue_6 : decode cL_isTrue 6 = .ok (.bipush 8, 2) := by decide +kernel
theorem dL_isTrue_8 : decode cL_isTrue 8 = .ok (.iaload, 1) := by decide +kernel
theorem dL_isTrue_9 : decode cL_isTrue 9 = .ok (.if_icmp .ge 33, 3) := by decide +kernel
theorem dL_isTrue_12 : decode cL_isTrue 12 = .ok (.aload_n 0, 1) := by decide +kernel
theorem dL_isTrue_13 : decode cL_isTrue 13 = .ok (.iconst 3, 1) := by decide +kernel
theorem dL_isTrue_14 : decode cL_isTrue 14 = .ok (.iload 4, 2) := by decide +kernel
theorem dL_isTrue_16 : decode cL_isTrue 16 = .ok (.imul, 1) := by decide +kernel
theorem dL_isTrue_17 : decode cL_isTrue 17 = .ok (.iaload, 1) := by decide +kernel
theorem dL_isTrue_18 : decode cL_isTrue 18 = .ok (.iload_n 2, 1) := by decide +kernel
theorem dL_isTrue_19 : decode cL_isTrue 19 = .ok (.if_icmp .ne 17, 3) := by decide +kernel
theorem dL_isTrue_22 : decode cL_isTrue 22 = .ok (.aload_n 0, 1) := by decide +kernel
theorem dL_isTrue_23 : decode cL_isTrue 23 = .ok (.iconst 3, 1) := by decide +kernel
theorem dL_isTrue_24 : decode cL_isTrue 24 = .ok (.iload 4, 2) := by decide +kernel
theorem dL_isTrue_26 : decode cL_isTrue 26 = .ok (.imul, 1) := by decide +kernel
theorem dL_isTrue_27 : decode cL_isTrue 27 = .ok (.iconst 2, 1) := by decide +kernel
theorem dL_isTrue_28 : decode cL_isTrue 28 = .ok (.iadd, 1) := by decide +kernel
theorem dL_isTrue_29 : decode cL_isTrue 29 = .ok (.iaload, 1) := by decide +kernel
theorem dL_isTrue_30 : decode cL_isTrue 30 = .ok (.iload_n 3, 1) := by decide +kernel
theorem dL_isTrue_31 : decode cL_isTrue 31 = .ok (.if_icmp .ne 5, 3) := by decide +kernel
theorem dL_isTrue_34 : decode cL_isTrue 34 = .ok (.iconst 1, 1) := by decide +kernel
theorem dL_isTrue_35 : decode cL_isTrue 35 = .ok (.ireturn, 1) := by decide +kernel
theorem dL_isTrue_36 : decode cL_isTrue 36 = .ok (.iinc 4 1, 3) := by decide +kernel
theorem dL_isTrue_39 : decode cL_isTrue 39 = .ok (.goto (-36), 3) := by decide +kernel
theorem dL_isTrue_42 : decode cL_isTrue 42 = .ok (.iconst 0, 1) := by decide +kernel
theorem dL_isTrue_43 : decode cL_isTrue 43 = .ok (.ireturn, 1) := by decide +kernel
theorem dL_targets_0 : decode cL_targets 0 = .ok (.aload_n 3, 1) := by decide +kernel
theorem dL_targets_1 : decode cL_targets 1 = .ok (.bipush 8, 2) := by decide +kernel
theorem dL_targets_3 : decode cL_targets 3 = .ok (.iaload, 1) := by decide +kernel
theorem dL_targets_4 : decode cL_targets 4 = .ok (.aload_n 3, 1) := by decide +kernel
theorem dL_targets_5 : decode cL_targets 5 = .ok (.bipush 6, 2) := by decide +kernel
theorem dL_targets_7 : decode cL_targets 7 = .ok (.iaload, 1) := by decide +kernel
theorem dL_targets_8 : decode cL_targets 8 = .ok (.isub, 1) := by decide +kernel
theorem dL_targets_9 : decode cL_targets 9 = .ok (.istore 4, 2) := by decide +kernel
theorem dL_targets_11 : decode cL_targets 11 = .ok (.iconst 0, 1) := by decide +kernel
theorem dL_targets_12 : decode cL_targets 12 = .ok (.istore 5, 2) := by decide +kernel
theorem dL_targets_14 : decode cL_targets 14 = .ok (.iconst 0, 1) := by decide +kernel
theorem dL_targets_15 : decode cL_targets 15 = .ok (.istore 6, 2) := by decide +kernel
theorem dL_targets_17 : decode cL_targets 17 = .ok (.iload 6, 2) := by decide +kernel
theorem dL_targets_19 : decode cL_targets 19 = .ok (.aload_n 3, 1) := by decide +kernel
theorem dL_targets_20 : decode cL_targets 20 = .ok (.bipush 6, 2) := by decide +kernel
theorem dL_targets_22 : decode cL_targets 22 = .ok (.iaload, 1) := by decide +kernel
theorem dL_targets_23 : decode cL_targets 23 = .ok (.if_icmp .ge 282, 3) := by decide +kernel
theorem dL_targets_26 : decode cL_targets 26 = .ok (.iconst 0, 1) := by decide +kernel
theorem dL_targets_27 : decode cL_targets 27 = .ok (.istore 7, 2) := by decide +kernel
theorem dL_targets_29 : decode cL_targets 29 = .ok (.iconst 0, 1) := by decide +kernel
theorem dL_targets_30 : decode cL_targets 30 = .ok (.istore 8, 2) := by decide +kernel
theorem dL_targets_32 : decode cL_targets 32 = .ok (.iload 5, 2) := by decide +kernel
theorem dL_targets_34 : decode cL_targets 34 = .ok (.aload_n 1, 1) := by decide +kernel
theorem dL_targets_35 : decode cL_targets 35 = .ok (.iconst 4, 1) := by decide +kernel
theorem dL_targets_36 : decode cL_targets 36 = .ok (.iload 6, 2) := by decide +kernel
theorem dL_targets_38 : decode cL_targets 38 = .ok (.imul, 1) := by decide +kernel
theorem dL_targets_39 : decode cL_targets 39 = .ok (.iconst 3, 1) := by decide +kernel
theorem dL_targets_40 : decode cL_targets 40 = .ok (.iadd, 1) := by decide +kernel
theorem dL_targets_41 : decode cL_targets 41 = .ok (.iaload, 1) := by decide +kernel
theorem dL_targets_42 : decode cL_targets 42 = .ok (.iadd, 1) := by decide +kernel
theorem dL_targets_43 : decode cL_targets 43 = .ok (.istore 5, 2) := by decide +kernel
theorem dL_targets_45 : decode cL_targets 45 = .ok (.iconst 0, 1) := by decide +kernel
theorem dL_targets_46 : decode cL_targets 46 = .ok (.istore 9, 2) := by decide +kernel
theorem dL_targets_48 : decode cL_targets 48 = .ok (.iload 9, 2) := by decide +kernel
theorem dL_targets_50 : decode cL_targets 50 = .ok (.aload_n 3, 1) := by decide +kernel
theorem dL_targets_51 : decode cL_targets 51 = .ok (.bipush 7, 2) := by decide +kernel
theorem dL_targets_53 : decode cL_targets 53 = .ok (.iaload, 1) := by decide +kernel
theorem dL_targets_54 : decode cL_targets 54 = .ok (.if_icmp .ge 59, 3) := by decide +kernel
theorem dL_targets_57 : decode cL_targets 57 = .ok (.iload 7, 2) := by decide +kernel
theorem dL_targets_59 : decode cL_targets 59 = .ok (.aload_n 1, 1) := by decide +kernel
theorem dL_targets_60 : decode cL_targets 60 = .ok (.iconst 4, 1) := by decide +kernel
theorem dL_targets_61 : decode cL_targets 61 = .ok (.iload 6, 2) := by decide +kernel
theorem dL_targets_63 : decode cL_targets 63 = .ok (.imul, 1) := by decide +kernel
theorem dL_targets_64 : decode cL_targets 64 = .ok (.iconst 1, 1) := by decide +kernel
theorem dL_targets_65 : decode cL_targets 65 = .ok (.iadd, 1) := by decide +kernel
theorem dL_targets_66 : decode cL_targets 66 = .ok (.iaload, 1) := by decide +kernel
theorem dL_targets_67 : decode cL_targets 67 = .ok (.aload_n 3, 1) := by decide +kernel
theorem dL_targets_68 : decode cL_targets 68 = .ok (.iconst 5, 1) := by decide +kernel
theorem dL_targets_69 : decode cL_targets 69 = .ok (.iaload, 1) := by decide +kernel
theorem dL_targets_70 : decode cL_targets 70 = .ok (.if_icmp .lt 33, 3) := by decide +kernel
theorem dL_targets_73 : decode cL_targets 73 = .ok (.aload_n 3, 1) := by decide +kernel
theorem dL_targets_74 : decode cL_targets 74 = .ok (.aload_n 1, 1) := by decide +kernel
theorem dL_targets_75 : decode cL_targets 75 = .ok (.iconst 4, 1) := by decide +kernel
theorem dL_targets_76 : decode cL_targets 76 = .ok (.iload 6, 2) := by decide +kernel
theorem dL_targets_78 : decode cL_targets 78 = .ok (.imul, 1) := by decide +kernel
theorem dL_targets_79 : decode cL_targets 79 = .ok (.iaload, 1) := by decide +kernel
theorem dL_targets_80 : decode cL_targets 80 = .ok (.aload_n 1, 1) := by decide +kernel
theorem dL_targets_81 : decode cL_targets 81 = .ok (.iconst 4, 1) := by decide +kernel
theorem dL_targets_82 : decode cL_targets 82 = .ok (.iload 6, 2) := by decide +kernel
theorem dL_targets_84 : decode cL_targets 84 = .ok (.imul, 1) := by decide +kernel
theorem dL_targets_85 : decode cL_targets 85 = .ok (.iconst 2, 1) := by decide +kernel
theorem dL_targets_86 : decode cL_targets 86 = .ok (.iadd, 1) := by decide +kernel
theorem dL_targets_87 : decode cL_targets 87 = .ok (.iaload, 1) := by decide +kernel
theorem dL_targets_88 : decode cL_targets 88 = .ok (.iload 9, 2) := by decide +kernel
theorem dL_targets_90 : decode cL_targets 90 = .ok (.invokestatic 10, 3) := by decide +kernel
theorem dL_targets_93 : decode cL_targets 93 = .ok (.aload_n 3, 1) := by decide +kernel
theorem dL_targets_94 : decode cL_targets 94 = .ok (.iconst 4, 1) := by decide +kernel
theorem dL_targets_95 : decode cL_targets 95 = .ok (.iaload, 1) := by decide +kernel
theorem dL_targets_96 : decode cL_targets 96 = .ok (.if_icmp .ge 7, 3) := by decide +kernel
theorem dL_targets_99 : decode cL_targets 99 = .ok (.iconst 1, 1) := by decide +kernel
theorem dL_targets_100 : decode cL_targets 100 = .ok (.goto 4, 3) := by decide +kernel
theorem dL_targets_103 : decode cL_targets 103 = .ok (.iconst 0, 1) := by decide +kernel
theorem dL_targets_104 : decode cL_targets 104 = .ok (.iadd, 1) := by decide +kernel
theorem dL_targets_105 : decode cL_targets 105 = .ok (.istore 7, 2) := by decide +kernel
theorem dL_targets_107 : decode cL_targets 107 = .ok (.iinc 9 1, 3) := by decide +kernel
theorem dL_targets_110 : decode cL_targets 110 = .ok (.goto (-62), 3) := by decide +kernel
theorem dL_targets_113 : decode cL_targets 113 = .ok (.iconst 0, 1) := by decide +kernel
theorem dL_targets_114 : decode cL_targets 114 = .ok (.istore 9, 2) := by decide +kernel
theorem dL_targets_116 : decode cL_targets 116 = .ok (.iload 9, 2) := by decide +kernel
theorem dL_targets_118 : decode cL_targets 118 = .ok (.iload 4, 2) := by decide +kernel
theorem dL_targets_120 : decode cL_targets 120 = .ok (.if_icmp .ge 43, 3) := by decide +kernel
theorem dL_targets_123 : decode cL_targets 123 = .ok (.iload 8, 2) := by decide +kernel
theorem dL_targets_125 : decode cL_targets 125 = .ok (.aload_n 0, 1) := by decide +kernel
theorem dL_targets_126 : decode cL_targets 126 = .ok (.iload 9, 2) := by decide +kernel
theorem dL_targets_128 : decode cL_targets 128 = .ok (.iconst 2, 1) := by decide +kernel
theorem dL_targets_129 : decode cL_targets 129 = .ok (.invokevirtual 24, 3) := by decide +kernel
theorem dL_targets_132 : decode cL_targets 132 = .ok (.iload 6, 2) := by decide +kernel
theorem dL_targets_134 : decode cL_targets 134 = .ok (.if_icmp .eq 15, 3) := by decide +kernel
theorem dL_targets_137 : decode cL_targets 137 = .ok (.aload_n 0, 1) := by decide +kernel
theorem dL_targets_138 : decode cL_targets 138 = .ok (.iload 9, 2) := by decide +kernel
theorem dL_targets_140 : decode cL_targets 140 = .ok (.iconst 3, 1) := by decide +kernel
theorem dL_targets_141 : decode cL_targets 141 = .ok (.invokevirtual 24, 3) := by decide +kernel
theorem dL_targets_144 : decode cL_targets 144 = .ok (.iload 6, 2) := by decide +kernel
theorem dL_targets_146 : decode cL_targets 146 = .ok (.if_icmp .ne 7, 3) := by decide +kernel
theorem dL_targets_149 : decode cL_targets 149 = .ok (.iconst 1, 1) := by decide +kernel
theorem dL_targets_150 : decode cL_targets 150 = .ok (.goto 4, 3) := by decide +kernel
theorem dL_targets_153 : decode cL_targets 153 = .ok (.iconst 0, 1) := by decide +kernel
theorem dL_targets_154 : decode cL_targets 154 = .ok (.iadd, 1) := by decide +kernel
theorem dL_targets_155 : decode cL_targets 155 = .ok (.istore 8, 2) := by decide +kernel
theorem dL_targets_157 : decode cL_targets 157 = .ok (.iinc 9 1, 3) := by decide +kernel
theorem dL_targets_160 : decode cL_targets 160 = .ok (.goto (-44), 3) := by decide +kernel
theorem dL_targets_163 : decode cL_targets 163 = .ok (.aload_n 0, 1) := by decide +kernel
theorem dL_targets_164 : decode cL_targets 164 = .ok (.iload 6, 2) := by decide +kernel
theorem dL_targets_166 : decode cL_targets 166 = .ok (.iconst 0, 1) := by decide +kernel
theorem dL_targets_167 : decode cL_targets 167 = .ok (.invokevirtual 30, 3) := by decide +kernel
theorem dL_targets_170 : decode cL_targets 170 = .ok (.aload_n 1, 1) := by decide +kernel
theorem dL_targets_171 : decode cL_targets 171 = .ok (.iconst 4, 1) := by decide +kernel
theorem dL_targets_172 : decode cL_targets 172 = .ok (.iload 6, 2) := by decide +kernel
theorem dL_targets_174 : decode cL_targets 174 = .ok (.imul, 1) := by decide +kernel
theorem dL_targets_175 : decode cL_targets 175 = .ok (.iaload, 1) := by decide +kernel
theorem dL_targets_176 : decode cL_targets 176 = .ok (.if_icmp .ne 121, 3) := by decide +kernel
theorem dL_targets_179 : decode cL_targets 179 = .ok (.aload_n 0, 1) := by decide +kernel
theorem dL_targets_180 : decode cL_targets 180 = .ok (.iload 6, 2) := by decide +kernel
theorem dL_targets_182 : decode cL_targets 182 = .ok (.iconst 1, 1) := by decide +kernel
theorem dL_targets_183 : decode cL_targets 183 = .ok (.invokevirtual 30, 3) := by decide +kernel
theorem dL_targets_186 : decode cL_targets 186 = .ok (.aload_n 1, 1) := by decide +kernel
theorem dL_targets_187 : decode cL_targets 187 = .ok (.iconst 4, 1) := by decide +kernel
theorem dL_targets_188 : decode cL_targets 188 = .ok (.iload 6, 2) := by decide +kernel
theorem dL_targets_190 : decode cL_targets 190 = .ok (.imul, 1) := by decide +kernel
theorem dL_targets_191 : decode cL_targets 191 = .ok (.iconst 1, 1) := by decide +kernel
theorem dL_targets_192 : decode cL_targets 192 = .ok (.iadd, 1) := by decide +kernel
theorem dL_targets_193 : decode cL_targets 193 = .ok (.iaload, 1) := by decide +kernel
theorem dL_targets_194 : decode cL_targets 194 = .ok (.if_icmp .ne 103, 3) := by decide +kernel
theorem dL_targets_197 : decode cL_targets 197 = .ok (.aload_n 0, 1) := by decide +kernel
theorem dL_targets_198 : decode cL_targets 198 = .ok (.iload 6, 2) := by decide +kernel
theorem dL_targets_200 : decode cL_targets 200 = .ok (.iconst 2, 1) := by decide +kernel
theorem dL_targets_201 : decode cL_targets 201 = .ok (.invokevirtual 30, 3) := by decide +kernel
theorem dL_targets_204 : decode cL_targets 204 = .ok (.aload_n 1, 1) := by decide +kernel
theorem dL_targets_205 : decode cL_targets 205 = .ok (.iconst 4, 1) := by decide +kernel
theorem dL_targets_206 : decode cL_targets 206 = .ok (.iload 6, 2) := by decide +kernel
theorem dL_targets_208 : decode cL_targets 208 = .ok (.imul, 1) := by decide +kernel
theorem dL_targets_209 : decode cL_targets 209 = .ok (.iconst 2, 1) := by decide +kernel
theorem dL_targets_210 : decode cL_targets 210 = .ok (.iadd, 1) := by decide +kernel
theorem dL_targets_211 : decode cL_targets 211 = .ok (.iaload, 1) := by decide +kernel
theorem dL_targets_212 : decode cL_targets 212 = .ok (.iconst 5, 1) := by decide +kernel
theorem dL_targets_213 : decode cL_targets 213 = .ok (.iadd, 1) := by decide +kernel
theorem dL_targets_214 : decode cL_targets 214 = .ok (.if_icmp .ne 83, 3) := by decide +kernel
theorem dL_targets_217 : decode cL_targets 217 = .ok (.aload_n 0, 1) := by decide +kernel
theorem dL_targets_218 : decode cL_targets 218 = .ok (.iload 6, 2) := by decide +kernel
theorem dL_targets_220 : decode cL_targets 220 = .ok (.iconst 3, 1) := by decide +kernel
theorem dL_targets_221 : decode cL_targets 221 = .ok (.invokevirtual 30, 3) := by decide +kernel
theorem dL_targets_224 : decode cL_targets 224 = .ok (.aload_n 1, 1) := by decide +kernel
theorem dL_targets_225 : decode cL_targets 225 = .ok (.iconst 4, 1) := by decide +kernel
theorem dL_targets_226 : decode cL_targets 226 = .ok (.iload 6, 2) := by decide +kernel
theorem dL_targets_228 : decode cL_targets 228 = .ok (.imul, 1) := by decide +kernel
theorem dL_targets_229 : decode cL_targets 229 = .ok (.iconst 3, 1) := by decide +kernel
theorem dL_targets_230 : decode cL_targets 230 = .ok (.iadd, 1) := by decide +kernel
theorem dL_targets_231 : decode cL_targets 231 = .ok (.iaload, 1) := by decide +kernel
theorem dL_targets_232 : decode cL_targets 232 = .ok (.if_icmp .ne 65, 3) := by decide +kernel
theorem dL_targets_235 : decode cL_targets 235 = .ok (.aload_n 0, 1) := by decide +kernel
theorem dL_targets_236 : decode cL_targets 236 = .ok (.iload 6, 2) := by decide +kernel
theorem dL_targets_238 : decode cL_targets 238 = .ok (.iconst 4, 1) := by decide +kernel
theorem dL_targets_239 : decode cL_targets 239 = .ok (.invokevirtual 30, 3) := by decide +kernel
theorem dL_targets_242 : decode cL_targets 242 = .ok (.aload_n 2, 1) := by decide +kernel
theorem dL_targets_243 : decode cL_targets 243 = .ok (.aload_n 3, 1) := by decide +kernel
theorem dL_targets_244 : decode cL_targets 244 = .ok (.aload_n 1, 1) := by decide +kernel
theorem dL_targets_245 : decode cL_targets 245 = .ok (.iconst 4, 1) := by decide +kernel
theorem dL_targets_246 : decode cL_targets 246 = .ok (.iload 6, 2) := by decide +kernel
theorem dL_targets_248 : decode cL_targets 248 = .ok (.imul, 1) := by decide +kernel
theorem dL_targets_249 : decode cL_targets 249 = .ok (.iaload, 1) := by decide +kernel
theorem dL_targets_250 : decode cL_targets 250 = .ok (.aload_n 1, 1) := by decide +kernel
theorem dL_targets_251 : decode cL_targets 251 = .ok (.iconst 4, 1) := by decide +kernel
theorem dL_targets_252 : decode cL_targets 252 = .ok (.iload 6, 2) := by decide +kernel
theorem dL_targets_254 : decode cL_targets 254 = .ok (.imul, 1) := by decide +kernel
theorem dL_targets_255 : decode cL_targets 255 = .ok (.iconst 2, 1) := by decide +kernel
theorem dL_targets_256 : decode cL_targets 256 = .ok (.iadd, 1) := by decide +kernel
theorem dL_targets_257 : decode cL_targets 257 = .ok (.iaload, 1) := by decide +kernel
theorem dL_targets_258 : decode cL_targets 258 = .ok (.invokestatic 33, 3) := by decide +kernel
theorem dL_targets_261 : decode cL_targets 261 = .ok (.ifCond .le 7, 3) := by decide +kernel
theorem dL_targets_264 : decode cL_targets 264 = .ok (.iconst 1, 1) := by decide +kernel
theorem dL_targets_265 : decode cL_targets 265 = .ok (.goto 4, 3) := by decide +kernel
theorem dL_targets_268 : decode cL_targets 268 = .ok (.iconst 0, 1) := by decide +kernel
theorem dL_targets_269 : decode cL_targets 269 = .ok (.if_icmp .ne 28, 3) := by decide +kernel
theorem dL_targets_272 : decode cL_targets 272 = .ok (.aload_n 0, 1) := by decide +kernel
theorem dL_targets_273 : decode cL_targets 273 = .ok (.iload 6, 2) := by decide +kernel
theorem dL_targets_275 : decode cL_targets 275 = .ok (.iconst 5, 1) := by decide +kernel
theorem dL_targets_276 : decode cL_targets 276 = .ok (.invokevirtual 30, 3) := by decide +kernel
theorem dL_targets_279 : decode cL_targets 279 = .ok (.iload 7, 2) := by decide +kernel
theorem dL_targets_281 : decode cL_targets 281 = .ok (.if_icmp .ne 16, 3) := by decide +kernel
theorem dL_targets_284 : decode cL_targets 284 = .ok (.aload_n 0, 1) := by decide +kernel
theorem dL_targets_285 : decode cL_targets 285 = .ok (.iload 6, 2) := by decide +kernel
theorem dL_targets_287 : decode cL_targets 287 = .ok (.bipush 6, 2) := by decide +kernel
theorem dL_targets_289 : decode cL_targets 289 = .ok (.invokevirtual 30, 3) := by decide +kernel
theorem dL_targets_292 : decode cL_targets 292 = .ok (.iload 8, 2) := by decide +kernel
theorem dL_targets_294 : decode cL_targets 294 = .ok (.if_icmp .eq 5, 3) := by decide +kernel
theorem dL_targets_297 : decode cL_targets 297 = .ok (.iconst 0, 1) := by decide +kernel
theorem dL_targets_298 : decode cL_targets 298 = .ok (.ireturn, 1) := by decide +kernel
theorem dL_targets_299 : decode cL_targets 299 = .ok (.iinc 6 1, 3) := by decide +kernel
theorem dL_targets_302 : decode cL_targets 302 = .ok (.goto (-285), 3) := by decide +kernel
theorem dL_targets_305 : decode cL_targets 305 = .ok (.iconst (-1), 1) := by decide +kernel
theorem dL_targets_306 : decode cL_targets 306 = .ok (.istore 6, 2) := by decide +kernel
theorem dL_targets_308 : decode cL_targets 308 = .ok (.iconst 0, 1) := by decide +kernel
theorem dL_targets_309 : decode cL_targets 309 = .ok (.istore 7, 2) := by decide +kernel
theorem dL_targets_311 : decode cL_targets 311 = .ok (.iload 7, 2) := by decide +kernel
theorem dL_targets_313 : decode cL_targets 313 = .ok (.iload 4, 2) := by decide +kernel
theorem dL_targets_315 : decode cL_targets 315 = .ok (.if_icmp .ge 163, 3) := by decide +kernel
theorem dL_targets_318 : decode cL_targets 318 = .ok (.iconst 3, 1) := by decide +kernel
theorem dL_targets_319 : decode cL_targets 319 = .ok (.aload_n 3, 1) := by decide +kernel
theorem dL_targets_320 : decode cL_targets 320 = .ok (.bipush 6, 2) := by decide +kernel
theorem dL_targets_322 : decode cL_targets 322 = .ok (.iaload, 1) := by decide +kernel
theorem dL_targets_323 : decode cL_targets 323 = .ok (.iload 7, 2) := by decide +kernel
theorem dL_targets_325 : decode cL_targets 325 = .ok (.iadd, 1) := by decide +kernel
theorem dL_targets_326 : decode cL_targets 326 = .ok (.imul, 1) := by decide +kernel
theorem dL_targets_327 : decode cL_targets 327 = .ok (.istore 8, 2) := by decide +kernel
theorem dL_targets_329 : decode cL_targets 329 = .ok (.aload_n 0, 1) := by decide +kernel
theorem dL_targets_330 : decode cL_targets 330 = .ok (.iload 7, 2) := by decide +kernel
theorem dL_targets_332 : decode cL_targets 332 = .ok (.iconst 2, 1) := by decide +kernel
theorem dL_targets_333 : decode cL_targets 333 = .ok (.invokevirtual 24, 3) := by decide +kernel
theorem dL_targets_336 : decode cL_targets 336 = .ok (.istore 9, 2) := by decide +kernel
theorem dL_targets_338 : decode cL_targets 338 = .ok (.aload_n 0, 1) := by decide +kernel
theorem dL_targets_339 : decode cL_targets 339 = .ok (.iload 7, 2) := by decide +kernel
theorem dL_targets_341 : decode cL_targets 341 = .ok (.iconst 3, 1) := by decide +kernel
theorem dL_targets_342 : decode cL_targets 342 = .ok (.invokevirtual 24, 3) := by decide +kernel
theorem dL_targets_345 : decode cL_targets 345 = .ok (.istore 10, 2) := by decide +kernel
theorem dL_targets_347 : decode cL_targets 347 = .ok (.iload 9, 2) := by decide +kernel
theorem dL_targets_349 : decode cL_targets 349 = .ok (.ifCond .lt 111, 3) := by decide +kernel
theorem dL_targets_352 : decode cL_targets 352 = .ok (.iload 10, 2) := by decide +kernel
theorem dL_targets_354 : decode cL_targets 354 = .ok (.aload_n 3, 1) := by decide +kernel
theorem dL_targets_355 : decode cL_targets 355 = .ok (.bipush 6, 2) := by decide +kernel
theorem dL_targets_357 : decode cL_targets 357 = .ok (.iaload, 1) := by decide +kernel
theorem dL_targets_358 : decode cL_targets 358 = .ok (.if_icmp .ge 102, 3) := by decide +kernel
theorem dL_targets_361 : decode cL_targets 361 = .ok (.iload 9, 2) := by decide +kernel
theorem dL_targets_363 : decode cL_targets 363 = .ok (.iload 10, 2) := by decide +kernel
theorem dL_targets_365 : decode cL_targets 365 = .ok (.if_icmp .ge 95, 3) := by decide +kernel
theorem dL_targets_368 : decode cL_targets 368 = .ok (.bipush 6, 2) := by decide +kernel
theorem dL_targets_370 : decode cL_targets 370 = .ok (.iload 9, 2) := by decide +kernel
theorem dL_targets_372 : decode cL_targets 372 = .ok (.imul, 1) := by decide +kernel
theorem dL_targets_373 : decode cL_targets 373 = .ok (.iload 10, 2) := by decide +kernel
theorem dL_targets_375 : decode cL_targets 375 = .ok (.iadd, 1) := by decide +kernel
theorem dL_targets_376 : decode cL_targets 376 = .ok (.iload 6, 2) := by decide +kernel
theorem dL_targets_378 : decode cL_targets 378 = .ok (.if_icmp .le 82, 3) := by decide +kernel
theorem dL_targets_381 : decode cL_targets 381 = .ok (.aload_n 1, 1) := by decide +kernel
theorem dL_targets_382 : decode cL_targets 382 = .ok (.iconst 4, 1) := by decide +kernel
theorem dL_targets_383 : decode cL_targets 383 = .ok (.iload 9, 2) := by decide +kernel
theorem dL_targets_385 : decode cL_targets 385 = .ok (.imul, 1) := by decide +kernel
theorem dL_targets_386 : decode cL_targets 386 = .ok (.iconst 3, 1) := by decide +kernel
theorem dL_targets_387 : decode cL_targets 387 = .ok (.iadd, 1) := by decide +kernel
theorem dL_targets_388 : decode cL_targets 388 = .ok (.iaload, 1) := by decide +kernel
theorem dL_targets_389 : decode cL_targets 389 = .ok (.aload_n 1, 1) := by decide +kernel
theorem dL_targets_390 : decode cL_targets 390 = .ok (.iconst 4, 1) := by decide +kernel
theorem dL_targets_391 : decode cL_targets 391 = .ok (.iload 10, 2) := by decide +kernel
theorem dL_targets_393 : decode cL_targets 393 = .ok (.imul, 1) := by decide +kernel
theorem dL_targets_394 : decode cL_targets 394 = .ok (.iconst 3, 1) := by decide +kernel
theorem dL_targets_395 : decode cL_targets 395 = .ok (.iadd, 1) := by decide +kernel
theorem dL_targets_396 : decode cL_targets 396 = .ok (.iaload, 1) := by decide +kernel
theorem dL_targets_397 : decode cL_targets 397 = .ok (.iadd, 1) := by decide +kernel
theorem dL_targets_398 : decode cL_targets 398 = .ok (.iconst 2, 1) := by decide +kernel
theorem dL_targets_399 : decode cL_targets 399 = .ok (.if_icmp .ne 61, 3) := by decide +kernel
theorem dL_targets_402 : decode cL_targets 402 = .ok (.aload_n 0, 1) := by decide +kernel
theorem dL_targets_403 : decode cL_targets 403 = .ok (.iload 7, 2) := by decide +kernel
theorem dL_targets_405 : decode cL_targets 405 = .ok (.iconst 0, 1) := by decide +kernel
theorem dL_targets_406 : decode cL_targets 406 = .ok (.invokevirtual 24, 3) := by decide +kernel
theorem dL_targets_409 : decode cL_targets 409 = .ok (.aload_n 2, 1) := by decide +kernel
theorem dL_targets_410 : decode cL_targets 410 = .ok (.iload 8, 2) := by decide +kernel
theorem dL_targets_412 : decode cL_targets 412 = .ok (.iaload, 1) := by decide +kernel
theorem dL_targets_413 : decode cL_targets 413 = .ok (.if_icmp .ne 47, 3) := by decide +kernel
theorem dL_targets_416 : decode cL_targets 416 = .ok (.aload_n 0, 1) := by decide +kernel
theorem dL_targets_417 : decode cL_targets 417 = .ok (.iload 7, 2) := by decide +kernel
theorem dL_targets_419 : decode cL_targets 419 = .ok (.iconst 1, 1) := by decide +kernel
theorem dL_targets_420 : decode cL_targets 420 = .ok (.invokevirtual 24, 3) := by decide +kernel
theorem dL_targets_423 : decode cL_targets 423 = .ok (.aload_n 2, 1) := by decide +kernel
theorem dL_targets_424 : decode cL_targets 424 = .ok (.iload 8, 2) := by decide +kernel
theorem dL_targets_426 : decode cL_targets 426 = .ok (.iconst 1, 1) := by decide +kernel
theorem dL_targets_427 : decode cL_targets 427 = .ok (.iadd, 1) := by decide +kernel
theorem dL_targets_428 : decode cL_targets 428 = .ok (.iaload, 1) := by decide +kernel
theorem dL_targets_429 : decode cL_targets 429 = .ok (.if_icmp .ne 31, 3) := by decide +kernel
theorem dL_targets_432 : decode cL_targets 432 = .ok (.aload_n 0, 1) := by decide +kernel
theorem dL_targets_433 : decode cL_targets 433 = .ok (.iload 7, 2) := by decide +kernel
theorem dL_targets_435 : decode cL_targets 435 = .ok (.iconst 4, 1) := by decide +kernel
theorem dL_targets_436 : decode cL_targets 436 = .ok (.invokevirtual 24, 3) := by decide +kernel
theorem dL_targets_439 : decode cL_targets 439 = .ok (.aload_n 2, 1) := by decide +kernel
theorem dL_targets_440 : decode cL_targets 440 = .ok (.aload_n 3, 1) := by decide +kernel
theorem dL_targets_441 : decode cL_targets 441 = .ok (.aload_n 2, 1) := by decide +kernel
theorem dL_targets_442 : decode cL_targets 442 = .ok (.iload 8, 2) := by decide +kernel
theorem dL_targets_444 : decode cL_targets 444 = .ok (.iaload, 1) := by decide +kernel
theorem dL_targets_445 : decode cL_targets 445 = .ok (.iconst 0, 1) := by decide +kernel
theorem dL_targets_446 : decode cL_targets 446 = .ok (.invokestatic 33, 3) := by decide +kernel
theorem dL_targets_449 : decode cL_targets 449 = .ok (.ifCond .le 7, 3) := by decide +kernel
theorem dL_targets_452 : decode cL_targets 452 = .ok (.iconst 1, 1) := by decide +kernel
theorem dL_targets_453 : decode cL_targets 453 = .ok (.goto 4, 3) := by decide +kernel
theorem dL_targets_456 : decode cL_targets 456 = .ok (.iconst 0, 1) := by decide +kernel
theorem dL_targets_457 : decode cL_targets 457 = .ok (.if_icmp .eq 5, 3) := by decide +kernel
theorem dL_targets_460 : decode cL_targets 460 = .ok (.iconst 0, 1) := by decide +kernel
theorem dL_targets_461 : decode cL_targets 461 = .ok (.ireturn, 1) := by decide +kernel
theorem dL_targets_462 : decode cL_targets 462 = .ok (.bipush 6, 2) := by decide +kernel
theorem dL_targets_464 : decode cL_targets 464 = .ok (.iload 9, 2) := by decide +kernel
theorem dL_targets_466 : decode cL_targets 466 = .ok (.imul, 1) := by decide +kernel
theorem dL_targets_467 : decode cL_targets 467 = .ok (.iload 10, 2) := by decide +kernel
theorem dL_targets_469 : decode cL_targets 469 = .ok (.iadd, 1) := by decide +kernel
theorem dL_targets_470 : decode cL_targets 470 = .ok (.istore 6, 2) := by decide +kernel
theorem dL_targets_472 : decode cL_targets 472 = .ok (.iinc 7 1, 3) := by decide +kernel
theorem dL_targets_475 : decode cL_targets 475 = .ok (.goto (-164), 3) := by decide +kernel
theorem dL_targets_478 : decode cL_targets 478 = .ok (.aload_n 0, 1) := by decide +kernel
theorem dL_targets_479 : decode cL_targets 479 = .ok (.iload 4, 2) := by decide +kernel
theorem dL_targets_481 : decode cL_targets 481 = .ok (.iconst 0, 1) := by decide +kernel
theorem dL_targets_482 : decode cL_targets 482 = .ok (.invokevirtual 24, 3) := by decide +kernel
theorem dL_targets_485 : decode cL_targets 485 = .ok (.bipush (-4), 2) := by decide +kernel
theorem dL_targets_487 : decode cL_targets 487 = .ok (.if_icmp .ne 88, 3) := by decide +kernel
theorem dL_targets_490 : decode cL_targets 490 = .ok (.aload_n 0, 1) := by decide +kernel
theorem dL_targets_491 : decode cL_targets 491 = .ok (.iconst 0, 1) := by decide +kernel
theorem dL_targets_492 : decode cL_targets 492 = .ok (.invokevirtual 37, 3) := by decide +kernel
theorem dL_targets_495 : decode cL_targets 495 = .ok (.aload_n 3, 1) := by decide +kernel
theorem dL_targets_496 : decode cL_targets 496 = .ok (.bipush 6, 2) := by decide +kernel
theorem dL_targets_498 : decode cL_targets 498 = .ok (.iaload, 1) := by decide +kernel
theorem dL_targets_499 : decode cL_targets 499 = .ok (.if_icmp .ne 76, 3) := by decide +kernel
theorem dL_targets_502 : decode cL_targets 502 = .ok (.aload_n 0, 1) := by decide +kernel
theorem dL_targets_503 : decode cL_targets 503 = .ok (.iconst 1, 1) := by decide +kernel
theorem dL_targets_504 : decode cL_targets 504 = .ok (.invokevirtual 37, 3) := by decide +kernel
theorem dL_targets_507 : decode cL_targets 507 = .ok (.iload 5, 2) := by decide +kernel
theorem dL_targets_509 : decode cL_targets 509 = .ok (.if_icmp .ne 66, 3) := by decide +kernel
theorem dL_targets_512 : decode cL_targets 512 = .ok (.aload_n 0, 1) := by decide +kernel
theorem dL_targets_513 : decode cL_targets 513 = .ok (.iconst 2, 1) := by decide +kernel
theorem dL_targets_514 : decode cL_targets 514 = .ok (.invokevirtual 37, 3) := by decide +kernel
theorem dL_targets_517 : decode cL_targets 517 = .ok (.iload 4, 2) := by decide +kernel
theorem dL_targets_519 : decode cL_targets 519 = .ok (.if_icmp .ne 56, 3) := by decide +kernel
theorem dL_targets_522 : decode cL_targets 522 = .ok (.aload_n 0, 1) := by decide +kernel
theorem dL_targets_523 : decode cL_targets 523 = .ok (.iconst 3, 1) := by decide +kernel
theorem dL_targets_524 : decode cL_targets 524 = .ok (.invokevirtual 37, 3) := by decide +kernel
theorem dL_targets_527 : decode cL_targets 527 = .ok (.aload_n 3, 1) := by decide +kernel
theorem dL_targets_528 : decode cL_targets 528 = .ok (.bipush 7, 2) := by decide +kernel
theorem dL_targets_530 : decode cL_targets 530 = .ok (.iaload, 1) := by decide +kernel
theorem dL_targets_531 : decode cL_targets 531 = .ok (.if_icmp .ne 44, 3) := by decide +kernel
theorem dL_targets_534 : decode cL_targets 534 = .ok (.aload_n 0, 1) := by decide +kernel
theorem dL_targets_535 : decode cL_targets 535 = .ok (.bipush 14, 2) := by decide +kernel
theorem dL_targets_537 : decode cL_targets 537 = .ok (.invokevirtual 37, 3) := by decide +kernel
theorem dL_targets_540 : decode cL_targets 540 = .ok (.aload_n 3, 1) := by decide +kernel
theorem dL_targets_541 : decode cL_targets 541 = .ok (.iconst 4, 1) := by decide +kernel
theorem dL_targets_542 : decode cL_targets 542 = .ok (.iaload, 1) := by decide +kernel
theorem dL_targets_543 : decode cL_targets 543 = .ok (.if_icmp .ne 32, 3) := by decide +kernel
theorem dL_targets_546 : decode cL_targets 546 = .ok (.aload_n 0, 1) := by decide +kernel
theorem dL_targets_547 : decode cL_targets 547 = .ok (.bipush 15, 2) := by decide +kernel
theorem dL_targets_549 : decode cL_targets 549 = .ok (.invokevirtual 37, 3) := by decide +kernel
theorem dL_targets_552 : decode cL_targets 552 = .ok (.aload_n 3, 1) := by decide +kernel
theorem dL_targets_553 : decode cL_targets 553 = .ok (.iconst 5, 1) := by decide +kernel
theorem dL_targets_554 : decode cL_targets 554 = .ok (.iaload, 1) := by decide +kernel
theorem dL_targets_555 : decode cL_targets 555 = .ok (.if_icmp .ne 20, 3) := by decide +kernel
theorem dL_targets_558 : decode cL_targets 558 = .ok (.aload_n 0, 1) := by decide +kernel
theorem dL_targets_559 : decode cL_targets 559 = .ok (.aload_n 3, 1) := by decide +kernel
theorem dL_targets_560 : decode cL_targets 560 = .ok (.bipush 6, 2) := by decide +kernel
theorem dL_targets_562 : decode cL_targets 562 = .ok (.iaload, 1) := by decide +kernel
theorem dL_targets_563 : decode cL_targets 563 = .ok (.iconst 0, 1) := by decide +kernel
theorem dL_targets_564 : decode cL_targets 564 = .ok (.invokevirtual 30, 3) := by decide +kernel
theorem dL_targets_567 : decode cL_targets 567 = .ok (.iconst (-1), 1) := by decide +kernel
theorem dL_targets_568 : decode cL_targets 568 = .ok (.if_icmp .ne 7, 3) := by decide +kernel
theorem dL_targets_571 : decode cL_targets 571 = .ok (.iconst 1, 1) := by decide +kernel
theorem dL_targets_572 : decode cL_targets 572 = .ok (.goto 4, 3) := by decide +kernel
theorem dL_targets_575 : decode cL_targets 575 = .ok (.iconst 0, 1) := by decide +kernel
theorem dL_targets_576 : decode cL_targets 576 = .ok (.ireturn, 1) := by decide +kernel
theorem dL_echoes_0 : decode cL_echoes 0 = .ok (.iconst 0, 1) := by decide +kernel
theorem dL_echoes_1 : decode cL_echoes 1 = .ok (.istore_n 3, 1) := by decide +kernel
theorem dL_echoes_2 : decode cL_echoes 2 = .ok (.iconst 0, 1) := by decide +kernel
theorem dL_echoes_3 : decode cL_echoes 3 = .ok (.istore 4, 2) := by decide +kernel
theorem dL_echoes_5 : decode cL_echoes 5 = .ok (.iconst 0, 1) := by decide +kernel
theorem dL_echoes_6 : decode cL_echoes 6 = .ok (.istore 5, 2) := by decide +kernel
theorem dL_echoes_8 : decode cL_echoes 8 = .ok (.iconst 0, 1) := by decide +kernel
theorem dL_echoes_9 : decode cL_echoes 9 = .ok (.istore 6, 2) := by decide +kernel
theorem dL_echoes_11 : decode cL_echoes 11 = .ok (.iload 6, 2) := by decide +kernel
theorem dL_echoes_13 : decode cL_echoes 13 = .ok (.aload_n 2, 1) := by decide +kernel
theorem dL_echoes_14 : decode cL_echoes 14 = .ok (.bipush 7, 2) := by decide +kernel
theorem dL_echoes_16 : decode cL_echoes 16 = .ok (.iaload, 1) := by decide +kernel
theorem dL_echoes_17 : decode cL_echoes 17 = .ok (.if_icmp .ge 243, 3) := by decide +kernel
theorem dL_echoes_20 : decode cL_echoes 20 = .ok (.iconst 0, 1) := by decide +kernel
theorem dL_echoes_21 : decode cL_echoes 21 = .ok (.istore 7, 2) := by decide +kernel
theorem dL_echoes_23 : decode cL_echoes 23 = .ok (.iconst 0, 1) := by decide +kernel
theorem dL_echoes_24 : decode cL_echoes 24 = .ok (.istore 8, 2) := by decide +kernel
theorem dL_echoes_26 : decode cL_echoes 26 = .ok (.iload 8, 2) := by decide +kernel
theorem dL_echoes_28 : decode cL_echoes 28 = .ok (.aload_n 2, 1) := by decide +kernel
theorem dL_echoes_29 : decode cL_echoes 29 = .ok (.iload 6, 2) := by decide +kernel
theorem dL_echoes_31 : decode cL_echoes 31 = .ok (.iaload, 1) := by decide +kernel
theorem dL_echoes_32 : decode cL_echoes 32 = .ok (.if_icmp .ge 118, 3) := by decide +kernel
theorem dL_echoes_35 : decode cL_echoes 35 = .ok (.bipush (-5), 2) := by decide +kernel
theorem dL_echoes_37 : decode cL_echoes 37 = .ok (.istore 9, 2) := by decide +kernel
theorem dL_echoes_39 : decode cL_echoes 39 = .ok (.iload 9, 2) := by decide +kernel
theorem dL_echoes_41 : decode cL_echoes 41 = .ok (.bipush 6, 2) := by decide +kernel
theorem dL_echoes_43 : decode cL_echoes 43 = .ok (.if_icmp .ge 101, 3) := by decide +kernel
theorem dL_echoes_46 : decode cL_echoes 46 = .ok (.aload_n 1, 1) := by decide +kernel
theorem dL_echoes_47 : decode cL_echoes 47 = .ok (.aload_n 2, 1) := by decide +kernel
theorem dL_echoes_48 : decode cL_echoes 48 = .ok (.iload 6, 2) := by decide +kernel
theorem dL_echoes_50 : decode cL_echoes 50 = .ok (.iload 8, 2) := by decide +kernel
theorem dL_echoes_52 : decode cL_echoes 52 = .ok (.iload 9, 2) := by decide +kernel
theorem dL_echoes_54 : decode cL_echoes 54 = .ok (.iconst 0, 1) := by decide +kernel
theorem dL_echoes_55 : decode cL_echoes 55 = .ok (.invokestatic 16, 3) := by decide +kernel
theorem dL_echoes_58 : decode cL_echoes 58 = .ok (.istore 10, 2) := by decide +kernel
theorem dL_echoes_60 : decode cL_echoes 60 = .ok (.iload 10, 2) := by decide +kernel
theorem dL_echoes_62 : decode cL_echoes 62 = .ok (.ifCond .le 76, 3) := by decide +kernel
theorem dL_echoes_65 : decode cL_echoes 65 = .ok (.aload_n 0, 1) := by decide +kernel
theorem dL_echoes_66 : decode cL_echoes 66 = .ok (.iload 6, 2) := by decide +kernel
theorem dL_echoes_68 : decode cL_echoes 68 = .ok (.iload 7, 2) := by decide +kernel
theorem dL_echoes_70 : decode cL_echoes 70 = .ok (.iconst 0, 1) := by decide +kernel
theorem dL_echoes_71 : decode cL_echoes 71 = .ok (.invokevirtual 41, 3) := by decide +kernel
theorem dL_echoes_74 : decode cL_echoes 74 = .ok (.iload 8, 2) := by decide +kernel
theorem dL_echoes_76 : decode cL_echoes 76 = .ok (.if_icmp .ne 57, 3) := by decide +kernel
theorem dL_echoes_79 : decode cL_echoes 79 = .ok (.aload_n 0, 1) := by decide +kernel
theorem dL_echoes_80 : decode cL_echoes 80 = .ok (.iload 6, 2) := by decide +kernel
theorem dL_echoes_82 : decode cL_echoes 82 = .ok (.iload 7, 2) := by decide +kernel
theorem dL_echoes_84 : decode cL_echoes 84 = .ok (.iconst 1, 1) := by decide +kernel
theorem dL_echoes_85 : decode cL_echoes 85 = .ok (.invokevirtual 41, 3) := by decide +kernel
theorem dL_echoes_88 : decode cL_echoes 88 = .ok (.iload 9, 2) := by decide +kernel
theorem dL_echoes_90 : decode cL_echoes 90 = .ok (.iconst 5, 1) := by decide +kernel
theorem dL_echoes_91 : decode cL_echoes 91 = .ok (.iadd, 1) := by decide +kernel
theorem dL_echoes_92 : decode cL_echoes 92 = .ok (.if_icmp .ne 41, 3) := by decide +kernel
theorem dL_echoes_95 : decode cL_echoes 95 = .ok (.aload_n 0, 1) := by decide +kernel
theorem dL_echoes_96 : decode cL_echoes 96 = .ok (.iload 6, 2) := by decide +kernel
theorem dL_echoes_98 : decode cL_echoes 98 = .ok (.iload 7, 2) := by decide +kernel
theorem dL_echoes_100 : decode cL_echoes 100 = .ok (.iconst 2, 1) := by decide +kernel
theorem dL_echoes_101 : decode cL_echoes 101 = .ok (.invokevirtual 41, 3) := by decide +kernel
theorem dL_echoes_104 : decode cL_echoes 104 = .ok (.iload 10, 2) := by decide +kernel
theorem dL_echoes_106 : decode cL_echoes 106 = .ok (.if_icmp .ne 27, 3) := by decide +kernel
theorem dL_echoes_109 : decode cL_echoes 109 = .ok (.aload_n 0, 1) := by decide +kernel
theorem dL_echoes_110 : decode cL_echoes 110 = .ok (.iload 6, 2) := by decide +kernel
theorem dL_echoes_112 : decode cL_echoes 112 = .ok (.iload 7, 2) := by decide +kernel
theorem dL_echoes_114 : decode cL_echoes 114 = .ok (.iconst 3, 1) := by decide +kernel
theorem dL_echoes_115 : decode cL_echoes 115 = .ok (.invokevirtual 41, 3) := by decide +kernel
theorem dL_echoes_118 : decode cL_echoes 118 = .ok (.aload_n 1, 1) := by decide +kernel
theorem dL_echoes_119 : decode cL_echoes 119 = .ok (.aload_n 2, 1) := by decide +kernel
theorem dL_echoes_120 : decode cL_echoes 120 = .ok (.iload 6, 2) := by decide +kernel
theorem dL_echoes_122 : decode cL_echoes 122 = .ok (.iload 8, 2) := by decide +kernel
theorem dL_echoes_124 : decode cL_echoes 124 = .ok (.iload 9, 2) := by decide +kernel
theorem dL_echoes_126 : decode cL_echoes 126 = .ok (.iconst 1, 1) := by decide +kernel
theorem dL_echoes_127 : decode cL_echoes 127 = .ok (.invokestatic 16, 3) := by decide +kernel
theorem dL_echoes_130 : decode cL_echoes 130 = .ok (.if_icmp .eq 5, 3) := by decide +kernel
theorem dL_echoes_133 : decode cL_echoes 133 = .ok (.iconst 0, 1) := by decide +kernel
theorem dL_echoes_134 : decode cL_echoes 134 = .ok (.ireturn, 1) := by decide +kernel
theorem dL_echoes_135 : decode cL_echoes 135 = .ok (.iinc 7 1, 3) := by decide +kernel
theorem dL_echoes_138 : decode cL_echoes 138 = .ok (.iinc 9 1, 3) := by decide +kernel
theorem dL_echoes_141 : decode cL_echoes 141 = .ok (.goto (-102), 3) := by decide +kernel
theorem dL_echoes_144 : decode cL_echoes 144 = .ok (.iinc 8 1, 3) := by decide +kernel
theorem dL_echoes_147 : decode cL_echoes 147 = .ok (.goto (-121), 3) := by decide +kernel
theorem dL_echoes_150 : decode cL_echoes 150 = .ok (.iload_n 3, 1) := by decide +kernel
theorem dL_echoes_151 : decode cL_echoes 151 = .ok (.iload 7, 2) := by decide +kernel
theorem dL_echoes_153 : decode cL_echoes 153 = .ok (.iadd, 1) := by decide +kernel
theorem dL_echoes_154 : decode cL_echoes 154 = .ok (.istore_n 3, 1) := by decide +kernel
theorem dL_echoes_155 : decode cL_echoes 155 = .ok (.iconst 0, 1) := by decide +kernel
theorem dL_echoes_156 : decode cL_echoes 156 = .ok (.istore 8, 2) := by decide +kernel
theorem dL_echoes_158 : decode cL_echoes 158 = .ok (.iload 8, 2) := by decide +kernel
theorem dL_echoes_160 : decode cL_echoes 160 = .ok (.aload_n 2, 1) := by decide +kernel
theorem dL_echoes_161 : decode cL_echoes 161 = .ok (.bipush 8, 2) := by decide +kernel
theorem dL_echoes_163 : decode cL_echoes 163 = .ok (.iaload, 1) := by decide +kernel
theorem dL_echoes_164 : decode cL_echoes 164 = .ok (.if_icmp .ge 59, 3) := by decide +kernel
theorem dL_echoes_167 : decode cL_echoes 167 = .ok (.iload 4, 2) := by decide +kernel
theorem dL_echoes_169 : decode cL_echoes 169 = .ok (.aload_n 1, 1) := by decide +kernel
theorem dL_echoes_170 : decode cL_echoes 170 = .ok (.iconst 3, 1) := by decide +kernel
theorem dL_echoes_171 : decode cL_echoes 171 = .ok (.iload 8, 2) := by decide +kernel
theorem dL_echoes_173 : decode cL_echoes 173 = .ok (.imul, 1) := by decide +kernel
theorem dL_echoes_174 : decode cL_echoes 174 = .ok (.iconst 1, 1) := by decide +kernel
theorem dL_echoes_175 : decode cL_echoes 175 = .ok (.iadd, 1) := by decide +kernel
theorem dL_echoes_176 : decode cL_echoes 176 = .ok (.iaload, 1) := by decide +kernel
theorem dL_echoes_177 : decode cL_echoes 177 = .ok (.aload_n 2, 1) := by decide +kernel
theorem dL_echoes_178 : decode cL_echoes 178 = .ok (.iconst 5, 1) := by decide +kernel
theorem dL_echoes_179 : decode cL_echoes 179 = .ok (.iaload, 1) := by decide +kernel
theorem dL_echoes_180 : decode cL_echoes 180 = .ok (.if_icmp .lt 33, 3) := by decide +kernel
theorem dL_echoes_183 : decode cL_echoes 183 = .ok (.aload_n 2, 1) := by decide +kernel
theorem dL_echoes_184 : decode cL_echoes 184 = .ok (.aload_n 1, 1) := by decide +kernel
theorem dL_echoes_185 : decode cL_echoes 185 = .ok (.iconst 3, 1) := by decide +kernel
theorem dL_echoes_186 : decode cL_echoes 186 = .ok (.iload 8, 2) := by decide +kernel
theorem dL_echoes_188 : decode cL_echoes 188 = .ok (.imul, 1) := by decide +kernel
theorem dL_echoes_189 : decode cL_echoes 189 = .ok (.iaload, 1) := by decide +kernel
theorem dL_echoes_190 : decode cL_echoes 190 = .ok (.aload_n 1, 1) := by decide +kernel
theorem dL_echoes_191 : decode cL_echoes 191 = .ok (.iconst 3, 1) := by decide +kernel
theorem dL_echoes_192 : decode cL_echoes 192 = .ok (.iload 8, 2) := by decide +kernel
theorem dL_echoes_194 : decode cL_echoes 194 = .ok (.imul, 1) := by decide +kernel
theorem dL_echoes_195 : decode cL_echoes 195 = .ok (.iconst 2, 1) := by decide +kernel
theorem dL_echoes_196 : decode cL_echoes 196 = .ok (.iadd, 1) := by decide +kernel
theorem dL_echoes_197 : decode cL_echoes 197 = .ok (.iaload, 1) := by decide +kernel
theorem dL_echoes_198 : decode cL_echoes 198 = .ok (.iload 6, 2) := by decide +kernel
theorem dL_echoes_200 : decode cL_echoes 200 = .ok (.invokestatic 10, 3) := by decide +kernel
theorem dL_echoes_203 : decode cL_echoes 203 = .ok (.aload_n 2, 1) := by decide +kernel
theorem dL_echoes_204 : decode cL_echoes 204 = .ok (.iconst 4, 1) := by decide +kernel
theorem dL_echoes_205 : decode cL_echoes 205 = .ok (.iaload, 1) := by decide +kernel
theorem dL_echoes_206 : decode cL_echoes 206 = .ok (.if_icmp .ge 7, 3) := by decide +kernel
theorem dL_echoes_209 : decode cL_echoes 209 = .ok (.iconst 1, 1) := by decide +kernel
theorem dL_echoes_210 : decode cL_echoes 210 = .ok (.goto 4, 3) := by decide +kernel
theorem dL_echoes_213 : decode cL_echoes 213 = .ok (.iconst 0, 1) := by decide +kernel
theorem dL_echoes_214 : decode cL_echoes 214 = .ok (.iadd, 1) := by decide +kernel
theorem dL_echoes_215 : decode cL_echoes 215 = .ok (.istore 4, 2) := by decide +kernel
theorem dL_echoes_217 : decode cL_echoes 217 = .ok (.iinc 8 1, 3) := by decide +kernel
theorem dL_echoes_220 : decode cL_echoes 220 = .ok (.goto (-62), 3) := by decide +kernel
theorem dL_echoes_223 : decode cL_echoes 223 = .ok (.aload_n 0, 1) := by decide +kernel
theorem dL_echoes_224 : decode cL_echoes 224 = .ok (.iload 6, 2) := by decide +kernel
theorem dL_echoes_226 : decode cL_echoes 226 = .ok (.iload 7, 2) := by decide +kernel
theorem dL_echoes_228 : decode cL_echoes 228 = .ok (.iconst 0, 1) := by decide +kernel
theorem dL_echoes_229 : decode cL_echoes 229 = .ok (.invokevirtual 41, 3) := by decide +kernel
theorem dL_echoes_232 : decode cL_echoes 232 = .ok (.bipush (-4), 2) := by decide +kernel
theorem dL_echoes_234 : decode cL_echoes 234 = .ok (.if_icmp .ne 18, 3) := by decide +kernel
theorem dL_echoes_237 : decode cL_echoes 237 = .ok (.aload_n 0, 1) := by decide +kernel
theorem dL_echoes_238 : decode cL_echoes 238 = .ok (.iconst 4, 1) := by decide +kernel
theorem dL_echoes_239 : decode cL_echoes 239 = .ok (.iload 6, 2) := by decide +kernel
theorem dL_echoes_241 : decode cL_echoes 241 = .ok (.iadd, 1) := by decide +kernel
theorem dL_echoes_242 : decode cL_echoes 242 = .ok (.invokevirtual 37, 3) := by decide +kernel
theorem dL_echoes_245 : decode cL_echoes 245 = .ok (.aload_n 2, 1) := by decide +kernel
theorem dL_echoes_246 : decode cL_echoes 246 = .ok (.iload 6, 2) := by decide +kernel
theorem dL_echoes_248 : decode cL_echoes 248 = .ok (.iaload, 1) := by decide +kernel
theorem dL_echoes_249 : decode cL_echoes 249 = .ok (.if_icmp .eq 5, 3) := by decide +kernel
theorem dL_echoes_252 : decode cL_echoes 252 = .ok (.iconst 0, 1) := by decide +kernel
theorem dL_echoes_253 : decode cL_echoes 253 = .ok (.ireturn, 1) := by decide +kernel
theorem dL_echoes_254 : decode cL_echoes 254 = .ok (.iinc 6 1, 3) := by decide +kernel
theorem dL_echoes_257 : decode cL_echoes 257 = .ok (.goto (-246), 3) := by decide +kernel
theorem dL_echoes_260 : decode cL_echoes 260 = .ok (.iconst 0, 1) := by decide +kernel
theorem dL_echoes_261 : decode cL_echoes 261 = .ok (.istore 6, 2) := by decide +kernel
theorem dL_echoes_263 : decode cL_echoes 263 = .ok (.iload 6, 2) := by decide +kernel
theorem dL_echoes_265 : decode cL_echoes 265 = .ok (.aload_n 2, 1) := by decide +kernel
theorem dL_echoes_266 : decode cL_echoes 266 = .ok (.bipush 8, 2) := by decide +kernel
theorem dL_echoes_268 : decode cL_echoes 268 = .ok (.iaload, 1) := by decide +kernel
theorem dL_echoes_269 : decode cL_echoes 269 = .ok (.if_icmp .ge 33, 3) := by decide +kernel
theorem dL_echoes_272 : decode cL_echoes 272 = .ok (.iload 5, 2) := by decide +kernel
theorem dL_echoes_274 : decode cL_echoes 274 = .ok (.aload_n 1, 1) := by decide +kernel
theorem dL_echoes_275 : decode cL_echoes 275 = .ok (.iconst 3, 1) := by decide +kernel
theorem dL_echoes_276 : decode cL_echoes 276 = .ok (.iload 6, 2) := by decide +kernel
theorem dL_echoes_278 : decode cL_echoes 278 = .ok (.imul, 1) := by decide +kernel
theorem dL_echoes_279 : decode cL_echoes 279 = .ok (.iconst 1, 1) := by decide +kernel
theorem dL_echoes_280 : decode cL_echoes 280 = .ok (.iadd, 1) := by decide +kernel
theorem dL_echoes_281 : decode cL_echoes 281 = .ok (.iaload, 1) := by decide +kernel
theorem dL_echoes_282 : decode cL_echoes 282 = .ok (.aload_n 2, 1) := by decide +kernel
theorem dL_echoes_283 : decode cL_echoes 283 = .ok (.iconst 5, 1) := by decide +kernel
theorem dL_echoes_284 : decode cL_echoes 284 = .ok (.iaload, 1) := by decide +kernel
theorem dL_echoes_285 : decode cL_echoes 285 = .ok (.if_icmp .ge 7, 3) := by decide +kernel
theorem dL_echoes_288 : decode cL_echoes 288 = .ok (.iconst 1, 1) := by decide +kernel
theorem dL_echoes_289 : decode cL_echoes 289 = .ok (.goto 4, 3) := by decide +kernel
theorem dL_echoes_292 : decode cL_echoes 292 = .ok (.iconst 0, 1) := by decide +kernel
theorem dL_echoes_293 : decode cL_echoes 293 = .ok (.iadd, 1) := by decide +kernel
theorem dL_echoes_294 : decode cL_echoes 294 = .ok (.istore 5, 2) := by decide +kernel
theorem dL_echoes_296 : decode cL_echoes 296 = .ok (.iinc 6 1, 3) := by decide +kernel
theorem dL_echoes_299 : decode cL_echoes 299 = .ok (.goto (-36), 3) := by decide +kernel
theorem dL_echoes_302 : decode cL_echoes 302 = .ok (.aload_n 0, 1) := by decide +kernel
theorem dL_echoes_303 : decode cL_echoes 303 = .ok (.bipush 8, 2) := by decide +kernel
theorem dL_echoes_305 : decode cL_echoes 305 = .ok (.invokevirtual 37, 3) := by decide +kernel
theorem dL_echoes_308 : decode cL_echoes 308 = .ok (.iload_n 3, 1) := by decide +kernel
theorem dL_echoes_309 : decode cL_echoes 309 = .ok (.if_icmp .ne 52, 3) := by decide +kernel
theorem dL_echoes_312 : decode cL_echoes 312 = .ok (.aload_n 0, 1) := by decide +kernel
theorem dL_echoes_313 : decode cL_echoes 313 = .ok (.bipush 9, 2) := by decide +kernel
theorem dL_echoes_315 : decode cL_echoes 315 = .ok (.invokevirtual 37, 3) := by decide +kernel
theorem dL_echoes_318 : decode cL_echoes 318 = .ok (.iload 4, 2) := by decide +kernel
theorem dL_echoes_320 : decode cL_echoes 320 = .ok (.if_icmp .ne 41, 3) := by decide +kernel
theorem dL_echoes_323 : decode cL_echoes 323 = .ok (.aload_n 0, 1) := by decide +kernel
theorem dL_echoes_324 : decode cL_echoes 324 = .ok (.bipush 10, 2) := by decide +kernel
theorem dL_echoes_326 : decode cL_echoes 326 = .ok (.invokevirtual 37, 3) := by decide +kernel
theorem dL_echoes_329 : decode cL_echoes 329 = .ok (.iload 5, 2) := by decide +kernel
theorem dL_echoes_331 : decode cL_echoes 331 = .ok (.if_icmp .ne 30, 3) := by decide +kernel
theorem dL_echoes_334 : decode cL_echoes 334 = .ok (.aload_n 2, 1) := by decide +kernel
theorem dL_echoes_335 : decode cL_echoes 335 = .ok (.bipush 7, 2) := by decide +kernel
theorem dL_echoes_337 : decode cL_echoes 337 = .ok (.iaload, 1) := by decide +kernel
theorem dL_echoes_338 : decode cL_echoes 338 = .ok (.iconst 4, 1) := by decide +kernel
theorem dL_echoes_339 : decode cL_echoes 339 = .ok (.if_icmp .eq 18, 3) := by decide +kernel
theorem dL_echoes_342 : decode cL_echoes 342 = .ok (.aload_n 0, 1) := by decide +kernel
theorem dL_echoes_343 : decode cL_echoes 343 = .ok (.iconst 4, 1) := by decide +kernel
theorem dL_echoes_344 : decode cL_echoes 344 = .ok (.aload_n 2, 1) := by decide +kernel
theorem dL_echoes_345 : decode cL_echoes 345 = .ok (.bipush 7, 2) := by decide +kernel
theorem dL_echoes_347 : decode cL_echoes 347 = .ok (.iaload, 1) := by decide +kernel
theorem dL_echoes_348 : decode cL_echoes 348 = .ok (.iadd, 1) := by decide +kernel
theorem dL_echoes_349 : decode cL_echoes 349 = .ok (.invokevirtual 37, 3) := by decide +kernel
theorem dL_echoes_352 : decode cL_echoes 352 = .ok (.bipush (-4), 2) := by decide +kernel
theorem dL_echoes_354 : decode cL_echoes 354 = .ok (.if_icmp .ne 7, 3) := by decide +kernel
theorem dL_echoes_357 : decode cL_echoes 357 = .ok (.iconst 1, 1) := by decide +kernel
theorem dL_echoes_358 : decode cL_echoes 358 = .ok (.goto 4, 3) := by decide +kernel
theorem dL_echoes_361 : decode cL_echoes 361 = .ok (.iconst 0, 1) := by decide +kernel
theorem dL_echoes_362 : decode cL_echoes 362 = .ok (.ireturn, 1) := by decide +kernel
theorem dL_distances_0 : decode cL_distances 0 = .ok (.iconst 0, 1) := by decide +kernel
theorem dL_distances_1 : decode cL_distances 1 = .ok (.istore_n 3, 1) := by decide +kernel
theorem dL_distances_2 : decode cL_distances 2 = .ok (.iconst 0, 1) := by decide +kernel
theorem dL_distances_3 : decode cL_distances 3 = .ok (.istore 4, 2) := by decide +kernel
theorem dL_distances_5 : decode cL_distances 5 = .ok (.iconst 0, 1) := by decide +kernel
theorem dL_distances_6 : decode cL_distances 6 = .ok (.istore 5, 2) := by decide +kernel
theorem dL_distances_8 : decode cL_distances 8 = .ok (.iconst 1, 1) := by decide +kernel
theorem dL_distances_9 : decode cL_distances 9 = .ok (.istore 6, 2) := by decide +kernel
theorem dL_distances_11 : decode cL_distances 11 = .ok (.iload 6, 2) := by decide +kernel
theorem dL_distances_13 : decode cL_distances 13 = .ok (.sipush 601, 3) := by decide +kernel
theorem dL_distances_16 : decode cL_distances 16 = .ok (.if_icmp .ge 133, 3) := by decide +kernel
theorem dL_distances_19 : decode cL_distances 19 = .ok (.bipush (-5), 2) := by decide +kernel
theorem dL_distances_21 : decode cL_distances 21 = .ok (.istore 7, 2) := by decide +kernel
theorem dL_distances_23 : decode cL_distances 23 = .ok (.iload 7, 2) := by decide +kernel
theorem dL_distances_25 : decode cL_distances 25 = .ok (.bipush 6, 2) := by decide +kernel
theorem dL_distances_27 : decode cL_distances 27 = .ok (.if_icmp .ge 116, 3) := by decide +kernel
theorem dL_distances_30 : decode cL_distances 30 = .ok (.aload_n 1, 1) := by decide +kernel
theorem dL_distances_31 : decode cL_distances 31 = .ok (.aload_n 2, 1) := by decide +kernel
theorem dL_distances_32 : decode cL_distances 32 = .ok (.iload 6, 2) := by decide +kernel
theorem dL_distances_34 : decode cL_distances 34 = .ok (.iload 7, 2) := by decide +kernel
theorem dL_distances_36 : decode cL_distances 36 = .ok (.invokestatic 33, 3) := by decide +kernel
theorem dL_distances_39 : decode cL_distances 39 = .ok (.istore 8, 2) := by decide +kernel
theorem dL_distances_41 : decode cL_distances 41 = .ok (.iload 8, 2) := by decide +kernel
theorem dL_distances_43 : decode cL_distances 43 = .ok (.ifCond .le 94, 3) := by decide +kernel
theorem dL_distances_46 : decode cL_distances 46 = .ok (.aload_n 1, 1) := by decide +kernel
theorem dL_distances_47 : decode cL_distances 47 = .ok (.aload_n 2, 1) := by decide +kernel
theorem dL_distances_48 : decode cL_distances 48 = .ok (.iload 6, 2) := by decide +kernel
theorem dL_distances_50 : decode cL_distances 50 = .ok (.iload 7, 2) := by decide +kernel
theorem dL_distances_52 : decode cL_distances 52 = .ok (.invokestatic 45, 3) := by decide +kernel
theorem dL_distances_55 : decode cL_distances 55 = .ok (.istore 9, 2) := by decide +kernel
theorem dL_distances_57 : decode cL_distances 57 = .ok (.iload_n 3, 1) := by decide +kernel
theorem dL_distances_58 : decode cL_distances 58 = .ok (.bipush 40, 2) := by decide +kernel
theorem dL_distances_60 : decode cL_distances 60 = .ok (.if_icmp .ge 59, 3) := by decide +kernel
theorem dL_distances_63 : decode cL_distances 63 = .ok (.aload_n 0, 1) := by decide +kernel
theorem dL_distances_64 : decode cL_distances 64 = .ok (.iload_n 3, 1) := by decide +kernel
theorem dL_distances_65 : decode cL_distances 65 = .ok (.iconst 0, 1) := by decide +kernel
theorem dL_distances_66 : decode cL_distances 66 = .ok (.invokevirtual 49, 3) := by decide +kernel
theorem dL_distances_69 : decode cL_distances 69 = .ok (.iload 6, 2) := by decide +kernel
theorem dL_distances_71 : decode cL_distances 71 = .ok (.if_icmp .ne 46, 3) := by decide +kernel
theorem dL_distances_74 : decode cL_distances 74 = .ok (.aload_n 0, 1) := by decide +kernel
theorem dL_distances_75 : decode cL_distances 75 = .ok (.iload_n 3, 1) := by decide +kernel
theorem dL_distances_76 : decode cL_distances 76 = .ok (.iconst 1, 1) := by decide +kernel
theorem dL_distances_77 : decode cL_distances 77 = .ok (.invokevirtual 49, 3) := by decide +kernel
theorem dL_distances_80 : decode cL_distances 80 = .ok (.iload 7, 2) := by decide +kernel
theorem dL_distances_82 : decode cL_distances 82 = .ok (.iconst 5, 1) := by decide +kernel
theorem dL_distances_83 : decode cL_distances 83 = .ok (.iadd, 1) := by decide +kernel
theorem dL_distances_84 : decode cL_distances 84 = .ok (.if_icmp .ne 33, 3) := by decide +kernel
theorem dL_distances_87 : decode cL_distances 87 = .ok (.aload_n 0, 1) := by decide +kernel
theorem dL_distances_88 : decode cL_distances 88 = .ok (.iload_n 3, 1) := by decide +kernel
theorem dL_distances_89 : decode cL_distances 89 = .ok (.iconst 2, 1) := by decide +kernel
theorem dL_distances_90 : decode cL_distances 90 = .ok (.invokevirtual 49, 3) := by decide +kernel
theorem dL_distances_93 : decode cL_distances 93 = .ok (.iload 9, 2) := by decide +kernel
theorem dL_distances_95 : decode cL_distances 95 = .ok (.ifCond .eq 7, 3) := by decide +kernel
theorem dL_distances_98 : decode cL_distances 98 = .ok (.iconst 1, 1) := by decide +kernel
theorem dL_distances_99 : decode cL_distances 99 = .ok (.goto 4, 3) := by decide +kernel
theorem dL_distances_102 : decode cL_distances 102 = .ok (.iconst 0, 1) := by decide +kernel
theorem dL_distances_103 : decode cL_distances 103 = .ok (.if_icmp .ne 14, 3) := by decide +kernel
theorem dL_distances_106 : decode cL_distances 106 = .ok (.aload_n 0, 1) := by decide +kernel
theorem dL_distances_107 : decode cL_distances 107 = .ok (.iload_n 3, 1) := by decide +kernel
theorem dL_distances_108 : decode cL_distances 108 = .ok (.iconst 3, 1) := by decide +kernel
theorem dL_distances_109 : decode cL_distances 109 = .ok (.invokevirtual 49, 3) := by decide +kernel
theorem dL_distances_112 : decode cL_distances 112 = .ok (.iload 8, 2) := by decide +kernel
theorem dL_distances_114 : decode cL_distances 114 = .ok (.if_icmp .eq 5, 3) := by decide +kernel
theorem dL_distances_117 : decode cL_distances 117 = .ok (.iconst 0, 1) := by decide +kernel
theorem dL_distances_118 : decode cL_distances 118 = .ok (.ireturn, 1) := by decide +kernel
theorem dL_distances_119 : decode cL_distances 119 = .ok (.iload 4, 2) := by decide +kernel
theorem dL_distances_121 : decode cL_distances 121 = .ok (.iload 9, 2) := by decide +kernel
theorem dL_distances_123 : decode cL_distances 123 = .ok (.ifCond .eq 7, 3) := by decide +kernel
theorem dL_distances_126 : decode cL_distances 126 = .ok (.iconst 0, 1) := by decide +kernel
theorem dL_distances_127 : decode cL_distances 127 = .ok (.goto 4, 3) := by decide +kernel
theorem dL_distances_130 : decode cL_distances 130 = .ok (.iconst 1, 1) := by decide +kernel
theorem dL_distances_131 : decode cL_distances 131 = .ok (.iadd, 1) := by decide +kernel
theorem dL_distances_132 : decode cL_distances 132 = .ok (.istore 4, 2) := by decide +kernel
theorem dL_distances_134 : decode cL_distances 134 = .ok (.iinc 3 1, 3) := by decide +kernel
theorem dL_distances_137 : decode cL_distances 137 = .ok (.iinc 7 1, 3) := by decide +kernel
theorem dL_distances_140 : decode cL_distances 140 = .ok (.goto (-117), 3) := by decide +kernel
theorem dL_distances_143 : decode cL_distances 143 = .ok (.iinc 6 1, 3) := by decide +kernel
theorem dL_distances_146 : decode cL_distances 146 = .ok (.goto (-135), 3) := by decide +kernel
theorem dL_distances_149 : decode cL_distances 149 = .ok (.iconst 0, 1) := by decide +kernel
theorem dL_distances_150 : decode cL_distances 150 = .ok (.istore 6, 2) := by decide +kernel
theorem dL_distances_152 : decode cL_distances 152 = .ok (.iload 6, 2) := by decide +kernel
theorem dL_distances_154 : decode cL_distances 154 = .ok (.aload_n 2, 1) := by decide +kernel
theorem dL_distances_155 : decode cL_distances 155 = .ok (.bipush 8, 2) := by decide +kernel
theorem dL_distances_157 : decode cL_distances 157 = .ok (.iaload, 1) := by decide +kernel
theorem dL_distances_158 : decode cL_distances 158 = .ok (.if_icmp .ge 41, 3) := by decide +kernel
theorem dL_distances_161 : decode cL_distances 161 = .ok (.iload 5, 2) := by decide +kernel
theorem dL_distances_163 : decode cL_distances 163 = .ok (.aload_n 1, 1) := by decide +kernel
theorem dL_distances_164 : decode cL_distances 164 = .ok (.aload_n 2, 1) := by decide +kernel
theorem dL_distances_165 : decode cL_distances 165 = .ok (.aload_n 1, 1) := by decide +kernel
theorem dL_distances_166 : decode cL_distances 166 = .ok (.iconst 3, 1) := by decide +kernel
theorem dL_distances_167 : decode cL_distances 167 = .ok (.iload 6, 2) := by decide +kernel
theorem dL_distances_169 : decode cL_distances 169 = .ok (.imul, 1) := by decide +kernel
theorem dL_distances_170 : decode cL_distances 170 = .ok (.iaload, 1) := by decide +kernel
theorem dL_distances_171 : decode cL_distances 171 = .ok (.aload_n 1, 1) := by decide +kernel
theorem dL_distances_172 : decode cL_distances 172 = .ok (.iconst 3, 1) := by decide +kernel
theorem dL_distances_173 : decode cL_distances 173 = .ok (.iload 6, 2) := by decide +kernel
theorem dL_distances_175 : decode cL_distances 175 = .ok (.imul, 1) := by decide +kernel
theorem dL_distances_176 : decode cL_distances 176 = .ok (.iconst 2, 1) := by decide +kernel
theorem dL_distances_177 : decode cL_distances 177 = .ok (.iadd, 1) := by decide +kernel
theorem dL_distances_178 : decode cL_distances 178 = .ok (.iaload, 1) := by decide +kernel
theorem dL_distances_179 : decode cL_distances 179 = .ok (.invokestatic 33, 3) := by decide +kernel
theorem dL_distances_182 : decode cL_distances 182 = .ok (.ifCond .le 7, 3) := by decide +kernel
theorem dL_distances_185 : decode cL_distances 185 = .ok (.iconst 0, 1) := by decide +kernel
theorem dL_distances_186 : decode cL_distances 186 = .ok (.goto 4, 3) := by decide +kernel
theorem dL_distances_189 : decode cL_distances 189 = .ok (.iconst 1, 1) := by decide +kernel
theorem dL_distances_190 : decode cL_distances 190 = .ok (.iadd, 1) := by decide +kernel
theorem dL_distances_191 : decode cL_distances 191 = .ok (.istore 5, 2) := by decide +kernel
theorem dL_distances_193 : decode cL_distances 193 = .ok (.iinc 6 1, 3) := by decide +kernel
theorem dL_distances_196 : decode cL_distances 196 = .ok (.goto (-44), 3) := by decide +kernel
theorem dL_distances_199 : decode cL_distances 199 = .ok (.iload_n 3, 1) := by decide +kernel
theorem dL_distances_200 : decode cL_distances 200 = .ok (.ifCond .ne 7, 3) := by decide +kernel
theorem dL_distances_203 : decode cL_distances 203 = .ok (.dconst 1, 1) := by decide +kernel
theorem dL_distances_204 : decode cL_distances 204 = .ok (.goto 11, 3) := by decide +kernel
theorem dL_distances_207 : decode cL_distances 207 = .ok (.iload_n 3, 1) := by decide +kernel
theorem dL_distances_208 : decode cL_distances 208 = .ok (.iload 4, 2) := by decide +kernel
theorem dL_distances_210 : decode cL_distances 210 = .ok (.isub, 1) := by decide +kernel
theorem dL_distances_211 : decode cL_distances 211 = .ok (.i2d, 1) := by decide +kernel
theorem dL_distances_212 : decode cL_distances 212 = .ok (.iload_n 3, 1) := by decide +kernel
theorem dL_distances_213 : decode cL_distances 213 = .ok (.i2d, 1) := by decide +kernel
theorem dL_distances_214 : decode cL_distances 214 = .ok (.ddiv, 1) := by decide +kernel
theorem dL_distances_215 : decode cL_distances 215 = .ok (.dstore 6, 2) := by decide +kernel
theorem dL_distances_217 : decode cL_distances 217 = .ok (.aload_n 0, 1) := by decide +kernel
theorem dL_distances_218 : decode cL_distances 218 = .ok (.bipush 11, 2) := by decide +kernel
theorem dL_distances_220 : decode cL_distances 220 = .ok (.invokevirtual 37, 3) := by decide +kernel
theorem dL_distances_223 : decode cL_distances 223 = .ok (.iload_n 3, 1) := by decide +kernel
theorem dL_distances_224 : decode cL_distances 224 = .ok (.if_icmp .ne 50, 3) := by decide +kernel
theorem dL_distances_227 : decode cL_distances 227 = .ok (.aload_n 0, 1) := by decide +kernel
theorem dL_distances_228 : decode cL_distances 228 = .ok (.bipush 12, 2) := by decide +kernel
theorem dL_distances_230 : decode cL_distances 230 = .ok (.invokevirtual 37, 3) := by decide +kernel
theorem dL_distances_233 : decode cL_distances 233 = .ok (.iload 4, 2) := by decide +kernel
theorem dL_distances_235 : decode cL_distances 235 = .ok (.if_icmp .ne 39, 3) := by decide +kernel
theorem dL_distances_238 : decode cL_distances 238 = .ok (.aload_n 0, 1) := by decide +kernel
theorem dL_distances_239 : decode cL_distances 239 = .ok (.bipush 13, 2) := by decide +kernel
theorem dL_distances_241 : decode cL_distances 241 = .ok (.invokevirtual 37, 3) := by decide +kernel
theorem dL_distances_244 : decode cL_distances 244 = .ok (.iload 5, 2) := by decide +kernel
theorem dL_distances_246 : decode cL_distances 246 = .ok (.if_icmp .ne 28, 3) := by decide +kernel
theorem dL_distances_249 : decode cL_distances 249 = .ok (.aload_n 0, 1) := by decide +kernel
theorem dL_distances_250 : decode cL_distances 250 = .ok (.invokevirtual 51, 3) := by decide +kernel
theorem dL_distances_253 : decode cL_distances 253 = .ok (.dload 6, 2) := by decide +kernel
theorem dL_distances_255 : decode cL_distances 255 = .ok (.dcmp .l, 1) := by decide +kernel
theorem dL_distances_256 : decode cL_distances 256 = .ok (.ifCond .ne 18, 3) := by decide +kernel
theorem dL_distances_259 : decode cL_distances 259 = .ok (.aload_n 0, 1) := by decide +kernel
theorem dL_distances_260 : decode cL_distances 260 = .ok (.iload_n 3, 1) := by decide +kernel
theorem dL_distances_261 : decode cL_distances 261 = .ok (.iconst 0, 1) := by decide +kernel
theorem dL_distances_262 : decode cL_distances 262 = .ok (.invokevirtual 49, 3) := by decide +kernel
theorem dL_distances_265 : decode cL_distances 265 = .ok (.bipush (-4), 2) := by decide +kernel
theorem dL_distances_267 : decode cL_distances 267 = .ok (.if_icmp .ne 7, 3) := by decide +kernel
theorem dL_distances_270 : decode cL_distances 270 = .ok (.iconst 1, 1) := by decide +kernel
theorem dL_distances_271 : decode cL_distances 271 = .ok (.goto 4, 3) := by decide +kernel
theorem dL_distances_274 : decode cL_distances 274 = .ok (.iconst 0, 1) := by decide +kernel
theorem dL_distances_275 : decode cL_distances 275 = .ok (.ireturn, 1) := by decide +kernel
theorem dL_numbers_0 : decode cL_numbers 0 = .ok (.iconst 1, 1) := by decide +kernel
theorem dL_numbers_1 : decode cL_numbers 1 = .ok (.istore_n 3, 1) := by decide +kernel
theorem dL_numbers_2 : decode cL_numbers 2 = .ok (.iconst 0, 1) := by decide +kernel
theorem dL_numbers_3 : decode cL_numbers 3 = .ok (.istore 4, 2) := by decide +kernel
theorem dL_numbers_5 : decode cL_numbers 5 = .ok (.iload 4, 2) := by decide +kernel
theorem dL_numbers_7 : decode cL_numbers 7 = .ok (.aload_n 1, 1) := by decide +kernel
theorem dL_numbers_8 : decode cL_numbers 8 = .ok (.bipush 7, 2) := by decide +kernel
theorem dL_numbers_10 : decode cL_numbers 10 = .ok (.iaload, 1) := by decide +kernel
theorem dL_numbers_11 : decode cL_numbers 11 = .ok (.if_icmp .ge 29, 3) := by decide +kernel
theorem dL_numbers_14 : decode cL_numbers 14 = .ok (.iload_n 3, 1) := by decide +kernel
theorem dL_numbers_15 : decode cL_numbers 15 = .ok (.istore 5, 2) := by decide +kernel
theorem dL_numbers_17 : decode cL_numbers 17 = .ok (.iload_n 3, 1) := by decide +kernel
theorem dL_numbers_18 : decode cL_numbers 18 = .ok (.aload_n 1, 1) := by decide +kernel
theorem dL_numbers_19 : decode cL_numbers 19 = .ok (.iload 4, 2) := by decide +kernel
theorem dL_numbers_21 : decode cL_numbers 21 = .ok (.iaload, 1) := by decide +kernel
theorem dL_numbers_22 : decode cL_numbers 22 = .ok (.irem, 1) := by decide +kernel
theorem dL_numbers_23 : decode cL_numbers 23 = .ok (.ifCond .eq 11, 3) := by decide +kernel
theorem dL_numbers_26 : decode cL_numbers 26 = .ok (.iload_n 3, 1) := by decide +kernel
theorem dL_numbers_27 : decode cL_numbers 27 = .ok (.iload 5, 2) := by decide +kernel
theorem dL_numbers_29 : decode cL_numbers 29 = .ok (.iadd, 1) := by decide +kernel
theorem dL_numbers_30 : decode cL_numbers 30 = .ok (.istore_n 3, 1) := by decide +kernel
theorem dL_numbers_31 : decode cL_numbers 31 = .ok (.goto (-14), 3) := by decide +kernel
theorem dL_numbers_34 : decode cL_numbers 34 = .ok (.iinc 4 1, 3) := by decide +kernel
theorem dL_numbers_37 : decode cL_numbers 37 = .ok (.goto (-32), 3) := by decide +kernel
theorem dL_numbers_40 : decode cL_numbers 40 = .ok (.iload_n 2, 1) := by decide +kernel
theorem dL_numbers_41 : decode cL_numbers 41 = .ok (.aload_n 1, 1) := by decide +kernel
theorem dL_numbers_42 : decode cL_numbers 42 = .ok (.iconst 0, 1) := by decide +kernel
theorem dL_numbers_43 : decode cL_numbers 43 = .ok (.iaload, 1) := by decide +kernel
theorem dL_numbers_44 : decode cL_numbers 44 = .ok (.invokestatic 55, 3) := by decide +kernel
theorem dL_numbers_47 : decode cL_numbers 47 = .ok (.istore 4, 2) := by decide +kernel
theorem dL_numbers_49 : decode cL_numbers 49 = .ok (.aload_n 1, 1) := by decide +kernel
theorem dL_numbers_50 : decode cL_numbers 50 = .ok (.bipush 7, 2) := by decide +kernel
theorem dL_numbers_52 : decode cL_numbers 52 = .ok (.iaload, 1) := by decide +kernel
theorem dL_numbers_53 : decode cL_numbers 53 = .ok (.iconst 1, 1) := by decide +kernel
theorem dL_numbers_54 : decode cL_numbers 54 = .ok (.if_icmp .le 16, 3) := by decide +kernel
theorem dL_numbers_57 : decode cL_numbers 57 = .ok (.iload_n 2, 1) := by decide +kernel
theorem dL_numbers_58 : decode cL_numbers 58 = .ok (.bipush 6, 2) := by decide +kernel
theorem dL_numbers_60 : decode cL_numbers 60 = .ok (.ishr, 1) := by decide +kernel
theorem dL_numbers_61 : decode cL_numbers 61 = .ok (.aload_n 1, 1) := by decide +kernel
theorem dL_numbers_62 : decode cL_numbers 62 = .ok (.iconst 1, 1) := by decide +kernel
theorem dL_numbers_63 : decode cL_numbers 63 = .ok (.iaload, 1) := by decide +kernel
theorem dL_numbers_64 : decode cL_numbers 64 = .ok (.invokestatic 55, 3) := by decide +kernel
theorem dL_numbers_67 : decode cL_numbers 67 = .ok (.goto 4, 3) := by decide +kernel
theorem dL_numbers_70 : decode cL_numbers 70 = .ok (.iconst 0, 1) := by decide +kernel
theorem dL_numbers_71 : decode cL_numbers 71 = .ok (.istore 5, 2) := by decide +kernel
theorem dL_numbers_73 : decode cL_numbers 73 = .ok (.bipush (-4), 2) := by decide +kernel
theorem dL_numbers_75 : decode cL_numbers 75 = .ok (.istore 6, 2) := by decide +kernel
theorem dL_numbers_77 : decode cL_numbers 77 = .ok (.sipush 2500, 3) := by decide +kernel
theorem dL_numbers_80 : decode cL_numbers 80 = .ok (.istore 7, 2) := by decide +kernel
theorem dL_numbers_82 : decode cL_numbers 82 = .ok (.iload 7, 2) := by decide +kernel
theorem dL_numbers_84 : decode cL_numbers 84 = .ok (.ifCond .lt 48, 3) := by decide +kernel
theorem dL_numbers_87 : decode cL_numbers 87 = .ok (.iload 7, 2) := by decide +kernel
theorem dL_numbers_89 : decode cL_numbers 89 = .ok (.aload_n 1, 1) := by decide +kernel
theorem dL_numbers_90 : decode cL_numbers 90 = .ok (.iconst 0, 1) := by decide +kernel
theorem dL_numbers_91 : decode cL_numbers 91 = .ok (.iaload, 1) := by decide +kernel
theorem dL_numbers_92 : decode cL_numbers 92 = .ok (.irem, 1) := by decide +kernel
theorem dL_numbers_93 : decode cL_numbers 93 = .ok (.iload 4, 2) := by decide +kernel
theorem dL_numbers_95 : decode cL_numbers 95 = .ok (.if_icmp .ne 27, 3) := by decide +kernel
theorem dL_numbers_98 : decode cL_numbers 98 = .ok (.aload_n 1, 1) := by decide +kernel
theorem dL_numbers_99 : decode cL_numbers 99 = .ok (.bipush 7, 2) := by decide +kernel
theorem dL_numbers_101 : decode cL_numbers 101 = .ok (.iaload, 1) := by decide +kernel
theorem dL_numbers_102 : decode cL_numbers 102 = .ok (.iconst 2, 1) := by decide +kernel
theorem dL_numbers_103 : decode cL_numbers 103 = .ok (.if_icmp .lt 14, 3) := by decide +kernel
theorem dL_numbers_106 : decode cL_numbers 106 = .ok (.iload 7, 2) := by decide +kernel
theorem dL_numbers_108 : decode cL_numbers 108 = .ok (.aload_n 1, 1) := by decide +kernel
theorem dL_numbers_109 : decode cL_numbers 109 = .ok (.iconst 1, 1) := by decide +kernel
theorem dL_numbers_110 : decode cL_numbers 110 = .ok (.iaload, 1) := by decide +kernel
theorem dL_numbers_111 : decode cL_numbers 111 = .ok (.irem, 1) := by decide +kernel
theorem dL_numbers_112 : decode cL_numbers 112 = .ok (.iload 5, 2) := by decide +kernel
theorem dL_numbers_114 : decode cL_numbers 114 = .ok (.if_icmp .ne 8, 3) := by decide +kernel
theorem dL_numbers_117 : decode cL_numbers 117 = .ok (.iload 7, 2) := by decide +kernel
theorem dL_numbers_119 : decode cL_numbers 119 = .ok (.goto 5, 3) := by decide +kernel
theorem dL_numbers_122 : decode cL_numbers 122 = .ok (.iload 6, 2) := by decide +kernel
theorem dL_numbers_124 : decode cL_numbers 124 = .ok (.istore 6, 2) := by decide +kernel
theorem dL_numbers_126 : decode cL_numbers 126 = .ok (.iinc 7 (-1), 3) := by decide +kernel
theorem dL_numbers_129 : decode cL_numbers 129 = .ok (.goto (-47), 3) := by decide +kernel
theorem dL_numbers_132 : decode cL_numbers 132 = .ok (.aload_n 0, 1) := by decide +kernel
theorem dL_numbers_133 : decode cL_numbers 133 = .ok (.iconst 0, 1) := by decide +kernel
theorem dL_numbers_134 : decode cL_numbers 134 = .ok (.invokevirtual 58, 3) := by decide +kernel
theorem dL_numbers_137 : decode cL_numbers 137 = .ok (.iload_n 3, 1) := by decide +kernel
theorem dL_numbers_138 : decode cL_numbers 138 = .ok (.if_icmp .ne 57, 3) := by decide +kernel
theorem dL_numbers_141 : decode cL_numbers 141 = .ok (.aload_n 0, 1) := by decide +kernel
theorem dL_numbers_142 : decode cL_numbers 142 = .ok (.iconst 1, 1) := by decide +kernel
theorem dL_numbers_143 : decode cL_numbers 143 = .ok (.invokevirtual 58, 3) := by decide +kernel
theorem dL_numbers_146 : decode cL_numbers 146 = .ok (.iload_n 3, 1) := by decide +kernel
theorem dL_numbers_147 : decode cL_numbers 147 = .ok (.if_icmp .ne 48, 3) := by decide +kernel
theorem dL_numbers_150 : decode cL_numbers 150 = .ok (.aload_n 0, 1) := by decide +kernel
theorem dL_numbers_151 : decode cL_numbers 151 = .ok (.iload 4, 2) := by decide +kernel
theorem dL_numbers_153 : decode cL_numbers 153 = .ok (.iload 5, 2) := by decide +kernel
theorem dL_numbers_155 : decode cL_numbers 155 = .ok (.iconst 0, 1) := by decide +kernel
theorem dL_numbers_156 : decode cL_numbers 156 = .ok (.invokevirtual 61, 3) := by decide +kernel
theorem dL_numbers_159 : decode cL_numbers 159 = .ok (.iload 6, 2) := by decide +kernel
theorem dL_numbers_161 : decode cL_numbers 161 = .ok (.if_icmp .ne 34, 3) := by decide +kernel
theorem dL_numbers_164 : decode cL_numbers 164 = .ok (.aload_n 0, 1) := by decide +kernel
theorem dL_numbers_165 : decode cL_numbers 165 = .ok (.iload 4, 2) := by decide +kernel
theorem dL_numbers_167 : decode cL_numbers 167 = .ok (.iload 5, 2) := by decide +kernel
theorem dL_numbers_169 : decode cL_numbers 169 = .ok (.iconst 1, 1) := by decide +kernel
theorem dL_numbers_170 : decode cL_numbers 170 = .ok (.invokevirtual 61, 3) := by decide +kernel
theorem dL_numbers_173 : decode cL_numbers 173 = .ok (.iload 6, 2) := by decide +kernel
theorem dL_numbers_175 : decode cL_numbers 175 = .ok (.if_icmp .ne 20, 3) := by decide +kernel
theorem dL_numbers_178 : decode cL_numbers 178 = .ok (.aload_n 0, 1) := by decide +kernel
theorem dL_numbers_179 : decode cL_numbers 179 = .ok (.aload_n 1, 1) := by decide +kernel
theorem dL_numbers_180 : decode cL_numbers 180 = .ok (.iconst 0, 1) := by decide +kernel
theorem dL_numbers_181 : decode cL_numbers 181 = .ok (.iaload, 1) := by decide +kernel
theorem dL_numbers_182 : decode cL_numbers 182 = .ok (.iconst 0, 1) := by decide +kernel
theorem dL_numbers_183 : decode cL_numbers 183 = .ok (.iconst 0, 1) := by decide +kernel
theorem dL_numbers_184 : decode cL_numbers 184 = .ok (.invokevirtual 61, 3) := by decide +kernel
theorem dL_numbers_187 : decode cL_numbers 187 = .ok (.iconst (-1), 1) := by decide +kernel
theorem dL_numbers_188 : decode cL_numbers 188 = .ok (.if_icmp .ne 7, 3) := by decide +kernel
theorem dL_numbers_191 : decode cL_numbers 191 = .ok (.iconst 1, 1) := by decide +kernel
theorem dL_numbers_192 : decode cL_numbers 192 = .ok (.goto 4, 3) := by decide +kernel
theorem dL_numbers_195 : decode cL_numbers 195 = .ok (.iconst 0, 1) := by decide +kernel
theorem dL_numbers_196 : decode cL_numbers 196 = .ok (.ireturn, 1) := by decide +kernel
theorem dL_cell_0 : decode cL_cell 0 = .ok (.iload_n 1, 1) := by decide +kernel
theorem dL_cell_1 : decode cL_cell 1 = .ok (.aload_n 0, 1) := by decide +kernel
theorem dL_cell_2 : decode cL_cell 2 = .ok (.arraylength, 1) := by decide +kernel
theorem dL_cell_3 : decode cL_cell 3 = .ok (.if_icmp .ge 9, 3) := by decide +kernel
theorem dL_cell_6 : decode cL_cell 6 = .ok (.aload_n 0, 1) := by decide +kernel
theorem dL_cell_7 : decode cL_cell 7 = .ok (.iload_n 1, 1) := by decide +kernel
theorem dL_cell_8 : decode cL_cell 8 = .ok (.iaload, 1) := by decide +kernel
theorem dL_cell_9 : decode cL_cell 9 = .ok (.goto 10, 3) := by decide +kernel
theorem dL_cell_12 : decode cL_cell 12 = .ok (.ldc 7, 2) := by decide +kernel
theorem dL_cell_14 : decode cL_cell 14 = .ok (.iload_n 1, 1) := by decide +kernel
theorem dL_cell_15 : decode cL_cell 15 = .ok (.imul, 1) := by decide +kernel
theorem dL_cell_16 : decode cL_cell 16 = .ok (.ldc 8, 2) := by decide +kernel
theorem dL_cell_18 : decode cL_cell 18 = .ok (.iadd, 1) := by decide +kernel
theorem dL_cell_19 : decode cL_cell 19 = .ok (.ireturn, 1) := by decide +kernel
end
