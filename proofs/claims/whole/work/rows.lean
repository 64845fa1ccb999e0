section
-- ===== PART A: goes FIRST, ahead of the names: the tables' words, and 'selects' of the private methods out of them =====
/-- a private method of a class that the tables say can be made, by its rows of tables_1 -/
def lw_okq (q : MethodName × Nat) : Prop := (q.1.cls ≠ "java/lang/invoke/MethodHandle" ∧ q.1.cls ≠ "java/lang/invoke/VarHandle") ∧ Cond.instantiable q.1.cls q.2 ∈ tables_1 ∧ Cond.privateMethod q.1 ∈ tables_1 ∧ Cond.instanceMethod q.1 ∈ tables_1
theorem lw_p0 : lw_okq (⟨"EchoTurns", "comingError", "(IIIZ)I"⟩, 10) := ⟨⟨by decide +kernel, by decide +kernel⟩, List.mem_of_getElem? (i := 12) (by decide +kernel), List.mem_of_getElem? (i := 221) (by decide +kernel), List.mem_of_getElem? (i := 222) (by decide +kernel)⟩
theorem lw_p1 : lw_okq (⟨"EchoTurns", "remember", "()V"⟩, 10) := ⟨⟨by decide +kernel, by decide +kernel⟩, List.mem_of_getElem? (i := 12) (by decide +kernel), List.mem_of_getElem? (i := 248) (by decide +kernel), List.mem_of_getElem? (i := 249) (by decide +kernel)⟩
theorem lw_p2 : lw_okq (⟨"EchoTurns", "forgetOldest", "()V"⟩, 10) := ⟨⟨by decide +kernel, by decide +kernel⟩, List.mem_of_getElem? (i := 12) (by decide +kernel), List.mem_of_getElem? (i := 252) (by decide +kernel), List.mem_of_getElem? (i := 253) (by decide +kernel)⟩
theorem lw_p3 : lw_okq (⟨"EchoTurns$Scene", "put", "(IIIIZ)V"⟩, 9) := ⟨⟨by decide +kernel, by decide +kernel⟩, List.mem_of_getElem? (i := 20) (by decide +kernel), List.mem_of_getElem? (i := 267) (by decide +kernel), List.mem_of_getElem? (i := 268) (by decide +kernel)⟩
theorem lw_p4 : lw_okq (⟨"EchoTurns$Scene", "putAs", "(III)V"⟩, 9) := ⟨⟨by decide +kernel, by decide +kernel⟩, List.mem_of_getElem? (i := 20) (by decide +kernel), List.mem_of_getElem? (i := 280) (by decide +kernel), List.mem_of_getElem? (i := 281) (by decide +kernel)⟩
theorem lw_p5 : lw_okq (⟨"EchoTurns$Reading", "accepts", "(C)Z"⟩, 13) := ⟨⟨by decide +kernel, by decide +kernel⟩, List.mem_of_getElem? (i := 71) (by decide +kernel), List.mem_of_getElem? (i := 368) (by decide +kernel), List.mem_of_getElem? (i := 369) (by decide +kernel)⟩
theorem lw_p6 : lw_okq (⟨"EchoTurns$Reading", "acceptsKind", "(C)Z"⟩, 13) := ⟨⟨by decide +kernel, by decide +kernel⟩, List.mem_of_getElem? (i := 71) (by decide +kernel), List.mem_of_getElem? (i := 372) (by decide +kernel), List.mem_of_getElem? (i := 373) (by decide +kernel)⟩
theorem lw_p7 : lw_okq (⟨"EchoTurns$Reading", "acceptsBegin", "(CII)Z"⟩, 13) := ⟨⟨by decide +kernel, by decide +kernel⟩, List.mem_of_getElem? (i := 71) (by decide +kernel), List.mem_of_getElem? (i := 376) (by decide +kernel), List.mem_of_getElem? (i := 377) (by decide +kernel)⟩
theorem lw_p8 : lw_okq (⟨"EchoTurns$Reading", "endDistance", "()Z"⟩, 13) := ⟨⟨by decide +kernel, by decide +kernel⟩, List.mem_of_getElem? (i := 71) (by decide +kernel), List.mem_of_getElem? (i := 381) (by decide +kernel), List.mem_of_getElem? (i := 382) (by decide +kernel)⟩
theorem lw_p9 : lw_okq (⟨"EchoTurns$Reading", "acceptsDigit", "(CII)Z"⟩, 13) := ⟨⟨by decide +kernel, by decide +kernel⟩, List.mem_of_getElem? (i := 71) (by decide +kernel), List.mem_of_getElem? (i := 385) (by decide +kernel), List.mem_of_getElem? (i := 386) (by decide +kernel)⟩
theorem lw_p10 : lw_okq (⟨"EchoTurns$Reading", "acceptsBehindStrength", "(C)Z"⟩, 13) := ⟨⟨by decide +kernel, by decide +kernel⟩, List.mem_of_getElem? (i := 71) (by decide +kernel), List.mem_of_getElem? (i := 389) (by decide +kernel), List.mem_of_getElem? (i := 390) (by decide +kernel)⟩
theorem lw_p11 : lw_okq (⟨"EchoTurns$Reading", "keepTarget", "(II)V"⟩, 13) := ⟨⟨by decide +kernel, by decide +kernel⟩, List.mem_of_getElem? (i := 71) (by decide +kernel), List.mem_of_getElem? (i := 393) (by decide +kernel), List.mem_of_getElem? (i := 394) (by decide +kernel)⟩
theorem lw_p12 : lw_okq (⟨"EchoTurns$Reading", "acceptsTargetEnd", "(C)Z"⟩, 13) := ⟨⟨by decide +kernel, by decide +kernel⟩, List.mem_of_getElem? (i := 71) (by decide +kernel), List.mem_of_getElem? (i := 397) (by decide +kernel), List.mem_of_getElem? (i := 398) (by decide +kernel)⟩
theorem lw_p13 : lw_okq (⟨"EchoTurns$Reading", "acceptsMovement", "(C)Z"⟩, 13) := ⟨⟨by decide +kernel, by decide +kernel⟩, List.mem_of_getElem? (i := 71) (by decide +kernel), List.mem_of_getElem? (i := 401) (by decide +kernel), List.mem_of_getElem? (i := 402) (by decide +kernel)⟩
theorem lw_p14 : lw_okq (⟨"EchoTurns$Reading", "keepSpacing", "()Z"⟩, 13) := ⟨⟨by decide +kernel, by decide +kernel⟩, List.mem_of_getElem? (i := 71) (by decide +kernel), List.mem_of_getElem? (i := 405) (by decide +kernel), List.mem_of_getElem? (i := 406) (by decide +kernel)⟩
theorem lw_p15 : lw_okq (⟨"EchoTurns$Reading", "acceptsSlash", "(C)Z"⟩, 13) := ⟨⟨by decide +kernel, by decide +kernel⟩, List.mem_of_getElem? (i := 71) (by decide +kernel), List.mem_of_getElem? (i := 409) (by decide +kernel), List.mem_of_getElem? (i := 410) (by decide +kernel)⟩
def lw_privs_1 : List (MethodName × Nat) := [(⟨"EchoTurns", "comingError", "(IIIZ)I"⟩, 10), (⟨"EchoTurns", "remember", "()V"⟩, 10), (⟨"EchoTurns", "forgetOldest", "()V"⟩, 10), (⟨"EchoTurns$Scene", "put", "(IIIIZ)V"⟩, 9), (⟨"EchoTurns$Scene", "putAs", "(III)V"⟩, 9), (⟨"EchoTurns$Reading", "accepts", "(C)Z"⟩, 13), (⟨"EchoTurns$Reading", "acceptsKind", "(C)Z"⟩, 13), (⟨"EchoTurns$Reading", "acceptsBegin", "(CII)Z"⟩, 13), (⟨"EchoTurns$Reading", "endDistance", "()Z"⟩, 13), (⟨"EchoTurns$Reading", "acceptsDigit", "(CII)Z"⟩, 13), (⟨"EchoTurns$Reading", "acceptsBehindStrength", "(C)Z"⟩, 13), (⟨"EchoTurns$Reading", "keepTarget", "(II)V"⟩, 13), (⟨"EchoTurns$Reading", "acceptsTargetEnd", "(C)Z"⟩, 13), (⟨"EchoTurns$Reading", "acceptsMovement", "(C)Z"⟩, 13), (⟨"EchoTurns$Reading", "keepSpacing", "()Z"⟩, 13), (⟨"EchoTurns$Reading", "acceptsSlash", "(C)Z"⟩, 13)]
theorem lw_r1 : ∀ q ∈ lw_privs_1, lw_okq q := List.forall_mem_cons.mpr ⟨lw_p0, List.forall_mem_cons.mpr ⟨lw_p1, List.forall_mem_cons.mpr ⟨lw_p2, List.forall_mem_cons.mpr ⟨lw_p3, List.forall_mem_cons.mpr ⟨lw_p4, List.forall_mem_cons.mpr ⟨lw_p5, List.forall_mem_cons.mpr ⟨lw_p6, List.forall_mem_cons.mpr ⟨lw_p7, List.forall_mem_cons.mpr ⟨lw_p8, List.forall_mem_cons.mpr ⟨lw_p9, List.forall_mem_cons.mpr ⟨lw_p10, List.forall_mem_cons.mpr ⟨lw_p11, List.forall_mem_cons.mpr ⟨lw_p12, List.forall_mem_cons.mpr ⟨lw_p13, List.forall_mem_cons.mpr ⟨lw_p14, List.forall_mem_cons.mpr ⟨lw_p15, fun _ h => absurd h List.not_mem_nil⟩⟩⟩⟩⟩⟩⟩⟩⟩⟩⟩⟩⟩⟩⟩⟩
theorem lw_p16 : lw_okq (⟨"EchoTurns$Reading", "isComplete", "()Z"⟩, 13) := ⟨⟨by decide +kernel, by decide +kernel⟩, List.mem_of_getElem? (i := 71) (by decide +kernel), List.mem_of_getElem? (i := 413) (by decide +kernel), List.mem_of_getElem? (i := 414) (by decide +kernel)⟩
theorem lw_p17 : lw_okq (⟨"EchoTurns$Script", "put", "(C)V"⟩, 2) := ⟨⟨by decide +kernel, by decide +kernel⟩, List.mem_of_getElem? (i := 117) (by decide +kernel), List.mem_of_getElem? (i := 449) (by decide +kernel), List.mem_of_getElem? (i := 450) (by decide +kernel)⟩
theorem lw_p18 : lw_okq (⟨"EchoTurns$Script", "writeTarget", "(LEchoTurns$Scene;I)V"⟩, 2) := ⟨⟨by decide +kernel, by decide +kernel⟩, List.mem_of_getElem? (i := 117) (by decide +kernel), List.mem_of_getElem? (i := 453) (by decide +kernel), List.mem_of_getElem? (i := 454) (by decide +kernel)⟩
theorem lw_p19 : lw_okq (⟨"EchoTurns$Script", "writeNumber", "(I)V"⟩, 2) := ⟨⟨by decide +kernel, by decide +kernel⟩, List.mem_of_getElem? (i := 117) (by decide +kernel), List.mem_of_getElem? (i := 460) (by decide +kernel), List.mem_of_getElem? (i := 461) (by decide +kernel)⟩
theorem lw_p20 : lw_okq (⟨"EchoTurns", "heardOf", "(II)I"⟩, 10) := ⟨⟨by decide +kernel, by decide +kernel⟩, List.mem_of_getElem? (i := 12) (by decide +kernel), List.mem_of_getElem? (i := 496) (by decide +kernel), List.mem_of_getElem? (i := 497) (by decide +kernel)⟩
theorem lw_p21 : lw_okq (⟨"EchoTurns$Ear", "takeTargets", "(LEchoTurns$Scene;)V"⟩, 16) := ⟨⟨by decide +kernel, by decide +kernel⟩, List.mem_of_getElem? (i := 130) (by decide +kernel), List.mem_of_getElem? (i := 512) (by decide +kernel), List.mem_of_getElem? (i := 513) (by decide +kernel)⟩
theorem lw_p22 : lw_okq (⟨"EchoTurns$Ear", "take", "(IIIII)V"⟩, 16) := ⟨⟨by decide +kernel, by decide +kernel⟩, List.mem_of_getElem? (i := 130) (by decide +kernel), List.mem_of_getElem? (i := 520) (by decide +kernel), List.mem_of_getElem? (i := 521) (by decide +kernel)⟩
theorem lw_p23 : lw_okq (⟨"EchoTurns$Ear", "takeGhosts", "(LEchoTurns$Scene;)V"⟩, 16) := ⟨⟨by decide +kernel, by decide +kernel⟩, List.mem_of_getElem? (i := 130) (by decide +kernel), List.mem_of_getElem? (i := 524) (by decide +kernel), List.mem_of_getElem? (i := 525) (by decide +kernel)⟩
theorem lw_p24 : lw_okq (⟨"EchoTurns$Ear", "takeGhost", "(LEchoTurns$Scene;II)V"⟩, 16) := ⟨⟨by decide +kernel, by decide +kernel⟩, List.mem_of_getElem? (i := 130) (by decide +kernel), List.mem_of_getElem? (i := 529) (by decide +kernel), List.mem_of_getElem? (i := 530) (by decide +kernel)⟩
theorem lw_p25 : lw_okq (⟨"EchoTurns$Ear", "takePitches", "()V"⟩, 16) := ⟨⟨by decide +kernel, by decide +kernel⟩, List.mem_of_getElem? (i := 130) (by decide +kernel), List.mem_of_getElem? (i := 539) (by decide +kernel), List.mem_of_getElem? (i := 540) (by decide +kernel)⟩
theorem lw_p26 : lw_okq (⟨"EchoTurns$Ear", "sounds", "(I)Z"⟩, 16) := ⟨⟨by decide +kernel, by decide +kernel⟩, List.mem_of_getElem? (i := 130) (by decide +kernel), List.mem_of_getElem? (i := 543) (by decide +kernel), List.mem_of_getElem? (i := 544) (by decide +kernel)⟩
theorem lw_p27 : lw_okq (⟨"EchoTurns$Ear", "movementOf", "(I)I"⟩, 16) := ⟨⟨by decide +kernel, by decide +kernel⟩, List.mem_of_getElem? (i := 130) (by decide +kernel), List.mem_of_getElem? (i := 547) (by decide +kernel), List.mem_of_getElem? (i := 548) (by decide +kernel)⟩
theorem lw_p28 : lw_okq (⟨"EchoTurns$Ear", "has", "(I)Z"⟩, 16) := ⟨⟨by decide +kernel, by decide +kernel⟩, List.mem_of_getElem? (i := 130) (by decide +kernel), List.mem_of_getElem? (i := 551) (by decide +kernel), List.mem_of_getElem? (i := 552) (by decide +kernel)⟩
theorem lw_p29 : lw_okq (⟨"EchoTurns$Ear", "isFaint", "(I)Z"⟩, 16) := ⟨⟨by decide +kernel, by decide +kernel⟩, List.mem_of_getElem? (i := 130) (by decide +kernel), List.mem_of_getElem? (i := 555) (by decide +kernel), List.mem_of_getElem? (i := 556) (by decide +kernel)⟩
theorem lw_p30 : lw_okq (⟨"EchoTurns$Ear", "hearTurn", "(II)V"⟩, 16) := ⟨⟨by decide +kernel, by decide +kernel⟩, List.mem_of_getElem? (i := 130) (by decide +kernel), List.mem_of_getElem? (i := 565) (by decide +kernel), List.mem_of_getElem? (i := 566) (by decide +kernel)⟩
theorem lw_p31 : lw_okq (⟨"EchoTurns$Ear", "placeOf", "(III)I"⟩, 16) := ⟨⟨by decide +kernel, by decide +kernel⟩, List.mem_of_getElem? (i := 130) (by decide +kernel), List.mem_of_getElem? (i := 573) (by decide +kernel), List.mem_of_getElem? (i := 574) (by decide +kernel)⟩
def lw_privs_2 : List (MethodName × Nat) := [(⟨"EchoTurns$Reading", "isComplete", "()Z"⟩, 13), (⟨"EchoTurns$Script", "put", "(C)V"⟩, 2), (⟨"EchoTurns$Script", "writeTarget", "(LEchoTurns$Scene;I)V"⟩, 2), (⟨"EchoTurns$Script", "writeNumber", "(I)V"⟩, 2), (⟨"EchoTurns", "heardOf", "(II)I"⟩, 10), (⟨"EchoTurns$Ear", "takeTargets", "(LEchoTurns$Scene;)V"⟩, 16), (⟨"EchoTurns$Ear", "take", "(IIIII)V"⟩, 16), (⟨"EchoTurns$Ear", "takeGhosts", "(LEchoTurns$Scene;)V"⟩, 16), (⟨"EchoTurns$Ear", "takeGhost", "(LEchoTurns$Scene;II)V"⟩, 16), (⟨"EchoTurns$Ear", "takePitches", "()V"⟩, 16), (⟨"EchoTurns$Ear", "sounds", "(I)Z"⟩, 16), (⟨"EchoTurns$Ear", "movementOf", "(I)I"⟩, 16), (⟨"EchoTurns$Ear", "has", "(I)Z"⟩, 16), (⟨"EchoTurns$Ear", "isFaint", "(I)Z"⟩, 16), (⟨"EchoTurns$Ear", "hearTurn", "(II)V"⟩, 16), (⟨"EchoTurns$Ear", "placeOf", "(III)I"⟩, 16)]
theorem lw_r2 : ∀ q ∈ lw_privs_2, lw_okq q := List.forall_mem_cons.mpr ⟨lw_p16, List.forall_mem_cons.mpr ⟨lw_p17, List.forall_mem_cons.mpr ⟨lw_p18, List.forall_mem_cons.mpr ⟨lw_p19, List.forall_mem_cons.mpr ⟨lw_p20, List.forall_mem_cons.mpr ⟨lw_p21, List.forall_mem_cons.mpr ⟨lw_p22, List.forall_mem_cons.mpr ⟨lw_p23, List.forall_mem_cons.mpr ⟨lw_p24, List.forall_mem_cons.mpr ⟨lw_p25, List.forall_mem_cons.mpr ⟨lw_p26, List.forall_mem_cons.mpr ⟨lw_p27, List.forall_mem_cons.mpr ⟨lw_p28, List.forall_mem_cons.mpr ⟨lw_p29, List.forall_mem_cons.mpr ⟨lw_p30, List.forall_mem_cons.mpr ⟨lw_p31, fun _ h => absurd h List.not_mem_nil⟩⟩⟩⟩⟩⟩⟩⟩⟩⟩⟩⟩⟩⟩⟩⟩
theorem lw_p32 : lw_okq (⟨"EchoTurns$Ear", "isHeard", "(III)Z"⟩, 16) := ⟨⟨by decide +kernel, by decide +kernel⟩, List.mem_of_getElem? (i := 130) (by decide +kernel), List.mem_of_getElem? (i := 592) (by decide +kernel), List.mem_of_getElem? (i := 593) (by decide +kernel)⟩
theorem lw_p33 : lw_okq (⟨"EchoTurns$Ear", "isPartOf", "(IIII)Z"⟩, 16) := ⟨⟨by decide +kernel, by decide +kernel⟩, List.mem_of_getElem? (i := 130) (by decide +kernel), List.mem_of_getElem? (i := 637) (by decide +kernel), List.mem_of_getElem? (i := 638) (by decide +kernel)⟩
theorem lw_p34 : lw_okq (⟨"EchoTurns$Ear", "sourcesAt", "(III)I"⟩, 16) := ⟨⟨by decide +kernel, by decide +kernel⟩, List.mem_of_getElem? (i := 130) (by decide +kernel), List.mem_of_getElem? (i := 662) (by decide +kernel), List.mem_of_getElem? (i := 663) (by decide +kernel)⟩
theorem lw_p35 : lw_okq (⟨"EchoTurns", "countHeard", "(I)I"⟩, 10) := ⟨⟨by decide +kernel, by decide +kernel⟩, List.mem_of_getElem? (i := 12) (by decide +kernel), List.mem_of_getElem? (i := 695) (by decide +kernel), List.mem_of_getElem? (i := 696) (by decide +kernel)⟩
theorem lw_p36 : lw_okq (⟨"EchoTurns$Ear", "gatherOpen", "()V"⟩, 16) := ⟨⟨by decide +kernel, by decide +kernel⟩, List.mem_of_getElem? (i := 130) (by decide +kernel), List.mem_of_getElem? (i := 753) (by decide +kernel), List.mem_of_getElem? (i := 754) (by decide +kernel)⟩
theorem lw_p37 : lw_okq (⟨"EchoTurns$Ear", "openTold", "(I)I"⟩, 16) := ⟨⟨by decide +kernel, by decide +kernel⟩, List.mem_of_getElem? (i := 130) (by decide +kernel), List.mem_of_getElem? (i := 757) (by decide +kernel), List.mem_of_getElem? (i := 758) (by decide +kernel)⟩
theorem lw_p38 : lw_okq (⟨"EchoTurnsModel", "record", "()V"⟩, 19) := ⟨⟨by decide +kernel, by decide +kernel⟩, List.mem_of_getElem? (i := 779) (by decide +kernel), List.mem_of_getElem? (i := 855) (by decide +kernel), List.mem_of_getElem? (i := 856) (by decide +kernel)⟩
theorem lw_p39 : lw_okq (⟨"EchoTurnsModel", "isThere", "(II)Z"⟩, 19) := ⟨⟨by decide +kernel, by decide +kernel⟩, List.mem_of_getElem? (i := 779) (by decide +kernel), List.mem_of_getElem? (i := 869) (by decide +kernel), List.mem_of_getElem? (i := 870) (by decide +kernel)⟩
theorem lw_p40 : lw_okq (⟨"EchoTurnsModel", "of", "(II)I"⟩, 19) := ⟨⟨by decide +kernel, by decide +kernel⟩, List.mem_of_getElem? (i := 779) (by decide +kernel), List.mem_of_getElem? (i := 873) (by decide +kernel), List.mem_of_getElem? (i := 874) (by decide +kernel)⟩
theorem lw_p41 : lw_okq (⟨"EchoTurnsModel", "add", "(IIII)V"⟩, 19) := ⟨⟨by decide +kernel, by decide +kernel⟩, List.mem_of_getElem? (i := 779) (by decide +kernel), List.mem_of_getElem? (i := 877) (by decide +kernel), List.mem_of_getElem? (i := 878) (by decide +kernel)⟩
theorem lw_p42 : lw_okq (⟨"EchoTurnsModel", "isTarget", "(I)Z"⟩, 19) := ⟨⟨by decide +kernel, by decide +kernel⟩, List.mem_of_getElem? (i := 779) (by decide +kernel), List.mem_of_getElem? (i := 885) (by decide +kernel), List.mem_of_getElem? (i := 886) (by decide +kernel)⟩
theorem lw_p43 : lw_okq (⟨"EchoTurnsModel", "takeOut", "(I)V"⟩, 19) := ⟨⟨by decide +kernel, by decide +kernel⟩, List.mem_of_getElem? (i := 779) (by decide +kernel), List.mem_of_getElem? (i := 889) (by decide +kernel), List.mem_of_getElem? (i := 890) (by decide +kernel)⟩
theorem lw_p44 : lw_okq (⟨"EchoTurnsModel", "listen", "()V"⟩, 19) := ⟨⟨by decide +kernel, by decide +kernel⟩, List.mem_of_getElem? (i := 779) (by decide +kernel), List.mem_of_getElem? (i := 912) (by decide +kernel), List.mem_of_getElem? (i := 913) (by decide +kernel)⟩
theorem lw_p45 : lw_okq (⟨"EchoTurnsModel", "layBody", "(IIIII)V"⟩, 19) := ⟨⟨by decide +kernel, by decide +kernel⟩, List.mem_of_getElem? (i := 779) (by decide +kernel), List.mem_of_getElem? (i := 916) (by decide +kernel), List.mem_of_getElem? (i := 917) (by decide +kernel)⟩
theorem lw_p46 : lw_okq (⟨"EchoTurnsModel", "isFaint", "(I)Z"⟩, 19) := ⟨⟨by decide +kernel, by decide +kernel⟩, List.mem_of_getElem? (i := 779) (by decide +kernel), List.mem_of_getElem? (i := 920) (by decide +kernel), List.mem_of_getElem? (i := 921) (by decide +kernel)⟩
theorem lw_p47 : lw_okq (⟨"EchoTurnsModel", "body", "(II)I"⟩, 19) := ⟨⟨by decide +kernel, by decide +kernel⟩, List.mem_of_getElem? (i := 779) (by decide +kernel), List.mem_of_getElem? (i := 924) (by decide +kernel), List.mem_of_getElem? (i := 925) (by decide +kernel)⟩
def lw_privs_3 : List (MethodName × Nat) := [(⟨"EchoTurns$Ear", "isHeard", "(III)Z"⟩, 16), (⟨"EchoTurns$Ear", "isPartOf", "(IIII)Z"⟩, 16), (⟨"EchoTurns$Ear", "sourcesAt", "(III)I"⟩, 16), (⟨"EchoTurns", "countHeard", "(I)I"⟩, 10), (⟨"EchoTurns$Ear", "gatherOpen", "()V"⟩, 16), (⟨"EchoTurns$Ear", "openTold", "(I)I"⟩, 16), (⟨"EchoTurnsModel", "record", "()V"⟩, 19), (⟨"EchoTurnsModel", "isThere", "(II)Z"⟩, 19), (⟨"EchoTurnsModel", "of", "(II)I"⟩, 19), (⟨"EchoTurnsModel", "add", "(IIII)V"⟩, 19), (⟨"EchoTurnsModel", "isTarget", "(I)Z"⟩, 19), (⟨"EchoTurnsModel", "takeOut", "(I)V"⟩, 19), (⟨"EchoTurnsModel", "listen", "()V"⟩, 19), (⟨"EchoTurnsModel", "layBody", "(IIIII)V"⟩, 19), (⟨"EchoTurnsModel", "isFaint", "(I)Z"⟩, 19), (⟨"EchoTurnsModel", "body", "(II)I"⟩, 19)]
theorem lw_r3 : ∀ q ∈ lw_privs_3, lw_okq q := List.forall_mem_cons.mpr ⟨lw_p32, List.forall_mem_cons.mpr ⟨lw_p33, List.forall_mem_cons.mpr ⟨lw_p34, List.forall_mem_cons.mpr ⟨lw_p35, List.forall_mem_cons.mpr ⟨lw_p36, List.forall_mem_cons.mpr ⟨lw_p37, List.forall_mem_cons.mpr ⟨lw_p38, List.forall_mem_cons.mpr ⟨lw_p39, List.forall_mem_cons.mpr ⟨lw_p40, List.forall_mem_cons.mpr ⟨lw_p41, List.forall_mem_cons.mpr ⟨lw_p42, List.forall_mem_cons.mpr ⟨lw_p43, List.forall_mem_cons.mpr ⟨lw_p44, List.forall_mem_cons.mpr ⟨lw_p45, List.forall_mem_cons.mpr ⟨lw_p46, List.forall_mem_cons.mpr ⟨lw_p47, fun _ h => absurd h List.not_mem_nil⟩⟩⟩⟩⟩⟩⟩⟩⟩⟩⟩⟩⟩⟩⟩⟩
theorem lw_p48 : lw_okq (⟨"EchoTurnsModel", "isLost", "(II)Z"⟩, 19) := ⟨⟨by decide +kernel, by decide +kernel⟩, List.mem_of_getElem? (i := 779) (by decide +kernel), List.mem_of_getElem? (i := 928) (by decide +kernel), List.mem_of_getElem? (i := 929) (by decide +kernel)⟩
theorem lw_p49 : lw_okq (⟨"EchoTurnsModel", "placeIn", "(III)I"⟩, 19) := ⟨⟨by decide +kernel, by decide +kernel⟩, List.mem_of_getElem? (i := 779) (by decide +kernel), List.mem_of_getElem? (i := 932) (by decide +kernel), List.mem_of_getElem? (i := 933) (by decide +kernel)⟩
theorem lw_p50 : lw_okq (⟨"EchoTurnsModel", "isTold", "(I)Z"⟩, 19) := ⟨⟨by decide +kernel, by decide +kernel⟩, List.mem_of_getElem? (i := 779) (by decide +kernel), List.mem_of_getElem? (i := 939) (by decide +kernel), List.mem_of_getElem? (i := 940) (by decide +kernel)⟩
theorem lw_p51 : lw_okq (⟨"EchoTurnsModel", "fitting", "(II)I"⟩, 19) := ⟨⟨by decide +kernel, by decide +kernel⟩, List.mem_of_getElem? (i := 779) (by decide +kernel), List.mem_of_getElem? (i := 943) (by decide +kernel), List.mem_of_getElem? (i := 944) (by decide +kernel)⟩
theorem lw_p52 : lw_okq (⟨"EchoTurnsModel", "fit", "(III)I"⟩, 19) := ⟨⟨by decide +kernel, by decide +kernel⟩, List.mem_of_getElem? (i := 779) (by decide +kernel), List.mem_of_getElem? (i := 947) (by decide +kernel), List.mem_of_getElem? (i := 948) (by decide +kernel)⟩
theorem lw_p53 : lw_okq (⟨"EchoTurnsModel", "isTurn", "(I)Z"⟩, 19) := ⟨⟨by decide +kernel, by decide +kernel⟩, List.mem_of_getElem? (i := 779) (by decide +kernel), List.mem_of_getElem? (i := 959) (by decide +kernel), List.mem_of_getElem? (i := 960) (by decide +kernel)⟩
theorem lw_p54 : lw_okq (⟨"EchoTurnsModel", "isTrue", "(II)Z"⟩, 19) := ⟨⟨by decide +kernel, by decide +kernel⟩, List.mem_of_getElem? (i := 779) (by decide +kernel), List.mem_of_getElem? (i := 971) (by decide +kernel), List.mem_of_getElem? (i := 972) (by decide +kernel)⟩
theorem lw_p55 : lw_okq (⟨"EchoTurnsModel", "walls", "()I"⟩, 19) := ⟨⟨by decide +kernel, by decide +kernel⟩, List.mem_of_getElem? (i := 779) (by decide +kernel), List.mem_of_getElem? (i := 990) (by decide +kernel), List.mem_of_getElem? (i := 991) (by decide +kernel)⟩
theorem lw_p56 : lw_okq (⟨"EchoTurnsModel", "echoes", "()I"⟩, 19) := ⟨⟨by decide +kernel, by decide +kernel⟩, List.mem_of_getElem? (i := 779) (by decide +kernel), List.mem_of_getElem? (i := 994) (by decide +kernel), List.mem_of_getElem? (i := 995) (by decide +kernel)⟩
theorem lw_p57 : lw_okq (⟨"EchoTurnsModel", "lostMany", "()I"⟩, 19) := ⟨⟨by decide +kernel, by decide +kernel⟩, List.mem_of_getElem? (i := 779) (by decide +kernel), List.mem_of_getElem? (i := 998) (by decide +kernel), List.mem_of_getElem? (i := 999) (by decide +kernel)⟩
theorem lw_p58 : lw_okq (⟨"EchoTurnsModel", "faintMany", "()I"⟩, 19) := ⟨⟨by decide +kernel, by decide +kernel⟩, List.mem_of_getElem? (i := 779) (by decide +kernel), List.mem_of_getElem? (i := 1002) (by decide +kernel), List.mem_of_getElem? (i := 1003) (by decide +kernel)⟩
theorem lw_p59 : lw_okq (⟨"EchoTurnsModel", "toldMany", "(Z)I"⟩, 19) := ⟨⟨by decide +kernel, by decide +kernel⟩, List.mem_of_getElem? (i := 779) (by decide +kernel), List.mem_of_getElem? (i := 1006) (by decide +kernel), List.mem_of_getElem? (i := 1007) (by decide +kernel)⟩
theorem lw_p60 : lw_okq (⟨"EchoTurnsModel", "missed", "()I"⟩, 19) := ⟨⟨by decide +kernel, by decide +kernel⟩, List.mem_of_getElem? (i := 779) (by decide +kernel), List.mem_of_getElem? (i := 1010) (by decide +kernel), List.mem_of_getElem? (i := 1011) (by decide +kernel)⟩
theorem lw_p61 : lw_okq (⟨"EchoTurnsModel", "write", "()V"⟩, 19) := ⟨⟨by decide +kernel, by decide +kernel⟩, List.mem_of_getElem? (i := 779) (by decide +kernel), List.mem_of_getElem? (i := 1014) (by decide +kernel), List.mem_of_getElem? (i := 1015) (by decide +kernel)⟩
theorem lw_p62 : lw_okq (⟨"EchoTurnsModel", "sets", "(I)V"⟩, 19) := ⟨⟨by decide +kernel, by decide +kernel⟩, List.mem_of_getElem? (i := 779) (by decide +kernel), List.mem_of_getElem? (i := 1018) (by decide +kernel), List.mem_of_getElem? (i := 1019) (by decide +kernel)⟩
theorem lw_p63 : lw_okq (⟨"EchoTurnsModel", "setsNumber", "(I)V"⟩, 19) := ⟨⟨by decide +kernel, by decide +kernel⟩, List.mem_of_getElem? (i := 779) (by decide +kernel), List.mem_of_getElem? (i := 1022) (by decide +kernel), List.mem_of_getElem? (i := 1023) (by decide +kernel)⟩
def lw_privs_4 : List (MethodName × Nat) := [(⟨"EchoTurnsModel", "isLost", "(II)Z"⟩, 19), (⟨"EchoTurnsModel", "placeIn", "(III)I"⟩, 19), (⟨"EchoTurnsModel", "isTold", "(I)Z"⟩, 19), (⟨"EchoTurnsModel", "fitting", "(II)I"⟩, 19), (⟨"EchoTurnsModel", "fit", "(III)I"⟩, 19), (⟨"EchoTurnsModel", "isTurn", "(I)Z"⟩, 19), (⟨"EchoTurnsModel", "isTrue", "(II)Z"⟩, 19), (⟨"EchoTurnsModel", "walls", "()I"⟩, 19), (⟨"EchoTurnsModel", "echoes", "()I"⟩, 19), (⟨"EchoTurnsModel", "lostMany", "()I"⟩, 19), (⟨"EchoTurnsModel", "faintMany", "()I"⟩, 19), (⟨"EchoTurnsModel", "toldMany", "(Z)I"⟩, 19), (⟨"EchoTurnsModel", "missed", "()I"⟩, 19), (⟨"EchoTurnsModel", "write", "()V"⟩, 19), (⟨"EchoTurnsModel", "sets", "(I)V"⟩, 19), (⟨"EchoTurnsModel", "setsNumber", "(I)V"⟩, 19)]
theorem lw_r4 : ∀ q ∈ lw_privs_4, lw_okq q := List.forall_mem_cons.mpr ⟨lw_p48, List.forall_mem_cons.mpr ⟨lw_p49, List.forall_mem_cons.mpr ⟨lw_p50, List.forall_mem_cons.mpr ⟨lw_p51, List.forall_mem_cons.mpr ⟨lw_p52, List.forall_mem_cons.mpr ⟨lw_p53, List.forall_mem_cons.mpr ⟨lw_p54, List.forall_mem_cons.mpr ⟨lw_p55, List.forall_mem_cons.mpr ⟨lw_p56, List.forall_mem_cons.mpr ⟨lw_p57, List.forall_mem_cons.mpr ⟨lw_p58, List.forall_mem_cons.mpr ⟨lw_p59, List.forall_mem_cons.mpr ⟨lw_p60, List.forall_mem_cons.mpr ⟨lw_p61, List.forall_mem_cons.mpr ⟨lw_p62, List.forall_mem_cons.mpr ⟨lw_p63, fun _ h => absurd h List.not_mem_nil⟩⟩⟩⟩⟩⟩⟩⟩⟩⟩⟩⟩⟩⟩⟩⟩
theorem lw_p64 : lw_okq (⟨"EchoTurnsModel", "withTurn", "(II)I"⟩, 19) := ⟨⟨by decide +kernel, by decide +kernel⟩, List.mem_of_getElem? (i := 779) (by decide +kernel), List.mem_of_getElem? (i := 1034) (by decide +kernel), List.mem_of_getElem? (i := 1035) (by decide +kernel)⟩
theorem lw_p65 : lw_okq (⟨"EchoTurnsModel", "readTarget", "()V"⟩, 19) := ⟨⟨by decide +kernel, by decide +kernel⟩, List.mem_of_getElem? (i := 779) (by decide +kernel), List.mem_of_getElem? (i := 1062) (by decide +kernel), List.mem_of_getElem? (i := 1063) (by decide +kernel)⟩
theorem lw_p66 : lw_okq (⟨"EchoTurnsModel", "letter", "()I"⟩, 19) := ⟨⟨by decide +kernel, by decide +kernel⟩, List.mem_of_getElem? (i := 779) (by decide +kernel), List.mem_of_getElem? (i := 1066) (by decide +kernel), List.mem_of_getElem? (i := 1067) (by decide +kernel)⟩
theorem lw_p67 : lw_okq (⟨"EchoTurnsModel", "wants", "(Z)V"⟩, 19) := ⟨⟨by decide +kernel, by decide +kernel⟩, List.mem_of_getElem? (i := 779) (by decide +kernel), List.mem_of_getElem? (i := 1070) (by decide +kernel), List.mem_of_getElem? (i := 1071) (by decide +kernel)⟩
theorem lw_p68 : lw_okq (⟨"EchoTurnsModel", "number", "(I)I"⟩, 19) := ⟨⟨by decide +kernel, by decide +kernel⟩, List.mem_of_getElem? (i := 779) (by decide +kernel), List.mem_of_getElem? (i := 1074) (by decide +kernel), List.mem_of_getElem? (i := 1075) (by decide +kernel)⟩
theorem lw_p69 : lw_okq (⟨"EchoTurnsModel", "figure", "()I"⟩, 19) := ⟨⟨by decide +kernel, by decide +kernel⟩, List.mem_of_getElem? (i := 779) (by decide +kernel), List.mem_of_getElem? (i := 1078) (by decide +kernel), List.mem_of_getElem? (i := 1079) (by decide +kernel)⟩
theorem lw_p70 : lw_okq (⟨"EchoTurnsModel", "readSpacing", "()V"⟩, 19) := ⟨⟨by decide +kernel, by decide +kernel⟩, List.mem_of_getElem? (i := 779) (by decide +kernel), List.mem_of_getElem? (i := 1082) (by decide +kernel), List.mem_of_getElem? (i := 1083) (by decide +kernel)⟩
def lw_privs_5 : List (MethodName × Nat) := [(⟨"EchoTurnsModel", "withTurn", "(II)I"⟩, 19), (⟨"EchoTurnsModel", "readTarget", "()V"⟩, 19), (⟨"EchoTurnsModel", "letter", "()I"⟩, 19), (⟨"EchoTurnsModel", "wants", "(Z)V"⟩, 19), (⟨"EchoTurnsModel", "number", "(I)I"⟩, 19), (⟨"EchoTurnsModel", "figure", "()I"⟩, 19), (⟨"EchoTurnsModel", "readSpacing", "()V"⟩, 19)]
theorem lw_r5 : ∀ q ∈ lw_privs_5, lw_okq q := List.forall_mem_cons.mpr ⟨lw_p64, List.forall_mem_cons.mpr ⟨lw_p65, List.forall_mem_cons.mpr ⟨lw_p66, List.forall_mem_cons.mpr ⟨lw_p67, List.forall_mem_cons.mpr ⟨lw_p68, List.forall_mem_cons.mpr ⟨lw_p69, List.forall_mem_cons.mpr ⟨lw_p70, fun _ h => absurd h List.not_mem_nil⟩⟩⟩⟩⟩⟩⟩
def lw_privs : List (MethodName × Nat) := lw_privs_1 ++ (lw_privs_2 ++ (lw_privs_3 ++ (lw_privs_4 ++ (lw_privs_5))))
def lw_tbl : List Cond := k2_sels lw_privs ++ tables_1
theorem lw_privs_ok : ∀ q ∈ lw_privs, lw_okq q := by
  show ∀ q ∈ lw_privs_1 ++ (lw_privs_2 ++ (lw_privs_3 ++ (lw_privs_4 ++ (lw_privs_5)))), lw_okq q
  exact List.forall_mem_append.mpr ⟨lw_r1, List.forall_mem_append.mpr ⟨lw_r2, List.forall_mem_append.mpr ⟨lw_r3, List.forall_mem_append.mpr ⟨lw_r4, lw_r5⟩⟩⟩⟩
/-- the streams that the claim lets the run draw from -/
abbrev lw_cs : List Choice := [Jvm.Choice.named "NaN.bits"]
theorem lw_bits : nanBits ∈ lw_cs := by first | decide | exact List.mem_cons_self | simp [lw_cs, nanBits]
end
section
def RX0 : String := "EchoTurns$Ear"
def TX0 : u_T := fun k => match k with
  | 0 => ("EchoTurns$Ear", "distances", "[I", true)
  | 1 => ("EchoTurns$Ear", "strengths", "[I", true)
  | 2 => ("EchoTurns$Ear", "movements", "[I", true)
  | 3 => ("EchoTurns$Ear", "lesserWalls", "[I", true)
  | 4 => ("EchoTurns$Ear", "greaterWalls", "[I", true)
  | 5 => ("EchoTurns$Ear", "spacing", "[I", true)
  | 6 => ("EchoTurns$Ear", "heard", "[J", true)
  | 7 => ("EchoTurns$Ear", "pitches", "[I", true)
  | 8 => ("EchoTurns$Ear", "open", "[I", true)
  | 9 => ("EchoTurns$Ear", "sources", "I", false)
  | 10 => ("EchoTurns$Ear", "targets", "I", false)
  | 11 => ("EchoTurns$Ear", "turns", "I", false)
  | 12 => ("EchoTurns$Ear", "blind", "I", false)
  | 13 => ("EchoTurns$Ear", "loud", "I", false)
  | 14 => ("EchoTurns$Ear", "pitchCount", "I", false)
  | _ => ("EchoTurns$Ear", "openCount", "I", false)
def tyX0 : Nat → FieldType := fun k => match k with
  | 0 => .array .int
  | 1 => .array .int
  | 2 => .array .int
  | 3 => .array .int
  | 4 => .array .int
  | 5 => .array .int
  | 6 => .array .long
  | 7 => .array .int
  | 8 => .array .int
  | 9 => .int
  | 10 => .int
  | 11 => .int
  | 12 => .int
  | 13 => .int
  | 14 => .int
  | _ => .int
theorem nmX0 : ∀ a, a < 16 → ∀ b, b < 16 → a ≠ b → (TX0 a).2.1 ≠ (TX0 b).2.1 := by decide +kernel
theorem tyX0_ok : ∀ k, k < 16 → parseFieldDescriptor (TX0 k).2.2.1 = some (tyX0 k) := by decide +kernel
abbrev cX0_init : ByteArray := prog_2_method_1_code
def yX0_init : MethodName := ⟨RX0, "<init>", "()V"⟩
abbrev cX0_listen : ByteArray := prog_2_method_2_code
def yX0_listen : MethodName := ⟨RX0, "listen", "(LEchoTurns$Scene;)V"⟩
abbrev cX0_takeTargets : ByteArray := prog_2_method_3_code
def yX0_takeTargets : MethodName := ⟨RX0, "takeTargets", "(LEchoTurns$Scene;)V"⟩
abbrev cX0_takeGhosts : ByteArray := prog_2_method_4_code
def yX0_takeGhosts : MethodName := ⟨RX0, "takeGhosts", "(LEchoTurns$Scene;)V"⟩
abbrev cX0_takeGhost : ByteArray := prog_2_method_5_code
def yX0_takeGhost : MethodName := ⟨RX0, "takeGhost", "(LEchoTurns$Scene;II)V"⟩
abbrev cX0_take : ByteArray := prog_2_method_6_code
def yX0_take : MethodName := ⟨RX0, "take", "(IIIII)V"⟩
abbrev cX0_takePitches : ByteArray := prog_2_method_7_code
def yX0_takePitches : MethodName := ⟨RX0, "takePitches", "()V"⟩
abbrev cX0_sounds : ByteArray := prog_2_method_8_code
def yX0_sounds : MethodName := ⟨RX0, "sounds", "(I)Z"⟩
abbrev cX0_hearTurn : ByteArray := prog_2_method_9_code
def yX0_hearTurn : MethodName := ⟨RX0, "hearTurn", "(II)V"⟩
abbrev cX0_has : ByteArray := prog_2_method_10_code
def yX0_has : MethodName := ⟨RX0, "has", "(I)Z"⟩
abbrev cX0_distanceOf : ByteArray := prog_2_method_11_code
def yX0_distanceOf : MethodName := ⟨RX0, "distanceOf", "(I)I"⟩
abbrev cX0_strengthOf : ByteArray := prog_2_method_12_code
def yX0_strengthOf : MethodName := ⟨RX0, "strengthOf", "(I)I"⟩
abbrev cX0_movementOf : ByteArray := prog_2_method_13_code
def yX0_movementOf : MethodName := ⟨RX0, "movementOf", "(I)I"⟩
abbrev cX0_lesserWall : ByteArray := prog_2_method_14_code
def yX0_lesserWall : MethodName := ⟨RX0, "lesserWall", "(I)I"⟩
abbrev cX0_greaterWall : ByteArray := prog_2_method_15_code
def yX0_greaterWall : MethodName := ⟨RX0, "greaterWall", "(I)I"⟩
abbrev cX0_isFaint : ByteArray := prog_2_method_16_code
def yX0_isFaint : MethodName := ⟨RX0, "isFaint", "(I)Z"⟩
abbrev cX0_placeOf : ByteArray := prog_2_method_17_code
def yX0_placeOf : MethodName := ⟨RX0, "placeOf", "(III)I"⟩
abbrev cX0_codeOf : ByteArray := prog_2_method_18_code
def yX0_codeOf : MethodName := ⟨RX0, "codeOf", "(II)I"⟩
abbrev cX0_isHeard : ByteArray := prog_2_method_19_code
def yX0_isHeard : MethodName := ⟨RX0, "isHeard", "(III)Z"⟩
abbrev cX0_ghostCount : ByteArray := prog_2_method_20_code
def yX0_ghostCount : MethodName := ⟨RX0, "ghostCount", "()I"⟩
abbrev cX0_ghostsOf : ByteArray := prog_2_method_21_code
def yX0_ghostsOf : MethodName := ⟨RX0, "ghostsOf", "(I)I"⟩
abbrev cX0_echoCount : ByteArray := prog_2_method_22_code
def yX0_echoCount : MethodName := ⟨RX0, "echoCount", "()I"⟩
abbrev cX0_lostCount : ByteArray := prog_2_method_23_code
def yX0_lostCount : MethodName := ⟨RX0, "lostCount", "()I"⟩
abbrev cX0_lostTurns : ByteArray := prog_2_method_24_code
def yX0_lostTurns : MethodName := ⟨RX0, "lostTurns", "(I)I"⟩
abbrev cX0_faintCount : ByteArray := prog_2_method_25_code
def yX0_faintCount : MethodName := ⟨RX0, "faintCount", "()I"⟩
abbrev cX0_findEcho : ByteArray := prog_2_method_26_code
def yX0_findEcho : MethodName := ⟨RX0, "findEcho", "(II)I"⟩
abbrev cX0_strengthTogether : ByteArray := prog_2_method_27_code
def yX0_strengthTogether : MethodName := ⟨RX0, "strengthTogether", "(III)I"⟩
abbrev cX0_sourcesTogether : ByteArray := prog_2_method_28_code
def yX0_sourcesTogether : MethodName := ⟨RX0, "sourcesTogether", "(III)I"⟩
abbrev cX0_isPartOf : ByteArray := prog_2_method_29_code
def yX0_isPartOf : MethodName := ⟨RX0, "isPartOf", "(IIII)Z"⟩
abbrev cX0_fitOf : ByteArray := prog_2_method_30_code
def yX0_fitOf : MethodName := ⟨RX0, "fitOf", "(III)I"⟩
abbrev cX0_turnsThatFit : ByteArray := prog_2_method_31_code
def yX0_turnsThatFit : MethodName := ⟨RX0, "turnsThatFit", "(II)I"⟩
abbrev cX0_isToldSource : ByteArray := prog_2_method_32_code
def yX0_isToldSource : MethodName := ⟨RX0, "isToldSource", "(I)Z"⟩
abbrev cX0_isTrue : ByteArray := prog_2_method_33_code
def yX0_isTrue : MethodName := ⟨RX0, "isTrue", "(II)Z"⟩
abbrev cX0_sourcesAt : ByteArray := prog_2_method_34_code
def yX0_sourcesAt : MethodName := ⟨RX0, "sourcesAt", "(III)I"⟩
abbrev cX0_toldCount : ByteArray := prog_2_method_35_code
def yX0_toldCount : MethodName := ⟨RX0, "toldCount", "()I"⟩
abbrev cX0_findTold : ByteArray := prog_2_method_36_code
def yX0_findTold : MethodName := ⟨RX0, "findTold", "(I)I"⟩
abbrev cX0_trueCount : ByteArray := prog_2_method_37_code
def yX0_trueCount : MethodName := ⟨RX0, "trueCount", "()I"⟩
abbrev cX0_missedCount : ByteArray := prog_2_method_38_code
def yX0_missedCount : MethodName := ⟨RX0, "missedCount", "()I"⟩
abbrev cX0_bestNextSpacing : ByteArray := prog_2_method_39_code
def yX0_bestNextSpacing : MethodName := ⟨RX0, "bestNextSpacing", "()I"⟩
abbrev cX0_gatherOpen : ByteArray := prog_2_method_40_code
def yX0_gatherOpen : MethodName := ⟨RX0, "gatherOpen", "()V"⟩
abbrev cX0_openTold : ByteArray := prog_2_method_41_code
def yX0_openTold : MethodName := ⟨RX0, "openTold", "(I)I"⟩
def RX1 : String := "EchoTurns$Pad"
def TX1 : u_T := fun k => match k with
  | 0 => ("EchoTurns$Pad", "signs", "[C", true)
  | _ => ("EchoTurns$Pad", "length", "I", false)
def tyX1 : Nat → FieldType := fun k => match k with
  | 0 => .array .char
  | _ => .int
theorem nmX1 : ∀ a, a < 2 → ∀ b, b < 2 → a ≠ b → (TX1 a).2.1 ≠ (TX1 b).2.1 := by decide +kernel
theorem tyX1_ok : ∀ k, k < 2 → parseFieldDescriptor (TX1 k).2.2.1 = some (tyX1 k) := by decide +kernel
abbrev cX1_init : ByteArray := prog_3_method_1_code
def yX1_init : MethodName := ⟨RX1, "<init>", "()V"⟩
abbrev cX1_length : ByteArray := prog_3_method_2_code
def yX1_length : MethodName := ⟨RX1, "length", "()I"⟩
abbrev cX1_take : ByteArray := prog_3_method_3_code
def yX1_take : MethodName := ⟨RX1, "take", "(C)Z"⟩
abbrev cX1_empty : ByteArray := prog_3_method_4_code
def yX1_empty : MethodName := ⟨RX1, "empty", "()I"⟩
abbrev cX1_signAt : ByteArray := prog_3_method_5_code
def yX1_signAt : MethodName := ⟨RX1, "signAt", "(I)C"⟩
def RX2 : String := "EchoTurns$Reading"
def TX2 : u_T := fun k => match k with
  | 0 => ("EchoTurns$Reading", "distances", "[I", true)
  | 1 => ("EchoTurns$Reading", "strengths", "[I", true)
  | 2 => ("EchoTurns$Reading", "movements", "[I", true)
  | 3 => ("EchoTurns$Reading", "walls", "[Z", true)
  | 4 => ("EchoTurns$Reading", "spacing", "[I", true)
  | 5 => ("EchoTurns$Reading", "targets", "I", false)
  | 6 => ("EchoTurns$Reading", "turns", "I", false)
  | 7 => ("EchoTurns$Reading", "state", "I", false)
  | 8 => ("EchoTurns$Reading", "number", "I", false)
  | 9 => ("EchoTurns$Reading", "distance", "I", false)
  | 10 => ("EchoTurns$Reading", "strength", "I", false)
  | 11 => ("EchoTurns$Reading", "wall", "Z", false)
  | _ => ("EchoTurns$Reading", "minus", "Z", false)
def tyX2 : Nat → FieldType := fun k => match k with
  | 0 => .array .int
  | 1 => .array .int
  | 2 => .array .int
  | 3 => .array .boolean
  | 4 => .array .int
  | 5 => .int
  | 6 => .int
  | 7 => .int
  | 8 => .int
  | 9 => .int
  | 10 => .int
  | 11 => .boolean
  | _ => .boolean
theorem nmX2 : ∀ a, a < 13 → ∀ b, b < 13 → a ≠ b → (TX2 a).2.1 ≠ (TX2 b).2.1 := by decide +kernel
theorem tyX2_ok : ∀ k, k < 13 → parseFieldDescriptor (TX2 k).2.2.1 = some (tyX2 k) := by decide +kernel
abbrev cX2_init : ByteArray := prog_4_method_1_code
def yX2_init : MethodName := ⟨RX2, "<init>", "()V"⟩
abbrev cX2_read : ByteArray := prog_4_method_2_code
def yX2_read : MethodName := ⟨RX2, "read", "(LEchoTurns$Pad;)I"⟩
abbrev cX2_targetCount : ByteArray := prog_4_method_3_code
def yX2_targetCount : MethodName := ⟨RX2, "targetCount", "()I"⟩
abbrev cX2_hasTwins : ByteArray := prog_4_method_4_code
def yX2_hasTwins : MethodName := ⟨RX2, "hasTwins", "()Z"⟩
abbrev cX2_putInto : ByteArray := prog_4_method_5_code
def yX2_putInto : MethodName := ⟨RX2, "putInto", "(LEchoTurns$Scene;)V"⟩
abbrev cX2_isComplete : ByteArray := prog_4_method_6_code
def yX2_isComplete : MethodName := ⟨RX2, "isComplete", "()Z"⟩
abbrev cX2_accepts : ByteArray := prog_4_method_7_code
def yX2_accepts : MethodName := ⟨RX2, "accepts", "(C)Z"⟩
abbrev cX2_acceptsKind : ByteArray := prog_4_method_8_code
def yX2_acceptsKind : MethodName := ⟨RX2, "acceptsKind", "(C)Z"⟩
abbrev cX2_acceptsBegin : ByteArray := prog_4_method_9_code
def yX2_acceptsBegin : MethodName := ⟨RX2, "acceptsBegin", "(CII)Z"⟩
abbrev cX2_acceptsDigit : ByteArray := prog_4_method_10_code
def yX2_acceptsDigit : MethodName := ⟨RX2, "acceptsDigit", "(CII)Z"⟩
abbrev cX2_endDistance : ByteArray := prog_4_method_11_code
def yX2_endDistance : MethodName := ⟨RX2, "endDistance", "()Z"⟩
abbrev cX2_acceptsBehindStrength : ByteArray := prog_4_method_12_code
def yX2_acceptsBehindStrength : MethodName := ⟨RX2, "acceptsBehindStrength", "(C)Z"⟩
abbrev cX2_acceptsMovement : ByteArray := prog_4_method_13_code
def yX2_acceptsMovement : MethodName := ⟨RX2, "acceptsMovement", "(C)Z"⟩
abbrev cX2_acceptsTargetEnd : ByteArray := prog_4_method_14_code
def yX2_acceptsTargetEnd : MethodName := ⟨RX2, "acceptsTargetEnd", "(C)Z"⟩
abbrev cX2_acceptsSlash : ByteArray := prog_4_method_15_code
def yX2_acceptsSlash : MethodName := ⟨RX2, "acceptsSlash", "(C)Z"⟩
abbrev cX2_keepTarget : ByteArray := prog_4_method_16_code
def yX2_keepTarget : MethodName := ⟨RX2, "keepTarget", "(II)V"⟩
abbrev cX2_keepSpacing : ByteArray := prog_4_method_17_code
def yX2_keepSpacing : MethodName := ⟨RX2, "keepSpacing", "()Z"⟩
def RX3 : String := "EchoTurns$Scene"
def TX3 : u_T := fun k => match k with
  | 0 => ("EchoTurns$Scene", "distances", "[I", true)
  | 1 => ("EchoTurns$Scene", "strengths", "[I", true)
  | 2 => ("EchoTurns$Scene", "movements", "[I", true)
  | 3 => ("EchoTurns$Scene", "walls", "[Z", true)
  | 4 => ("EchoTurns$Scene", "spacing", "[I", true)
  | 5 => ("EchoTurns$Scene", "targets", "I", false)
  | 6 => ("EchoTurns$Scene", "turns", "I", false)
  | 7 => ("EchoTurns$Scene", "blind", "I", false)
  | _ => ("EchoTurns$Scene", "loud", "I", false)
def tyX3 : Nat → FieldType := fun k => match k with
  | 0 => .array .int
  | 1 => .array .int
  | 2 => .array .int
  | 3 => .array .boolean
  | 4 => .array .int
  | 5 => .int
  | 6 => .int
  | 7 => .int
  | _ => .int
theorem nmX3 : ∀ a, a < 9 → ∀ b, b < 9 → a ≠ b → (TX3 a).2.1 ≠ (TX3 b).2.1 := by decide +kernel
theorem tyX3_ok : ∀ k, k < 9 → parseFieldDescriptor (TX3 k).2.2.1 = some (tyX3 k) := by decide +kernel
abbrev cX3_init : ByteArray := prog_5_method_1_code
def yX3_init : MethodName := ⟨RX3, "<init>", "()V"⟩
abbrev cX3_become : ByteArray := prog_5_method_2_code
def yX3_become : MethodName := ⟨RX3, "become", "(LEchoTurns$Scene;)V"⟩
abbrev cX3_targetCount : ByteArray := prog_5_method_3_code
def yX3_targetCount : MethodName := ⟨RX3, "targetCount", "()I"⟩
abbrev cX3_turnCount : ByteArray := prog_5_method_4_code
def yX3_turnCount : MethodName := ⟨RX3, "turnCount", "()I"⟩
abbrev cX3_blindBelow : ByteArray := prog_5_method_5_code
def yX3_blindBelow : MethodName := ⟨RX3, "blindBelow", "()I"⟩
abbrev cX3_loudFrom : ByteArray := prog_5_method_6_code
def yX3_loudFrom : MethodName := ⟨RX3, "loudFrom", "()I"⟩
abbrev cX3_has : ByteArray := prog_5_method_7_code
def yX3_has : MethodName := ⟨RX3, "has", "(I)Z"⟩
abbrev cX3_hasTurn : ByteArray := prog_5_method_8_code
def yX3_hasTurn : MethodName := ⟨RX3, "hasTurn", "(I)Z"⟩
abbrev cX3_distanceOf : ByteArray := prog_5_method_9_code
def yX3_distanceOf : MethodName := ⟨RX3, "distanceOf", "(I)I"⟩
abbrev cX3_strengthOf : ByteArray := prog_5_method_10_code
def yX3_strengthOf : MethodName := ⟨RX3, "strengthOf", "(I)I"⟩
abbrev cX3_movementOf : ByteArray := prog_5_method_11_code
def yX3_movementOf : MethodName := ⟨RX3, "movementOf", "(I)I"⟩
abbrev cX3_isWall : ByteArray := prog_5_method_12_code
def yX3_isWall : MethodName := ⟨RX3, "isWall", "(I)Z"⟩
abbrev cX3_spacingOf : ByteArray := prog_5_method_13_code
def yX3_spacingOf : MethodName := ⟨RX3, "spacingOf", "(I)I"⟩
abbrev cX3_wallCount : ByteArray := prog_5_method_14_code
def yX3_wallCount : MethodName := ⟨RX3, "wallCount", "()I"⟩
abbrev cX3_holds : ByteArray := prog_5_method_15_code
def yX3_holds : MethodName := ⟨RX3, "holds", "(II)Z"⟩
abbrev cX3_join : ByteArray := prog_5_method_16_code
def yX3_join : MethodName := ⟨RX3, "join", "(IIIZ)I"⟩
abbrev cX3_put : ByteArray := prog_5_method_17_code
def yX3_put : MethodName := ⟨RX3, "put", "(IIIIZ)V"⟩
abbrev cX3_putAs : ByteArray := prog_5_method_18_code
def yX3_putAs : MethodName := ⟨RX3, "putAs", "(III)V"⟩
abbrev cX3_leave : ByteArray := prog_5_method_19_code
def yX3_leave : MethodName := ⟨RX3, "leave", "(I)V"⟩
abbrev cX3_leaveAll : ByteArray := prog_5_method_20_code
def yX3_leaveAll : MethodName := ⟨RX3, "leaveAll", "()V"⟩
abbrev cX3_moveAll : ByteArray := prog_5_method_21_code
def yX3_moveAll : MethodName := ⟨RX3, "moveAll", "()V"⟩
abbrev cX3_forgetTurns : ByteArray := prog_5_method_22_code
def yX3_forgetTurns : MethodName := ⟨RX3, "forgetTurns", "()V"⟩
abbrev cX3_addTurn : ByteArray := prog_5_method_23_code
def yX3_addTurn : MethodName := ⟨RX3, "addTurn", "(I)V"⟩
abbrev cX3_changeBlind : ByteArray := prog_5_method_24_code
def yX3_changeBlind : MethodName := ⟨RX3, "changeBlind", "(I)I"⟩
abbrev cX3_changeLoud : ByteArray := prog_5_method_25_code
def yX3_changeLoud : MethodName := ⟨RX3, "changeLoud", "(I)I"⟩
def RX4 : String := "EchoTurns$Script"
def TX4 : u_T := fun k => match k with
  | 0 => ("EchoTurns$Script", "signs", "[C", true)
  | _ => ("EchoTurns$Script", "length", "I", false)
def tyX4 : Nat → FieldType := fun k => match k with
  | 0 => .array .char
  | _ => .int
theorem nmX4 : ∀ a, a < 2 → ∀ b, b < 2 → a ≠ b → (TX4 a).2.1 ≠ (TX4 b).2.1 := by decide +kernel
theorem tyX4_ok : ∀ k, k < 2 → parseFieldDescriptor (TX4 k).2.2.1 = some (tyX4 k) := by decide +kernel
abbrev cX4_init : ByteArray := prog_6_method_1_code
def yX4_init : MethodName := ⟨RX4, "<init>", "()V"⟩
abbrev cX4_length : ByteArray := prog_6_method_2_code
def yX4_length : MethodName := ⟨RX4, "length", "()I"⟩
abbrev cX4_codeAt : ByteArray := prog_6_method_3_code
def yX4_codeAt : MethodName := ⟨RX4, "codeAt", "(I)I"⟩
abbrev cX4_write : ByteArray := prog_6_method_4_code
def yX4_write : MethodName := ⟨RX4, "write", "(LEchoTurns$Scene;)V"⟩
abbrev cX4_writeTarget : ByteArray := prog_6_method_5_code
def yX4_writeTarget : MethodName := ⟨RX4, "writeTarget", "(LEchoTurns$Scene;I)V"⟩
abbrev cX4_writeNumber : ByteArray := prog_6_method_6_code
def yX4_writeNumber : MethodName := ⟨RX4, "writeNumber", "(I)V"⟩
abbrev cX4_digitSign : ByteArray := prog_6_method_7_code
def yX4_digitSign : MethodName := ⟨RX4, "digitSign", "(I)C"⟩
abbrev cX4_put : ByteArray := prog_6_method_8_code
def yX4_put : MethodName := ⟨RX4, "put", "(C)V"⟩
def RX5 : String := "EchoTurns"
def TX5 : u_T := fun k => match k with
  | 0 => ("EchoTurns", "scene", "LEchoTurns$Scene;", true)
  | 1 => ("EchoTurns", "spare", "LEchoTurns$Scene;", true)
  | 2 => ("EchoTurns", "snapshot", "LEchoTurns$Scene;", true)
  | 3 => ("EchoTurns", "past", "[LEchoTurns$Scene;", true)
  | 4 => ("EchoTurns", "pad", "LEchoTurns$Pad;", true)
  | 5 => ("EchoTurns", "reading", "LEchoTurns$Reading;", true)
  | 6 => ("EchoTurns", "script", "LEchoTurns$Script;", true)
  | 7 => ("EchoTurns", "ear", "LEchoTurns$Ear;", true)
  | 8 => ("EchoTurns", "saved", "Z", false)
  | _ => ("EchoTurns", "states", "I", false)
def tyX5 : Nat → FieldType := fun k => match k with
  | 0 => .object "EchoTurns$Scene"
  | 1 => .object "EchoTurns$Scene"
  | 2 => .object "EchoTurns$Scene"
  | 3 => .array (.object "EchoTurns$Scene")
  | 4 => .object "EchoTurns$Pad"
  | 5 => .object "EchoTurns$Reading"
  | 6 => .object "EchoTurns$Script"
  | 7 => .object "EchoTurns$Ear"
  | 8 => .boolean
  | _ => .int
theorem nmX5 : ∀ a, a < 10 → ∀ b, b < 10 → a ≠ b → (TX5 a).2.1 ≠ (TX5 b).2.1 := by decide +kernel
theorem tyX5_ok : ∀ k, k < 10 → parseFieldDescriptor (TX5 k).2.2.1 = some (tyX5 k) := by decide +kernel
abbrev cX5_init : ByteArray := prog_1_method_1_code
def yX5_init : MethodName := ⟨RX5, "<init>", "()V"⟩
abbrev cX5_target : ByteArray := prog_1_method_2_code
def yX5_target : MethodName := ⟨RX5, "target", "(IIIZ)I"⟩
abbrev cX5_drop : ByteArray := prog_1_method_3_code
def yX5_drop : MethodName := ⟨RX5, "drop", "(I)I"⟩
abbrev cX5_go : ByteArray := prog_1_method_4_code
def yX5_go : MethodName := ⟨RX5, "go", "()I"⟩
abbrev cX5_spacings : ByteArray := prog_1_method_5_code
def yX5_spacings : MethodName := ⟨RX5, "spacings", "(IIII)I"⟩
abbrev cX5_set : ByteArray := prog_1_method_6_code
def yX5_set : MethodName := ⟨RX5, "set", "(II)I"⟩
abbrev cX5_append : ByteArray := prog_1_method_7_code
def yX5_append : MethodName := ⟨RX5, "append", "(I)I"⟩
abbrev cX5_clear : ByteArray := prog_1_method_8_code
def yX5_clear : MethodName := ⟨RX5, "clear", "()I"⟩
abbrev cX5_fault : ByteArray := prog_1_method_9_code
def yX5_fault : MethodName := ⟨RX5, "fault", "()I"⟩
abbrev cX5_load : ByteArray := prog_1_method_10_code
def yX5_load : MethodName := ⟨RX5, "load", "()I"⟩
abbrev cX5_sign : ByteArray := prog_1_method_11_code
def yX5_sign : MethodName := ⟨RX5, "sign", "(I)I"⟩
abbrev cX5_targetOf : ByteArray := prog_1_method_12_code
def yX5_targetOf : MethodName := ⟨RX5, "targetOf", "(II)I"⟩
abbrev cX5_ghost : ByteArray := prog_1_method_13_code
def yX5_ghost : MethodName := ⟨RX5, "ghost", "(II)I"⟩
abbrev cX5_echo : ByteArray := prog_1_method_14_code
def yX5_echo : MethodName := ⟨RX5, "echo", "(III)I"⟩
abbrev cX5_fits : ByteArray := prog_1_method_15_code
def yX5_fits : MethodName := ⟨RX5, "fits", "(III)I"⟩
abbrev cX5_told : ByteArray := prog_1_method_16_code
def yX5_told : MethodName := ⟨RX5, "told", "(II)I"⟩
abbrev cX5_alike : ByteArray := prog_1_method_17_code
def yX5_alike : MethodName := ⟨RX5, "alike", "(I)I"⟩
abbrev cX5_unfold : ByteArray := prog_1_method_18_code
def yX5_unfold : MethodName := ⟨RX5, "unfold", "(III)I"⟩
abbrev cX5_count : ByteArray := prog_1_method_19_code
def yX5_count : MethodName := ⟨RX5, "count", "(I)I"⟩
abbrev cX5_truth : ByteArray := prog_1_method_20_code
def yX5_truth : MethodName := ⟨RX5, "truth", "()D"⟩
abbrev cX5_ifTurn : ByteArray := prog_1_method_21_code
def yX5_ifTurn : MethodName := ⟨RX5, "ifTurn", "(II)I"⟩
abbrev cX5_bestTurn : ByteArray := prog_1_method_22_code
def yX5_bestTurn : MethodName := ⟨RX5, "bestTurn", "()I"⟩
abbrev cX5_ifWall : ByteArray := prog_1_method_23_code
def yX5_ifWall : MethodName := ⟨RX5, "ifWall", "(III)I"⟩
abbrev cX5_undo : ByteArray := prog_1_method_24_code
def yX5_undo : MethodName := ⟨RX5, "undo", "()I"⟩
abbrev cX5_save : ByteArray := prog_1_method_25_code
def yX5_save : MethodName := ⟨RX5, "save", "()I"⟩
abbrev cX5_restore : ByteArray := prog_1_method_26_code
def yX5_restore : MethodName := ⟨RX5, "restore", "()I"⟩
abbrev cX5_remember : ByteArray := prog_1_method_27_code
def yX5_remember : MethodName := ⟨RX5, "remember", "()V"⟩
abbrev cX5_forgetOldest : ByteArray := prog_1_method_28_code
def yX5_forgetOldest : MethodName := ⟨RX5, "forgetOldest", "()V"⟩
abbrev cX5_comingError : ByteArray := prog_1_method_29_code
def yX5_comingError : MethodName := ⟨RX5, "comingError", "(IIIZ)I"⟩
abbrev cX5_heardOf : ByteArray := prog_1_method_30_code
def yX5_heardOf : MethodName := ⟨RX5, "heardOf", "(II)I"⟩
abbrev cX5_countHeard : ByteArray := prog_1_method_31_code
def yX5_countHeard : MethodName := ⟨RX5, "countHeard", "(I)I"⟩
abbrev cX5_isWithin : ByteArray := prog_1_method_32_code
def yX5_isWithin : MethodName := ⟨RX5, "isWithin", "(III)Z"⟩
abbrev cX5_isSpacing : ByteArray := prog_1_method_33_code
def yX5_isSpacing : MethodName := ⟨RX5, "isSpacing", "(I)Z"⟩
abbrev cX5_isSpacingOrNone : ByteArray := prog_1_method_34_code
def yX5_isSpacingOrNone : MethodName := ⟨RX5, "isSpacingOrNone", "(I)Z"⟩
abbrev cX5_asNumber : ByteArray := prog_1_method_35_code
def yX5_asNumber : MethodName := ⟨RX5, "asNumber", "(Z)I"⟩
abbrev cX5_remainder : ByteArray := prog_1_method_36_code
def yX5_remainder : MethodName := ⟨RX5, "remainder", "(II)I"⟩
abbrev cX5_firstCommonMultiple : ByteArray := prog_1_method_37_code
def yX5_firstCommonMultiple : MethodName := ⟨RX5, "firstCommonMultiple", "(II)I"⟩
abbrev cX5_commonMultiple : ByteArray := prog_1_method_38_code
def yX5_commonMultiple : MethodName := ⟨RX5, "commonMultiple", "(II)I"⟩
abbrev cX5_commonDivisor : ByteArray := prog_1_method_39_code
def yX5_commonDivisor : MethodName := ⟨RX5, "commonDivisor", "(II)I"⟩
abbrev cX5_tryDistances : ByteArray := prog_1_method_40_code
def yX5_tryDistances : MethodName := ⟨RX5, "tryDistances", "(IIIIII)I"⟩
def RX6 : String := "EchoTurnsModel"
def TX6 : u_T := fun k => match k with
  | 0 => ("EchoTurnsModel", "z", "[I", true)
  | 1 => ("EchoTurnsModel", "past", "[I", true)
  | 2 => ("EchoTurnsModel", "pastMany", "I", false)
  | 3 => ("EchoTurnsModel", "kept", "[I", true)
  | 4 => ("EchoTurnsModel", "isKept", "Z", false)
  | 5 => ("EchoTurnsModel", "pad", "[C", true)
  | 6 => ("EchoTurnsModel", "typed", "I", false)
  | 7 => ("EchoTurnsModel", "bodies", "[I", true)
  | 8 => ("EchoTurnsModel", "bodyMany", "I", false)
  | 9 => ("EchoTurnsModel", "strengths", "[I", true)
  | 10 => ("EchoTurnsModel", "sources", "[I", true)
  | 11 => ("EchoTurnsModel", "written", "[C", true)
  | 12 => ("EchoTurnsModel", "writtenMany", "I", false)
  | 13 => ("EchoTurnsModel", "told", "[I", true)
  | 14 => ("EchoTurnsModel", "toldTargets", "I", false)
  | 15 => ("EchoTurnsModel", "toldSpacings", "[I", true)
  | 16 => ("EchoTurnsModel", "toldTurns", "I", false)
  | 17 => ("EchoTurnsModel", "spot", "I", false)
  | _ => ("EchoTurnsModel", "wrong", "I", false)
def tyX6 : Nat → FieldType := fun k => match k with
  | 0 => .array .int
  | 1 => .array .int
  | 2 => .int
  | 3 => .array .int
  | 4 => .boolean
  | 5 => .array .char
  | 6 => .int
  | 7 => .array .int
  | 8 => .int
  | 9 => .array .int
  | 10 => .array .int
  | 11 => .array .char
  | 12 => .int
  | 13 => .array .int
  | 14 => .int
  | 15 => .array .int
  | 16 => .int
  | 17 => .int
  | _ => .int
theorem nmX6 : ∀ a, a < 19 → ∀ b, b < 19 → a ≠ b → (TX6 a).2.1 ≠ (TX6 b).2.1 := by decide +kernel
theorem tyX6_ok : ∀ k, k < 19 → parseFieldDescriptor (TX6 k).2.2.1 = some (tyX6 k) := by decide +kernel
abbrev cX6_init : ByteArray := prog_8_method_1_code
def yX6_init : MethodName := ⟨RX6, "<init>", "()V"⟩
abbrev cX6_in : ByteArray := prog_8_method_2_code
def yX6_in : MethodName := ⟨RX6, "in", "(III)Z"⟩
abbrev cX6_of : ByteArray := prog_8_method_3_code
def yX6_of : MethodName := ⟨RX6, "of", "(II)I"⟩
abbrev cX6_isTarget : ByteArray := prog_8_method_4_code
def yX6_isTarget : MethodName := ⟨RX6, "isTarget", "(I)Z"⟩
abbrev cX6_isTurn : ByteArray := prog_8_method_5_code
def yX6_isTurn : MethodName := ⟨RX6, "isTurn", "(I)Z"⟩
abbrev cX6_record : ByteArray := prog_8_method_6_code
def yX6_record : MethodName := ⟨RX6, "record", "()V"⟩
abbrev cX6_undo : ByteArray := prog_8_method_7_code
def yX6_undo : MethodName := ⟨RX6, "undo", "()I"⟩
abbrev cX6_save : ByteArray := prog_8_method_8_code
def yX6_save : MethodName := ⟨RX6, "save", "()I"⟩
abbrev cX6_restore : ByteArray := prog_8_method_9_code
def yX6_restore : MethodName := ⟨RX6, "restore", "()I"⟩
abbrev cX6_isThere : ByteArray := prog_8_method_10_code
def yX6_isThere : MethodName := ⟨RX6, "isThere", "(II)Z"⟩
abbrev cX6_add : ByteArray := prog_8_method_11_code
def yX6_add : MethodName := ⟨RX6, "add", "(IIII)V"⟩
abbrev cX6_isBody : ByteArray := prog_8_method_12_code
def yX6_isBody : MethodName := ⟨RX6, "isBody", "(III)Z"⟩
abbrev cX6_target : ByteArray := prog_8_method_13_code
def yX6_target : MethodName := ⟨RX6, "target", "(IIIZ)I"⟩
abbrev cX6_takeOut : ByteArray := prog_8_method_14_code
def yX6_takeOut : MethodName := ⟨RX6, "takeOut", "(I)V"⟩
abbrev cX6_drop : ByteArray := prog_8_method_15_code
def yX6_drop : MethodName := ⟨RX6, "drop", "(I)I"⟩
abbrev cX6_go : ByteArray := prog_8_method_16_code
def yX6_go : MethodName := ⟨RX6, "go", "()I"⟩
abbrev cX6_isSpacing : ByteArray := prog_8_method_17_code
def yX6_isSpacing : MethodName := ⟨RX6, "isSpacing", "(I)Z"⟩
abbrev cX6_spacings : ByteArray := prog_8_method_18_code
def yX6_spacings : MethodName := ⟨RX6, "spacings", "(IIII)I"⟩
abbrev cX6_set : ByteArray := prog_8_method_19_code
def yX6_set : MethodName := ⟨RX6, "set", "(II)I"⟩
abbrev cX6_body : ByteArray := prog_8_method_20_code
def yX6_body : MethodName := ⟨RX6, "body", "(II)I"⟩
abbrev cX6_layBody : ByteArray := prog_8_method_21_code
def yX6_layBody : MethodName := ⟨RX6, "layBody", "(IIIII)V"⟩
abbrev cX6_placeIn : ByteArray := prog_8_method_22_code
def yX6_placeIn : MethodName := ⟨RX6, "placeIn", "(III)I"⟩
abbrev cX6_mark : ByteArray := prog_8_method_23_code
def yX6_mark : MethodName := ⟨RX6, "mark", "(III)I"⟩
abbrev cX6_isFaint : ByteArray := prog_8_method_24_code
def yX6_isFaint : MethodName := ⟨RX6, "isFaint", "(I)Z"⟩
abbrev cX6_isLost : ByteArray := prog_8_method_25_code
def yX6_isLost : MethodName := ⟨RX6, "isLost", "(II)Z"⟩
abbrev cX6_listen : ByteArray := prog_8_method_26_code
def yX6_listen : MethodName := ⟨RX6, "listen", "()V"⟩
abbrev cX6_fit : ByteArray := prog_8_method_27_code
def yX6_fit : MethodName := ⟨RX6, "fit", "(III)I"⟩
abbrev cX6_fitting : ByteArray := prog_8_method_28_code
def yX6_fitting : MethodName := ⟨RX6, "fitting", "(II)I"⟩
abbrev cX6_isTrue : ByteArray := prog_8_method_29_code
def yX6_isTrue : MethodName := ⟨RX6, "isTrue", "(II)Z"⟩
abbrev cX6_toldMany : ByteArray := prog_8_method_30_code
def yX6_toldMany : MethodName := ⟨RX6, "toldMany", "(Z)I"⟩
abbrev cX6_isTold : ByteArray := prog_8_method_31_code
def yX6_isTold : MethodName := ⟨RX6, "isTold", "(I)Z"⟩
abbrev cX6_missed : ByteArray := prog_8_method_32_code
def yX6_missed : MethodName := ⟨RX6, "missed", "()I"⟩
abbrev cX6_targetOf : ByteArray := prog_8_method_33_code
def yX6_targetOf : MethodName := ⟨RX6, "targetOf", "(II)I"⟩
abbrev cX6_ghost : ByteArray := prog_8_method_34_code
def yX6_ghost : MethodName := ⟨RX6, "ghost", "(II)I"⟩
abbrev cX6_echo : ByteArray := prog_8_method_35_code
def yX6_echo : MethodName := ⟨RX6, "echo", "(III)I"⟩
abbrev cX6_fits : ByteArray := prog_8_method_36_code
def yX6_fits : MethodName := ⟨RX6, "fits", "(III)I"⟩
abbrev cX6_told : ByteArray := prog_8_method_37_code
def yX6_told : MethodName := ⟨RX6, "told", "(II)I"⟩
abbrev cX6_divisor : ByteArray := prog_8_method_38_code
def yX6_divisor : MethodName := ⟨RX6, "divisor", "(II)I"⟩
abbrev cX6_alike : ByteArray := prog_8_method_39_code
def yX6_alike : MethodName := ⟨RX6, "alike", "(I)I"⟩
abbrev cX6_unfold : ByteArray := prog_8_method_40_code
def yX6_unfold : MethodName := ⟨RX6, "unfold", "(III)I"⟩
abbrev cX6_echoes : ByteArray := prog_8_method_41_code
def yX6_echoes : MethodName := ⟨RX6, "echoes", "()I"⟩
abbrev cX6_lostMany : ByteArray := prog_8_method_42_code
def yX6_lostMany : MethodName := ⟨RX6, "lostMany", "()I"⟩
abbrev cX6_faintMany : ByteArray := prog_8_method_43_code
def yX6_faintMany : MethodName := ⟨RX6, "faintMany", "()I"⟩
abbrev cX6_walls : ByteArray := prog_8_method_44_code
def yX6_walls : MethodName := ⟨RX6, "walls", "()I"⟩
abbrev cX6_count : ByteArray := prog_8_method_45_code
def yX6_count : MethodName := ⟨RX6, "count", "(I)I"⟩
abbrev cX6_truth : ByteArray := prog_8_method_46_code
def yX6_truth : MethodName := ⟨RX6, "truth", "()D"⟩
abbrev cX6_withTurn : ByteArray := prog_8_method_47_code
def yX6_withTurn : MethodName := ⟨RX6, "withTurn", "(II)I"⟩
abbrev cX6_ifTurn : ByteArray := prog_8_method_48_code
def yX6_ifTurn : MethodName := ⟨RX6, "ifTurn", "(II)I"⟩
abbrev cX6_bestTurn : ByteArray := prog_8_method_49_code
def yX6_bestTurn : MethodName := ⟨RX6, "bestTurn", "()I"⟩
abbrev cX6_ifWall : ByteArray := prog_8_method_50_code
def yX6_ifWall : MethodName := ⟨RX6, "ifWall", "(III)I"⟩
abbrev cX6_sets : ByteArray := prog_8_method_51_code
def yX6_sets : MethodName := ⟨RX6, "sets", "(I)V"⟩
abbrev cX6_setsNumber : ByteArray := prog_8_method_52_code
def yX6_setsNumber : MethodName := ⟨RX6, "setsNumber", "(I)V"⟩
abbrev cX6_write : ByteArray := prog_8_method_53_code
def yX6_write : MethodName := ⟨RX6, "write", "()V"⟩
abbrev cX6_sign : ByteArray := prog_8_method_54_code
def yX6_sign : MethodName := ⟨RX6, "sign", "(I)I"⟩
abbrev cX6_append : ByteArray := prog_8_method_55_code
def yX6_append : MethodName := ⟨RX6, "append", "(I)I"⟩
abbrev cX6_clear : ByteArray := prog_8_method_56_code
def yX6_clear : MethodName := ⟨RX6, "clear", "()I"⟩
abbrev cX6_letter : ByteArray := prog_8_method_57_code
def yX6_letter : MethodName := ⟨RX6, "letter", "()I"⟩
abbrev cX6_figure : ByteArray := prog_8_method_58_code
def yX6_figure : MethodName := ⟨RX6, "figure", "()I"⟩
abbrev cX6_wants : ByteArray := prog_8_method_59_code
def yX6_wants : MethodName := ⟨RX6, "wants", "(Z)V"⟩
abbrev cX6_number : ByteArray := prog_8_method_60_code
def yX6_number : MethodName := ⟨RX6, "number", "(I)I"⟩
abbrev cX6_readTarget : ByteArray := prog_8_method_61_code
def yX6_readTarget : MethodName := ⟨RX6, "readTarget", "()V"⟩
abbrev cX6_readSpacing : ByteArray := prog_8_method_62_code
def yX6_readSpacing : MethodName := ⟨RX6, "readSpacing", "()V"⟩
abbrev cX6_fault : ByteArray := prog_8_method_63_code
def yX6_fault : MethodName := ⟨RX6, "fault", "()I"⟩
abbrev cX6_load : ByteArray := prog_8_method_64_code
def yX6_load : MethodName := ⟨RX6, "load", "()I"⟩
def RJ13 : String := "java/lang/Long"
def TJ13 : u_T := fun k => match k with
  | _ => ("", "", "", false)
abbrev cJ13_bitCount_95d88 : ByteArray := prog_9_method_50_code
def yJ13_bitCount_95d88 : MethodName := ⟨RJ13, "bitCount", "(J)I"⟩
def RJ9 : String := "java/lang/Math"
def TJ9 : u_T := fun k => match k with
  | _ => ("", "", "", false)
abbrev cJ9_max_7cf53 : ByteArray := prog_10_method_65_code
def yJ9_max_7cf53 : MethodName := ⟨RJ9, "max", "(II)I"⟩
abbrev cJ9_min_7cf53 : ByteArray := prog_10_method_69_code
def yJ9_min_7cf53 : MethodName := ⟨RJ9, "min", "(II)I"⟩
def RJ10 : String := "java/lang/System"
def TJ10 : u_T := fun k => match k with
  | _ => ("", "", "", false)
def RL : String := "EchoTurnsLaw"
abbrev cL_law : ByteArray := code
def yL_law : MethodName := ⟨RL, "law", "([I)Z"⟩
abbrev vwCl : List vw_C := [(RX0, TX0, 16), (RX1, TX1, 2), (RX2, TX2, 13), (RX3, TX3, 9), (RX4, TX4, 2), (RX5, TX5, 10), (RX6, TX6, 19)]
end
section
/-! PM: the whole world as one picture in numbers (cells by fixed numbers 0 .. 74), and a logic of programs over it -/
/-- the tables' words that hold wherever the machine has come to -/
def tbg : List Cond := lw_tbl.filter goodWord
/-- int fields, int rows, the long row, the row of references -/
abbrev St : Type := (Nat → Nat → Int32) × (Nat → Nat → Int32) × (Nat → Int64) × (Nat → Nat)
def sF (σ : St) : Nat → Nat → Int32 := σ.1
def sA (σ : St) : Nat → Nat → Int32 := σ.2.1
def sL (σ : St) : Nat → Int64 := σ.2.2.1
def sP (σ : St) : Nat → Nat := σ.2.2.2
def setF (σ : St) (a k : Nat) (v : Int32) : St := (fun x y => if x = a ∧ y = k then v else sF σ x y, sA σ, sL σ, sP σ)
def setR (σ : St) (a : Nat) (g : Nat → Int32) : St := (sF σ, fun x => if x = a then g else sA σ x, sL σ, sP σ)
def setA (σ : St) (a i : Nat) (v : Int32) : St := setR σ a (upd (sA σ a) i v)
def setL (σ : St) (i : Nat) (v : Int64) : St := (sF σ, sA σ, vp_updL (sL σ) i v, sP σ)
def setP (σ : St) (i : Nat) (v : Nat) : St := (sF σ, sA σ, sL σ, fun j => if j = i then v else sP σ j)
/-- the shapes: (0, class, fields), (1, kind, length): kinds 0 int, 1 boolean, 2 char; (2, 3, length): longs; (3, 4, length): references -/
def shp : List (Nat × Nat × Nat) := [(0, 5, 10),
  (0, 3, 9), (1, 0, 6), (1, 0, 6), (1, 0, 6), (1, 1, 6), (1, 0, 4),
  (0, 3, 9), (1, 0, 6), (1, 0, 6), (1, 0, 6), (1, 1, 6), (1, 0, 4),
  (0, 3, 9), (1, 0, 6), (1, 0, 6), (1, 0, 6), (1, 1, 6), (1, 0, 4),
  (3, 4, 4),
  (0, 3, 9), (1, 0, 6), (1, 0, 6), (1, 0, 6), (1, 1, 6), (1, 0, 4),
  (0, 3, 9), (1, 0, 6), (1, 0, 6), (1, 0, 6), (1, 1, 6), (1, 0, 4),
  (0, 3, 9), (1, 0, 6), (1, 0, 6), (1, 0, 6), (1, 1, 6), (1, 0, 4),
  (0, 3, 9), (1, 0, 6), (1, 0, 6), (1, 0, 6), (1, 1, 6), (1, 0, 4),
  (0, 1, 2), (1, 2, 60),
  (0, 2, 13), (1, 0, 12), (1, 0, 12), (1, 0, 12), (1, 1, 12), (1, 0, 4),
  (0, 4, 2), (1, 2, 72),
  (0, 0, 16), (1, 0, 21), (1, 0, 21), (1, 0, 21), (1, 0, 21), (1, 0, 21), (1, 0, 4), (2, 3, 44), (1, 0, 11), (1, 0, 3600),
  (0, 6, 19), (1, 0, 32), (1, 0, 128), (1, 0, 32), (1, 2, 60), (1, 0, 105), (1, 0, 2200), (1, 0, 2200), (1, 2, 90), (1, 0, 64), (1, 0, 4)]
def isSc (a : Nat) : Prop := a = 1 ∨ a = 7 ∨ a = 13 ∨ a = 20 ∨ a = 26 ∨ a = 32 ∨ a = 38
/-- the fields that are references, all final: what cell they name -/
def FR (a k : Nat) : Option Nat :=
  if a = 0 then (match k with | 0 => some 1 | 1 => some 7 | 2 => some 13 | 3 => some 19 | 4 => some 44 | 5 => some 46 | 6 => some 52 | 7 => some 54 | _ => none)
  else if a = 64 then (match k with | 0 => some 65 | 1 => some 66 | 3 => some 67 | 5 => some 68 | 7 => some 69 | 9 => some 70 | 10 => some 71 | 11 => some 72 | 13 => some 73 | 15 => some 74 | _ => none)
  else if a = 44 ∨ a = 52 then (if k = 0 then some (a + 1) else none)
  else if a = 54 then (if k < 9 then some (a + 1 + k) else none)
  else (if k < 5 then some (a + 1 + k) else none)
abbrev GC : Type := va_G × (Nat → ClassId) × (Nat → Nat)
def ptr (ad : Nat → Nat) : Value → Value
  | .ref k => .ref (ad k)
  | v => v
def pm_fld (ad : Nat → Nat) (k : Nat) (σ : St) (j : Nat) : Value := match FR k j with
  | some q => .ref (ad q)
  | none => .int (sF σ k j)
def pm_cell (G : GC) (k : Nat) (σ : St) : va_E := match shp[k]? with
  | some (0, ci, n) => .inr (ci, (List.range n).map (pm_fld G.2.2 k σ))
  | some (1, t, n) => .inl (G.2.1 t, n, .inl (sA σ k))
  | some (2, t, n) => .inl (G.2.1 t, n, .inr (.inl (sL σ)))
  | some (_, t, n) => .inl (G.2.1 t, n, .inr (.inr (.inr (.inr (fun j => some (G.2.2 (sP σ j)))))))
  | none => .inr (0, [])
def pm_W (G : GC) (σ : St) : va_W := (List.range 75).map (fun k => (G.2.2 k, pm_cell G k σ))
def pm_tys (G : GC) : List (ClassId × FieldType) := [(G.2.1 0, .int), (G.2.1 1, .boolean), (G.2.1 2, .char), (G.2.1 3, .long), (G.2.1 4, .object "EchoTurns$Scene")]
def pm_A (G : GC) : Nat → Prop := fun q => ∃ k, k < 75 ∧ q = G.2.2 k
def pm_inj (G : GC) : Prop := ∀ i j, i < 75 → j < 75 → G.2.2 i = G.2.2 j → i = j
def pm_fit (σ : St) : Prop := ∀ (k n : Nat), shp[k]? = some (1, 1, n) → ∀ j, fits .boolean (.int (sA σ k j)) = true
def pm_H (G : GC) (σ : St) (H : Heap) : Prop := va_P G.1 vwCl (pm_W G σ) H ∧ pm_fit σ
/-- a method: name, code, locals, answer -/
abbrev MI : Type := MethodName × ByteArray × Nat × Option FieldType
def pm_run (y : MI) (G : GC) (p : Program) (s : State) (m : MethodId) (args : Array Value) (meth : Method) (c : Code) : Prop :=
  p.tables.exec = Jvm.exec ∧ c.code = y.2.1 ∧ meth.sig.returnType = y.2.2.2 ∧ c.maxLocals = y.2.2.1 ∧ s.vm.findClass y.1.cls = some m.cls ∧ (∀ w ∈ tbg, w.before args s = true) ∧ meth.locks = false ∧ va_K G.1 vwCl (pm_tys G) s ∧ pm_inj G
def rmz (d : Nat) : Room := { frames := d, cells := 0, slots := 0, locals := 31 * d }
def pm_L (ad : Nat → Nat) (lsA : Array Slot) (n : Nat) (ls : List Value) : Prop := lsA.size = n ∧ lv_wf lsA ∧ ls.length = n ∧ ∀ (i : Nat) (v : Value), ls[i]? = some v → v ≠ .null → lsA[i]? = some (.val (ptr ad v))
def pm_Q (G : GC) (Q : Option Value → St → Prop) : Array Value → State → Outcome → State → Prop := fun _ st o t => (∃ (r : Option Value) (σ' : St), o = .returned (r.map (ptr G.2.2)) ∧ Q r σ' ∧ pm_H G σ' t.heap) ∧ va_F (pm_A G) st t
def pm_P (G : GC) (as : List Value) (σ : St) : Array Value → State → Prop := fun v U => v = (as.map (ptr G.2.2)).toArray ∧ pm_H G σ U.heap ∧ va_K G.1 vwCl (pm_tys G) U ∧ pm_inj G
def wsz (y : MI) : List Cond := .code y.1 y.2.1 y.2.2.1 y.2.2.2 :: tbg
/-- from this frame in this world the method comes to its end, and Q holds of the answer and the world -/
def Go (y : MI) (d : Nat) (pc : Nat) (ls st : List Value) (σ : St) (Q : Option Value → St → Prop) : Prop :=
  ∀ (l : Launch) (G : GC) (p : Program) (e : Env) (s : State) (m : MethodId) (args : Array Value) (below : List Frame) (meth : Method) (c : Code) (H : Heap) (locs : List Loc) (lsA : Array Slot),
    pm_run y G p s m args meth c → pm_H G σ H → va_S (pm_A G) s.heap H locs → pm_L G.2.2 lsA y.2.2.1 ls →
    W p l e (rmz d) s m args below meth c H locs 0 0 (MQ below (pm_Q G Q) args s 0 0 (pm_A G)) (F0 m pc lsA (st.map (ptr G.2.2)))
/-- a call of the method in this world comes back, and Q holds -/
def Call (d : Nat) (y : MI) (as : List Value) (σ : St) (Q : Option Value → St → Prop) : Prop :=
  ∀ (l : Launch) (G : GC), Met l y.1 (wsz y) (rmz d) (pm_P G as σ) (pm_Q G Q) 0 0 (pm_A G)
def QI (K : Int32 → St → Prop) : Option Value → St → Prop := fun r σ => ∃ x : Int32, r = some (.int x) ∧ K x σ
def QU (K : St → Prop) : Option Value → St → Prop := fun r σ => r = none ∧ K σ
abbrev CallI (d : Nat) (y : MI) (as : List Value) (σ : St) (K : Int32 → St → Prop) : Prop := Call d y as σ (QI K)
abbrev CallU (d : Nat) (y : MI) (as : List Value) (σ : St) (K : St → Prop) : Prop := Call d y as σ (QU K)
/-- the locals at a method's entry -/
def ent (as : List Value) (n : Nat) : List Value := as.flatMap (fun v => if v.category = 2 then [v, .null] else [v]) ++ List.replicate (n - (as.flatMap (fun v => if v.category = 2 then [v, Value.null] else [v])).length) .null
theorem ptr_cat (ad : Nat → Nat) (v : Value) : (ptr ad v).category = v.category := by cases v <;> rfl
theorem ptr_cats (ad : Nat → Nat) (st : List Value) : ((st.map (ptr ad)).map fun v => v.category) = st.map fun v => v.category := by
  rw [List.map_map]; exact List.map_congr_left fun v _ => ptr_cat ad v
theorem shp_lt {k : Nat} {x : Nat × Nat × Nat} (h : shp[k]? = some x) : k < 75 := (List.getElem?_eq_some_iff.mp h).1
theorem pm_get {G : GC} {σ : St} {k : Nat} (hk : k < 75) : (pm_W G σ)[k]? = some (G.2.2 k, pm_cell G k σ) := by
  simp [pm_W, List.getElem?_map, List.getElem?_range hk]
theorem pm_getS {G : GC} {σ : St} {k : Nat} {x : Nat × Nat × Nat} (h : shp[k]? = some x) : (pm_W G σ)[k]? = some (G.2.2 k, pm_cell G k σ) := pm_get (shp_lt h)
theorem pm_Wset {G : GC} {σ σ' : St} {k : Nat} {e : va_E} (hk : k < 75) (he : pm_cell G k σ' = e) (ho : ∀ j, j < 75 → j ≠ k → pm_cell G j σ' = pm_cell G j σ) : (pm_W G σ).set k (G.2.2 k, e) = pm_W G σ' := by
  apply List.ext_getElem?
  intro i
  rcases Nat.lt_or_ge i 75 with hi | hi
  · rw [pm_get hi]
    rcases Nat.decEq i k with h | h
    · rw [List.getElem?_set_ne (fun q => h q.symm), pm_get hi, ho i hi h]
    · subst h
      rw [List.getElem?_set_self (by simp [pm_W]; exact hk), he]
  · rw [List.getElem?_eq_none (by simp [pm_W]; exact hi), List.getElem?_eq_none (by simp [pm_W]; exact hi)]
theorem pm_D {G : GC} (hi : pm_inj G) (σ : St) : va_D (pm_A G) (pm_W G σ) := by
  have h75 : ∀ (i : Nat) (p : Nat × va_E), (pm_W G σ)[i]? = some p → i < 75 ∧ p.1 = G.2.2 i := by
    intro i p h
    have hlt : i < 75 := by
      have h1 := (List.getElem?_eq_some_iff.mp h).1
      simpa [pm_W] using h1
    rw [pm_get hlt] at h
    cases h
    exact ⟨hlt, rfl⟩
  refine ⟨fun i j p q h1 h2 h3 => ?_, fun k q h => ?_⟩
  · obtain ⟨a1, a2⟩ := h75 i p h1
    obtain ⟨b1, b2⟩ := h75 j q h2
    exact hi i j a1 b1 (by rw [← a2, ← b2]; exact h3)
  · obtain ⟨a1, a2⟩ := h75 k q h
    exact ⟨k, a1, a2⟩
theorem shp_long : ∀ j, j < 75 → ∀ t n, shp[j]? = some (2, t, n) → j = 61 := by
  intro j hj t n h
  have h1 : ∀ j, j < 75 → (shp[j]?).map (·.1) = some 2 → j = 61 := by decide +kernel
  exact h1 j hj (by rw [h]; rfl)
theorem shp_ref : ∀ j, j < 75 → ∀ i t n, shp[j]? = some (i + 3, t, n) → j = 19 := by
  intro j hj i t n h
  have h1 : ∀ j, j < 75 → (match shp[j]? with | some (0, _, _) => true | some (1, _, _) => true | some (2, _, _) => true | _ => decide (j = 19)) = true := by decide +kernel
  have h2 := h1 j hj
  rw [h] at h2
  simpa using h2
theorem cell_F {G : GC} {σ : St} {a k ci n : Nat} {v : Int32} (hs : shp[a]? = some (0, ci, n)) : ∀ j, j < 75 → j ≠ a → pm_cell G j (setF σ a k v) = pm_cell G j σ := by
  intro j hj hne
  unfold pm_cell
  have hf : pm_fld G.2.2 j (setF σ a k v) = pm_fld G.2.2 j σ := by
    funext i
    unfold pm_fld
    simp [setF, sF, hne]
  rw [hf]
  rfl
theorem cell_R {G : GC} {σ : St} {a : Nat} {g : Nat → Int32} : ∀ j, j < 75 → j ≠ a → pm_cell G j (setR σ a g) = pm_cell G j σ := by
  intro j hj hne
  unfold pm_cell
  have h1 : sA (setR σ a g) j = sA σ j := by simp [setR, sA, hne]
  rw [h1]
  rfl
theorem pm_setF {G : GC} {σ : St} {a k ci n : Nat} {v : Int32} (hs : shp[a]? = some (0, ci, n)) (hk : k < n) (hr : FR a k = none) :
    (pm_W G σ).set a (G.2.2 a, .inr (ci, ((List.range n).map (pm_fld G.2.2 a σ)).set k (.int v))) = pm_W G (setF σ a k v) := by
  refine pm_Wset (shp_lt hs) ?_ (cell_F hs)
  unfold pm_cell
  rw [hs]
  show Sum.inr (ci, _) = Sum.inr (ci, _)
  congr 2
  apply List.ext_getElem?
  intro i
  rcases Nat.lt_or_ge i n with hi | hi
  · rcases Nat.decEq i k with h | h
    · rw [List.getElem?_set_ne (fun q => h q.symm), List.getElem?_map, List.getElem?_map, List.getElem?_range hi]
      simp [pm_fld, setF, sF, h]
    · subst h
      rw [List.getElem?_set_self (by simp; exact hi), List.getElem?_map, List.getElem?_range hi]
      simp [pm_fld, setF, sF, hr]
  · rw [List.getElem?_eq_none (by simp; exact hi), List.getElem?_eq_none (by simp; exact hi)]
theorem pm_setR {G : GC} {σ : St} {a t n : Nat} {g : Nat → Int32} (hs : shp[a]? = some (1, t, n)) :
    (pm_W G σ).set a (G.2.2 a, .inl (G.2.1 t, n, .inl g)) = pm_W G (setR σ a g) := by
  refine pm_Wset (shp_lt hs) ?_ cell_R
  unfold pm_cell
  rw [hs]
  simp [setR, sA]
theorem pm_setL {G : GC} {σ : St} {i : Nat} {v : Int64} :
    (pm_W G σ).set 61 (G.2.2 61, .inl (G.2.1 3, 44, .inr (.inl (vp_updL (sL σ) i v)))) = pm_W G (setL σ i v) := by
  refine pm_Wset (by decide) rfl (fun j hj hne => ?_)
  unfold pm_cell
  have hf : pm_fld G.2.2 j (setL σ i v) = pm_fld G.2.2 j σ := rfl
  rw [hf]
  split <;> first | rfl | skip
  next h => exact absurd (shp_long j hj _ _ h) hne
theorem pm_setP {G : GC} {σ : St} {i v : Nat} :
    (pm_W G σ).set 19 (G.2.2 19, .inl (G.2.1 4, 4, .inr (.inr (.inr (.inr (va_up (fun j => some (G.2.2 (sP σ j))) i (some (G.2.2 v)))))))) = pm_W G (setP σ i v) := by
  have hfun : (fun j => some (G.2.2 (sP (setP σ i v) j))) = va_up (fun j => some (G.2.2 (sP σ j))) i (some (G.2.2 v)) := by
    funext j
    unfold va_up setP sP
    by_cases h : j = i <;> simp [h]
  refine pm_Wset (by decide) (by
    show (Sum.inl (G.2.1 4, 4, _) : va_E) = _
    rw [hfun]) (fun j hj hne => ?_)
  unfold pm_cell
  have hf : pm_fld G.2.2 j (setP σ i v) = pm_fld G.2.2 j σ := rfl
  rw [hf]
  rcases hsh : shp[j]? with _ | ⟨a, t, n⟩
  · rfl
  · match a, hsh with
    | 0, _ => rfl
    | 1, _ => rfl
    | 2, _ => rfl
    | k + 3, hsh => exact absurd (shp_ref j hj k _ _ hsh) hne
end
section
/-! the rows of PM's logic: an instruction a row -/
section GO
variable {y : MI} {d pc : Nat} {ls st : List Value} {σ : St} {Q : Option Value → St → Prop}
theorem Go.iconst {n : Int} {v : Int32} (hd : decode y.2.1 pc = .ok (.iconst n, 1)) (hv : Int32.ofInt n = v) (k : Go y d (pc + 1) ls (.int v :: st) σ Q) : Go y d pc ls st σ Q :=
  fun l G p e s m args below meth c H locs lsA R hH hS hL => lv_iconst R.1 R.2.1 hd hv (k l G p e s m args below meth c H locs lsA R hH hS hL)
theorem Go.bipush {n : Int} {v : Int32} (hd : decode y.2.1 pc = .ok (.bipush n, 2)) (hv : (Int8.ofInt n).toInt32 = v) (k : Go y d (pc + 2) ls (.int v :: st) σ Q) : Go y d pc ls st σ Q :=
  fun l G p e s m args below meth c H locs lsA R hH hS hL => lv_bipush R.1 R.2.1 hd hv (k l G p e s m args below meth c H locs lsA R hH hS hL)
theorem Go.sipush {n : Int} {v : Int32} (hd : decode y.2.1 pc = .ok (.sipush n, 3)) (hv : (Int16.ofInt n).toInt32 = v) (k : Go y d (pc + 3) ls (.int v :: st) σ Q) : Go y d pc ls st σ Q :=
  fun l G p e s m args below meth c H locs lsA R hH hS hL => lv_sipush R.1 R.2.1 hd hv (k l G p e s m args below meth c H locs lsA R hH hS hL)
theorem pm_L.at' {ad : Nat → Nat} {lsA : Array Slot} {n i : Nat} {ls : List Value} {v : Value} (h : pm_L ad lsA n ls) (hi : ls[i]? = some v) (hn : v ≠ .null) : lsA[i]? = some (.val (ptr ad v)) := h.2.2.2 i v hi hn
theorem Go.iload_n {j : Fin 4} {x : Int32} (i : Nat) (hd : decode y.2.1 pc = .ok (.iload_n j, 1)) (hj : (j : Nat) = i) (hl : ls[i]? = some (.int x)) (k : Go y d (pc + 1) ls (.int x :: st) σ Q) : Go y d pc ls st σ Q :=
  fun l G p e s m args below meth c H locs lsA R hH hS hL => lv_iload_n R.1 R.2.1 hd hj (hL.at' hl (by simp)) (k l G p e s m args below meth c H locs lsA R hH hS hL)
theorem Go.iload {i : Nat} {x : Int32} (hd : decode y.2.1 pc = .ok (.iload i, 2)) (hl : ls[i]? = some (.int x)) (k : Go y d (pc + 2) ls (.int x :: st) σ Q) : Go y d pc ls st σ Q :=
  fun l G p e s m args below meth c H locs lsA R hH hS hL => lv_iload R.1 R.2.1 hd (hL.at' hl (by simp)) (k l G p e s m args below meth c H locs lsA R hH hS hL)
theorem Go.aload_n {j : Fin 4} {x : Nat} (i : Nat) (hd : decode y.2.1 pc = .ok (.aload_n j, 1)) (hj : (j : Nat) = i) (hl : ls[i]? = some (.ref x)) (k : Go y d (pc + 1) ls (.ref x :: st) σ Q) : Go y d pc ls st σ Q :=
  fun l G p e s m args below meth c H locs lsA R hH hS hL => lv_aload_n R.1 R.2.1 hd hj (hL.at' hl (by simp)) (k l G p e s m args below meth c H locs lsA R hH hS hL)
theorem Go.lload_n {j : Fin 4} {x : Int64} (i : Nat) (hd : decode y.2.1 pc = .ok (.lload_n j, 1)) (hj : (j : Nat) = i) (hl : ls[i]? = some (.long x)) (k : Go y d (pc + 1) ls (.long x :: st) σ Q) : Go y d pc ls st σ Q :=
  fun l G p e s m args below meth c H locs lsA R hH hS hL => lv_lload_n R.1 R.2.1 hd hj (hL.at' hl (by simp)) (k l G p e s m args below meth c H locs lsA R hH hS hL)
/-- a store may not cut a value of two slots that is named -/
def lvok (ls : List Value) (i : Nat) : Bool := match i with
  | 0 => true
  | j + 1 => (ls.getD j .null).category != 2
theorem pm_L.store {ad : Nat → Nat} {ls : List Value} {n i : Nat} {v : Value} {lsA : Array Slot} (h : pm_L ad lsA n ls) (hi : i < n) (hok : lvok ls i = true) :
    ∃ lv : List (Nat × Value), lv_has lsA n lv ∧ ∀ lsB : Array Slot, lv_has lsB n ((i, ptr ad v) :: lv.filter (fun q => !(q.1 == i) && !(q.1 + 1 == i && q.2.category == 2))) → pm_L ad lsB n (ls.set i v) := by
  obtain ⟨h1, h2, h3, h4⟩ := h
  refine ⟨((List.range n).filterMap fun j => match ls[j]? with | some Value.null => none | some w => some (j, ptr ad w) | none => none), ⟨h1, h2, fun q hq => ?_⟩, fun lsB hB => ?_⟩
  · obtain ⟨j, -, hj⟩ := List.mem_filterMap.mp hq
    rcases hls : ls[j]? with _ | w
    · rw [hls] at hj; cases hj
    · rw [hls] at hj
      cases w <;> first | (cases hj; exact h4 j _ hls (by simp)) | cases hj
  · obtain ⟨b1, b2, b3⟩ := hB
    refine ⟨b1, b2, by simp [h3], fun j w hj hw => ?_⟩
    rcases Nat.decEq j i with hne | rfl
    · rw [List.getElem?_set_ne (fun z => hne z.symm)] at hj
      have hjn : j < n := by rw [← h3]; exact (List.getElem?_eq_some_iff.mp hj).1
      refine b3 (j, ptr ad w) (List.mem_cons_of_mem _ (List.mem_filter.mpr ⟨List.mem_filterMap.mpr ⟨j, List.mem_range.mpr hjn, ?_⟩, ?_⟩))
      · rw [hj]
        cases w <;> first | rfl | exact (hw rfl).elim
      · simp only [Bool.and_eq_true, Bool.not_eq_true', beq_eq_false_iff_ne, ne_eq, Bool.and_eq_false_iff]
        refine ⟨hne, ?_⟩
        rcases Nat.decEq (j + 1) i with hz | hz
        · exact Or.inl hz
        · right
          subst hz
          rw [ptr_cat]
          have hok2 : ((ls.getD j .null).category != 2) = true := hok
          have : ls.getD j .null = w := by simp [List.getD, hj]
          rw [this] at hok2
          simpa using hok2
    · rw [List.getElem?_set_self (by omega)] at hj
      cases hj
      exact b3 (j, ptr ad v) List.mem_cons_self
theorem Go.istore_n {j : Fin 4} {x : Int32} {ls' : List Value} (i : Nat) (hd : decode y.2.1 pc = .ok (.istore_n j, 1)) (hj : (j : Nat) = i) (hi : i < y.2.2.1) (hok : lvok ls i = true) (hl : ls.set i (.int x) = ls') (k : Go y d (pc + 1) ls' st σ Q) : Go y d pc ls (.int x :: st) σ Q := by
  intro l G p e s m args below meth c H locs lsA R hH hS hL
  obtain ⟨lv, h1, h2⟩ := hL.store (v := .int x) hi hok
  refine lv_istore_n R.1 R.2.1 hd hj h1 hi rfl (fun lsB hB => ?_)
  exact k l G p e s m args below meth c H locs lsB R hH hS (hl ▸ h2 lsB hB)
theorem Go.istore {i : Nat} {x : Int32} {ls' : List Value} (hd : decode y.2.1 pc = .ok (.istore i, 2)) (hi : i < y.2.2.1) (hok : lvok ls i = true) (hl : ls.set i (.int x) = ls') (k : Go y d (pc + 2) ls' st σ Q) : Go y d pc ls (.int x :: st) σ Q := by
  intro l G p e s m args below meth c H locs lsA R hH hS hL
  obtain ⟨lv, h1, h2⟩ := hL.store (v := .int x) hi hok
  refine lv_istore R.1 R.2.1 hd h1 hi rfl (fun lsB hB => ?_)
  exact k l G p e s m args below meth c H locs lsB R hH hS (hl ▸ h2 lsB hB)
theorem Go.astore_n {j : Fin 4} {x : Nat} {ls' : List Value} (i : Nat) (hd : decode y.2.1 pc = .ok (.astore_n j, 1)) (hj : (j : Nat) = i) (hi : i < y.2.2.1) (hok : lvok ls i = true) (hl : ls.set i (.ref x) = ls') (k : Go y d (pc + 1) ls' st σ Q) : Go y d pc ls (.ref x :: st) σ Q := by
  intro l G p e s m args below meth c H locs lsA R hH hS hL
  obtain ⟨lv, h1, h2⟩ := hL.store (v := .ref x) hi hok
  refine lv_astore_n R.1 R.2.1 hd hj h1 hi rfl (fun lsB hB => ?_)
  exact k l G p e s m args below meth c H locs lsB R hH hS (hl ▸ h2 lsB hB)
theorem Go.iinc {i : Nat} {n : Int} {x v : Int32} {ls' : List Value} (hd : decode y.2.1 pc = .ok (.iinc i n, 3)) (hx : ls[i]? = some (.int x)) (hv : x + Int32.ofInt n = v) (hi : i < y.2.2.1) (hok : lvok ls i = true) (hl : ls.set i (.int v) = ls') (k : Go y d (pc + 3) ls' st σ Q) : Go y d pc ls st σ Q := by
  intro l G p e s m args below meth c H locs lsA R hH hS hL
  obtain ⟨lv, h1, h2⟩ := hL.store (v := .int v) hi hok
  have h3 : lv_has lsA y.2.2.1 ((i, .int x) :: lv) := ⟨h1.1, h1.2.1, fun q hq => by
    rcases List.mem_cons.mp hq with rfl | hq
    · exact hL.at' hx (by simp)
    · exact h1.2.2 q hq⟩
  refine lv_iinc R.1 R.2.1 hd h3 (k := 0) rfl hv hi rfl (fun lsB hB => ?_)
  refine k l G p e s m args below meth c H locs lsB R hH hS (hl ▸ h2 lsB ?_)
  have e1 : ((i, Value.int x) :: lv).filter (fun q => !(q.1 == i) && !(q.1 + 1 == i && q.2.category == 2)) = lv.filter (fun q => !(q.1 == i) && !(q.1 + 1 == i && q.2.category == 2)) := by simp
  rw [e1] at hB
  exact hB
theorem Go.iadd {a b : Int32} (hd : decode y.2.1 pc = .ok (.iadd, 1)) (k : Go y d (pc + 1) ls (.int (a + b) :: st) σ Q) : Go y d pc ls (.int b :: .int a :: st) σ Q :=
  fun l G p e s m args below meth c H locs lsA R hH hS hL => lv_iadd R.1 R.2.1 hd (k l G p e s m args below meth c H locs lsA R hH hS hL)
theorem Go.isub {a b : Int32} (hd : decode y.2.1 pc = .ok (.isub, 1)) (k : Go y d (pc + 1) ls (.int (a - b) :: st) σ Q) : Go y d pc ls (.int b :: .int a :: st) σ Q :=
  fun l G p e s m args below meth c H locs lsA R hH hS hL => lv_isub R.1 R.2.1 hd (k l G p e s m args below meth c H locs lsA R hH hS hL)
theorem Go.imul {a b : Int32} (hd : decode y.2.1 pc = .ok (.imul, 1)) (k : Go y d (pc + 1) ls (.int (a * b) :: st) σ Q) : Go y d pc ls (.int b :: .int a :: st) σ Q :=
  fun l G p e s m args below meth c H locs lsA R hH hS hL => lv_imul R.1 R.2.1 hd (k l G p e s m args below meth c H locs lsA R hH hS hL)
/-- the remainder, as the machine has it -/
def irem (a b : Int32) : Int32 := a - a / b * b
theorem Go.idiv {a b : Int32} (hd : decode y.2.1 pc = .ok (.idiv, 1)) (hne : ¬ b = 0) (k : Go y d (pc + 1) ls (.int (a / b) :: st) σ Q) : Go y d pc ls (.int b :: .int a :: st) σ Q :=
  fun l G p e s m args below meth c H locs lsA R hH hS hL => lv_idiv R.1 R.2.1 hd hne (k l G p e s m args below meth c H locs lsA R hH hS hL)
theorem Go.irem {a b : Int32} (hd : decode y.2.1 pc = .ok (.irem, 1)) (hne : ¬ b = 0) (k : Go y d (pc + 1) ls (.int (irem a b) :: st) σ Q) : Go y d pc ls (.int b :: .int a :: st) σ Q :=
  fun l G p e s m args below meth c H locs lsA R hH hS hL => lv_irem R.1 R.2.1 hd hne (k l G p e s m args below meth c H locs lsA R hH hS hL)
theorem Go.ineg {a : Int32} (hd : decode y.2.1 pc = .ok (.ineg, 1)) (k : Go y d (pc + 1) ls (.int (-a) :: st) σ Q) : Go y d pc ls (.int a :: st) σ Q :=
  fun l G p e s m args below meth c H locs lsA R hH hS hL => lv_ineg R.1 R.2.1 hd (k l G p e s m args below meth c H locs lsA R hH hS hL)
theorem Go.i2c {a v : Int32} (hd : decode y.2.1 pc = .ok (.i2c, 1)) (hv : (a.toUInt32 % 65536).toInt32 = v) (k : Go y d (pc + 1) ls (.int v :: st) σ Q) : Go y d pc ls (.int a :: st) σ Q :=
  fun l G p e s m args below meth c H locs lsA R hH hS hL => lv_i2c R.1 R.2.1 hd hv (k l G p e s m args below meth c H locs lsA R hH hS hL)
theorem Go.dup {v : Value} (hd : decode y.2.1 pc = .ok (.dup, 1)) (hv : v.category = 1) (k : Go y d (pc + 1) ls (v :: v :: st) σ Q) : Go y d pc ls (v :: st) σ Q :=
  fun l G p e s m args below meth c H locs lsA R hH hS hL => lv_dup R.1 R.2.1 hd ((ptr_cat _ v).trans hv) (k l G p e s m args below meth c H locs lsA R hH hS hL)
theorem Go.dup2 {v w : Value} (hd : decode y.2.1 pc = .ok (.dup2, 1)) (hv : v.category = 1) (hw : w.category = 1) (k : Go y d (pc + 1) ls (v :: w :: v :: w :: st) σ Q) : Go y d pc ls (v :: w :: st) σ Q :=
  fun l G p e s m args below meth c H locs lsA R hH hS hL => lv_dup2_11 R.1 R.2.1 hd ((ptr_cat _ v).trans hv) ((ptr_cat _ w).trans hw) (k l G p e s m args below meth c H locs lsA R hH hS hL)
theorem Go.pop {v : Value} (hd : decode y.2.1 pc = .ok (.pop, 1)) (hv : v.category = 1) (k : Go y d (pc + 1) ls st σ Q) : Go y d pc ls (v :: st) σ Q :=
  fun l G p e s m args below meth c H locs lsA R hH hS hL => lv_pop R.1 R.2.1 hd ((ptr_cat _ v).trans hv) (k l G p e s m args below meth c H locs lsA R hH hS hL)
theorem Go.goto {off : Int} (t : Nat) (hd : decode y.2.1 pc = .ok (.goto off, 3)) (ht : (pc : Int) + off = (t : Int)) (k : Go y d t ls st σ Q) : Go y d pc ls st σ Q :=
  fun l G p e s m args below meth c H locs lsA R hH hS hL => lv_goto R.1 R.2.1 hd ht (k l G p e s m args below meth c H locs lsA R hH hS hL)
theorem Go.if_eq {x : Int32} {off : Int} (t : Nat) (hd : decode y.2.1 pc = .ok (.ifCond .eq off, 3)) (ht : (pc : Int) + off = (t : Int)) (k : (x = 0 → Go y d t ls st σ Q) ∧ (¬ x = 0 → Go y d (pc + 3) ls st σ Q)) : Go y d pc ls (.int x :: st) σ Q :=
  fun l G p e s m args below meth c H locs lsA R hH hS hL => lv_if_eq R.1 R.2.1 hd ht (fun q => k.1 q l G p e s m args below meth c H locs lsA R hH hS hL) (fun q => k.2 q l G p e s m args below meth c H locs lsA R hH hS hL)
theorem Go.icmp_eq {x y0 : Int32} {off : Int} (t : Nat) (hd : decode y.2.1 pc = .ok (.if_icmp .eq off, 3)) (ht : (pc : Int) + off = (t : Int)) (k : (x = y0 → Go y d t ls st σ Q) ∧ (¬ x = y0 → Go y d (pc + 3) ls st σ Q)) : Go y d pc ls (.int y0 :: .int x :: st) σ Q :=
  fun l G p e s m args below meth c H locs lsA R hH hS hL => lv_icmp_eq R.1 R.2.1 hd ht (fun q => k.1 q l G p e s m args below meth c H locs lsA R hH hS hL) (fun q => k.2 q l G p e s m args below meth c H locs lsA R hH hS hL)
theorem Go.if_ne {x : Int32} {off : Int} (t : Nat) (hd : decode y.2.1 pc = .ok (.ifCond .ne off, 3)) (ht : (pc : Int) + off = (t : Int)) (k : (¬ x = 0 → Go y d t ls st σ Q) ∧ (x = 0 → Go y d (pc + 3) ls st σ Q)) : Go y d pc ls (.int x :: st) σ Q :=
  fun l G p e s m args below meth c H locs lsA R hH hS hL => lv_if_ne R.1 R.2.1 hd ht (fun q => k.1 q l G p e s m args below meth c H locs lsA R hH hS hL) (fun q => k.2 q l G p e s m args below meth c H locs lsA R hH hS hL)
theorem Go.icmp_ne {x y0 : Int32} {off : Int} (t : Nat) (hd : decode y.2.1 pc = .ok (.if_icmp .ne off, 3)) (ht : (pc : Int) + off = (t : Int)) (k : (¬ x = y0 → Go y d t ls st σ Q) ∧ (x = y0 → Go y d (pc + 3) ls st σ Q)) : Go y d pc ls (.int y0 :: .int x :: st) σ Q :=
  fun l G p e s m args below meth c H locs lsA R hH hS hL => lv_icmp_ne R.1 R.2.1 hd ht (fun q => k.1 q l G p e s m args below meth c H locs lsA R hH hS hL) (fun q => k.2 q l G p e s m args below meth c H locs lsA R hH hS hL)
theorem Go.if_lt {x : Int32} {off : Int} (t : Nat) (hd : decode y.2.1 pc = .ok (.ifCond .lt off, 3)) (ht : (pc : Int) + off = (t : Int)) (k : (x < 0 → Go y d t ls st σ Q) ∧ (¬ x < 0 → Go y d (pc + 3) ls st σ Q)) : Go y d pc ls (.int x :: st) σ Q :=
  fun l G p e s m args below meth c H locs lsA R hH hS hL => lv_if_lt R.1 R.2.1 hd ht (fun q => k.1 q l G p e s m args below meth c H locs lsA R hH hS hL) (fun q => k.2 q l G p e s m args below meth c H locs lsA R hH hS hL)
theorem Go.icmp_lt {x y0 : Int32} {off : Int} (t : Nat) (hd : decode y.2.1 pc = .ok (.if_icmp .lt off, 3)) (ht : (pc : Int) + off = (t : Int)) (k : (x < y0 → Go y d t ls st σ Q) ∧ (¬ x < y0 → Go y d (pc + 3) ls st σ Q)) : Go y d pc ls (.int y0 :: .int x :: st) σ Q :=
  fun l G p e s m args below meth c H locs lsA R hH hS hL => lv_icmp_lt R.1 R.2.1 hd ht (fun q => k.1 q l G p e s m args below meth c H locs lsA R hH hS hL) (fun q => k.2 q l G p e s m args below meth c H locs lsA R hH hS hL)
theorem Go.if_ge {x : Int32} {off : Int} (t : Nat) (hd : decode y.2.1 pc = .ok (.ifCond .ge off, 3)) (ht : (pc : Int) + off = (t : Int)) (k : (0 ≤ x → Go y d t ls st σ Q) ∧ (¬ 0 ≤ x → Go y d (pc + 3) ls st σ Q)) : Go y d pc ls (.int x :: st) σ Q :=
  fun l G p e s m args below meth c H locs lsA R hH hS hL => lv_if_ge R.1 R.2.1 hd ht (fun q => k.1 q l G p e s m args below meth c H locs lsA R hH hS hL) (fun q => k.2 q l G p e s m args below meth c H locs lsA R hH hS hL)
theorem Go.icmp_ge {x y0 : Int32} {off : Int} (t : Nat) (hd : decode y.2.1 pc = .ok (.if_icmp .ge off, 3)) (ht : (pc : Int) + off = (t : Int)) (k : (y0 ≤ x → Go y d t ls st σ Q) ∧ (¬ y0 ≤ x → Go y d (pc + 3) ls st σ Q)) : Go y d pc ls (.int y0 :: .int x :: st) σ Q :=
  fun l G p e s m args below meth c H locs lsA R hH hS hL => lv_icmp_ge R.1 R.2.1 hd ht (fun q => k.1 q l G p e s m args below meth c H locs lsA R hH hS hL) (fun q => k.2 q l G p e s m args below meth c H locs lsA R hH hS hL)
theorem Go.if_gt {x : Int32} {off : Int} (t : Nat) (hd : decode y.2.1 pc = .ok (.ifCond .gt off, 3)) (ht : (pc : Int) + off = (t : Int)) (k : (0 < x → Go y d t ls st σ Q) ∧ (¬ 0 < x → Go y d (pc + 3) ls st σ Q)) : Go y d pc ls (.int x :: st) σ Q :=
  fun l G p e s m args below meth c H locs lsA R hH hS hL => lv_if_gt R.1 R.2.1 hd ht (fun q => k.1 q l G p e s m args below meth c H locs lsA R hH hS hL) (fun q => k.2 q l G p e s m args below meth c H locs lsA R hH hS hL)
theorem Go.icmp_gt {x y0 : Int32} {off : Int} (t : Nat) (hd : decode y.2.1 pc = .ok (.if_icmp .gt off, 3)) (ht : (pc : Int) + off = (t : Int)) (k : (y0 < x → Go y d t ls st σ Q) ∧ (¬ y0 < x → Go y d (pc + 3) ls st σ Q)) : Go y d pc ls (.int y0 :: .int x :: st) σ Q :=
  fun l G p e s m args below meth c H locs lsA R hH hS hL => lv_icmp_gt R.1 R.2.1 hd ht (fun q => k.1 q l G p e s m args below meth c H locs lsA R hH hS hL) (fun q => k.2 q l G p e s m args below meth c H locs lsA R hH hS hL)
theorem Go.if_le {x : Int32} {off : Int} (t : Nat) (hd : decode y.2.1 pc = .ok (.ifCond .le off, 3)) (ht : (pc : Int) + off = (t : Int)) (k : (x ≤ 0 → Go y d t ls st σ Q) ∧ (¬ x ≤ 0 → Go y d (pc + 3) ls st σ Q)) : Go y d pc ls (.int x :: st) σ Q :=
  fun l G p e s m args below meth c H locs lsA R hH hS hL => lv_if_le R.1 R.2.1 hd ht (fun q => k.1 q l G p e s m args below meth c H locs lsA R hH hS hL) (fun q => k.2 q l G p e s m args below meth c H locs lsA R hH hS hL)
theorem Go.icmp_le {x y0 : Int32} {off : Int} (t : Nat) (hd : decode y.2.1 pc = .ok (.if_icmp .le off, 3)) (ht : (pc : Int) + off = (t : Int)) (k : (x ≤ y0 → Go y d t ls st σ Q) ∧ (¬ x ≤ y0 → Go y d (pc + 3) ls st σ Q)) : Go y d pc ls (.int y0 :: .int x :: st) σ Q :=
  fun l G p e s m args below meth c H locs lsA R hH hS hL => lv_icmp_le R.1 R.2.1 hd ht (fun q => k.1 q l G p e s m args below meth c H locs lsA R hH hS hL) (fun q => k.2 q l G p e s m args below meth c H locs lsA R hH hS hL)
end GO
end
section
/-! the rows of PM's logic: fields, rows, calls, ends -/
def fldOK (own : String) (idx ci k N : Nat) : Prop := ∃ (C : String) (T : u_T), vwCl[ci]? = some (C, T, N) ∧ k < N ∧ (∀ w ∈ u_ws C T N, w ∈ tbg) ∧ Cond.fieldLink own idx (T k).1 (T k).2.1 (T k).2.2.1 ∈ tbg
def fputOK (own : String) (idx ci k N : Nat) (ty : FieldType) : Prop := ∃ (C : String) (T : u_T) (ty0 : Nat → FieldType), vwCl[ci]? = some (C, T, N) ∧ k < N ∧ (∀ w ∈ u_ws C T N, w ∈ tbg) ∧ Cond.fieldLink own idx (T k).1 (T k).2.1 (T k).2.2.1 ∈ tbg ∧
  (∀ k, k < N → parseFieldDescriptor (T k).2.2.1 = some (ty0 k)) ∧ (∀ a, a < N → ∀ b, b < N → a ≠ b → (T a).2.1 ≠ (T b).2.1) ∧ (T k).2.2.2 = false ∧ parseFieldDescriptor (T k).2.2.1 = some ty
theorem pm_obj {G : GC} {σ : St} {a ci N : Nat} (hs : shp[a]? = some (0, ci, N)) : (pm_W G σ)[a]? = some (G.2.2 a, .inr (ci, (List.range N).map (pm_fld G.2.2 a σ))) := by
  rw [pm_getS hs]
  unfold pm_cell
  rw [hs]
  rfl
theorem pm_row {G : GC} {σ : St} {a t n : Nat} (hs : shp[a]? = some (1, t, n)) : (pm_W G σ)[a]? = some (G.2.2 a, .inl (G.2.1 t, n, .inl (sA σ a))) := by
  rw [pm_getS hs]
  unfold pm_cell
  rw [hs]
  rfl
theorem pm_fldAt {ad : Nat → Nat} {σ : St} {a k N : Nat} (hk : k < N) : ((List.range N).map (pm_fld ad a σ))[k]? = some (pm_fld ad a σ k) := by
  simp [List.getElem?_map, List.getElem?_range hk]
section HEAP
variable {y : MI} {d pc : Nat} {ls st : List Value} {σ : St} {Q : Option Value → St → Prop}
theorem Go.getI {a idx ci k N : Nat} (hf : fldOK y.1.cls idx ci k N) (hs : shp[a]? = some (0, ci, N)) (hr : FR a k = none) (hd : decode y.2.1 pc = .ok (.getfield idx, 3)) (kk : Go y d (pc + 3) ls (.int (sF σ a k) :: st) σ Q) : Go y d pc ls (.ref a :: st) σ Q := by
  intro l G p e s m args below meth c H locs lsA R hH hS hL
  obtain ⟨C, T, hc, hk, hin, hln⟩ := hf
  obtain ⟨hx, hb, hret, hml, hown, hts, hlocks, hK, hinj⟩ := id R
  refine va_get hx hb hts hin hown hK hH.1 a (pm_obj hs) hc k hk (hts _ hln) (fun _ h => h) (pm_fldAt hk) hd ?_
  have h := kk l G p e s m args below meth c H locs lsA R hH hS hL
  have e1 : pm_fld G.2.2 a σ k = .int (sF σ a k) := by unfold pm_fld; rw [hr]
  rw [e1]
  exact h
theorem Go.getR {a q idx ci k N : Nat} (hf : fldOK y.1.cls idx ci k N) (hs : shp[a]? = some (0, ci, N)) (hr : FR a k = some q) (hd : decode y.2.1 pc = .ok (.getfield idx, 3)) (kk : Go y d (pc + 3) ls (.ref q :: st) σ Q) : Go y d pc ls (.ref a :: st) σ Q := by
  intro l G p e s m args below meth c H locs lsA R hH hS hL
  obtain ⟨C, T, hc, hk, hin, hln⟩ := hf
  obtain ⟨hx, hb, hret, hml, hown, hts, hlocks, hK, hinj⟩ := id R
  refine va_get hx hb hts hin hown hK hH.1 a (pm_obj hs) hc k hk (hts _ hln) (fun _ h => h) (pm_fldAt hk) hd ?_
  have h := kk l G p e s m args below meth c H locs lsA R hH hS hL
  have e1 : pm_fld G.2.2 a σ k = .ref (G.2.2 q) := by unfold pm_fld; rw [hr]
  rw [e1]
  exact h
theorem Go.put {a idx ci k N : Nat} {ty : FieldType} {x : Int32} (hf : fputOK y.1.cls idx ci k N ty) (hn : narrow ty (.int x) = .int x) (hfit : fits ty (.int x) = true) (hs : shp[a]? = some (0, ci, N)) (hr : FR a k = none) (hd : decode y.2.1 pc = .ok (.putfield idx, 3)) (kk : Go y d (pc + 3) ls st (setF σ a k x) Q) : Go y d pc ls (.int x :: .ref a :: st) σ Q := by
  intro l G p e s m args below meth c H locs lsA R hH hS hL
  obtain ⟨C, T, ty0, hc, hk, hin, hln, hty, hnm, hfin, hpd⟩ := hf
  obtain ⟨hx, hb, hret, hml, hown, hts, hlocks, hK, hinj⟩ := id R
  refine va_put hx hb hts hin ty0 hty hnm hown hK hH.1 (pm_D hinj σ) hS a (pm_obj hs) hc k hk (hts _ hln) (fun _ h => h) hfin hpd hn hfit (by simp; exact hk) hd (fun H1 locs1 hP1 _ hS1 => ?_)
  have hP1 : va_P G.1 vwCl ((pm_W G σ).set a (G.2.2 a, .inr (ci, ((List.range N).map (pm_fld G.2.2 a σ)).set k (.int x)))) H1 := hP1
  rw [pm_setF hs hk hr] at hP1
  exact kk l G p e s m args below meth c H1 locs1 lsA R ⟨hP1, fun k n h j => hH.2 k n h j⟩ hS1 hL
theorem Go.putI {a idx ci k N : Nat} {x : Int32} (hf : fputOK y.1.cls idx ci k N .int) (hs : shp[a]? = some (0, ci, N)) (hr : FR a k = none) (hd : decode y.2.1 pc = .ok (.putfield idx, 3)) (kk : Go y d (pc + 3) ls st (setF σ a k x) Q) : Go y d pc ls (.int x :: .ref a :: st) σ Q :=
  Go.put hf rfl rfl hs hr hd kk
theorem bool_fit {x : Int32} (h : x = 0 ∨ x = 1) : narrow .boolean (.int x) = .int x ∧ fits .boolean (.int x) = true := by
  rcases h with rfl | rfl <;> exact ⟨rfl, rfl⟩
theorem Go.putZ {a idx ci k N : Nat} {x : Int32} (hv : x = 0 ∨ x = 1) (hf : fputOK y.1.cls idx ci k N .boolean) (hs : shp[a]? = some (0, ci, N)) (hr : FR a k = none) (hd : decode y.2.1 pc = .ok (.putfield idx, 3)) (kk : Go y d (pc + 3) ls st (setF σ a k x) Q) : Go y d pc ls (.int x :: .ref a :: st) σ Q :=
  Go.put hf (bool_fit hv).1 (bool_fit hv).2 hs hr hd kk
abbrev ix (i : Int32) : Nat := i.toNatClampNeg
theorem Go.iald {q n : Nat} {i : Int32} (hs : shp[q]? = some (1, 0, n)) (hd : decode y.2.1 pc = .ok (.iaload, 1)) (kk : vp_in i n ∧ Go y d (pc + 1) ls (.int (sA σ q (ix i)) :: st) σ Q) : Go y d pc ls (.int i :: .ref q :: st) σ Q := by
  intro l G p e s m args below meth c H locs lsA R hH hS hL
  exact va_iald R.1 R.2.1 R.2.2.2.2.2.2.2.1 hH.1 q 0 (pm_row hs) rfl kk.1 hd (kk.2 l G p e s m args below meth c H locs lsA R hH hS hL)
theorem Go.zald {q n : Nat} {i : Int32} (hs : shp[q]? = some (1, 1, n)) (hd : decode y.2.1 pc = .ok (.baload, 1)) (kk : vp_in i n ∧ Go y d (pc + 1) ls (.int (sA σ q (ix i)) :: st) σ Q) : Go y d pc ls (.int i :: .ref q :: st) σ Q := by
  intro l G p e s m args below meth c H locs lsA R hH hS hL
  exact va_zald R.1 R.2.1 R.2.2.2.2.2.2.2.1 hH.1 q 1 (pm_row hs) rfl kk.1 hd (kk.2 l G p e s m args below meth c H locs lsA R hH hS hL)
theorem Go.cald {q n : Nat} {i : Int32} (hs : shp[q]? = some (1, 2, n)) (hd : decode y.2.1 pc = .ok (.caload, 1)) (kk : vp_in i n ∧ Go y d (pc + 1) ls (.int (sA σ q (ix i)) :: st) σ Q) : Go y d pc ls (.int i :: .ref q :: st) σ Q := by
  intro l G p e s m args below meth c H locs lsA R hH hS hL
  exact va_cald R.1 R.2.1 R.2.2.2.2.2.2.2.1 hH.1 q 2 (pm_row hs) rfl kk.1 hd (kk.2 l G p e s m args below meth c H locs lsA R hH hS hL)
theorem shp_z {k n t m : Nat} (h : shp[k]? = some (1, t, n)) (h2 : shp[k]? = some (1, 1, m)) : t = 1 := by
  rw [h] at h2
  cases h2
  rfl
theorem pm_fit.setR {σ : St} {a t n : Nat} {g : Nat → Int32} (h : pm_fit σ) (hs : shp[a]? = some (1, t, n)) (hg : t = 1 → ∀ j, fits .boolean (.int (g j)) = true) : pm_fit (setR σ a g) := by
  intro k m hk j
  show fits .boolean (.int ((if k = a then g else sA σ k) j)) = true
  rcases Nat.decEq k a with hne | rfl
  · rw [if_neg hne]
    exact h k m hk j
  · rw [if_pos rfl]
    exact hg (shp_z hs hk) j
theorem Go.iast {q n : Nat} {i x : Int32} (hs : shp[q]? = some (1, 0, n)) (hd : decode y.2.1 pc = .ok (.iastore, 1)) (kk : vp_in i n ∧ Go y d (pc + 1) ls st (setA σ q (ix i) x) Q) : Go y d pc ls (.int x :: .int i :: .ref q :: st) σ Q := by
  intro l G p e s m args below meth c H locs lsA R hH hS hL
  refine va_iast R.1 R.2.1 R.2.2.2.2.2.2.2.1 hH.1 (pm_D R.2.2.2.2.2.2.2.2 σ) hS q 0 (pm_row hs) rfl kk.1 hd (fun H1 locs1 hP1 _ hS1 => ?_)
  rw [pm_setR hs] at hP1
  exact kk.2 l G p e s m args below meth c H1 locs1 lsA R ⟨hP1, hH.2.setR hs (fun h => by cases h)⟩ hS1 hL
/-- what a char row, a boolean row keeps of a number -/
abbrev nch (x : Int32) : Int32 := vp_nar .char x
abbrev nbo (x : Int32) : Int32 := vp_nar .boolean x
theorem Go.cast {q n : Nat} {i x : Int32} (hs : shp[q]? = some (1, 2, n)) (hd : decode y.2.1 pc = .ok (.castore, 1)) (kk : vp_in i n ∧ Go y d (pc + 1) ls st (setA σ q (ix i) (nch x)) Q) : Go y d pc ls (.int x :: .int i :: .ref q :: st) σ Q := by
  intro l G p e s m args below meth c H locs lsA R hH hS hL
  refine va_cast R.1 R.2.1 R.2.2.2.2.2.2.2.1 hH.1 (pm_D R.2.2.2.2.2.2.2.2 σ) hS q 2 (pm_row hs) rfl kk.1 hd (fun H1 locs1 hP1 _ hS1 => ?_)
  rw [pm_setR hs] at hP1
  exact kk.2 l G p e s m args below meth c H1 locs1 lsA R ⟨hP1, hH.2.setR hs (fun h => by cases h)⟩ hS1 hL
theorem nbo_fit (x : Int32) : fits .boolean (.int (nbo x)) = true := by
  show (x &&& 1 == 0 || x &&& 1 == 1) = true
  have h : x &&& 1 = 0 ∨ x &&& 1 = 1 := by
    obtain ⟨j, hj, e⟩ := pk_andE x (m := 1) 1 (by decide)
    rw [e]
    rcases (show j = 0 ∨ j = 1 by omega) with rfl | rfl
    · left; rfl
    · right; rfl
  rcases h with h | h <;> rw [h] <;> rfl
theorem Go.zast {q n : Nat} {i x : Int32} (hs : shp[q]? = some (1, 1, n)) (hd : decode y.2.1 pc = .ok (.bastore, 1)) (kk : vp_in i n ∧ Go y d (pc + 1) ls st (setA σ q (ix i) (nbo x)) Q) : Go y d pc ls (.int x :: .int i :: .ref q :: st) σ Q := by
  intro l G p e s m args below meth c H locs lsA R hH hS hL
  refine va_zast R.1 R.2.1 R.2.2.2.2.2.2.2.1 hH.1 (pm_D R.2.2.2.2.2.2.2.2 σ) hS q 1 (pm_row hs) rfl kk.1 hd (fun H1 locs1 hP1 _ hS1 => ?_)
  rw [pm_setR hs] at hP1
  refine kk.2 l G p e s m args below meth c H1 locs1 lsA R ⟨hP1, hH.2.setR hs (fun _ j => ?_)⟩ hS1 hL
  unfold upd
  by_cases h : j = ix i
  · rw [if_pos h]; exact nbo_fit x
  · rw [if_neg h]; exact hH.2 q n hs j
theorem Go.alen {q t n : Nat} {v : Int32} (hs : shp[q]? = some (1, t, n)) (ht : t < 3) (hv : Int32.ofNat n = v) (hd : decode y.2.1 pc = .ok (.arraylength, 1)) (kk : Go y d (pc + 1) ls (.int v :: st) σ Q) : Go y d pc ls (.ref q :: st) σ Q := by
  intro l G p e s m args below meth c H locs lsA R hH hS hL
  have h := kk l G p e s m args below meth c H locs lsA R hH hS hL
  match t, ht with
  | 0, _ => exact va_alen R.1 R.2.1 R.2.2.2.2.2.2.2.1 hH.1 q 0 (pm_row hs) (ty := .int) rfl hv hd h
  | 1, _ => exact va_alen R.1 R.2.1 R.2.2.2.2.2.2.2.1 hH.1 q 1 (pm_row hs) (ty := .boolean) rfl hv hd h
  | 2, _ => exact va_alen R.1 R.2.1 R.2.2.2.2.2.2.2.1 hH.1 q 2 (pm_row hs) (ty := .char) rfl hv hd h
theorem Go.alenL {v : Int32} (hv : Int32.ofNat 44 = v) (hd : decode y.2.1 pc = .ok (.arraylength, 1)) (kk : Go y d (pc + 1) ls (.int v :: st) σ Q) : Go y d pc ls (.ref 61 :: st) σ Q := by
  intro l G p e s m args below meth c H locs lsA R hH hS hL
  exact va_alen R.1 R.2.1 R.2.2.2.2.2.2.2.1 hH.1 61 3 (pm_get (by decide)) (ty := .long) rfl hv hd (kk l G p e s m args below meth c H locs lsA R hH hS hL)
theorem Go.alenP {v : Int32} (hv : Int32.ofNat 4 = v) (hd : decode y.2.1 pc = .ok (.arraylength, 1)) (kk : Go y d (pc + 1) ls (.int v :: st) σ Q) : Go y d pc ls (.ref 19 :: st) σ Q := by
  intro l G p e s m args below meth c H locs lsA R hH hS hL
  exact va_alen R.1 R.2.1 R.2.2.2.2.2.2.2.1 hH.1 19 4 (pm_get (by decide)) (ty := .object "EchoTurns$Scene") rfl hv hd (kk l G p e s m args below meth c H locs lsA R hH hS hL)
theorem Go.lald {i : Int32} (hd : decode y.2.1 pc = .ok (.laload, 1)) (kk : vp_in i 44 ∧ Go y d (pc + 1) ls (.long (sL σ (ix i)) :: st) σ Q) : Go y d pc ls (.int i :: .ref 61 :: st) σ Q := by
  intro l G p e s m args below meth c H locs lsA R hH hS hL
  exact va_lald R.1 R.2.1 R.2.2.2.2.2.2.2.1 hH.1 61 3 (pm_get (by decide)) rfl kk.1 hd (kk.2 l G p e s m args below meth c H locs lsA R hH hS hL)
theorem Go.last {i : Int32} {x : Int64} (hd : decode y.2.1 pc = .ok (.lastore, 1)) (kk : vp_in i 44 ∧ Go y d (pc + 1) ls st (setL σ (ix i) x) Q) : Go y d pc ls (.long x :: .int i :: .ref 61 :: st) σ Q := by
  intro l G p e s m args below meth c H locs lsA R hH hS hL
  refine va_last R.1 R.2.1 R.2.2.2.2.2.2.2.1 hH.1 (pm_D R.2.2.2.2.2.2.2.2 σ) hS 61 3 (pm_get (by decide)) rfl kk.1 hd (fun H1 locs1 hP1 _ hS1 => ?_)
  have hP1 : va_P G.1 vwCl ((pm_W G σ).set 61 (G.2.2 61, .inl (G.2.1 3, 44, .inr (.inl (vp_updL (sL σ) (ix i) x))))) H1 := hP1
  rw [pm_setL] at hP1
  exact kk.2 l G p e s m args below meth c H1 locs1 lsA R ⟨hP1, hH.2⟩ hS1 hL
theorem Go.aald {i : Int32} (hd : decode y.2.1 pc = .ok (.aaload, 1)) (kk : vp_in i 4 ∧ Go y d (pc + 1) ls (.ref (sP σ (ix i)) :: st) σ Q) : Go y d pc ls (.int i :: .ref 19 :: st) σ Q := by
  intro l G p e s m args below meth c H locs lsA R hH hS hL
  exact va_aldq R.1 R.2.1 R.2.2.2.2.2.2.2.1 hH.1 19 4 (pm_get (by decide)) rfl kk.1 hd (kk.2 l G p e s m args below meth c H locs lsA R hH hS hL)
theorem Go.aast {i : Int32} {v : Nat} (hv : shp[v]? = some (0, 3, 9)) (hd : decode y.2.1 pc = .ok (.aastore, 1)) (kk : vp_in i 4 ∧ Go y d (pc + 1) ls st (setP σ (ix i) v) Q) : Go y d pc ls (.ref v :: .int i :: .ref 19 :: st) σ Q := by
  intro l G p e s m args below meth c H locs lsA R hH hS hL
  refine va_astq R.1 R.2.1 R.2.2.2.2.2.2.2.1 hH.1 (pm_D R.2.2.2.2.2.2.2.2 σ) hS 19 4 v 3 (pm_get (by decide)) (r := (RX3, TX3, 9)) rfl (pm_obj hv) rfl kk.1 hd (fun H1 locs1 hP1 _ hS1 => ?_)
  have hP1 : va_P G.1 vwCl ((pm_W G σ).set 19 (G.2.2 19, .inl (G.2.1 4, 4, .inr (.inr (.inr (.inr (va_up (fun j => some (G.2.2 (sP σ j))) (ix i) (some (G.2.2 v))))))))) H1 := hP1
  rw [pm_setP] at hP1
  exact kk.2 l G p e s m args below meth c H1 locs1 lsA R ⟨hP1, hH.2⟩ hS1 hL
theorem Go.lconst {n : Fin 2} {v : Int64} (hd : decode y.2.1 pc = .ok (.lconst n, 1)) (hv : Int64.ofNat (n : Nat) = v) (k : Go y d (pc + 1) ls (.long v :: st) σ Q) : Go y d pc ls st σ Q :=
  fun l G p e s m args below meth c H locs lsA R hH hS hL => lv_lconst R.1 R.2.1 hd hv (k l G p e s m args below meth c H locs lsA R hH hS hL)
theorem Go.lshl {x v : Int64} {i : Int32} (hd : decode y.2.1 pc = .ok (.lshl, 1)) (hv : x <<< (i.toInt64 &&& 63) = v) (k : Go y d (pc + 1) ls (.long v :: st) σ Q) : Go y d pc ls (.int i :: .long x :: st) σ Q :=
  fun l G p e s m args below meth c H locs lsA R hH hS hL => lv_lshl R.1 R.2.1 hd hv (k l G p e s m args below meth c H locs lsA R hH hS hL)
theorem Go.lshr {x v : Int64} {i : Int32} (hd : decode y.2.1 pc = .ok (.lshr, 1)) (hv : x >>> (i.toInt64 &&& 63) = v) (k : Go y d (pc + 1) ls (.long v :: st) σ Q) : Go y d pc ls (.int i :: .long x :: st) σ Q :=
  fun l G p e s m args below meth c H locs lsA R hH hS hL => lv_lshr R.1 R.2.1 hd hv (k l G p e s m args below meth c H locs lsA R hH hS hL)
theorem Go.lor {a b : Int64} (hd : decode y.2.1 pc = .ok (.lor, 1)) (k : Go y d (pc + 1) ls (.long (a ||| b) :: st) σ Q) : Go y d pc ls (.long b :: .long a :: st) σ Q :=
  fun l G p e s m args below meth c H locs lsA R hH hS hL => lv_lor R.1 R.2.1 hd (k l G p e s m args below meth c H locs lsA R hH hS hL)
theorem Go.land {a b : Int64} (hd : decode y.2.1 pc = .ok (.land, 1)) (k : Go y d (pc + 1) ls (.long (a &&& b) :: st) σ Q) : Go y d pc ls (.long b :: .long a :: st) σ Q :=
  fun l G p e s m args below meth c H locs lsA R hH hS hL => lv_land R.1 R.2.1 hd (k l G p e s m args below meth c H locs lsA R hH hS hL)
theorem Go.lcmp {a b : Int64} (hd : decode y.2.1 pc = .ok (.lcmp, 1)) (k : Go y d (pc + 1) ls (.int (lg_cmp a b) :: st) σ Q) : Go y d pc ls (.long b :: .long a :: st) σ Q :=
  fun l G p e s m args below meth c H locs lsA R hH hS hL => W.lcmp R.1 R.2.1 hd (k l G p e s m args below meth c H locs lsA R hH hS hL)
theorem Go.iret {v : Int32} (hr : y.2.2.2 = some .int) (hd : decode y.2.1 pc = .ok (.ireturn, 1)) (k : Q (some (.int v)) σ) : Go y d pc ls [.int v] σ Q := by
  intro l G p e s m args below meth c H locs lsA R hH hS hL
  have hlocks := R.2.2.2.2.2.2.1
  exact W.iret R.1 R.2.1 (R.2.2.1.trans hr) (fun t ht _ => ⟨⟨some (.int v), σ, rfl, k, by rw [ht]; exact hH⟩, hS.F ht⟩) hS.2.2 hd
theorem Go.zret {v : Int32} {ty : FieldType} (hr : y.2.2.2 = some ty) (hn : narrow ty (.int v) = .int v) (hd : decode y.2.1 pc = .ok (.ireturn, 1)) (k : Q (some (.int v)) σ) : Go y d pc ls [.int v] σ Q := by
  intro l G p e s m args below meth c H locs lsA R hH hS hL
  have hlocks := R.2.2.2.2.2.2.1
  exact W.zret R.1 R.2.1 (R.2.2.1.trans hr) hn (fun t ht _ => ⟨⟨some (.int v), σ, rfl, k, by rw [ht]; exact hH⟩, hS.F ht⟩) hS.2.2 hd
theorem Go.vret (hr : y.2.2.2 = none) (hd : decode y.2.1 pc = .ok (.return_, 1)) (k : Q none σ) : Go y d pc ls [] σ Q := by
  intro l G p e s m args below meth c H locs lsA R hH hS hL
  have hlocks := R.2.2.2.2.2.2.1
  exact W.vret R.1 R.2.1 (R.2.2.1.trans hr) (fun t ht _ => ⟨⟨none, σ, rfl, k, by rw [ht]; exact hH⟩, hS.F ht⟩) hS.2.2 hd
end HEAP
end
section
/-! calls, switches, copies, entries -/
theorem wsAll : ∀ w ∈ tbg, (w.onTables && w.keeps) = true ∨ ∃ ty, w = .arrayClass ty := fun _ hw => good_of_word (List.mem_filter.mp hw).2
def mOKV (y : MI) (ci n : Nat) : Prop := Cond.instanceMethod y.1 ∈ tbg ∧ Cond.selects y.1.cls y.1 y.1 ∈ tbg ∧ Cond.initialized y.1.cls ∈ tbg ∧ Cond.code y.1 y.2.1 y.2.2.1 y.2.2.2 ∈ tbg ∧ (∃ q, vwCl[ci]? = some q ∧ q.1 = y.1.cls) ∧ (y.1.cls ≠ "java/lang/invoke/MethodHandle" ∧ y.1.cls ≠ "java/lang/invoke/VarHandle") ∧ (parseMethodDescriptor y.1.desc).map (fun d => d.parameters.length) = some n ∧ y.2.2.1 ≤ 12
def mOKS (y : MI) (n : Nat) : Prop := Cond.static y.1 ∈ tbg ∧ Cond.initialized y.1.cls ∈ tbg ∧ Cond.code y.1 y.2.1 y.2.2.1 y.2.2.2 ∈ tbg ∧ (y.1.cls ≠ "java/lang/invoke/MethodHandle" ∧ y.1.cls ≠ "java/lang/invoke/VarHandle") ∧ (parseMethodDescriptor y.1.desc).map (fun d => d.parameters.length) = some n ∧ y.2.2.1 ≤ 12
theorem pm_blind (G : GC) (as : List Value) (σ : St) : FrameBlind (pm_P G as σ) := by
  intro a U g mk ⟨h1, h2, h3, h4⟩
  exact ⟨h1, h2, va_K.moved (u := U) (U := U.calling g mk a) (Vm.Alike.refl U.vm) h3, h4⟩
theorem pm_words {y : MI} {args : Array Value} {s : State} (hts : ∀ w ∈ tbg, w.before args s = true) (hc : Cond.code y.1 y.2.1 y.2.2.1 y.2.2.2 ∈ tbg) : ∀ w ∈ wsz y, ∀ (a' : Array Value) (U : State), s.WarmedH U.vm → w.before a' U = true := by
  intro w hw a' U hW
  have hm : w ∈ tbg := by
    rcases List.mem_cons.mp hw with rfl | h
    · exact hc
    · exact h
  exact word_at hW (wsAll w hm) (hts w hm)
theorem lenOK {desc : String} {n : Nat} (h : (parseMethodDescriptor desc).map (fun d => d.parameters.length) = some n) : ∀ sig, parseMethodDescriptor desc = some sig → n = sig.parameters.length := by
  intro sig hs
  rw [hs] at h
  exact (Option.some.inj h).symm
theorem rm_le {m d : Nat} (h : m ≤ 12) : (rmz d).frames + 1 ≤ (rmz (d + 1)).frames ∧ 8 + (m + 11) + (rmz d).locals ≤ (rmz (d + 1)).locals := by
  refine ⟨Nat.le_refl _, ?_⟩
  show 8 + (m + 11) + 31 * d ≤ 31 * (d + 1)
  omega
section CALLS
variable {y y2 : MI} {d pc idx : Nat} {ls st : List Value} {σ : St} {Q Q2 : Option Value → St → Prop}
/-- behind a call -/
theorem pm_back {l : Launch} {G : GC} {p : Program} {e : Env} {s : State} {m : MethodId} {args : Array Value} {below : List Frame} {meth : Method} {c : Code} {H : Heap} {locs : List Loc} {lsA : Array Slot} {st0 : List Value} {a2 : Array Value}
    (hr : va_Run p l e (rmz (d + 1)) s m args below meth c H locs 0 0 0 0 (F0 m pc lsA st0) (st.map (ptr G.2.2)) (pm_Q G Q2 a2) (pm_A G))
    (R : pm_run y G p s m args meth c) (hS : va_S (pm_A G) s.heap H locs) (hL : pm_L G.2.2 lsA y.2.2.1 ls)
    (hk : ∀ r σ', Q2 r σ' → Go y (d + 1) (pc + 3) ls (r.toList ++ st) σ' Q) :
    W p l e (rmz (d + 1)) s m args below meth c H locs 0 0 (MQ below (pm_Q G Q) args s 0 0 (pm_A G)) (F0 m pc lsA st0) := by
  intro T hT X
  obtain ⟨v, st₀, t, T', L, h0, X', hLc, e1, e2, ⟨⟨r, σ', ho, hq, hH'⟩, hz, hkp⟩, stp⟩ := hr T hT X
  rw [h0] at hz hkp
  have hv : v = r.map (ptr G.2.2) := Outcome.returned.inj ho
  subst hv
  have hS1 : va_S (pm_A G) s.heap T'.heap (locs ++ L) := by
    refine ⟨Nat.le_trans hS.1 (by rw [e1]; exact hz), fun q h1 h2 => ?_, fun q hq => ?_⟩
    · rw [e1, hkp q (Nat.lt_of_lt_of_le h1 hS.1) h2]; exact hS.2.1 q h1 h2
    · rcases List.mem_append.mp hq with h | h
      · exact hS.2.2 q h
      · exact hLc q h
  have key := hk r σ' hq l G p e s m args below meth c T'.heap (locs ++ L) lsA R (by rw [e1]; exact hH') hS1 hL
  have hst : (r.toList ++ st).map (ptr G.2.2) = (r.map (ptr G.2.2)).toList ++ st.map (ptr G.2.2) := by cases r <;> rfl
  rw [hst] at key
  obtain ⟨t2, a1, b1⟩ := key T' rfl X'
  exact ⟨t2, stp t2 a1, b1⟩
theorem Go.callV {a ci n N : Nat} {as : List Value} {st0 : List Value} (hm : mOKV y2 ci n) (hl : Cond.methodLink y.1.cls idx y2.1 ∈ tbg) (hs : shp[a]? = some (0, ci, N)) (hst : st0 = as.reverse ++ .ref a :: st) (hn : as.length = n) (hw : (st.map fun v => v.category).sum ≤ 8) (hd : decode y.2.1 pc = .ok (.invokevirtual idx, 3))
    (hc : Call d y2 (.ref a :: as) σ Q2) (hk : ∀ r σ', Q2 r σ' → Go y (d + 1) (pc + 3) ls (r.toList ++ st) σ' Q) : Go y (d + 1) pc ls st0 σ Q := by
  subst hst
  intro l G p e s m args below meth c H locs lsA R hH hS hL
  obtain ⟨hx, hb, hret, hml, hown, hts, hlocks, hK, hinj⟩ := id R
  obtain ⟨m1, m2, m3, m4, ⟨q, hq, hqc⟩, m6, m7, m8⟩ := hm
  have hrv := va_recv hK hH.1 hq (pm_obj hs)
  rw [hqc] at hrv
  have hCW : CallW (rmz (d + 1)) s args y.1.cls y2.1.cls idx y2.1 y2.2.1 y2.2.2.1 y2.2.2.2 (wsz y2) (rmz d) 0 0 n :=
    ⟨⟨rfl, rfl, (rm_le m8).1, (rm_le m8).2, pm_words hts m4, List.mem_cons_self, hts _ m4, hts _ m3, m6, lenOK m7, hts _ hl⟩, hts _ m1, hts _ m2⟩
  have hrun := va_runV (p := p) (l := l) (e := e) (R := rmz (d + 1)) (s := s) (m := m) (args := args) (below := below) (meth := meth) (c := c) (H := H) (locs := locs) (cells := 0) (slots := 0) (b := G.2.2 a) (As := as.map (ptr G.2.2)) (rest := st.map (ptr G.2.2)) (g := F0 m pc lsA ((as.reverse ++ .ref a :: st).map (ptr G.2.2)))
    ⟨hx, hb, hml, hown, hts⟩ (hc l G) hCW ⟨pm_blind G _ σ, hrv, fun U hU hW => ⟨rfl, by rw [hU]; exact hH, va_K.moved hW.alike hK, hinj⟩⟩ rfl (by rw [List.length_map]; exact hn) hL.1 (by simp [ptr]) (lv_room (by rw [ptr_cats]; exact hw)) hd ⟨Nat.le_refl _, Nat.le_refl _⟩
  exact pm_back hrun R hS hL hk
theorem Go.callS {n : Nat} {as : List Value} {st0 : List Value} (hm : mOKS y2 n) (hl : Cond.methodLink y.1.cls idx y2.1 ∈ tbg) (hst : st0 = as.reverse ++ st) (hn : as.length = n) (hw : (st.map fun v => v.category).sum ≤ 8) (hd : decode y.2.1 pc = .ok (.invokestatic idx, 3))
    (hc : Call d y2 as σ Q2) (hk : ∀ r σ', Q2 r σ' → Go y (d + 1) (pc + 3) ls (r.toList ++ st) σ' Q) : Go y (d + 1) pc ls st0 σ Q := by
  subst hst
  intro l G p e s m args below meth c H locs lsA R hH hS hL
  obtain ⟨hx, hb, hret, hml, hown, hts, hlocks, hK, hinj⟩ := id R
  obtain ⟨m1, m3, m4, m6, m7, m8⟩ := hm
  have hCB : CallB (rmz (d + 1)) s args y.1.cls idx y2.1 y2.2.1 y2.2.2.1 y2.2.2.2 (wsz y2) (rmz d) 0 0 n ∧ (Cond.static y2.1).before args s = true :=
    ⟨⟨rfl, rfl, (rm_le m8).1, (rm_le m8).2, pm_words hts m4, List.mem_cons_self, hts _ m4, hts _ m3, m6, lenOK m7, hts _ hl⟩, hts _ m1⟩
  have hrun := va_runS (p := p) (l := l) (e := e) (R := rmz (d + 1)) (s := s) (m := m) (args := args) (below := below) (meth := meth) (c := c) (H := H) (locs := locs) (cells := 0) (slots := 0) (As := as.map (ptr G.2.2)) (rest := st.map (ptr G.2.2)) (g := F0 m pc lsA ((as.reverse ++ st).map (ptr G.2.2)))
    ⟨hx, hb, hml, hown, hts⟩ (hc l G) hCB ⟨pm_blind G _ σ, fun U hU hW => ⟨rfl, by rw [hU]; exact hH, va_K.moved hW.alike hK, hinj⟩⟩ rfl (by rw [List.length_map]; exact hn) hL.1 (by simp) (lv_room (by rw [ptr_cats]; exact hw)) hd ⟨Nat.le_refl _, Nat.le_refl _⟩
  exact pm_back hrun R hS hL hk
theorem Go.callSN {n : Nat} {host : String} {as : List Value} {st0 : List Value} (hm : mOKS y2 n) (hl : Cond.methodLinkNest y.1.cls idx y2.1 host ∈ tbg) (hst : st0 = as.reverse ++ st) (hn : as.length = n) (hw : (st.map fun v => v.category).sum ≤ 8) (hd : decode y.2.1 pc = .ok (.invokestatic idx, 3))
    (hc : Call d y2 as σ Q2) (hk : ∀ r σ', Q2 r σ' → Go y (d + 1) (pc + 3) ls (r.toList ++ st) σ' Q) : Go y (d + 1) pc ls st0 σ Q := by
  subst hst
  intro l G p e s m args below meth c H locs lsA R hH hS hL
  obtain ⟨hx, hb, hret, hml, hown, hts, hlocks, hK, hinj⟩ := id R
  obtain ⟨m1, m3, m4, m6, m7, m8⟩ := hm
  have hCB : va_CN (rmz (d + 1)) s args y.1.cls idx y2.1 host y2.2.1 y2.2.2.1 y2.2.2.2 (wsz y2) (rmz d) 0 0 n ∧ (Cond.static y2.1).before args s = true ∧ True :=
    ⟨⟨⟨rfl, rfl, (rm_le m8).1, (rm_le m8).2, pm_words hts m4, List.mem_cons_self⟩, hts _ m4, hts _ m3, m6, lenOK m7, hts _ hl⟩, hts _ m1, trivial⟩
  have hrun := va_runSN (p := p) (l := l) (e := e) (R := rmz (d + 1)) (s := s) (m := m) (args := args) (below := below) (meth := meth) (c := c) (H := H) (locs := locs) (cells := 0) (slots := 0) (As := as.map (ptr G.2.2)) (rest := st.map (ptr G.2.2)) (g := F0 m pc lsA ((as.reverse ++ st).map (ptr G.2.2)))
    ⟨hx, hb, hml, hown, hts⟩ (hc l G) hCB ⟨pm_blind G _ σ, fun U hU hW => ⟨rfl, by rw [hU]; exact hH, va_K.moved hW.alike hK, hinj⟩⟩ rfl (by rw [List.length_map]; exact hn) hL.1 (by simp) (lv_room (by rw [ptr_cats]; exact hw)) hd ⟨Nat.le_refl _, Nat.le_refl _⟩
  exact pm_back hrun R hS hL hk
end CALLS
theorem flatMap_len (ad : Nat → Nat) (as : List Value) : (as.flatMap (fun v => if v.category = 2 then [v, Value.null] else [v])).length = (lg_sl (as.map (ptr ad))).length := by
  induction as with
  | nil => rfl
  | cons v vs ih =>
    have e1 : lg_sl ((v :: vs).map (ptr ad)) = (if (ptr ad v).category = 2 then [Slot.val (ptr ad v), Slot.second] else [Slot.val (ptr ad v)]) ++ lg_sl (vs.map (ptr ad)) := rfl
    rw [e1, List.flatMap_cons, List.length_append, List.length_append, ih, ptr_cat]
    by_cases h : v.category = 2 <;> simp [h]
theorem ent_at1 (ad : Nat → Nat) (as : List Value) : ∀ (i : Nat) (v : Value), (as.flatMap (fun v => if v.category = 2 then [v, Value.null] else [v]))[i]? = some v → v ≠ .null → (lg_sl (as.map (ptr ad)))[i]? = some (.val (ptr ad v)) := by
  induction as with
  | nil => intro i v h; simp at h
  | cons w ws ih =>
    intro i v h hn
    have e1 : lg_sl ((w :: ws).map (ptr ad)) = (if (ptr ad w).category = 2 then [Slot.val (ptr ad w), Slot.second] else [Slot.val (ptr ad w)]) ++ lg_sl (ws.map (ptr ad)) := rfl
    rw [e1, ptr_cat]
    rw [List.flatMap_cons] at h
    by_cases hc : w.category = 2
    · rw [if_pos hc] at h ⊢
      match i, h with
      | 0, h => simp at h; subst h; rfl
      | 1, h => simp at h; exact absurd h.symm hn
      | j + 2, h => exact ih j v (by simpa using h) hn
    · rw [if_neg hc] at h ⊢
      match i, h with
      | 0, h => simp at h; subst h; rfl
      | j + 1, h => exact ih j v (by simpa using h) hn
theorem Call_of_Go {y : MI} {d : Nat} {as ls : List Value} {σ : St} {Q : Option Value → St → Prop} (hy : plainName y.1.cls = true) (hls : ent as y.2.2.1 = ls) (hlen : (as.flatMap (fun v => if v.category = 2 then [v, Value.null] else [v])).length ≤ y.2.2.1) (h : Go y d 0 ls [] σ Q) : Call d y as σ Q := by
  intro l G
  refine Met.ofW (cc := y.2.1) (maxL := y.2.2.1) (ret := y.2.2.2) hy rfl ?_
  intro p e s m args below meth c s₁ B hml hv
  obtain ⟨rfl, hH, hK, hinj⟩ := hv
  have hts := atoms_spec (ws := wsz y) B.pre
  have hown : s.vm.findClass y.1.cls = some m.cls := findClass_of_methodNamed B.named
  rw [lg_entry_eq]
  have hlen2 : (lg_sl (as.map (ptr G.2.2))).length ≤ y.2.2.1 := by rw [← flatMap_len]; exact hlen
  have hl := lv_entry (as.map (ptr G.2.2)) (n := y.2.2.1) hlen2
  refine h l G p e s m _ below meth c s.heap [] _ ⟨B.exec, B.bytes, B.returns, hml, hown, fun w hw => hts w (List.mem_cons_of_mem _ hw), B.notSynchronized, hK, hinj⟩ hH va_S.rf ⟨hl.1, hl.2.1, ?_, ?_⟩
  · rw [← hls]
    unfold ent
    rw [List.length_append, List.length_replicate]
    omega
  · intro i v hi hn
    rw [← hls] at hi
    unfold ent at hi
    rw [List.getElem?_toArray]
    rcases Nat.lt_or_ge i (as.flatMap (fun v : Value => if v.category = 2 then [v, Value.null] else [v])).length with hlt | hge
    · rw [List.getElem?_append_left hlt] at hi
      rw [List.getElem?_append_left (by rw [← flatMap_len]; exact hlt)]
      exact ent_at1 G.2.2 as i v hi hn
    · rw [List.getElem?_append_right hge] at hi
      exact absurd (List.eq_of_mem_replicate (List.mem_of_getElem? hi)) hn
/-- less is known of the locals -/
theorem Go.weak {y : MI} {d pc : Nat} {ls ls' st : List Value} {σ : St} {Q : Option Value → St → Prop} (hlen : ls'.length = ls.length) (h : ∀ (i : Nat) (v : Value), ls'[i]? = some v → v ≠ .null → ls[i]? = some v) (k : Go y d pc ls' st σ Q) : Go y d pc ls st σ Q :=
  fun l G p e s m args below meth c H locs lsA R hH hS hL => k l G p e s m args below meth c H locs lsA R hH hS ⟨hL.1, hL.2.1, hlen.trans hL.2.2.1, fun i v hi hn => hL.2.2.2 i v (h i v hi hn) hn⟩
/-- forget places of the locals -/
theorem Go.drop {y : MI} {d pc : Nat} {ls ls' st : List Value} {σ : St} {Q : Option Value → St → Prop} (j : Nat) (h : ls.set j .null = ls') (k : Go y d pc ls' st σ Q) : Go y d pc ls st σ Q := by
  subst h
  refine Go.weak (by simp) (fun i v hi hn => ?_) k
  rcases Nat.decEq i j with hne | rfl
  · rw [List.getElem?_set_ne (fun z => hne z.symm)] at hi
    exact hi
  · rw [List.getElem?_set] at hi
    split at hi
    · split at hi
      · cases hi; exact absurd rfl hn
      · cases hi
    · exact hi
def casesG (x : Int32) (cs : List (Int32 × Nat)) (dt : Nat) (P : Nat → Prop) : Prop := match cs with
  | [] => P dt
  | (v, t) :: r => (x = v → P t) ∧ (¬ x = v → casesG x r dt P)
theorem casesG_hit {x : Int32} {dt t : Nat} {P : Nat → Prop} : ∀ (cs : List (Int32 × Nat)) (j : Nat), cs[j]? = some (x, t) → (∀ (i : Nat) (q : Int32 × Nat), i < j → cs[i]? = some q → ¬ x = q.1) → casesG x cs dt P → P t := by
  intro cs
  induction cs with
  | nil => intro j h; simp at h
  | cons q r ih =>
    intro j h hn k
    obtain ⟨v, t0⟩ := q
    match j, h with
    | 0, h => simp at h; obtain ⟨rfl, rfl⟩ := h; exact k.1 rfl
    | j + 1, h => exact ih j (by simpa using h) (fun i q hi hq => hn (i + 1) q (by omega) (by simpa using hq)) (k.2 (hn 0 (v, t0) (by omega) rfl))
theorem casesG_out {x : Int32} {dt : Nat} {P : Nat → Prop} : ∀ (cs : List (Int32 × Nat)), (∀ q ∈ cs, ¬ x = q.1) → casesG x cs dt P → P dt := by
  intro cs
  induction cs with
  | nil => intro _ k; exact k
  | cons q r ih =>
    intro hn k
    exact ih (fun q hq => hn q (List.mem_cons_of_mem _ hq)) (k.2 (hn q List.mem_cons_self))
def tswOK (pc : Nat) (dflt lo hi : Int) (offs : Array Int) (cs : List (Int32 × Nat)) (dt : Nat) : Bool :=
  decide ((pc : Int) + dflt = (dt : Int)) && decide (hi - lo + 1 = (cs.length : Int)) && decide (offs.size = cs.length) &&
  (List.range cs.length).all (fun j => match cs[j]?, offs[j]? with
    | some (v, t), some off => decide (v.toInt = lo + (j : Int)) && decide ((pc : Int) + off = (t : Int))
    | _, _ => false)
theorem Go.tsw {y : MI} {d pc : Nat} {ls st : List Value} {σ : St} {Q : Option Value → St → Prop} {x : Int32} {dflt lo hi : Int} {offs : Array Int} {len : Nat} (cs : List (Int32 × Nat)) (dt : Nat) (hd : decode y.2.1 pc = .ok (.tableswitch dflt lo hi offs, len)) (hok : tswOK pc dflt lo hi offs cs dt = true) (k : casesG x cs dt (fun t => Go y d t ls st σ Q)) : Go y d pc ls (.int x :: st) σ Q := by
  intro l G p e s m args below meth c H locs lsA R hH hS hL
  unfold tswOK at hok
  simp only [Bool.and_eq_true, decide_eq_true_eq] at hok
  obtain ⟨⟨⟨h1, h2⟩, h3⟩, h4⟩ := hok
  have hrow : ∀ (j : Nat) (q : Int32 × Nat), cs[j]? = some q → q.1.toInt = lo + (j : Int) ∧ ∃ off, offs[j]? = some off ∧ (pc : Int) + off = (q.2 : Int) := by
    intro j q hq
    have hj : j < cs.length := (List.getElem?_eq_some_iff.mp hq).1
    have h5 := List.all_eq_true.mp h4 j (List.mem_range.mpr hj)
    obtain ⟨off, ho⟩ : ∃ off, offs[j]? = some off := ⟨offs[j]'(by omega), by simp⟩
    rw [hq, ho] at h5
    simp only [Bool.and_eq_true, decide_eq_true_eq] at h5
    exact ⟨h5.1, off, ho, h5.2⟩
  by_cases hout : x.toInt < lo ∨ hi < x.toInt
  · refine lv_tableOut R.1 R.2.1 hd hout h1 ?_
    refine (casesG_out (P := fun t => Go y d t ls st σ Q) cs (fun q hq hx => ?_) k) l G p e s m args below meth c H locs lsA R hH hS hL
    obtain ⟨j, hj⟩ := List.getElem?_of_mem hq
    have h6 := (hrow j q hj).1
    have hjl : j < cs.length := (List.getElem?_eq_some_iff.mp hj).1
    rw [← hx] at h6
    omega
  · have hx1 : ¬ x.toInt < lo := fun h => hout (Or.inl h)
    have hx2 : ¬ hi < x.toInt := fun h => hout (Or.inr h)
    obtain ⟨j, hj⟩ : ∃ j : Nat, x.toInt = lo + (j : Int) := ⟨(x.toInt - lo).toNat, by omega⟩
    have hjl : j < cs.length := by omega
    obtain ⟨q, hq⟩ : ∃ q, cs[j]? = some q := ⟨cs[j], by simp [hjl]⟩
    obtain ⟨h6, off, ho, ht⟩ := hrow j q hq
    have hxq : x = q.1 := Int32.toInt_inj.mp (by omega)
    refine lv_tableIn R.1 R.2.1 hd hx1 hx2 (off := off) (tgt := q.2) (by rw [hj, show (lo + (j : Int) - lo).toNat = j by omega]; exact ho) ht ?_
    refine (casesG_hit (P := fun t => Go y d t ls st σ Q) (t := q.2) cs j (by rw [hq, hxq]) (fun i q2 hi hq2 hx3 => ?_) k) l G p e s m args below meth c H locs lsA R hH hS hL
    have h7 := (hrow i q2 hq2).1
    rw [← hx3] at h7
    omega
theorem Go.lsw {y : MI} {d pc : Nat} {ls st : List Value} {σ : St} {Q : Option Value → St → Prop} {x : Int32} {dflt : Int} {ps : Array (Int × Int)} {len : Nat} (cs : List (Int32 × Nat)) (dt : Nat) (hd : decode y.2.1 pc = .ok (.lookupswitch dflt ps, len)) (hp : (ps.toList.zip (ps.toList.drop 1)).all (fun (a, next) => a.1 < next.1) = true) (hdt : (pc : Int) + dflt = (dt : Int)) (hok : ps.toList = cs.map (fun q => (q.1.toInt, (q.2 : Int) - (pc : Int)))) (k : casesG x cs dt (fun t => Go y d t ls st σ Q)) : Go y d pc ls (.int x :: st) σ Q := by
  intro l G p e s m args below meth c H locs lsA R hH hS hL
  have key : ∀ (cs : List (Int32 × Nat)), casesG x cs dt (fun t => Go y d t ls st σ Q) → ∃ t : Nat, Op.lookupswitch.offset (cs.map (fun q => (q.1.toInt, (q.2 : Int) - (pc : Int)))) dflt x.toInt = (t : Int) - (pc : Int) ∧ Go y d t ls st σ Q := by
    intro cs
    induction cs with
    | nil => intro k; exact ⟨dt, by rw [List.map_nil, Op.lookupswitch.offset_nil]; omega, k⟩
    | cons q r ih =>
      intro k
      rw [List.map_cons, Op.lookupswitch.offset_cons]
      by_cases h : q.1.toInt = x.toInt
      · rw [if_pos h]
        exact ⟨q.2, rfl, k.1 (Int32.toInt_inj.mp h).symm⟩
      · rw [if_neg h]
        exact ih (k.2 (fun z => h (by rw [z])))
  obtain ⟨t, h1, h2⟩ := key cs k
  refine lv_lookup R.1 R.2.1 hd hp (off := (t : Int) - (pc : Int)) (tgt := t) (by rw [hok]; exact h1) (by omega) ?_
  exact h2 l G p e s m args below meth c H locs lsA R hH hS hL
theorem vp_in_lt {i : Int32} {n : Nat} (h : vp_in i n) : ix i < n := Nat.not_le.mp fun q => h (Or.inr q)
theorem Go.acopy {y : MI} {d pc idx : Nat} {ls st : List Value} {σ : St} {Q : Option Value → St → Prop} {q0 q1 t n0 n1 : Nat} {sp dp n : Int32} (hs0 : shp[q0]? = some (1, t, n0)) (hs1 : shp[q1]? = some (1, t, n1)) (ht : t < 2) (hl : Cond.methodLink y.1.cls idx arraycopyName ∈ tbg) (hnat : Cond.native arraycopyName ∈ tbg) (hstat : Cond.static arraycopyName ∈ tbg) (hini : Cond.initialized "java/lang/System" ∈ tbg)
    (h1 : ¬ sp < 0) (h2 : ¬ dp < 0) (h3 : ¬ n < 0) (h4 : ix sp + ix n ≤ n0) (h5 : ix dp + ix n ≤ n1) (hw : (st.map fun v => v.category).sum ≤ 8) (hd : decode y.2.1 pc = .ok (.invokestatic idx, 3))
    (kk : Go y (d + 1) (pc + 3) ls st (setR σ q1 (va_cpy (sA σ q0) (sA σ q1) (ix sp) (ix dp) (ix n))) Q) : Go y (d + 1) pc ls (.int n :: .int dp :: .ref q1 :: .int sp :: .ref q0 :: st) σ Q := by
  intro l G p e s m args below meth c H locs lsA R hH hS hL
  obtain ⟨hx, hb, hret, hml, hown, hts, hlocks, hK, hinj⟩ := id R
  have hfr : 1 ≤ (rmz (d + 1)).frames := by show 1 ≤ d + 1; omega
  have hlo : ((st.map (ptr G.2.2)).map fun v => v.category).sum + (nativeFrameWords "java/lang/System" "arraycopy" 5 + 11) ≤ (rmz (d + 1)).locals := by
    rw [ptr_cats]
    show _ + (5 + 2 + 11) ≤ 31 * (d + 1)
    omega
  have hz : t = 1 → ∀ j, fits .boolean (.int (sA σ q0 j)) = true := fun h j => by subst h; exact hH.2 q0 n0 hs0 j
  have hz1 : t = 1 → ∀ j, fits .boolean (.int (sA σ q1 j)) = true := fun h j => by subst h; exact hH.2 q1 n1 hs1 j
  have go : ∀ H1 locs1, va_P G.1 vwCl ((pm_W G σ).set q1 (G.2.2 q1, .inl (G.2.1 t, n1, .inl (va_cpy (sA σ q0) (sA σ q1) (ix sp) (ix dp) (ix n))))) H1 → va_S (pm_A G) s.heap H1 locs1 → W p l e (rmz (d + 1)) s m args below meth c H1 locs1 0 0 (MQ below (pm_Q G Q) args s 0 0 (pm_A G)) (F0 m (pc + 3) lsA (st.map (ptr G.2.2))) := by
    intro H1 locs1 hP1 hS1
    rw [pm_setR hs1] at hP1
    refine kk l G p e s m args below meth c H1 locs1 lsA R ⟨hP1, hH.2.setR hs1 (fun h j => ?_)⟩ hS1 hL
    unfold va_cpy
    split
    · exact hz h _
    · exact hz1 h _
  match t, ht with
  | 0, _ => exact va_copyi hx hb (hml.trans hL.1.symm) hown (hts _ hl) (hts _ hnat) (hts _ hstat) (hts _ hini) hK hH.1 (pm_D hinj σ) hS q0 q1 0 0 (pm_row hs0) (pm_row hs1) rfl rfl rfl h1 h2 h3 h4 h5 (fun _ _ => rfl) hfr hlo hd (fun H1 locs1 hP1 _ hS1 => go H1 locs1 hP1 hS1)
  | 1, _ => exact va_copyi hx hb (hml.trans hL.1.symm) hown (hts _ hl) (hts _ hnat) (hts _ hstat) (hts _ hini) hK hH.1 (pm_D hinj σ) hS q0 q1 1 1 (pm_row hs0) (pm_row hs1) rfl rfl rfl h1 h2 h3 h4 h5 (fun _ _ => hz rfl _) hfr hlo hd (fun H1 locs1 hP1 _ hS1 => go H1 locs1 hP1 hS1)
theorem Go.mmax {y : MI} {d pc idx : Nat} {ls st : List Value} {σ : St} {Q : Option Value → St → Prop} {a b : Int32} (hl : Cond.methodLink y.1.cls idx Lib.Math.max.name ∈ tbg) (hstat : Cond.static Lib.Math.max.name ∈ tbg) (hini : Cond.initialized "java/lang/Math" ∈ tbg) (hcode : Cond.code Lib.Math.max.name Lib.Math.max.code 2 (some .int) ∈ tbg) (hw : (st.map fun v => v.category).sum ≤ 8) (hd : decode y.2.1 pc = .ok (.invokestatic idx, 3))
    (kk : Go y (d + 1) (pc + 3) ls (.int (if a < b then b else a) :: st) σ Q) : Go y (d + 1) pc ls (.int b :: .int a :: st) σ Q := by
  intro l G p e s m args below meth c H locs lsA R hH hS hL
  obtain ⟨hx, hb, hret, hml, hown, hts, hlocks, hK, hinj⟩ := id R
  refine va_mmax hx hb (hml.trans hL.1.symm) hown (hts _ hl) (hts _ hstat) (hts _ hini) (hts _ hcode) (by show 1 ≤ d + 1; omega) (by rw [ptr_cats]; show _ + 13 ≤ 31 * (d + 1); omega) (Nat.le_refl _) (Nat.le_refl _) hd ?_
  exact kk l G p e s m args below meth c H locs lsA R hH hS hL
theorem Go.mmin {y : MI} {d pc idx : Nat} {ls st : List Value} {σ : St} {Q : Option Value → St → Prop} {a b : Int32} (hl : Cond.methodLink y.1.cls idx Lib.Math.min.name ∈ tbg) (hstat : Cond.static Lib.Math.min.name ∈ tbg) (hini : Cond.initialized "java/lang/Math" ∈ tbg) (hcode : Cond.code Lib.Math.min.name Lib.Math.min.code 2 (some .int) ∈ tbg) (hw : (st.map fun v => v.category).sum ≤ 8) (hd : decode y.2.1 pc = .ok (.invokestatic idx, 3))
    (kk : Go y (d + 1) (pc + 3) ls (.int (if b < a then b else a) :: st) σ Q) : Go y (d + 1) pc ls (.int b :: .int a :: st) σ Q := by
  intro l G p e s m args below meth c H locs lsA R hH hS hL
  obtain ⟨hx, hb, hret, hml, hown, hts, hlocks, hK, hinj⟩ := id R
  refine va_mmin hx hb (hml.trans hL.1.symm) hown (hts _ hl) (hts _ hstat) (hts _ hini) (hts _ hcode) (by show 1 ≤ d + 1; omega) (by rw [ptr_cats]; show _ + 13 ≤ 31 * (d + 1); omega) (Nat.le_refl _) (Nat.le_refl _) hd ?_
  exact kk l G p e s m args below meth c H locs lsA R hH hS hL
end
