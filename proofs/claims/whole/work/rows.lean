section
-- ===== PART A: goes FIRST, ahead of the names: the tables' words, and 'selects' of the private methods out of them =====
/-- a private method of a class that the tables say can be made, by its rows of tables_1 -/
def lw_okq (q : MethodName × Nat) : Prop := (q.1.cls ≠ "java/lang/invoke/MethodHandle" ∧ q.1.cls ≠ "java/lang/invoke/VarHandle") ∧ Cond.instantiable q.1.cls q.2 ∈ tables_1 ∧ Cond.privateMethod q.1 ∈ tables_1 ∧ Cond.instanceMethod q.1 ∈ tables_1
theorem lw_p0 : lw_okq (⟨"EchoTurns", "comingError", "(IIIZ)I"⟩, 10) := ⟨⟨by decide +kernel, by decide +kernel⟩, List.mem_of_getElem? (i := 12) (by decide +kernel), List.mem_of_getElem? (i := 221) (by decide +kernel), List.mem_of_getElem? (i := 222) (by decide +kernel)⟩
theorem lw_p1 : lw_okq (⟨"EchoTurns", "remember", "()V"⟩, 10) := ⟨⟨by decide +kernel, by decide +kernel⟩, List.mem_of_getElem? (i := 12) (by decide +kernel), List.mem_of_getElem? (i := 248) (by decide +kernel), List.mem_of_getElem? (i := 249) (by decide +kernel)⟩
theorem lw_p2 : lw_okq (⟨"EchoTurns", "forgetOldest", "()V"⟩, 10) := ⟨⟨by decide +kernel, by decide +kernel⟩, List.mem_of_getElem? (i := 12) (by decide +kernel), List.mem_of_getElem? (i := 252) (by decide +kernel), List.mem_of_getElem? (i := 253) (by decide +kernel)⟩
theorem lw_p3 : lw_okq (⟨"EchoTurns$Scene", "put", "(IIIIZ)V"⟩, 9) := ⟨⟨by decide +kernel, by decide +kernel⟩, List.mem_of_getElem? (i := 20) (by decide +kernel), List.mem_of_getElem? (i := 267) (by decide +kernel), List.mem_of_getElem? (i := 268) (by decide +kernel)⟩
theorem lw_p4 : lw_okq (⟨"EchoTurns$Scene", "putAs", "(III)V"⟩, 9) := ⟨⟨by decide +kernel, by decide +kernel⟩, List.mem_of_getElem? (i := 20) (by decide +kernel), List.mem_of_getElem? (i := 280) (by decide +kernel), List.mem_of_getElem? (i := 281) (by decide +kernel)⟩
theorem lw_p5 : lw_okq (⟨"EchoTurns$Reading", "accepts", "(C)Z"⟩, 13) := ⟨⟨by decide +kernel, by decide +kernel⟩, List.mem_of_getElem? (i := 71) (by decide +kernel), List.mem_of_getElem? (i := 368) (by decide +kernel), List.mem_of_getElem? (i := 369) (by decide +kernel)⟩
theorem lw_p6 : lw_okq (⟨"EchoTurns$Reading", "acceptsKind", "(C)Z"⟩, 13) := ⟨⟨by decide +kernel, by decide +kernel⟩, List.mem_of_getElem? (i := 71) (by decide +kernel), List.mem_of_getElem? (i := 372) (by decide +kernel), List.mem_of_getElem? (i := 373) (by decide +kernel)⟩
theorem lw_p7 : lw_okq (⟨"EchoTurns$Reading", "acceptsBegin", "(CII)Z"⟩, 13) := ⟨⟨by decide +kernel, by decide +kernel⟩, List.mem_of_getElem? (i := 71) (by decide +kernel), List.mem_of_getElem? (i := 376) (by decide +kernel), List.mem_of_getElem? (i := 377) (by decide +kernel)⟩
theorem lw_p8 : lw_okq (⟨"EchoTurns$Reading", "endDistance", "()Z"⟩, 13) := ⟨⟨by decide +kernel, by decide +kernel⟩, List.mem_of_getElem? (i := 71) (by decide +kernel), List.mem_of_getElem? (i := 381) (by decide +kernel), List.mem_of_getElem? (i := 382) (by decide +kernel)⟩
theorem lw_p9 : lw_okq (⟨"EchoTurns$Reading", "acceptsDigit", "(CII)Z"⟩, 13) := ⟨⟨by decide +kernel, by decide +kernel⟩, List.mem_of_getElem? (i := 71) (by decide +kernel), List.mem_of_getElem? (i := 385) (by decide +kernel), List.mem_of_getElem? (i := 386) (by decide +kernel)⟩
theorem lw_p10 : lw_okq (⟨"EchoTurns$Reading", "acceptsBehindStrength", "(C)Z"⟩, 13) := ⟨⟨by decide +kernel, by decide +kernel⟩, List.mem_of_getElem? (i := 71) (by decide +kernel), List.mem_of_getElem? (i := 389) (by decide +kernel), List.mem_of_getElem? (i := 390) (by decide +kernel)⟩
theorem lw_p11 : lw_okq (⟨"EchoTurns$Reading", "keepTarget", "(II)V"⟩, 13) := ⟨⟨by decide +kernel, by decide +kernel⟩, List.mem_of_getElem? (i := 71) (by decide +kernel), List.mem_of_getElem? (i := 393) (by decide +kernel), List.mem_of_getElem? (i := 394) (by decide +kernel)⟩
theorem lw_p12 : lw_okq (⟨"EchoTurns$Reading", "acceptsTargetEnd", "(C)Z"⟩, 13) := ⟨⟨by decide +kernel, by decide +kernel⟩, List.mem_of_getElem? (i := 71) (by decide +kernel), List.mem_of_getElem? (i := 397) (by decide +kernel), List.mem_of_getElem? (i := 398) (by decide +kernel)⟩
theorem lw_p13 : lw_okq (⟨"EchoTurns$Reading", "acceptsMovement", "(C)Z"⟩, 13) := ⟨⟨by decide +kernel, by decide +kernel⟩, List.mem_of_getElem? (i := 71) (by decide +kernel), List.mem_of_getElem? (i := 401) (by decide +kernel), List.mem_of_getElem? (i := 402) (by decide +kernel)⟩
theorem lw_p14 : lw_okq (⟨"EchoTurns$Reading", "keepSpacing", "()Z"⟩, 13) := ⟨⟨by decide +kernel, by decide +kernel⟩, List.mem_of_getElem? (i := 71) (by decide +kernel), List.mem_of_getElem? (i := 405) (by decide +kernel), List.mem_of_getElem? (i := 406) (by decide +kernel)⟩
theorem lw_p15 : lw_okq (⟨"EchoTurns$Reading", "acceptsSlash", "(C)Z"⟩, 13) := ⟨⟨by decide +kernel, by decide +kernel⟩, List.mem_of_getElem? (i := 71) (by decide +kernel), List.mem_of_getElem? (i := 409) (by decide +kernel), List.mem_of_getElem? (i := 410) (by decide +kernel)⟩
def lw_privs_1 : List (MethodName × Nat) := [(⟨"EchoTurns", "comingError", "(IIIZ)I"⟩, 10), (⟨"EchoTurns", "remember", "()V"⟩, 10), (⟨"EchoTurns", "forgetOldest", "()V"⟩, 10), (⟨"EchoTurns$Scene", "put", "(IIIIZ)V"⟩, 9), (⟨"EchoTurns$Scene", "putAs", "(III)V"⟩, 9), (⟨"EchoTurns$Reading", "accepts", "(C)Z"⟩, 13), (⟨"EchoTurns$Reading", "acceptsKind", "(C)Z"⟩, 13), (⟨"EchoTurns$Reading", "acceptsBegin", "(CII)Z"⟩, 13), (⟨"EchoTurns$Reading", "endDistance", "()Z"⟩, 13), (⟨"EchoTurns$Reading", "acceptsDigit", "(CII)Z"⟩, 13), (⟨"EchoTurns$Reading", "acceptsBehindStrength", "(C)Z"⟩, 13), (⟨"EchoTurns$Reading", "keepTarget", "(II)V"⟩, 13), (⟨"EchoTurns$Reading", "acceptsTargetEnd", "(C)Z"⟩, 13), (⟨"EchoTurns$Reading", "acceptsMovement", "(C)Z"⟩, 13), (⟨"EchoTurns$Reading", "keepSpacing", "()Z"⟩, 13), (⟨"EchoTurns$Reading", "acceptsSlash", "(C)Z"⟩, 13)]
theorem lw_r1 : ∀ q ∈ lw_privs_1, lw_okq q := List.forall_mem_cons.mpr ⟨lw_p0, List.forall_mem_cons.mpr ⟨lw_p1, List.forall_mem_cons.mpr ⟨lw_p2, List.forall_mem_cons.mpr ⟨lw_p3, List.forall_mem_cons.mpr ⟨lw_p4, List.forall_mem_cons.mpr ⟨lw_p5, List.forall_mem_cons.mpr ⟨lw_p6, List.forall_mem_cons.mpr ⟨lw_p7, List.forall_mem_cons.mpr ⟨lw_p8, List.forall_mem_cons.mpr ⟨lw_p9, List.forall_mem_cons.mpr ⟨lw_p10, List.forall_mem_cons.mpr ⟨lw_p11, List.forall_mem_cons.mpr ⟨lw_p12, List.forall_mem_cons.mpr ⟨lw_p13, List.forall_mem_cons.mpr ⟨lw_p14, List.forall_mem_cons.mpr ⟨lw_p15, fun _ h => absurd h List.not_mem_nil⟩⟩⟩⟩⟩⟩⟩⟩⟩⟩⟩⟩⟩⟩⟩⟩
theorem lw_p16 : lw_okq (⟨"EchoTurns$Reading", "isComplete", "()Z"⟩, 13) := ⟨⟨by decide +kernel, by decide +kernel⟩, List.mem_of_getElem? (i := 71) (by decide +kernel), List.mem_of_getElem? (i := 413) (by decide +kernel), List.mem_of_getElem? (i := 414) (by decide +kernel)⟩
theorem lw_p17 : lw_okq (⟨"EchoTurns$Script", "put", "(C)V"⟩, 2) := ⟨⟨by decide +kernel, by decide +kernel⟩, List.mem_of_getElem? (i := 117) (by decide +kernel), List.mem_of_getElem? (i := 449) (by decide +kernel), List.mem_of_getElem? (i := 450) (by decide +kernel)⟩
theorem lw_p18 : lw_okq (⟨"EchoTurns$Script", "writeTarget", "(LEchoTurns$Scene;I)V"⟩, 2) := ⟨⟨by decide +kernel, by decide +kernel⟩, List.mem_of_getElem? (i := 117) (by decide +kernel), List.mem_of_getElem? (i := 453) (by decide +kernel), List.mem_of_getElem? (i := 454) (by decide +kernel)⟩
theorem lw_p19 : lw_okq (⟨"EchoTurns$Script", "writeNumber", "(I)V"⟩, 2) := ⟨⟨by decide +kernel, by decide +kernel⟩, List.mem_of_getElem? (i := 117) (by decide +kernel), List.mem_of_getElem? (i := 460) (by decide +kernel), List.mem_of_getElem? (i := 461) (by decide +kernel)⟩
theorem lw_p20 : lw_okq (⟨"EchoTurns", "heardOf", "(II)I"⟩, 10) := ⟨⟨by decide +kernel, by decide +kernel⟩, List.mem_of_getElem? (i := 12) (by decide +kernel), List.mem_of_getElem? (i := 496) (by decide +kernel), List.mem_of_getElem? (i := 497) (by decide +kernel)⟩
theorem lw_p21 : lw_okq (⟨"EchoTurns$Ear", "takeTargets", "(LEchoTurns$Scene;)V"⟩, 16) := ⟨⟨by decide +kernel, by decide +kernel⟩, List.mem_of_getElem? (i := 130) (by decide +kernel), List.mem_of_getElem? (i := 512) (by decide +kernel), List.mem_of_getElem? (i := 513) (by decide +kernel)⟩
theorem lw_p22 : lw_okq (⟨"EchoTurns$Ear", "take", "(IIIII)V"⟩, 16) := ⟨⟨by decide +kernel, by decide +kernel⟩, List.mem_of_getElem? (i := 130) (by decide +kernel), List.mem_of_getElem? (i := 520) (by decide +kernel), List.mem_of_getElem? (i := 521) (by decide +kernel)⟩
theorem lw_p23 : lw_okq (⟨"EchoTurns$Ear", "takeGhosts", "(LEchoTurns$Scene;)V"⟩, 16) := ⟨⟨by decide +kernel, by decide +kernel⟩, List.mem_of_getElem? (i := 130) (by decide +kernel), List.mem_of_getElem? (i := 524) (by decide +kernel), List.mem_of_getElem? (i := 525) (by decide +kernel)⟩
theorem lw_p24 : lw_okq (⟨"EchoTurns$Ear", "takeGhost", "(LEchoTurns$Scene;II)V"⟩, 16) := ⟨⟨by decide +kernel, by decide +kernel⟩, List.mem_of_getElem? (i := 130) (by decide +kernel), List.mem_of_getElem? (i := 529) (by decide +kernel), List.mem_of_getElem? (i := 530) (by decide +kernel)⟩
theorem lw_p25 : lw_okq (⟨"EchoTurns$Ear", "takePitches", "()V"⟩, 16) := ⟨⟨by decide +kernel, by decide +kernel⟩, List.mem_of_getElem? (i := 130) (by decide +kernel), List.mem_of_getElem? (i := 539) (by decide +kernel), List.mem_of_getElem? (i := 540) (by decide +kernel)⟩
theorem lw_p26 : lw_okq (⟨"EchoTurns$Ear", "sounds", "(I)Z"⟩, 16) := ⟨⟨by decide +kernel, by decide +kernel⟩, List.mem_of_getElem? (i := 130) (by decide +kernel), List.mem_of_getElem? (i := 543) (by decide +kernel), List.mem_of_getElem? (i := 544) (by decide +kernel)⟩
theorem lw_p27 : lw_okq (⟨"EchoTurns$Ear", "movementOf", "(I)I"⟩, 16) := ⟨⟨by decide +kernel, by decide +kernel⟩, List.mem_of_getElem? (i := 130) (by decide +kernel), List.mem_of_getElem? (i := 547) (by decide +kernel), List.mem_of_getElem? (i := 548) (by decide +kernel)⟩
theorem lw_p28 : lw_okq (⟨"EchoTurns$Ear", "has", "(I)Z"⟩, 16) := ⟨⟨by decide +kernel, by decide +kernel⟩, List.mem_of_getElem? (i := 130) (by decide +kernel), List.mem_of_getElem? (i := 551) (by decide +kernel), List.mem_of_getElem? (i := 552) (by decide +kernel)⟩
theorem lw_p29 : lw_okq (⟨"EchoTurns$Ear", "isFaint", "(I)Z"⟩, 16) := ⟨⟨by decide +kernel, by decide +kernel⟩, List.mem_of_getElem? (i := 130) (by decide +kernel), List.mem_of_getElem? (i := 555) (by decide +kernel), List.mem_of_getElem? (i := 556) (by decide +kernel)⟩
theorem lw_p30 : lw_okq (⟨"EchoTurns$Ear", "hearTurn", "(II)V"⟩, 16) := ⟨⟨by decide +kernel, by decide +kernel⟩, List.mem_of_getElem? (i := 130) (by decide +kernel), List.mem_of_getElem? (i := 565) (by decide +kernel), List.mem_of_getElem? (i := 566) (by decide +kernel)⟩
theorem lw_p31 : lw_okq (⟨"EchoTurns$Ear", "placeOf", "(III)I"⟩, 16) := ⟨⟨by decide +kernel, by decide +kernel⟩, List.mem_of_getElem? (i := 130) (by decide +kernel), List.mem_of_getElem? (i := 573) (by decide +kernel), List.mem_of_getElem? (i := 574) (by decide +kernel)⟩
def lw_privs_2 : List (MethodName × Nat) := [(⟨"EchoTurns$Reading", "isComplete", "()Z"⟩, 13), (⟨"EchoTurns$Script", "put", "(C)V"⟩, 2), (⟨"EchoTurns$Script", "writeTarget", "(LEchoTurns$Scene;I)V"⟩, 2), (⟨"EchoTurns$Script", "writeNumber", "(I)V"⟩, 2), (⟨"EchoTurns", "heardOf", "(II)I"⟩, 10), (⟨"EchoTurns$Ear", "takeTargets", "(LEchoTurns$Scene;)V"⟩, 16), (⟨"EchoTurns$Ear", "take", "(IIIII)V"⟩, 16), (⟨"EchoTurns$Ear", "takeGhosts", "(LEchoTurns$Scene;)V"⟩, 16), (⟨"EchoTurns$Ear", "takeGhost", "(LEchoTurns$Scene;II)V"⟩, 16), (⟨"EchoTurns$Ear", "takePitches", "()V"⟩, 16), (⟨"EchoTurns$Ear", "sounds", "(I)Z"⟩, 16), (⟨"EchoTurns$Ear", "movementOf", "(I)I"⟩, 16), (⟨"EchoTurns$Ear", "has", "(I)Z"⟩, 16), (⟨"EchoTurns$Ear", "isFaint", "(I)Z"⟩, 16), (⟨"EchoTurns$Ear", "hearTurn", "(II)V"⟩, 16), (⟨"EchoTurns$Ear", "placeOf", "(III)I"⟩, 16)]
theorem lw_r2 : ∀ q ∈ lw_privs_2, lw_okq q := List.forall_mem_cons.mpr ⟨lw_p16, List.forall_mem_cons.mpr ⟨lw_p17, List.forall_mem_cons.mpr ⟨lw_p18, List.forall_mem_cons.mpr ⟨lw_p19, List.forall_mem_cons.mpr ⟨lw_p20, List.forall_mem_cons.mpr ⟨lw_p21, List.forall_mem_cons.mpr ⟨lw_p22, List.forall_mem_cons.mpr ⟨lw_p23, List.forall_mem_cons.mpr ⟨lw_p24, List.forall_mem_cons.mpr ⟨lw_p25, List.forall_mem_cons.mpr ⟨lw_p26, List.forall_mem_cons.mpr ⟨lw_p27, List.forall_mem_cons.mpr ⟨lw_p28, List.forall_mem_cons.mpr ⟨lw_p29, List.forall_mem_cons.mpr ⟨lw_p30, List.forall_mem_cons.mpr ⟨lw_p31, fun _ h => absurd h List.not_mem_nil⟩⟩⟩⟩⟩⟩⟩⟩⟩⟩⟩⟩⟩⟩⟩⟩
theorem lw_p32 : lw_okq (⟨"EchoTurns$Ear", "isHeard", "(III)Z"⟩, 16) := ⟨⟨by decide +kernel, by decide +kernel⟩, List.mem_of_getElem? (i := 130) (by decide +kernel), List.mem_of_getElem? (i := 592) (by decide +kernel), List.mem_of_getElem? (i := 593) (by decide +kernel)⟩
theorem lw_p33 : lw_okq (⟨"EchoTurns$Ear", "isPartOf", "(IIII)Z"⟩, 16) := ⟨⟨by decide +kernel, by decide +kernel⟩, List.mem_of_getElem? (i := 130) (by decide +kernel), List.mem_of_getElem? (i := 637) (by decide +kernel), List.mem_of_getElem? (i := 638) (by decide +kernel)⟩
theorem lw_p34 : lw_okq (⟨"EchoTurns$Ear", "sourcesAt", "(III)I"⟩, 16) := ⟨⟨by decide +kernel, by decide +kernel⟩, List.mem_of_getElem? (i := 130) (by decide +kernel), List.mem_of_getElem? (i := 662) (by decide +kernel), List.mem_of_getElem? (i := 663) (by decide +kernel)⟩
theorem lw_p35 : lw_okq (⟨"EchoTurns", "countHeard", "(I)I"⟩, 10) := ⟨⟨by decide +kernel, by decide +kernel⟩, List.mem_of_getElem? (i := 12) (by decide +kernel), List.mem_of_getElem? (i := 695) (by decide +kernel), List.mem_of_getElem? (i := 696) (by decide +kernel)⟩
theorem lw_p36 : lw_okq (⟨"EchoTurns$Ear", "gatherOpen", "()V"⟩, 16) := ⟨⟨by decide +kernel, by decide +kernel⟩, List.mem_of_getElem? (i := 130) (by decide +kernel), List.mem_of_getElem? (i := 753) (by decide +kernel), List.mem_of_getElem? (i := 754) (by decide +kernel)⟩
theorem lw_p37 : lw_okq (⟨"EchoTurns$Ear", "openTold", "(I)I"⟩, 16) := ⟨⟨by decide +kernel, by decide +kernel⟩, List.mem_of_getElem? (i := 130) (by decide +kernel), List.mem_of_getElem? (i := 757) (by decide +kernel), List.mem_of_getElem? (i := 758) (by decide +kernel)⟩
theorem lw_p38 : lw_okq (⟨"EchoTurnsModel", "record", "()V"⟩, 19) := ⟨⟨by decide +kernel, by decide +kernel⟩, List.mem_of_getElem? (i := 779) (by decide +kernel), List.mem_of_getElem? (i := 855) (by decide +kernel), List.mem_of_getElem? (i := 856) (by decide +kernel)⟩
theorem lw_p39 : lw_okq (⟨"EchoTurnsModel", "isThere", "(II)Z"⟩, 19) := ⟨⟨by decide +kernel, by decide +kernel⟩, List.mem_of_getElem? (i := 779) (by decide +kernel), List.mem_of_getElem? (i := 869) (by decide +kernel), List.mem_of_getElem? (i := 870) (by decide +kernel)⟩
theorem lw_p40 : lw_okq (⟨"EchoTurnsModel", "of", "(II)I"⟩, 19) := ⟨⟨by decide +kernel, by decide +kernel⟩, List.mem_of_getElem? (i := 779) (by decide +kernel), List.mem_of_getElem? (i := 873) (by decide +kernel), List.mem_of_getElem? (i := 874) (by decide +kernel)⟩
theorem lw_p41 : lw_okq (⟨"EchoTurnsModel", "add", "(IIII)V"⟩, 19) := ⟨⟨by decide +kernel, by decide +kernel⟩, List.mem_of_getElem? (i := 779) (by decide +kernel), List.mem_of_getElem? (i := 877) (by decide +kernel), List.mem_of_getElem? (i := 878) (by decide +kernel)⟩
theorem lw_p42 : lw_okq (⟨"EchoTurnsModel", "isTarget", "(I)Z"⟩, 19) := ⟨⟨by decide +kernel, by decide +kernel⟩, List.mem_of_getElem? (i := 779) (by decide +kernel), List.mem_of_getElem? (i := 885) (by decide +kernel), List.mem_of_getElem? (i := 886) (by decide +kernel)⟩
theorem lw_p43 : lw_okq (⟨"EchoTurnsModel", "takeOut", "(I)V"⟩, 19) := ⟨⟨by decide +kernel, by decide +kernel⟩, List.mem_of_getElem? (i := 779) (by decide +kernel), List.mem_of_getElem? (i := 889) (by decide +kernel), List.mem_of_getElem? (i := 890) (by decide +kernel)⟩
theorem lw_p44 : lw_okq (⟨"EchoTurnsModel", "listen", "()V"⟩, 19) := ⟨⟨by decide +kernel, by decide +kernel⟩, List.mem_of_getElem? (i := 779) (by decide +kernel), List.mem_of_getElem? (i := 912) (by decide +kernel), List.mem_of_getElem? (i := 913) (by decide +kernel)⟩
theorem lw_p45 : lw_okq (⟨"EchoTurnsModel", "layBody", "(IIIII)V"⟩, 19) := ⟨⟨by decide +kernel, by decide +kernel⟩, List.mem_of_getElem? (i := 779) (by decide +kernel), List.mem_of_getElem? (i := 916) (by decide +kernel), List.mem_of_getElem? (i := 917) (by decide +kernel)⟩
theorem lw_p46 : lw_okq (⟨"EchoTurnsModel", "isFaint", "(I)Z"⟩, 19) := ⟨⟨by decide +kernel, by decide +kernel⟩, List.mem_of_getElem? (i := 779) (by decide +kernel), List.mem_of_getElem? (i := 920) (by decide +kernel), List.mem_of_getElem? (i := 921) (by decide +kernel)⟩
theorem lw_p47 : lw_okq (⟨"EchoTurnsModel", "body", "(II)I"⟩, 19) := ⟨⟨by decide +kernel, by decide +kernel⟩, List.mem_of_getElem? (i := 779) (by decide +kernel), List.mem_of_getElem? (i := 924) (by decide +kernel), List.mem_of_getElem? (i := 925) (by decide +kernel)⟩
def lw_privs_3 : List (MethodName × Nat) := [(⟨"EchoTurns$Ear", "isHeard", "(III)Z"⟩, 16), (⟨"EchoTurns$Ear", "isPartOf", "(IIII)Z"⟩, 16), (⟨"EchoTurns$Ear", "sourcesAt", "(III)I"⟩, 16), (⟨"EchoTurns", "countHeard", "(I)I"⟩, 10), (⟨"EchoTurns$Ear", "gatherOpen", "()V"⟩, 16), (⟨"EchoTurns$Ear", "openTold", "(I)I"⟩, 16), (⟨"EchoTurnsModel", "record", "()V"⟩, 19), (⟨"EchoTurnsModel", "isThere", "(II)Z"⟩, 19), (⟨"EchoTurnsModel", "of", "(II)I"⟩, 19), (⟨"EchoTurnsModel", "add", "(IIII)V"⟩, 19), (⟨"EchoTurnsModel", "isTarget", "(I)Z"⟩, 19), (⟨"EchoTurnsModel", "takeOut", "(I)V"⟩, 19), (⟨"EchoTurnsModel", "listen", "()V"⟩, 19), (⟨"EchoTurnsModel", "layBody", "(IIIII)V"⟩, 19), (⟨"EchoTurnsModel", "isFaint", "(I)Z"⟩, 19), (⟨"EchoTurnsModel", "body", "(II)I"⟩, 19)]
theorem lw_r3 : ∀ q ∈ lw_privs_3, lw_okq q := List.forall_mem_cons.mpr ⟨lw_p32, List.forall_mem_cons.mpr ⟨lw_p33, List.forall_mem_cons.mpr ⟨lw_p34, List.forall_mem_cons.mpr ⟨lw_p35, List.forall_mem_cons.mpr ⟨lw_p36, List.forall_mem_cons.mpr ⟨lw_p37, List.forall_mem_cons.mpr ⟨lw_p38, List.forall_mem_cons.mpr ⟨lw_p39, List.forall_mem_cons.mpr ⟨lw_p40, List.forall_mem_cons.mpr ⟨lw_p41, List.forall_mem_cons.mpr ⟨lw_p42, List.forall_mem_cons.mpr ⟨lw_p43, List.forall_mem_cons.mpr ⟨lw_p44, List.forall_mem_cons.mpr ⟨lw_p45, List.forall_mem_cons.mpr ⟨lw_p46, List.forall_mem_cons.mpr ⟨lw_p47, fun _ h => absurd h List.not_mem_nil⟩⟩⟩⟩⟩⟩⟩⟩⟩⟩⟩⟩⟩⟩⟩⟩
theorem lw_p48 : lw_okq (⟨"EchoTurnsModel", "isLost", "(II)Z"⟩, 19) := ⟨⟨by decide +kernel, by decide +kernel⟩, List.mem_of_getElem? (i := 779) (by decide +kernel), List.mem_of_getElem? (i := 928) (by decide +kernel), List.mem_of_getElem? (i := 929) (by decide +kernel)⟩
theorem lw_p49 : lw_okq (⟨"EchoTurnsModel", "placeIn", "(III)I"⟩, 19) := ⟨⟨by decide +kernel, by decide +kernel⟩, List.mem_of_getElem? (i := 779) (by decide +kernel), List.mem_of_getElem? (i := 932) (by decide +kernel), List.mem_of_getElem? (i := 933) (by decide +kernel)⟩
theorem lw_p50 : lw_okq (⟨"EchoTurnsModel", "isTold", "(I)Z"⟩, 19) := ⟨⟨by decide +kernel, by decide +kernel⟩, List.mem_of_getElem? (i := 779) (by decide +kernel), List.mem_of_getElem? (i := 939) (by decide +kernel), List.mem_of_getElem? (i := 940) (by decide +kernel)⟩
theorem lw_p51 : lw_okq (⟨"EchoTurnsModel", "fitting", "(II)I"⟩, 19) := ⟨⟨by decide +kernel, by decide +kernel⟩, List.mem_of_getElem? (i := 779) (by decide +kernel), List.mem_of_getElem? (i := 943) (by decide +kernel), List.mem_of_getElem? (i := 944) (by decide +kernel)⟩
theorem lw_p52 : lw_okq (⟨"EchoTurnsModel", "fit", "(III)I"⟩, 19) := ⟨⟨by decide +kernel, by decide +kernel⟩, List.mem_of_getElem? (i := 779) (by decide +kernel), List.mem_of_getElem? (i := 947) (by decide +kernel), List.mem_of_getElem? (i := 948) (by decide +kernel)⟩
theorem lw_p53 : lw_okq (⟨"EchoTurnsModel", "isTurn", "(I)Z"⟩, 19) := ⟨⟨by decide +kernel, by decide +kernel⟩, List.mem_of_getElem? (i := 779) (by decide +kernel), List.mem_of_getElem? (i := 959) (by decide +kernel), List.mem_of_getElem? (i := 960) (by decide +kernel)⟩
theorem lw_p54 : lw_okq (⟨"EchoTurnsModel", "isTrue", "(II)Z"⟩, 19) := ⟨⟨by decide +kernel, by decide +kernel⟩, List.mem_of_getElem? (i := 779) (by decide +kernel), List.mem_of_getElem? (i := 971) (by decide +kernel), List.mem_of_getElem? (i := 972) (by decide +kernel)⟩
theorem lw_p55 : lw_okq (⟨"EchoTurnsModel", "walls", "()I"⟩, 19) := ⟨⟨by decide +kernel, by decide +kernel⟩, List.mem_of_getElem? (i := 779) (by decide +kernel), List.mem_of_getElem? (i := 990) (by decide +kernel), List.mem_of_getElem? (i := 991) (by decide +kernel)⟩
theorem lw_p56 : lw_okq (⟨"EchoTurnsModel", "echoes", "()I"⟩, 19) := ⟨⟨by decide +kernel, by decide +kernel⟩, List.mem_of_getElem? (i := 779) (by decide +kernel), List.mem_of_getElem? (i := 994) (by decide +kernel), List.mem_of_getElem? (i := 995) (by decide +kernel)⟩
theorem lw_p57 : lw_okq (⟨"EchoTurnsModel", "lostMany", "()I"⟩, 19) := ⟨⟨by decide +kernel, by decide +kernel⟩, List.mem_of_getElem? (i := 779) (by decide +kernel), List.mem_of_getElem? (i := 998) (by decide +kernel), List.mem_of_getElem? (i := 999) (by decide +kernel)⟩
theorem lw_p58 : lw_okq (⟨"EchoTurnsModel", "faintMany", "()I"⟩, 19) := ⟨⟨by decide +kernel, by decide +kernel⟩, List.mem_of_getElem? (i := 779) (by decide +kernel), List.mem_of_getElem? (i := 1002) (by decide +kernel), List.mem_of_getElem? (i := 1003) (by decide +kernel)⟩
theorem lw_p59 : lw_okq (⟨"EchoTurnsModel", "toldMany", "(Z)I"⟩, 19) := ⟨⟨by decide +kernel, by decide +kernel⟩, List.mem_of_getElem? (i := 779) (by decide +kernel), List.mem_of_getElem? (i := 1006) (by decide +kernel), List.mem_of_getElem? (i := 1007) (by decide +kernel)⟩
theorem lw_p60 : lw_okq (⟨"EchoTurnsModel", "missed", "()I"⟩, 19) := ⟨⟨by decide +kernel, by decide +kernel⟩, List.mem_of_getElem? (i := 779) (by decide +kernel), List.mem_of_getElem? (i := 1010) (by decide +kernel), List.mem_of_getElem? (i := 1011) (by decide +kernel)⟩
theorem lw_p61 : lw_okq (⟨"EchoTurnsModel", "write", "()V"⟩, 19) := ⟨⟨by decide +kernel, by decide +kernel⟩, List.mem_of_getElem? (i := 779) (by decide +kernel), List.mem_of_getElem? (i := 1014) (by decide +kernel), List.mem_of_getElem? (i := 1015) (by decide +kernel)⟩
theorem lw_p62 : lw_okq (⟨"EchoTurnsModel", "sets", "(I)V"⟩, 19) := ⟨⟨by decide +kernel, by decide +kernel⟩, List.mem_of_getElem? (i := 779) (by decide +kernel), List.mem_of_getElem? (i := 1018) (by decide +kernel), List.mem_of_getElem? (i := 1019) (by decide +kernel)⟩
theorem lw_p63 : lw_okq (⟨"EchoTurnsModel", "setsNumber", "(I)V"⟩, 19) := ⟨⟨by decide +kernel, by decide +kernel⟩, List.mem_of_getElem? (i := 779) (by decide +kernel), List.mem_of_getElem? (i := 1022) (by decide +kernel), List.mem_of_getElem? (i := 1023) (by decide +kernel)⟩
def lw_privs_4 : List (MethodName × Nat) := [(⟨"EchoTurnsModel", "isLost", "(II)Z"⟩, 19), (⟨"EchoTurnsModel", "placeIn", "(III)I"⟩, 19), (⟨"EchoTurnsModel", "isTold", "(I)Z"⟩, 19), (⟨"EchoTurnsModel", "fitting", "(II)I"⟩, 19), (⟨"EchoTurnsModel", "fit", "(III)I"⟩, 19), (⟨"EchoTurnsModel", "isTurn", "(I)Z"⟩, 19), (⟨"EchoTurnsModel", "isTrue", "(II)Z"⟩, 19), (⟨"EchoTurnsModel", "walls", "()I"⟩, 19), (⟨"EchoTurnsModel", "echoes", "()I"⟩, 19), (⟨"EchoTurnsModel", "lostMany", "()I"⟩, 19), (⟨"EchoTurnsModel", "faintMany", "()I"⟩, 19), (⟨"EchoTurnsModel", "toldMany", "(Z)I"⟩, 19), (⟨"EchoTurnsModel", "missed", "()I"⟩, 19), (⟨"EchoTurnsModel", "write", "()V"⟩, 19), (⟨"EchoTurnsModel", "sets", "(I)V"⟩, 19), (⟨"EchoTurnsModel", "setsNumber", "(I)V"⟩, 19)]
theorem lw_r4 : ∀ q ∈ lw_privs_4, lw_okq q := List.forall_mem_cons.mpr ⟨lw_p48, List.forall_mem_cons.mpr ⟨lw_p49, List.forall_mem_cons.mpr ⟨lw_p50, List.forall_mem_cons.mpr ⟨lw_p51, List.forall_mem_cons.mpr ⟨lw_p52, List.forall_mem_cons.mpr ⟨lw_p53, List.forall_mem_cons.mpr ⟨lw_p54, List.forall_mem_cons.mpr ⟨lw_p55, List.forall_mem_cons.mpr ⟨lw_p56, List.forall_mem_cons.mpr ⟨lw_p57, List.forall_mem_cons.mpr ⟨lw_p58, List.forall_mem_cons.mpr ⟨lw_p59, List.forall_mem_cons.mpr ⟨lw_p60, List.forall_mem_cons.mpr ⟨lw_p61, List.forall_mem_cons.mpr ⟨lw_p62, List.forall_mem_cons.mpr ⟨lw_p63, fun _ h => absurd h List.not_mem_nil⟩⟩⟩⟩⟩⟩⟩⟩⟩⟩⟩⟩⟩⟩⟩⟩
theorem lw_p64 : lw_okq (⟨"EchoTurnsModel", "withTurn", "(II)I"⟩, 19) := ⟨⟨by decide +kernel, by decide +kernel⟩, List.mem_of_getElem? (i := 779) (by decide +kernel), List.mem_of_getElem? (i := 1034) (by decide +kernel), List.mem_of_getElem? (i := 1035) (by decide +kernel)⟩
theorem lw_p65 : lw_okq (⟨"EchoTurnsModel", "readTarget", "()V"⟩, 19) := ⟨⟨by decide +kernel, by decide +kernel⟩, List.mem_of_getElem? (i := 779) (by decide +kernel), List.mem_of_getElem? (i := 1062) (by decide +kernel), List.mem_of_getElem? (i := 1063) (by decide +kernel)⟩
theorem lw_p66 : lw_okq (⟨"EchoTurnsModel", "letter", "()I"⟩, 19) := ⟨⟨by decide +kernel, by decide +kernel⟩, List.mem_of_getElem? (i := 779) (by decide +kernel), List.mem_of_getElem? (i := 1066) (by decide +kernel), List.mem_of_getElem? (i := 1067) (by decide +kernel)⟩
theorem lw_p67 : lw_okq (⟨"EchoTurnsModel", "wants", "(Z)V"⟩, 19) := ⟨⟨by decide +kernel, by decide +kernel⟩, List.mem_of_getElem? (i := 779) (by decide +kernel), List.mem_of_getElem? (i := 1070) (by decide +kernel), List.mem_of_getElem? (i := 1071) (by decide +kernel)⟩
theorem lw_p68 : lw_okq (⟨"EchoTurnsModel", "number", "(I)I"⟩, 19) := ⟨⟨by decide +kernel, by decide +kernel⟩, List.mem_of_getElem? (i := 779) (by decide +kernel), List.mem_of_getElem? (i := 1074) (by decide +kernel), List.mem_of_getElem? (i := 1075) (by decide +kernel)⟩
theorem lw_p69 : lw_okq (⟨"EchoTurnsModel", "figure", "()I"⟩, 19) := ⟨⟨by decide +kernel, by decide +kernel⟩, List.mem_of_getElem? (i := 779) (by decide +kernel), List.mem_of_getElem? (i := 1078) (by decide +kernel), List.mem_of_getElem? (i := 1079) (by decide +kernel)⟩
theorem lw_p70 : lw_okq (⟨"EchoTurnsModel", "readSpacing", "()V"⟩, 19) := ⟨⟨by decide +kernel, by decide +kernel⟩, List.mem_of_getElem? (i := 779) (by decide +kernel), List.mem_of_getElem? (i := 1082) (by decide +kernel), List.mem_of_getElem? (i := 1083) (by decide +kernel)⟩
def lw_privs_5 : List (MethodName × Nat) := [(⟨"EchoTurnsModel", "withTurn", "(II)I"⟩, 19), (⟨"EchoTurnsModel", "readTarget", "()V"⟩, 19), (⟨"EchoTurnsModel", "letter", "()I"⟩, 19), (⟨"EchoTurnsModel", "wants", "(Z)V"⟩, 19), (⟨"EchoTurnsModel", "number", "(I)I"⟩, 19), (⟨"EchoTurnsModel", "figure", "()I"⟩, 19), (⟨"EchoTurnsModel", "readSpacing", "()V"⟩, 19)]
theorem lw_r5 : ∀ q ∈ lw_privs_5, lw_okq q := List.forall_mem_cons.mpr ⟨lw_p64, List.forall_mem_cons.mpr ⟨lw_p65, List.forall_mem_cons.mpr ⟨lw_p66, List.forall_mem_cons.mpr ⟨lw_p67, List.forall_mem_cons.mpr ⟨lw_p68, List.forall_mem_cons.mpr ⟨lw_p69, List.forall_mem_cons.mpr ⟨lw_p70, fun _ h => absurd h List.not_mem_nil⟩⟩⟩⟩⟩⟩⟩
def lw_privs : List (MethodName × Nat) := lw_privs_1 ++ (lw_privs_2 ++ (lw_privs_3 ++ (lw_privs_4 ++ (lw_privs_5))))
def lw_tbl : List Cond := k2_sels lw_privs ++ tables_1
theorem lw_privs_ok : ∀ q ∈ lw_privs, lw_okq q := by
  show ∀ q ∈ lw_privs_1 ++ (lw_privs_2 ++ (lw_privs_3 ++ (lw_privs_4 ++ (lw_privs_5)))), lw_okq q
  exact List.forall_mem_append.mpr ⟨lw_r1, List.forall_mem_append.mpr ⟨lw_r2, List.forall_mem_append.mpr ⟨lw_r3, List.forall_mem_append.mpr ⟨lw_r4, lw_r5⟩⟩⟩⟩
/-- the streams that the claim lets the run draw from -/
abbrev lw_cs : List Choice := [Jvm.Choice.named "NaN.bits"]
theorem lw_bits : nanBits ∈ lw_cs := by first | decide | exact List.mem_cons_self | simp [lw_cs, nanBits]
end
section
def RX0 : String := "EchoTurns$Ear"
def TX0 : u_T := fun k => match k with
  | 0 => ("EchoTurns$Ear", "distances", "[I", true)
  | 1 => ("EchoTurns$Ear", "strengths", "[I", true)
  | 2 => ("EchoTurns$Ear", "movements", "[I", true)
  | 3 => ("EchoTurns$Ear", "lesserWalls", "[I", true)
  | 4 => ("EchoTurns$Ear", "greaterWalls", "[I", true)
  | 5 => ("EchoTurns$Ear", "spacing", "[I", true)
  | 6 => ("EchoTurns$Ear", "heard", "[J", true)
  | 7 => ("EchoTurns$Ear", "pitches", "[I", true)
  | 8 => ("EchoTurns$Ear", "open", "[I", true)
  | 9 => ("EchoTurns$Ear", "sources", "I", false)
  | 10 => ("EchoTurns$Ear", "targets", "I", false)
  | 11 => ("EchoTurns$Ear", "turns", "I", false)
  | 12 => ("EchoTurns$Ear", "blind", "I", false)
  | 13 => ("EchoTurns$Ear", "loud", "I", false)
  | 14 => ("EchoTurns$Ear", "pitchCount", "I", false)
  | _ => ("EchoTurns$Ear", "openCount", "I", false)
def tyX0 : Nat → FieldType := fun k => match k with
  | 0 => .array .int
  | 1 => .array .int
  | 2 => .array .int
  | 3 => .array .int
  | 4 => .array .int
  | 5 => .array .int
  | 6 => .array .long
  | 7 => .array .int
  | 8 => .array .int
  | 9 => .int
  | 10 => .int
  | 11 => .int
  | 12 => .int
  | 13 => .int
  | 14 => .int
  | _ => .int
theorem nmX0 : ∀ a, a < 16 → ∀ b, b < 16 → a ≠ b → (TX0 a).2.1 ≠ (TX0 b).2.1 := by decide +kernel
theorem tyX0_ok : ∀ k, k < 16 → parseFieldDescriptor (TX0 k).2.2.1 = some (tyX0 k) := by decide +kernel
abbrev cX0_init : ByteArray := prog_2_method_1_code
def yX0_init : MethodName := ⟨RX0, "<init>", "()V"⟩
abbrev cX0_listen : ByteArray := prog_2_method_2_code
def yX0_listen : MethodName := ⟨RX0, "listen", "(LEchoTurns$Scene;)V"⟩
abbrev cX0_takeTargets : ByteArray := prog_2_method_3_code
def yX0_takeTargets : MethodName := ⟨RX0, "takeTargets", "(LEchoTurns$Scene;)V"⟩
abbrev cX0_takeGhosts : ByteArray := prog_2_method_4_code
def yX0_takeGhosts : MethodName := ⟨RX0, "takeGhosts", "(LEchoTurns$Scene;)V"⟩
abbrev cX0_takeGhost : ByteArray := prog_2_method_5_code
def yX0_takeGhost : MethodName := ⟨RX0, "takeGhost", "(LEchoTurns$Scene;II)V"⟩
abbrev cX0_take : ByteArray := prog_2_method_6_code
def yX0_take : MethodName := ⟨RX0, "take", "(IIIII)V"⟩
abbrev cX0_takePitches : ByteArray := prog_2_method_7_code
def yX0_takePitches : MethodName := ⟨RX0, "takePitches", "()V"⟩
abbrev cX0_sounds : ByteArray := prog_2_method_8_code
def yX0_sounds : MethodName := ⟨RX0, "sounds", "(I)Z"⟩
abbrev cX0_hearTurn : ByteArray := prog_2_method_9_code
def yX0_hearTurn : MethodName := ⟨RX0, "hearTurn", "(II)V"⟩
abbrev cX0_has : ByteArray := prog_2_method_10_code
def yX0_has : MethodName := ⟨RX0, "has", "(I)Z"⟩
abbrev cX0_distanceOf : ByteArray := prog_2_method_11_code
def yX0_distanceOf : MethodName := ⟨RX0, "distanceOf", "(I)I"⟩
abbrev cX0_strengthOf : ByteArray := prog_2_method_12_code
def yX0_strengthOf : MethodName := ⟨RX0, "strengthOf", "(I)I"⟩
abbrev cX0_movementOf : ByteArray := prog_2_method_13_code
def yX0_movementOf : MethodName := ⟨RX0, "movementOf", "(I)I"⟩
abbrev cX0_lesserWall : ByteArray := prog_2_method_14_code
def yX0_lesserWall : MethodName := ⟨RX0, "lesserWall", "(I)I"⟩
abbrev cX0_greaterWall : ByteArray := prog_2_method_15_code
def yX0_greaterWall : MethodName := ⟨RX0, "greaterWall", "(I)I"⟩
abbrev cX0_isFaint : ByteArray := prog_2_method_16_code
def yX0_isFaint : MethodName := ⟨RX0, "isFaint", "(I)Z"⟩
abbrev cX0_placeOf : ByteArray := prog_2_method_17_code
def yX0_placeOf : MethodName := ⟨RX0, "placeOf", "(III)I"⟩
abbrev cX0_codeOf : ByteArray := prog_2_method_18_code
def yX0_codeOf : MethodName := ⟨RX0, "codeOf", "(II)I"⟩
abbrev cX0_isHeard : ByteArray := prog_2_method_19_code
def yX0_isHeard : MethodName := ⟨RX0, "isHeard", "(III)Z"⟩
abbrev cX0_ghostCount : ByteArray := prog_2_method_20_code
def yX0_ghostCount : MethodName := ⟨RX0, "ghostCount", "()I"⟩
abbrev cX0_ghostsOf : ByteArray := prog_2_method_21_code
def yX0_ghostsOf : MethodName := ⟨RX0, "ghostsOf", "(I)I"⟩
abbrev cX0_echoCount : ByteArray := prog_2_method_22_code
def yX0_echoCount : MethodName := ⟨RX0, "echoCount", "()I"⟩
abbrev cX0_lostCount : ByteArray := prog_2_method_23_code
def yX0_lostCount : MethodName := ⟨RX0, "lostCount", "()I"⟩
abbrev cX0_lostTurns : ByteArray := prog_2_method_24_code
def yX0_lostTurns : MethodName := ⟨RX0, "lostTurns", "(I)I"⟩
abbrev cX0_faintCount : ByteArray := prog_2_method_25_code
def yX0_faintCount : MethodName := ⟨RX0, "faintCount", "()I"⟩
abbrev cX0_findEcho : ByteArray := prog_2_method_26_code
def yX0_findEcho : MethodName := ⟨RX0, "findEcho", "(II)I"⟩
abbrev cX0_strengthTogether : ByteArray := prog_2_method_27_code
def yX0_strengthTogether : MethodName := ⟨RX0, "strengthTogether", "(III)I"⟩
abbrev cX0_sourcesTogether : ByteArray := prog_2_method_28_code
def yX0_sourcesTogether : MethodName := ⟨RX0, "sourcesTogether", "(III)I"⟩
abbrev cX0_isPartOf : ByteArray := prog_2_method_29_code
def yX0_isPartOf : MethodName := ⟨RX0, "isPartOf", "(IIII)Z"⟩
abbrev cX0_fitOf : ByteArray := prog_2_method_30_code
def yX0_fitOf : MethodName := ⟨RX0, "fitOf", "(III)I"⟩
abbrev cX0_turnsThatFit : ByteArray := prog_2_method_31_code
def yX0_turnsThatFit : MethodName := ⟨RX0, "turnsThatFit", "(II)I"⟩
abbrev cX0_isToldSource : ByteArray := prog_2_method_32_code
def yX0_isToldSource : MethodName := ⟨RX0, "isToldSource", "(I)Z"⟩
abbrev cX0_isTrue : ByteArray := prog_2_method_33_code
def yX0_isTrue : MethodName := ⟨RX0, "isTrue", "(II)Z"⟩
abbrev cX0_sourcesAt : ByteArray := prog_2_method_34_code
def yX0_sourcesAt : MethodName := ⟨RX0, "sourcesAt", "(III)I"⟩
abbrev cX0_toldCount : ByteArray := prog_2_method_35_code
def yX0_toldCount : MethodName := ⟨RX0, "toldCount", "()I"⟩
abbrev cX0_findTold : ByteArray := prog_2_method_36_code
def yX0_findTold : MethodName := ⟨RX0, "findTold", "(I)I"⟩
abbrev cX0_trueCount : ByteArray := prog_2_method_37_code
def yX0_trueCount : MethodName := ⟨RX0, "trueCount", "()I"⟩
abbrev cX0_missedCount : ByteArray := prog_2_method_38_code
def yX0_missedCount : MethodName := ⟨RX0, "missedCount", "()I"⟩
abbrev cX0_bestNextSpacing : ByteArray := prog_2_method_39_code
def yX0_bestNextSpacing : MethodName := ⟨RX0, "bestNextSpacing", "()I"⟩
abbrev cX0_gatherOpen : ByteArray := prog_2_method_40_code
def yX0_gatherOpen : MethodName := ⟨RX0, "gatherOpen", "()V"⟩
abbrev cX0_openTold : ByteArray := prog_2_method_41_code
def yX0_openTold : MethodName := ⟨RX0, "openTold", "(I)I"⟩
def RX1 : String := "EchoTurns$Pad"
def TX1 : u_T := fun k => match k with
  | 0 => ("EchoTurns$Pad", "signs", "[C", true)
  | _ => ("EchoTurns$Pad", "length", "I", false)
def tyX1 : Nat → FieldType := fun k => match k with
  | 0 => .array .char
  | _ => .int
theorem nmX1 : ∀ a, a < 2 → ∀ b, b < 2 → a ≠ b → (TX1 a).2.1 ≠ (TX1 b).2.1 := by decide +kernel
theorem tyX1_ok : ∀ k, k < 2 → parseFieldDescriptor (TX1 k).2.2.1 = some (tyX1 k) := by decide +kernel
abbrev cX1_init : ByteArray := prog_3_method_1_code
def yX1_init : MethodName := ⟨RX1, "<init>", "()V"⟩
abbrev cX1_length : ByteArray := prog_3_method_2_code
def yX1_length : MethodName := ⟨RX1, "length", "()I"⟩
abbrev cX1_take : ByteArray := prog_3_method_3_code
def yX1_take : MethodName := ⟨RX1, "take", "(C)Z"⟩
abbrev cX1_empty : ByteArray := prog_3_method_4_code
def yX1_empty : MethodName := ⟨RX1, "empty", "()I"⟩
abbrev cX1_signAt : ByteArray := prog_3_method_5_code
def yX1_signAt : MethodName := ⟨RX1, "signAt", "(I)C"⟩
def RX2 : String := "EchoTurns$Reading"
def TX2 : u_T := fun k => match k with
  | 0 => ("EchoTurns$Reading", "distances", "[I", true)
  | 1 => ("EchoTurns$Reading", "strengths", "[I", true)
  | 2 => ("EchoTurns$Reading", "movements", "[I", true)
  | 3 => ("EchoTurns$Reading", "walls", "[Z", true)
  | 4 => ("EchoTurns$Reading", "spacing", "[I", true)
  | 5 => ("EchoTurns$Reading", "targets", "I", false)
  | 6 => ("EchoTurns$Reading", "turns", "I", false)
  | 7 => ("EchoTurns$Reading", "state", "I", false)
  | 8 => ("EchoTurns$Reading", "number", "I", false)
  | 9 => ("EchoTurns$Reading", "distance", "I", false)
  | 10 => ("EchoTurns$Reading", "strength", "I", false)
  | 11 => ("EchoTurns$Reading", "wall", "Z", false)
  | _ => ("EchoTurns$Reading", "minus", "Z", false)
def tyX2 : Nat → FieldType := fun k => match k with
  | 0 => .array .int
  | 1 => .array .int
  | 2 => .array .int
  | 3 => .array .boolean
  | 4 => .array .int
  | 5 => .int
  | 6 => .int
  | 7 => .int
  | 8 => .int
  | 9 => .int
  | 10 => .int
  | 11 => .boolean
  | _ => .boolean
theorem nmX2 : ∀ a, a < 13 → ∀ b, b < 13 → a ≠ b → (TX2 a).2.1 ≠ (TX2 b).2.1 := by decide +kernel
theorem tyX2_ok : ∀ k, k < 13 → parseFieldDescriptor (TX2 k).2.2.1 = some (tyX2 k) := by decide +kernel
abbrev cX2_init : ByteArray := prog_4_method_1_code
def yX2_init : MethodName := ⟨RX2, "<init>", "()V"⟩
abbrev cX2_read : ByteArray := prog_4_method_2_code
def yX2_read : MethodName := ⟨RX2, "read", "(LEchoTurns$Pad;)I"⟩
abbrev cX2_targetCount : ByteArray := prog_4_method_3_code
def yX2_targetCount : MethodName := ⟨RX2, "targetCount", "()I"⟩
abbrev cX2_hasTwins : ByteArray := prog_4_method_4_code
def yX2_hasTwins : MethodName := ⟨RX2, "hasTwins", "()Z"⟩
abbrev cX2_putInto : ByteArray := prog_4_method_5_code
def yX2_putInto : MethodName := ⟨RX2, "putInto", "(LEchoTurns$Scene;)V"⟩
abbrev cX2_isComplete : ByteArray := prog_4_method_6_code
def yX2_isComplete : MethodName := ⟨RX2, "isComplete", "()Z"⟩
abbrev cX2_accepts : ByteArray := prog_4_method_7_code
def yX2_accepts : MethodName := ⟨RX2, "accepts", "(C)Z"⟩
abbrev cX2_acceptsKind : ByteArray := prog_4_method_8_code
def yX2_acceptsKind : MethodName := ⟨RX2, "acceptsKind", "(C)Z"⟩
abbrev cX2_acceptsBegin : ByteArray := prog_4_method_9_code
def yX2_acceptsBegin : MethodName := ⟨RX2, "acceptsBegin", "(CII)Z"⟩
abbrev cX2_acceptsDigit : ByteArray := prog_4_method_10_code
def yX2_acceptsDigit : MethodName := ⟨RX2, "acceptsDigit", "(CII)Z"⟩
abbrev cX2_endDistance : ByteArray := prog_4_method_11_code
def yX2_endDistance : MethodName := ⟨RX2, "endDistance", "()Z"⟩
abbrev cX2_acceptsBehindStrength : ByteArray := prog_4_method_12_code
def yX2_acceptsBehindStrength : MethodName := ⟨RX2, "acceptsBehindStrength", "(C)Z"⟩
abbrev cX2_acceptsMovement : ByteArray := prog_4_method_13_code
def yX2_acceptsMovement : MethodName := ⟨RX2, "acceptsMovement", "(C)Z"⟩
abbrev cX2_acceptsTargetEnd : ByteArray := prog_4_method_14_code
def yX2_acceptsTargetEnd : MethodName := ⟨RX2, "acceptsTargetEnd", "(C)Z"⟩
abbrev cX2_acceptsSlash : ByteArray := prog_4_method_15_code
def yX2_acceptsSlash : MethodName := ⟨RX2, "acceptsSlash", "(C)Z"⟩
abbrev cX2_keepTarget : ByteArray := prog_4_method_16_code
def yX2_keepTarget : MethodName := ⟨RX2, "keepTarget", "(II)V"⟩
abbrev cX2_keepSpacing : ByteArray := prog_4_method_17_code
def yX2_keepSpacing : MethodName := ⟨RX2, "keepSpacing", "()Z"⟩
def RX3 : String := "EchoTurns$Scene"
def TX3 : u_T := fun k => match k with
  | 0 => ("EchoTurns$Scene", "distances", "[I", true)
  | 1 => ("EchoTurns$Scene", "strengths", "[I", true)
  | 2 => ("EchoTurns$Scene", "movements", "[I", true)
  | 3 => ("EchoTurns$Scene", "walls", "[Z", true)
  | 4 => ("EchoTurns$Scene", "spacing", "[I", true)
  | 5 => ("EchoTurns$Scene", "targets", "I", false)
  | 6 => ("EchoTurns$Scene", "turns", "I", false)
  | 7 => ("EchoTurns$Scene", "blind", "I", false)
  | _ => ("EchoTurns$Scene", "loud", "I", false)
def tyX3 : Nat → FieldType := fun k => match k with
  | 0 => .array .int
  | 1 => .array .int
  | 2 => .array .int
  | 3 => .array .boolean
  | 4 => .array .int
  | 5 => .int
  | 6 => .int
  | 7 => .int
  | _ => .int
theorem nmX3 : ∀ a, a < 9 → ∀ b, b < 9 → a ≠ b → (TX3 a).2.1 ≠ (TX3 b).2.1 := by decide +kernel
theorem tyX3_ok : ∀ k, k < 9 → parseFieldDescriptor (TX3 k).2.2.1 = some (tyX3 k) := by decide +kernel
abbrev cX3_init : ByteArray := prog_5_method_1_code
def yX3_init : MethodName := ⟨RX3, "<init>", "()V"⟩
abbrev cX3_become : ByteArray := prog_5_method_2_code
def yX3_become : MethodName := ⟨RX3, "become", "(LEchoTurns$Scene;)V"⟩
abbrev cX3_targetCount : ByteArray := prog_5_method_3_code
def yX3_targetCount : MethodName := ⟨RX3, "targetCount", "()I"⟩
abbrev cX3_turnCount : ByteArray := prog_5_method_4_code
def yX3_turnCount : MethodName := ⟨RX3, "turnCount", "()I"⟩
abbrev cX3_blindBelow : ByteArray := prog_5_method_5_code
def yX3_blindBelow : MethodName := ⟨RX3, "blindBelow", "()I"⟩
abbrev cX3_loudFrom : ByteArray := prog_5_method_6_code
def yX3_loudFrom : MethodName := ⟨RX3, "loudFrom", "()I"⟩
abbrev cX3_has : ByteArray := prog_5_method_7_code
def yX3_has : MethodName := ⟨RX3, "has", "(I)Z"⟩
abbrev cX3_hasTurn : ByteArray := prog_5_method_8_code
def yX3_hasTurn : MethodName := ⟨RX3, "hasTurn", "(I)Z"⟩
abbrev cX3_distanceOf : ByteArray := prog_5_method_9_code
def yX3_distanceOf : MethodName := ⟨RX3, "distanceOf", "(I)I"⟩
abbrev cX3_strengthOf : ByteArray := prog_5_method_10_code
def yX3_strengthOf : MethodName := ⟨RX3, "strengthOf", "(I)I"⟩
abbrev cX3_movementOf : ByteArray := prog_5_method_11_code
def yX3_movementOf : MethodName := ⟨RX3, "movementOf", "(I)I"⟩
abbrev cX3_isWall : ByteArray := prog_5_method_12_code
def yX3_isWall : MethodName := ⟨RX3, "isWall", "(I)Z"⟩
abbrev cX3_spacingOf : ByteArray := prog_5_method_13_code
def yX3_spacingOf : MethodName := ⟨RX3, "spacingOf", "(I)I"⟩
abbrev cX3_wallCount : ByteArray := prog_5_method_14_code
def yX3_wallCount : MethodName := ⟨RX3, "wallCount", "()I"⟩
abbrev cX3_holds : ByteArray := prog_5_method_15_code
def yX3_holds : MethodName := ⟨RX3, "holds", "(II)Z"⟩
abbrev cX3_join : ByteArray := prog_5_method_16_code
def yX3_join : MethodName := ⟨RX3, "join", "(IIIZ)I"⟩
abbrev cX3_put : ByteArray := prog_5_method_17_code
def yX3_put : MethodName := ⟨RX3, "put", "(IIIIZ)V"⟩
abbrev cX3_putAs : ByteArray := prog_5_method_18_code
def yX3_putAs : MethodName := ⟨RX3, "putAs", "(III)V"⟩
abbrev cX3_leave : ByteArray := prog_5_method_19_code
def yX3_leave : MethodName := ⟨RX3, "leave", "(I)V"⟩
abbrev cX3_leaveAll : ByteArray := prog_5_method_20_code
def yX3_leaveAll : MethodName := ⟨RX3, "leaveAll", "()V"⟩
abbrev cX3_moveAll : ByteArray := prog_5_method_21_code
def yX3_moveAll : MethodName := ⟨RX3, "moveAll", "()V"⟩
abbrev cX3_forgetTurns : ByteArray := prog_5_method_22_code
def yX3_forgetTurns : MethodName := ⟨RX3, "forgetTurns", "()V"⟩
abbrev cX3_addTurn : ByteArray := prog_5_method_23_code
def yX3_addTurn : MethodName := ⟨RX3, "addTurn", "(I)V"⟩
abbrev cX3_changeBlind : ByteArray := prog_5_method_24_code
def yX3_changeBlind : MethodName := ⟨RX3, "changeBlind", "(I)I"⟩
abbrev cX3_changeLoud : ByteArray := prog_5_method_25_code
def yX3_changeLoud : MethodName := ⟨RX3, "changeLoud", "(I)I"⟩
def RX4 : String := "EchoTurns$Script"
def TX4 : u_T := fun k => match k with
  | 0 => ("EchoTurns$Script", "signs", "[C", true)
  | _ => ("EchoTurns$Script", "length", "I", false)
def tyX4 : Nat → FieldType := fun k => match k with
  | 0 => .array .char
  | _ => .int
theorem nmX4 : ∀ a, a < 2 → ∀ b, b < 2 → a ≠ b → (TX4 a).2.1 ≠ (TX4 b).2.1 := by decide +kernel
theorem tyX4_ok : ∀ k, k < 2 → parseFieldDescriptor (TX4 k).2.2.1 = some (tyX4 k) := by decide +kernel
abbrev cX4_init : ByteArray := prog_6_method_1_code
def yX4_init : MethodName := ⟨RX4, "<init>", "()V"⟩
abbrev cX4_length : ByteArray := prog_6_method_2_code
def yX4_length : MethodName := ⟨RX4, "length", "()I"⟩
abbrev cX4_codeAt : ByteArray := prog_6_method_3_code
def yX4_codeAt : MethodName := ⟨RX4, "codeAt", "(I)I"⟩
abbrev cX4_write : ByteArray := prog_6_method_4_code
def yX4_write : MethodName := ⟨RX4, "write", "(LEchoTurns$Scene;)V"⟩
abbrev cX4_writeTarget : ByteArray := prog_6_method_5_code
def yX4_writeTarget : MethodName := ⟨RX4, "writeTarget", "(LEchoTurns$Scene;I)V"⟩
abbrev cX4_writeNumber : ByteArray := prog_6_method_6_code
def yX4_writeNumber : MethodName := ⟨RX4, "writeNumber", "(I)V"⟩
abbrev cX4_digitSign : ByteArray := prog_6_method_7_code
def yX4_digitSign : MethodName := ⟨RX4, "digitSign", "(I)C"⟩
abbrev cX4_put : ByteArray := prog_6_method_8_code
def yX4_put : MethodName := ⟨RX4, "put", "(C)V"⟩
def RX5 : String := "EchoTurns"
def TX5 : u_T := fun k => match k with
  | 0 => ("EchoTurns", "scene", "LEchoTurns$Scene;", true)
  | 1 => ("EchoTurns", "spare", "LEchoTurns$Scene;", true)
  | 2 => ("EchoTurns", "snapshot", "LEchoTurns$Scene;", true)
  | 3 => ("EchoTurns", "past", "[LEchoTurns$Scene;", true)
  | 4 => ("EchoTurns", "pad", "LEchoTurns$Pad;", true)
  | 5 => ("EchoTurns", "reading", "LEchoTurns$Reading;", true)
  | 6 => ("EchoTurns", "script", "LEchoTurns$Script;", true)
  | 7 => ("EchoTurns", "ear", "LEchoTurns$Ear;", true)
  | 8 => ("EchoTurns", "saved", "Z", false)
  | _ => ("EchoTurns", "states", "I", false)
def tyX5 : Nat → FieldType := fun k => match k with
  | 0 => .object "EchoTurns$Scene"
  | 1 => .object "EchoTurns$Scene"
  | 2 => .object "EchoTurns$Scene"
  | 3 => .array (.object "EchoTurns$Scene")
  | 4 => .object "EchoTurns$Pad"
  | 5 => .object "EchoTurns$Reading"
  | 6 => .object "EchoTurns$Script"
  | 7 => .object "EchoTurns$Ear"
  | 8 => .boolean
  | _ => .int
theorem nmX5 : ∀ a, a < 10 → ∀ b, b < 10 → a ≠ b → (TX5 a).2.1 ≠ (TX5 b).2.1 := by decide +kernel
theorem tyX5_ok : ∀ k, k < 10 → parseFieldDescriptor (TX5 k).2.2.1 = some (tyX5 k) := by decide +kernel
abbrev cX5_init : ByteArray := prog_1_method_1_code
def yX5_init : MethodName := ⟨RX5, "<init>", "()V"⟩
abbrev cX5_target : ByteArray := prog_1_method_2_code
def yX5_target : MethodName := ⟨RX5, "target", "(IIIZ)I"⟩
abbrev cX5_drop : ByteArray := prog_1_method_3_code
def yX5_drop : MethodName := ⟨RX5, "drop", "(I)I"⟩
abbrev cX5_go : ByteArray := prog_1_method_4_code
def yX5_go : MethodName := ⟨RX5, "go", "()I"⟩
abbrev cX5_spacings : ByteArray := prog_1_method_5_code
def yX5_spacings : MethodName := ⟨RX5, "spacings", "(IIII)I"⟩
abbrev cX5_set : ByteArray := prog_1_method_6_code
def yX5_set : MethodName := ⟨RX5, "set", "(II)I"⟩
abbrev cX5_append : ByteArray := prog_1_method_7_code
def yX5_append : MethodName := ⟨RX5, "append", "(I)I"⟩
abbrev cX5_clear : ByteArray := prog_1_method_8_code
def yX5_clear : MethodName := ⟨RX5, "clear", "()I"⟩
abbrev cX5_fault : ByteArray := prog_1_method_9_code
def yX5_fault : MethodName := ⟨RX5, "fault", "()I"⟩
abbrev cX5_load : ByteArray := prog_1_method_10_code
def yX5_load : MethodName := ⟨RX5, "load", "()I"⟩
abbrev cX5_sign : ByteArray := prog_1_method_11_code
def yX5_sign : MethodName := ⟨RX5, "sign", "(I)I"⟩
abbrev cX5_targetOf : ByteArray := prog_1_method_12_code
def yX5_targetOf : MethodName := ⟨RX5, "targetOf", "(II)I"⟩
abbrev cX5_ghost : ByteArray := prog_1_method_13_code
def yX5_ghost : MethodName := ⟨RX5, "ghost", "(II)I"⟩
abbrev cX5_echo : ByteArray := prog_1_method_14_code
def yX5_echo : MethodName := ⟨RX5, "echo", "(III)I"⟩
abbrev cX5_fits : ByteArray := prog_1_method_15_code
def yX5_fits : MethodName := ⟨RX5, "fits", "(III)I"⟩
abbrev cX5_told : ByteArray := prog_1_method_16_code
def yX5_told : MethodName := ⟨RX5, "told", "(II)I"⟩
abbrev cX5_alike : ByteArray := prog_1_method_17_code
def yX5_alike : MethodName := ⟨RX5, "alike", "(I)I"⟩
abbrev cX5_unfold : ByteArray := prog_1_method_18_code
def yX5_unfold : MethodName := ⟨RX5, "unfold", "(III)I"⟩
abbrev cX5_count : ByteArray := prog_1_method_19_code
def yX5_count : MethodName := ⟨RX5, "count", "(I)I"⟩
abbrev cX5_truth : ByteArray := prog_1_method_20_code
def yX5_truth : MethodName := ⟨RX5, "truth", "()D"⟩
abbrev cX5_ifTurn : ByteArray := prog_1_method_21_code
def yX5_ifTurn : MethodName := ⟨RX5, "ifTurn", "(II)I"⟩
abbrev cX5_bestTurn : ByteArray := prog_1_method_22_code
def yX5_bestTurn : MethodName := ⟨RX5, "bestTurn", "()I"⟩
abbrev cX5_ifWall : ByteArray := prog_1_method_23_code
def yX5_ifWall : MethodName := ⟨RX5, "ifWall", "(III)I"⟩
abbrev cX5_undo : ByteArray := prog_1_method_24_code
def yX5_undo : MethodName := ⟨RX5, "undo", "()I"⟩
abbrev cX5_save : ByteArray := prog_1_method_25_code
def yX5_save : MethodName := ⟨RX5, "save", "()I"⟩
abbrev cX5_restore : ByteArray := prog_1_method_26_code
def yX5_restore : MethodName := ⟨RX5, "restore", "()I"⟩
abbrev cX5_remember : ByteArray := prog_1_method_27_code
def yX5_remember : MethodName := ⟨RX5, "remember", "()V"⟩
abbrev cX5_forgetOldest : ByteArray := prog_1_method_28_code
def yX5_forgetOldest : MethodName := ⟨RX5, "forgetOldest", "()V"⟩
abbrev cX5_comingError : ByteArray := prog_1_method_29_code
def yX5_comingError : MethodName := ⟨RX5, "comingError", "(IIIZ)I"⟩
abbrev cX5_heardOf : ByteArray := prog_1_method_30_code
def yX5_heardOf : MethodName := ⟨RX5, "heardOf", "(II)I"⟩
abbrev cX5_countHeard : ByteArray := prog_1_method_31_code
def yX5_countHeard : MethodName := ⟨RX5, "countHeard", "(I)I"⟩
abbrev cX5_isWithin : ByteArray := prog_1_method_32_code
def yX5_isWithin : MethodName := ⟨RX5, "isWithin", "(III)Z"⟩
abbrev cX5_isSpacing : ByteArray := prog_1_method_33_code
def yX5_isSpacing : MethodName := ⟨RX5, "isSpacing", "(I)Z"⟩
abbrev cX5_isSpacingOrNone : ByteArray := prog_1_method_34_code
def yX5_isSpacingOrNone : MethodName := ⟨RX5, "isSpacingOrNone", "(I)Z"⟩
abbrev cX5_asNumber : ByteArray := prog_1_method_35_code
def yX5_asNumber : MethodName := ⟨RX5, "asNumber", "(Z)I"⟩
abbrev cX5_remainder : ByteArray := prog_1_method_36_code
def yX5_remainder : MethodName := ⟨RX5, "remainder", "(II)I"⟩
abbrev cX5_firstCommonMultiple : ByteArray := prog_1_method_37_code
def yX5_firstCommonMultiple : MethodName := ⟨RX5, "firstCommonMultiple", "(II)I"⟩
abbrev cX5_commonMultiple : ByteArray := prog_1_method_38_code
def yX5_commonMultiple : MethodName := ⟨RX5, "commonMultiple", "(II)I"⟩
abbrev cX5_commonDivisor : ByteArray := prog_1_method_39_code
def yX5_commonDivisor : MethodName := ⟨RX5, "commonDivisor", "(II)I"⟩
abbrev cX5_tryDistances : ByteArray := prog_1_method_40_code
def yX5_tryDistances : MethodName := ⟨RX5, "tryDistances", "(IIIIII)I"⟩
def RX6 : String := "EchoTurnsModel"
def TX6 : u_T := fun k => match k with
  | 0 => ("EchoTurnsModel", "z", "[I", true)
  | 1 => ("EchoTurnsModel", "past", "[I", true)
  | 2 => ("EchoTurnsModel", "pastMany", "I", false)
  | 3 => ("EchoTurnsModel", "kept", "[I", true)
  | 4 => ("EchoTurnsModel", "isKept", "Z", false)
  | 5 => ("EchoTurnsModel", "pad", "[C", true)
  | 6 => ("EchoTurnsModel", "typed", "I", false)
  | 7 => ("EchoTurnsModel", "bodies", "[I", true)
  | 8 => ("EchoTurnsModel", "bodyMany", "I", false)
  | 9 => ("EchoTurnsModel", "strengths", "[I", true)
  | 10 => ("EchoTurnsModel", "sources", "[I", true)
  | 11 => ("EchoTurnsModel", "written", "[C", true)
  | 12 => ("EchoTurnsModel", "writtenMany", "I", false)
  | 13 => ("EchoTurnsModel", "told", "[I", true)
  | 14 => ("EchoTurnsModel", "toldTargets", "I", false)
  | 15 => ("EchoTurnsModel", "toldSpacings", "[I", true)
  | 16 => ("EchoTurnsModel", "toldTurns", "I", false)
  | 17 => ("EchoTurnsModel", "spot", "I", false)
  | _ => ("EchoTurnsModel", "wrong", "I", false)
def tyX6 : Nat → FieldType := fun k => match k with
  | 0 => .array .int
  | 1 => .array .int
  | 2 => .int
  | 3 => .array .int
  | 4 => .boolean
  | 5 => .array .char
  | 6 => .int
  | 7 => .array .int
  | 8 => .int
  | 9 => .array .int
  | 10 => .array .int
  | 11 => .array .char
  | 12 => .int
  | 13 => .array .int
  | 14 => .int
  | 15 => .array .int
  | 16 => .int
  | 17 => .int
  | _ => .int
theorem nmX6 : ∀ a, a < 19 → ∀ b, b < 19 → a ≠ b → (TX6 a).2.1 ≠ (TX6 b).2.1 := by decide +kernel
theorem tyX6_ok : ∀ k, k < 19 → parseFieldDescriptor (TX6 k).2.2.1 = some (tyX6 k) := by decide +kernel
abbrev cX6_init : ByteArray := prog_8_method_1_code
def yX6_init : MethodName := ⟨RX6, "<init>", "()V"⟩
abbrev cX6_in : ByteArray := prog_8_method_2_code
def yX6_in : MethodName := ⟨RX6, "in", "(III)Z"⟩
abbrev cX6_of : ByteArray := prog_8_method_3_code
def yX6_of : MethodName := ⟨RX6, "of", "(II)I"⟩
abbrev cX6_isTarget : ByteArray := prog_8_method_4_code
def yX6_isTarget : MethodName := ⟨RX6, "isTarget", "(I)Z"⟩
abbrev cX6_isTurn : ByteArray := prog_8_method_5_code
def yX6_isTurn : MethodName := ⟨RX6, "isTurn", "(I)Z"⟩
abbrev cX6_record : ByteArray := prog_8_method_6_code
def yX6_record : MethodName := ⟨RX6, "record", "()V"⟩
abbrev cX6_undo : ByteArray := prog_8_method_7_code
def yX6_undo : MethodName := ⟨RX6, "undo", "()I"⟩
abbrev cX6_save : ByteArray := prog_8_method_8_code
def yX6_save : MethodName := ⟨RX6, "save", "()I"⟩
abbrev cX6_restore : ByteArray := prog_8_method_9_code
def yX6_restore : MethodName := ⟨RX6, "restore", "()I"⟩
abbrev cX6_isThere : ByteArray := prog_8_method_10_code
def yX6_isThere : MethodName := ⟨RX6, "isThere", "(II)Z"⟩
abbrev cX6_add : ByteArray := prog_8_method_11_code
def yX6_add : MethodName := ⟨RX6, "add", "(IIII)V"⟩
abbrev cX6_isBody : ByteArray := prog_8_method_12_code
def yX6_isBody : MethodName := ⟨RX6, "isBody", "(III)Z"⟩
abbrev cX6_target : ByteArray := prog_8_method_13_code
def yX6_target : MethodName := ⟨RX6, "target", "(IIIZ)I"⟩
abbrev cX6_takeOut : ByteArray := prog_8_method_14_code
def yX6_takeOut : MethodName := ⟨RX6, "takeOut", "(I)V"⟩
abbrev cX6_drop : ByteArray := prog_8_method_15_code
def yX6_drop : MethodName := ⟨RX6, "drop", "(I)I"⟩
abbrev cX6_go : ByteArray := prog_8_method_16_code
def yX6_go : MethodName := ⟨RX6, "go", "()I"⟩
abbrev cX6_isSpacing : ByteArray := prog_8_method_17_code
def yX6_isSpacing : MethodName := ⟨RX6, "isSpacing", "(I)Z"⟩
abbrev cX6_spacings : ByteArray := prog_8_method_18_code
def yX6_spacings : MethodName := ⟨RX6, "spacings", "(IIII)I"⟩
abbrev cX6_set : ByteArray := prog_8_method_19_code
def yX6_set : MethodName := ⟨RX6, "set", "(II)I"⟩
abbrev cX6_body : ByteArray := prog_8_method_20_code
def yX6_body : MethodName := ⟨RX6, "body", "(II)I"⟩
abbrev cX6_layBody : ByteArray := prog_8_method_21_code
def yX6_layBody : MethodName := ⟨RX6, "layBody", "(IIIII)V"⟩
abbrev cX6_placeIn : ByteArray := prog_8_method_22_code
def yX6_placeIn : MethodName := ⟨RX6, "placeIn", "(III)I"⟩
abbrev cX6_mark : ByteArray := prog_8_method_23_code
def yX6_mark : MethodName := ⟨RX6, "mark", "(III)I"⟩
abbrev cX6_isFaint : ByteArray := prog_8_method_24_code
def yX6_isFaint : MethodName := ⟨RX6, "isFaint", "(I)Z"⟩
abbrev cX6_isLost : ByteArray := prog_8_method_25_code
def yX6_isLost : MethodName := ⟨RX6, "isLost", "(II)Z"⟩
abbrev cX6_listen : ByteArray := prog_8_method_26_code
def yX6_listen : MethodName := ⟨RX6, "listen", "()V"⟩
abbrev cX6_fit : ByteArray := prog_8_method_27_code
def yX6_fit : MethodName := ⟨RX6, "fit", "(III)I"⟩
abbrev cX6_fitting : ByteArray := prog_8_method_28_code
def yX6_fitting : MethodName := ⟨RX6, "fitting", "(II)I"⟩
abbrev cX6_isTrue : ByteArray := prog_8_method_29_code
def yX6_isTrue : MethodName := ⟨RX6, "isTrue", "(II)Z"⟩
abbrev cX6_toldMany : ByteArray := prog_8_method_30_code
def yX6_toldMany : MethodName := ⟨RX6, "toldMany", "(Z)I"⟩
abbrev cX6_isTold : ByteArray := prog_8_method_31_code
def yX6_isTold : MethodName := ⟨RX6, "isTold", "(I)Z"⟩
abbrev cX6_missed : ByteArray := prog_8_method_32_code
def yX6_missed : MethodName := ⟨RX6, "missed", "()I"⟩
abbrev cX6_targetOf : ByteArray := prog_8_method_33_code
def yX6_targetOf : MethodName := ⟨RX6, "targetOf", "(II)I"⟩
abbrev cX6_ghost : ByteArray := prog_8_method_34_code
def yX6_ghost : MethodName := ⟨RX6, "ghost", "(II)I"⟩
abbrev cX6_echo : ByteArray := prog_8_method_35_code
def yX6_echo : MethodName := ⟨RX6, "echo", "(III)I"⟩
abbrev cX6_fits : ByteArray := prog_8_method_36_code
def yX6_fits : MethodName := ⟨RX6, "fits", "(III)I"⟩
abbrev cX6_told : ByteArray := prog_8_method_37_code
def yX6_told : MethodName := ⟨RX6, "told", "(II)I"⟩
abbrev cX6_divisor : ByteArray := prog_8_method_38_code
def yX6_divisor : MethodName := ⟨RX6, "divisor", "(II)I"⟩
abbrev cX6_alike : ByteArray := prog_8_method_39_code
def yX6_alike : MethodName := ⟨RX6, "alike", "(I)I"⟩
abbrev cX6_unfold : ByteArray := prog_8_method_40_code
def yX6_unfold : MethodName := ⟨RX6, "unfold", "(III)I"⟩
abbrev cX6_echoes : ByteArray := prog_8_method_41_code
def yX6_echoes : MethodName := ⟨RX6, "echoes", "()I"⟩
abbrev cX6_lostMany : ByteArray := prog_8_method_42_code
def yX6_lostMany : MethodName := ⟨RX6, "lostMany", "()I"⟩
abbrev cX6_faintMany : ByteArray := prog_8_method_43_code
def yX6_faintMany : MethodName := ⟨RX6, "faintMany", "()I"⟩
abbrev cX6_walls : ByteArray := prog_8_method_44_code
def yX6_walls : MethodName := ⟨RX6, "walls", "()I"⟩
abbrev cX6_count : ByteArray := prog_8_method_45_code
def yX6_count : MethodName := ⟨RX6, "count", "(I)I"⟩
abbrev cX6_truth : ByteArray := prog_8_method_46_code
def yX6_truth : MethodName := ⟨RX6, "truth", "()D"⟩
abbrev cX6_withTurn : ByteArray := prog_8_method_47_code
def yX6_withTurn : MethodName := ⟨RX6, "withTurn", "(II)I"⟩
abbrev cX6_ifTurn : ByteArray := prog_8_method_48_code
def yX6_ifTurn : MethodName := ⟨RX6, "ifTurn", "(II)I"⟩
abbrev cX6_bestTurn : ByteArray := prog_8_method_49_code
def yX6_bestTurn : MethodName := ⟨RX6, "bestTurn", "()I"⟩
abbrev cX6_ifWall : ByteArray := prog_8_method_50_code
def yX6_ifWall : MethodName := ⟨RX6, "ifWall", "(III)I"⟩
abbrev cX6_sets : ByteArray := prog_8_method_51_code
def yX6_sets : MethodName := ⟨RX6, "sets", "(I)V"⟩
abbrev cX6_setsNumber : ByteArray := prog_8_method_52_code
def yX6_setsNumber : MethodName := ⟨RX6, "setsNumber", "(I)V"⟩
abbrev cX6_write : ByteArray := prog_8_method_53_code
def yX6_write : MethodName := ⟨RX6, "write", "()V"⟩
abbrev cX6_sign : ByteArray := prog_8_method_54_code
def yX6_sign : MethodName := ⟨RX6, "sign", "(I)I"⟩
abbrev cX6_append : ByteArray := prog_8_method_55_code
def yX6_append : MethodName := ⟨RX6, "append", "(I)I"⟩
abbrev cX6_clear : ByteArray := prog_8_method_56_code
def yX6_clear : MethodName := ⟨RX6, "clear", "()I"⟩
abbrev cX6_letter : ByteArray := prog_8_method_57_code
def yX6_letter : MethodName := ⟨RX6, "letter", "()I"⟩
abbrev cX6_figure : ByteArray := prog_8_method_58_code
def yX6_figure : MethodName := ⟨RX6, "figure", "()I"⟩
abbrev cX6_wants : ByteArray := prog_8_method_59_code
def yX6_wants : MethodName := ⟨RX6, "wants", "(Z)V"⟩
abbrev cX6_number : ByteArray := prog_8_method_60_code
def yX6_number : MethodName := ⟨RX6, "number", "(I)I"⟩
abbrev cX6_readTarget : ByteArray := prog_8_method_61_code
def yX6_readTarget : MethodName := ⟨RX6, "readTarget", "()V"⟩
abbrev cX6_readSpacing : ByteArray := prog_8_method_62_code
def yX6_readSpacing : MethodName := ⟨RX6, "readSpacing", "()V"⟩
abbrev cX6_fault : ByteArray := prog_8_method_63_code
def yX6_fault : MethodName := ⟨RX6, "fault", "()I"⟩
abbrev cX6_load : ByteArray := prog_8_method_64_code
def yX6_load : MethodName := ⟨RX6, "load", "()I"⟩
def RJ13 : String := "java/lang/Long"
def TJ13 : u_T := fun k => match k with
  | _ => ("", "", "", false)
abbrev cJ13_bitCount_95d88 : ByteArray := prog_9_method_50_code
def yJ13_bitCount_95d88 : MethodName := ⟨RJ13, "bitCount", "(J)I"⟩
def RJ9 : String := "java/lang/Math"
def TJ9 : u_T := fun k => match k with
  | _ => ("", "", "", false)
abbrev cJ9_max_7cf53 : ByteArray := prog_10_method_65_code
def yJ9_max_7cf53 : MethodName := ⟨RJ9, "max", "(II)I"⟩
abbrev cJ9_min_7cf53 : ByteArray := prog_10_method_69_code
def yJ9_min_7cf53 : MethodName := ⟨RJ9, "min", "(II)I"⟩
def RJ10 : String := "java/lang/System"
def TJ10 : u_T := fun k => match k with
  | _ => ("", "", "", false)
def RL : String := "EchoTurnsLaw"
abbrev cL_law : ByteArray := code
def yL_law : MethodName := ⟨RL, "law", "([I)Z"⟩
abbrev vwCl : List vw_C := [(RX0, TX0, 16), (RX1, TX1, 2), (RX2, TX2, 13), (RX3, TX3, 9), (RX4, TX4, 2), (RX5, TX5, 10), (RX6, TX6, 19)]
end
section
/-! every word by its place among the tables' words -/
/-- the tables' words that hold wherever the machine has come to -/
def tbg : List Cond := lw_tbl.filter goodWord
theorem tbAt {i : Nat} {w : Cond} (h : lw_tbl[i]? = some w) (g : goodWord w = true) : w ∈ tbg := List.mem_filter.mpr ⟨List.mem_of_getElem? h, g⟩
def pmN : List (String × Nat × MethodName × String) := [(RX2, 111, yX5_isWithin, "EchoTurns"), (RX3, 75, yX5_isWithin, "EchoTurns")]
theorem wb_0 : Cond.selects RX5 yX5_comingError yX5_comingError ∈ tbg := tbAt (i := 0) (by decide +kernel) (by decide +kernel)
theorem wb_1 : Cond.selects RX5 yX5_remember yX5_remember ∈ tbg := tbAt (i := 1) (by decide +kernel) (by decide +kernel)
theorem wb_2 : Cond.selects RX5 yX5_forgetOldest yX5_forgetOldest ∈ tbg := tbAt (i := 2) (by decide +kernel) (by decide +kernel)
theorem wb_3 : Cond.selects RX3 yX3_put yX3_put ∈ tbg := tbAt (i := 3) (by decide +kernel) (by decide +kernel)
theorem wb_4 : Cond.selects RX3 yX3_putAs yX3_putAs ∈ tbg := tbAt (i := 4) (by decide +kernel) (by decide +kernel)
theorem wb_5 : Cond.selects RX2 yX2_accepts yX2_accepts ∈ tbg := tbAt (i := 5) (by decide +kernel) (by decide +kernel)
theorem wb_6 : Cond.selects RX2 yX2_acceptsKind yX2_acceptsKind ∈ tbg := tbAt (i := 6) (by decide +kernel) (by decide +kernel)
theorem wb_7 : Cond.selects RX2 yX2_acceptsBegin yX2_acceptsBegin ∈ tbg := tbAt (i := 7) (by decide +kernel) (by decide +kernel)
theorem wb_8 : Cond.selects RX2 yX2_endDistance yX2_endDistance ∈ tbg := tbAt (i := 8) (by decide +kernel) (by decide +kernel)
theorem wb_9 : Cond.selects RX2 yX2_acceptsDigit yX2_acceptsDigit ∈ tbg := tbAt (i := 9) (by decide +kernel) (by decide +kernel)
theorem wb_10 : Cond.selects RX2 yX2_acceptsBehindStrength yX2_acceptsBehindStrength ∈ tbg := tbAt (i := 10) (by decide +kernel) (by decide +kernel)
theorem wb_11 : Cond.selects RX2 yX2_keepTarget yX2_keepTarget ∈ tbg := tbAt (i := 11) (by decide +kernel) (by decide +kernel)
theorem wb_12 : Cond.selects RX2 yX2_acceptsTargetEnd yX2_acceptsTargetEnd ∈ tbg := tbAt (i := 12) (by decide +kernel) (by decide +kernel)
theorem wb_13 : Cond.selects RX2 yX2_acceptsMovement yX2_acceptsMovement ∈ tbg := tbAt (i := 13) (by decide +kernel) (by decide +kernel)
theorem wb_14 : Cond.selects RX2 yX2_keepSpacing yX2_keepSpacing ∈ tbg := tbAt (i := 14) (by decide +kernel) (by decide +kernel)
theorem wb_15 : Cond.selects RX2 yX2_acceptsSlash yX2_acceptsSlash ∈ tbg := tbAt (i := 15) (by decide +kernel) (by decide +kernel)
theorem wb_16 : Cond.selects RX2 yX2_isComplete yX2_isComplete ∈ tbg := tbAt (i := 16) (by decide +kernel) (by decide +kernel)
theorem wb_17 : Cond.selects RX4 yX4_put yX4_put ∈ tbg := tbAt (i := 17) (by decide +kernel) (by decide +kernel)
theorem wb_18 : Cond.selects RX4 yX4_writeTarget yX4_writeTarget ∈ tbg := tbAt (i := 18) (by decide +kernel) (by decide +kernel)
theorem wb_19 : Cond.selects RX4 yX4_writeNumber yX4_writeNumber ∈ tbg := tbAt (i := 19) (by decide +kernel) (by decide +kernel)
theorem wb_20 : Cond.selects RX5 yX5_heardOf yX5_heardOf ∈ tbg := tbAt (i := 20) (by decide +kernel) (by decide +kernel)
theorem wb_21 : Cond.selects RX0 yX0_takeTargets yX0_takeTargets ∈ tbg := tbAt (i := 21) (by decide +kernel) (by decide +kernel)
theorem wb_22 : Cond.selects RX0 yX0_take yX0_take ∈ tbg := tbAt (i := 22) (by decide +kernel) (by decide +kernel)
theorem wb_23 : Cond.selects RX0 yX0_takeGhosts yX0_takeGhosts ∈ tbg := tbAt (i := 23) (by decide +kernel) (by decide +kernel)
theorem wb_24 : Cond.selects RX0 yX0_takeGhost yX0_takeGhost ∈ tbg := tbAt (i := 24) (by decide +kernel) (by decide +kernel)
theorem wb_25 : Cond.selects RX0 yX0_takePitches yX0_takePitches ∈ tbg := tbAt (i := 25) (by decide +kernel) (by decide +kernel)
theorem wb_26 : Cond.selects RX0 yX0_sounds yX0_sounds ∈ tbg := tbAt (i := 26) (by decide +kernel) (by decide +kernel)
theorem wb_27 : Cond.selects RX0 yX0_movementOf yX0_movementOf ∈ tbg := tbAt (i := 27) (by decide +kernel) (by decide +kernel)
theorem wb_28 : Cond.selects RX0 yX0_has yX0_has ∈ tbg := tbAt (i := 28) (by decide +kernel) (by decide +kernel)
theorem wb_29 : Cond.selects RX0 yX0_isFaint yX0_isFaint ∈ tbg := tbAt (i := 29) (by decide +kernel) (by decide +kernel)
theorem wb_30 : Cond.selects RX0 yX0_hearTurn yX0_hearTurn ∈ tbg := tbAt (i := 30) (by decide +kernel) (by decide +kernel)
theorem wb_31 : Cond.selects RX0 yX0_placeOf yX0_placeOf ∈ tbg := tbAt (i := 31) (by decide +kernel) (by decide +kernel)
theorem wb_32 : Cond.selects RX0 yX0_isHeard yX0_isHeard ∈ tbg := tbAt (i := 32) (by decide +kernel) (by decide +kernel)
theorem wb_33 : Cond.selects RX0 yX0_isPartOf yX0_isPartOf ∈ tbg := tbAt (i := 33) (by decide +kernel) (by decide +kernel)
theorem wb_34 : Cond.selects RX0 yX0_sourcesAt yX0_sourcesAt ∈ tbg := tbAt (i := 34) (by decide +kernel) (by decide +kernel)
theorem wb_35 : Cond.selects RX5 yX5_countHeard yX5_countHeard ∈ tbg := tbAt (i := 35) (by decide +kernel) (by decide +kernel)
theorem wb_36 : Cond.selects RX0 yX0_gatherOpen yX0_gatherOpen ∈ tbg := tbAt (i := 36) (by decide +kernel) (by decide +kernel)
theorem wb_37 : Cond.selects RX0 yX0_openTold yX0_openTold ∈ tbg := tbAt (i := 37) (by decide +kernel) (by decide +kernel)
theorem wb_38 : Cond.selects RX6 yX6_record yX6_record ∈ tbg := tbAt (i := 38) (by decide +kernel) (by decide +kernel)
theorem wb_39 : Cond.selects RX6 yX6_isThere yX6_isThere ∈ tbg := tbAt (i := 39) (by decide +kernel) (by decide +kernel)
theorem wb_40 : Cond.selects RX6 yX6_of yX6_of ∈ tbg := tbAt (i := 40) (by decide +kernel) (by decide +kernel)
theorem wb_41 : Cond.selects RX6 yX6_add yX6_add ∈ tbg := tbAt (i := 41) (by decide +kernel) (by decide +kernel)
theorem wb_42 : Cond.selects RX6 yX6_isTarget yX6_isTarget ∈ tbg := tbAt (i := 42) (by decide +kernel) (by decide +kernel)
theorem wb_43 : Cond.selects RX6 yX6_takeOut yX6_takeOut ∈ tbg := tbAt (i := 43) (by decide +kernel) (by decide +kernel)
theorem wb_44 : Cond.selects RX6 yX6_listen yX6_listen ∈ tbg := tbAt (i := 44) (by decide +kernel) (by decide +kernel)
theorem wb_45 : Cond.selects RX6 yX6_layBody yX6_layBody ∈ tbg := tbAt (i := 45) (by decide +kernel) (by decide +kernel)
theorem wb_46 : Cond.selects RX6 yX6_isFaint yX6_isFaint ∈ tbg := tbAt (i := 46) (by decide +kernel) (by decide +kernel)
theorem wb_47 : Cond.selects RX6 yX6_body yX6_body ∈ tbg := tbAt (i := 47) (by decide +kernel) (by decide +kernel)
theorem wb_48 : Cond.selects RX6 yX6_isLost yX6_isLost ∈ tbg := tbAt (i := 48) (by decide +kernel) (by decide +kernel)
theorem wb_49 : Cond.selects RX6 yX6_placeIn yX6_placeIn ∈ tbg := tbAt (i := 49) (by decide +kernel) (by decide +kernel)
theorem wb_50 : Cond.selects RX6 yX6_isTold yX6_isTold ∈ tbg := tbAt (i := 50) (by decide +kernel) (by decide +kernel)
theorem wb_51 : Cond.selects RX6 yX6_fitting yX6_fitting ∈ tbg := tbAt (i := 51) (by decide +kernel) (by decide +kernel)
theorem wb_52 : Cond.selects RX6 yX6_fit yX6_fit ∈ tbg := tbAt (i := 52) (by decide +kernel) (by decide +kernel)
theorem wb_53 : Cond.selects RX6 yX6_isTurn yX6_isTurn ∈ tbg := tbAt (i := 53) (by decide +kernel) (by decide +kernel)
theorem wb_54 : Cond.selects RX6 yX6_isTrue yX6_isTrue ∈ tbg := tbAt (i := 54) (by decide +kernel) (by decide +kernel)
theorem wb_55 : Cond.selects RX6 yX6_walls yX6_walls ∈ tbg := tbAt (i := 55) (by decide +kernel) (by decide +kernel)
theorem wb_56 : Cond.selects RX6 yX6_echoes yX6_echoes ∈ tbg := tbAt (i := 56) (by decide +kernel) (by decide +kernel)
theorem wb_57 : Cond.selects RX6 yX6_lostMany yX6_lostMany ∈ tbg := tbAt (i := 57) (by decide +kernel) (by decide +kernel)
theorem wb_58 : Cond.selects RX6 yX6_faintMany yX6_faintMany ∈ tbg := tbAt (i := 58) (by decide +kernel) (by decide +kernel)
theorem wb_59 : Cond.selects RX6 yX6_toldMany yX6_toldMany ∈ tbg := tbAt (i := 59) (by decide +kernel) (by decide +kernel)
theorem wb_60 : Cond.selects RX6 yX6_missed yX6_missed ∈ tbg := tbAt (i := 60) (by decide +kernel) (by decide +kernel)
theorem wb_61 : Cond.selects RX6 yX6_write yX6_write ∈ tbg := tbAt (i := 61) (by decide +kernel) (by decide +kernel)
theorem wb_62 : Cond.selects RX6 yX6_sets yX6_sets ∈ tbg := tbAt (i := 62) (by decide +kernel) (by decide +kernel)
theorem wb_63 : Cond.selects RX6 yX6_setsNumber yX6_setsNumber ∈ tbg := tbAt (i := 63) (by decide +kernel) (by decide +kernel)
theorem wb_64 : Cond.selects RX6 yX6_withTurn yX6_withTurn ∈ tbg := tbAt (i := 64) (by decide +kernel) (by decide +kernel)
theorem wb_65 : Cond.selects RX6 yX6_readTarget yX6_readTarget ∈ tbg := tbAt (i := 65) (by decide +kernel) (by decide +kernel)
theorem wb_66 : Cond.selects RX6 yX6_letter yX6_letter ∈ tbg := tbAt (i := 66) (by decide +kernel) (by decide +kernel)
theorem wb_67 : Cond.selects RX6 yX6_wants yX6_wants ∈ tbg := tbAt (i := 67) (by decide +kernel) (by decide +kernel)
theorem wb_68 : Cond.selects RX6 yX6_number yX6_number ∈ tbg := tbAt (i := 68) (by decide +kernel) (by decide +kernel)
theorem wb_69 : Cond.selects RX6 yX6_figure yX6_figure ∈ tbg := tbAt (i := 69) (by decide +kernel) (by decide +kernel)
theorem wb_70 : Cond.selects RX6 yX6_readSpacing yX6_readSpacing ∈ tbg := tbAt (i := 70) (by decide +kernel) (by decide +kernel)
theorem wb_72 : Cond.initialized RX5 ∈ tbg := tbAt (i := 72) (by decide +kernel) (by decide +kernel)
theorem wb_73 : Cond.initialized RX3 ∈ tbg := tbAt (i := 73) (by decide +kernel) (by decide +kernel)
theorem wb_74 : Cond.initialized RX1 ∈ tbg := tbAt (i := 74) (by decide +kernel) (by decide +kernel)
theorem wb_75 : Cond.initialized RX2 ∈ tbg := tbAt (i := 75) (by decide +kernel) (by decide +kernel)
theorem wb_76 : Cond.initialized RX4 ∈ tbg := tbAt (i := 76) (by decide +kernel) (by decide +kernel)
theorem wb_77 : Cond.initialized RX0 ∈ tbg := tbAt (i := 77) (by decide +kernel) (by decide +kernel)
theorem wb_78 : Cond.initialized RX6 ∈ tbg := tbAt (i := 78) (by decide +kernel) (by decide +kernel)
theorem wb_79 : Cond.initialized "java/lang/System" ∈ tbg := tbAt (i := 79) (by decide +kernel) (by decide +kernel)
theorem wb_80 : Cond.initialized "java/lang/Math" ∈ tbg := tbAt (i := 80) (by decide +kernel) (by decide +kernel)
theorem wb_81 : Cond.initialized RJ13 ∈ tbg := tbAt (i := 81) (by decide +kernel) (by decide +kernel)
theorem wb_96 : Cond.fieldLink RX3 9 (TX3 0).1 (TX3 0).2.1 (TX3 0).2.2.1 ∈ tbg := tbAt (i := 96) (by decide +kernel) (by decide +kernel)
theorem wb_97 : Cond.fieldLink RX3 15 (TX3 1).1 (TX3 1).2.1 (TX3 1).2.2.1 ∈ tbg := tbAt (i := 97) (by decide +kernel) (by decide +kernel)
theorem wb_98 : Cond.fieldLink RX3 18 (TX3 2).1 (TX3 2).2.1 (TX3 2).2.2.1 ∈ tbg := tbAt (i := 98) (by decide +kernel) (by decide +kernel)
theorem wb_99 : Cond.fieldLink RX3 21 (TX3 3).1 (TX3 3).2.1 (TX3 3).2.2.1 ∈ tbg := tbAt (i := 99) (by decide +kernel) (by decide +kernel)
theorem wb_100 : Cond.fieldLink RX3 25 (TX3 4).1 (TX3 4).2.1 (TX3 4).2.2.1 ∈ tbg := tbAt (i := 100) (by decide +kernel) (by decide +kernel)
theorem wb_101 : Cond.fieldLink RX3 28 (TX3 5).1 (TX3 5).2.1 (TX3 5).2.2.1 ∈ tbg := tbAt (i := 101) (by decide +kernel) (by decide +kernel)
theorem wb_102 : Cond.fieldLink RX3 32 (TX3 6).1 (TX3 6).2.1 (TX3 6).2.2.1 ∈ tbg := tbAt (i := 102) (by decide +kernel) (by decide +kernel)
theorem wb_103 : Cond.fieldLink RX3 35 (TX3 7).1 (TX3 7).2.1 (TX3 7).2.2.1 ∈ tbg := tbAt (i := 103) (by decide +kernel) (by decide +kernel)
theorem wb_104 : Cond.fieldLink RX3 38 (TX3 8).1 (TX3 8).2.1 (TX3 8).2.2.1 ∈ tbg := tbAt (i := 104) (by decide +kernel) (by decide +kernel)
theorem wb_105 : u_lay RX3 TX3 0 ∈ tbg := tbAt (i := 105) (by decide +kernel) (by decide +kernel)
theorem wb_107 : u_lay RX3 TX3 1 ∈ tbg := tbAt (i := 107) (by decide +kernel) (by decide +kernel)
theorem wb_109 : u_lay RX3 TX3 2 ∈ tbg := tbAt (i := 109) (by decide +kernel) (by decide +kernel)
theorem wb_111 : u_lay RX3 TX3 3 ∈ tbg := tbAt (i := 111) (by decide +kernel) (by decide +kernel)
theorem wb_113 : u_lay RX3 TX3 4 ∈ tbg := tbAt (i := 113) (by decide +kernel) (by decide +kernel)
theorem wb_115 : u_lay RX3 TX3 5 ∈ tbg := tbAt (i := 115) (by decide +kernel) (by decide +kernel)
theorem wb_117 : u_lay RX3 TX3 6 ∈ tbg := tbAt (i := 117) (by decide +kernel) (by decide +kernel)
theorem wb_119 : u_lay RX3 TX3 7 ∈ tbg := tbAt (i := 119) (by decide +kernel) (by decide +kernel)
theorem wb_121 : u_lay RX3 TX3 8 ∈ tbg := tbAt (i := 121) (by decide +kernel) (by decide +kernel)
theorem wb_133 : Cond.fieldLink RX1 9 (TX1 0).1 (TX1 0).2.1 (TX1 0).2.2.1 ∈ tbg := tbAt (i := 133) (by decide +kernel) (by decide +kernel)
theorem wb_134 : Cond.fieldLink RX1 15 (TX1 1).1 (TX1 1).2.1 (TX1 1).2.2.1 ∈ tbg := tbAt (i := 134) (by decide +kernel) (by decide +kernel)
theorem wb_135 : u_lay RX1 TX1 0 ∈ tbg := tbAt (i := 135) (by decide +kernel) (by decide +kernel)
theorem wb_137 : u_lay RX1 TX1 1 ∈ tbg := tbAt (i := 137) (by decide +kernel) (by decide +kernel)
theorem wb_147 : Cond.fieldLink RX2 11 (TX2 0).1 (TX2 0).2.1 (TX2 0).2.2.1 ∈ tbg := tbAt (i := 147) (by decide +kernel) (by decide +kernel)
theorem wb_148 : Cond.fieldLink RX2 15 (TX2 1).1 (TX2 1).2.1 (TX2 1).2.2.1 ∈ tbg := tbAt (i := 148) (by decide +kernel) (by decide +kernel)
theorem wb_149 : Cond.fieldLink RX2 18 (TX2 2).1 (TX2 2).2.1 (TX2 2).2.2.1 ∈ tbg := tbAt (i := 149) (by decide +kernel) (by decide +kernel)
theorem wb_150 : Cond.fieldLink RX2 21 (TX2 3).1 (TX2 3).2.1 (TX2 3).2.2.1 ∈ tbg := tbAt (i := 150) (by decide +kernel) (by decide +kernel)
theorem wb_151 : Cond.fieldLink RX2 25 (TX2 4).1 (TX2 4).2.1 (TX2 4).2.2.1 ∈ tbg := tbAt (i := 151) (by decide +kernel) (by decide +kernel)
theorem wb_152 : Cond.fieldLink RX2 28 (TX2 5).1 (TX2 5).2.1 (TX2 5).2.2.1 ∈ tbg := tbAt (i := 152) (by decide +kernel) (by decide +kernel)
theorem wb_153 : Cond.fieldLink RX2 32 (TX2 6).1 (TX2 6).2.1 (TX2 6).2.2.1 ∈ tbg := tbAt (i := 153) (by decide +kernel) (by decide +kernel)
theorem wb_154 : Cond.fieldLink RX2 35 (TX2 7).1 (TX2 7).2.1 (TX2 7).2.2.1 ∈ tbg := tbAt (i := 154) (by decide +kernel) (by decide +kernel)
theorem wb_155 : Cond.fieldLink RX2 56 (TX2 8).1 (TX2 8).2.1 (TX2 8).2.2.1 ∈ tbg := tbAt (i := 155) (by decide +kernel) (by decide +kernel)
theorem wb_156 : Cond.fieldLink RX2 115 (TX2 9).1 (TX2 9).2.1 (TX2 9).2.2.1 ∈ tbg := tbAt (i := 156) (by decide +kernel) (by decide +kernel)
theorem wb_157 : Cond.fieldLink RX2 118 (TX2 10).1 (TX2 10).2.1 (TX2 10).2.2.1 ∈ tbg := tbAt (i := 157) (by decide +kernel) (by decide +kernel)
theorem wb_158 : Cond.fieldLink RX2 107 (TX2 11).1 (TX2 11).2.1 (TX2 11).2.2.1 ∈ tbg := tbAt (i := 158) (by decide +kernel) (by decide +kernel)
theorem wb_159 : Cond.fieldLink RX2 121 (TX2 12).1 (TX2 12).2.1 (TX2 12).2.2.1 ∈ tbg := tbAt (i := 159) (by decide +kernel) (by decide +kernel)
theorem wb_160 : u_lay RX2 TX2 0 ∈ tbg := tbAt (i := 160) (by decide +kernel) (by decide +kernel)
theorem wb_162 : u_lay RX2 TX2 1 ∈ tbg := tbAt (i := 162) (by decide +kernel) (by decide +kernel)
theorem wb_164 : u_lay RX2 TX2 2 ∈ tbg := tbAt (i := 164) (by decide +kernel) (by decide +kernel)
theorem wb_166 : u_lay RX2 TX2 3 ∈ tbg := tbAt (i := 166) (by decide +kernel) (by decide +kernel)
theorem wb_168 : u_lay RX2 TX2 4 ∈ tbg := tbAt (i := 168) (by decide +kernel) (by decide +kernel)
theorem wb_170 : u_lay RX2 TX2 5 ∈ tbg := tbAt (i := 170) (by decide +kernel) (by decide +kernel)
theorem wb_172 : u_lay RX2 TX2 6 ∈ tbg := tbAt (i := 172) (by decide +kernel) (by decide +kernel)
theorem wb_174 : u_lay RX2 TX2 7 ∈ tbg := tbAt (i := 174) (by decide +kernel) (by decide +kernel)
theorem wb_176 : u_lay RX2 TX2 8 ∈ tbg := tbAt (i := 176) (by decide +kernel) (by decide +kernel)
theorem wb_178 : u_lay RX2 TX2 9 ∈ tbg := tbAt (i := 178) (by decide +kernel) (by decide +kernel)
theorem wb_180 : u_lay RX2 TX2 10 ∈ tbg := tbAt (i := 180) (by decide +kernel) (by decide +kernel)
theorem wb_182 : u_lay RX2 TX2 11 ∈ tbg := tbAt (i := 182) (by decide +kernel) (by decide +kernel)
theorem wb_184 : u_lay RX2 TX2 12 ∈ tbg := tbAt (i := 184) (by decide +kernel) (by decide +kernel)
theorem wb_193 : Cond.fieldLink RX4 9 (TX4 0).1 (TX4 0).2.1 (TX4 0).2.2.1 ∈ tbg := tbAt (i := 193) (by decide +kernel) (by decide +kernel)
theorem wb_194 : Cond.fieldLink RX4 15 (TX4 1).1 (TX4 1).2.1 (TX4 1).2.2.1 ∈ tbg := tbAt (i := 194) (by decide +kernel) (by decide +kernel)
theorem wb_195 : u_lay RX4 TX4 0 ∈ tbg := tbAt (i := 195) (by decide +kernel) (by decide +kernel)
theorem wb_197 : u_lay RX4 TX4 1 ∈ tbg := tbAt (i := 197) (by decide +kernel) (by decide +kernel)
theorem wb_206 : Cond.fieldLink RX0 11 (TX0 0).1 (TX0 0).2.1 (TX0 0).2.2.1 ∈ tbg := tbAt (i := 206) (by decide +kernel) (by decide +kernel)
theorem wb_207 : Cond.fieldLink RX0 15 (TX0 1).1 (TX0 1).2.1 (TX0 1).2.2.1 ∈ tbg := tbAt (i := 207) (by decide +kernel) (by decide +kernel)
theorem wb_208 : Cond.fieldLink RX0 18 (TX0 2).1 (TX0 2).2.1 (TX0 2).2.2.1 ∈ tbg := tbAt (i := 208) (by decide +kernel) (by decide +kernel)
theorem wb_209 : Cond.fieldLink RX0 21 (TX0 3).1 (TX0 3).2.1 (TX0 3).2.2.1 ∈ tbg := tbAt (i := 209) (by decide +kernel) (by decide +kernel)
theorem wb_210 : Cond.fieldLink RX0 24 (TX0 4).1 (TX0 4).2.1 (TX0 4).2.2.1 ∈ tbg := tbAt (i := 210) (by decide +kernel) (by decide +kernel)
theorem wb_211 : Cond.fieldLink RX0 27 (TX0 5).1 (TX0 5).2.1 (TX0 5).2.2.1 ∈ tbg := tbAt (i := 211) (by decide +kernel) (by decide +kernel)
theorem wb_212 : Cond.fieldLink RX0 30 (TX0 6).1 (TX0 6).2.1 (TX0 6).2.2.1 ∈ tbg := tbAt (i := 212) (by decide +kernel) (by decide +kernel)
theorem wb_213 : Cond.fieldLink RX0 34 (TX0 7).1 (TX0 7).2.1 (TX0 7).2.2.1 ∈ tbg := tbAt (i := 213) (by decide +kernel) (by decide +kernel)
theorem wb_214 : Cond.fieldLink RX0 37 (TX0 8).1 (TX0 8).2.1 (TX0 8).2.2.1 ∈ tbg := tbAt (i := 214) (by decide +kernel) (by decide +kernel)
theorem wb_215 : Cond.fieldLink RX0 40 (TX0 9).1 (TX0 9).2.1 (TX0 9).2.2.1 ∈ tbg := tbAt (i := 215) (by decide +kernel) (by decide +kernel)
theorem wb_216 : Cond.fieldLink RX0 66 (TX0 10).1 (TX0 10).2.1 (TX0 10).2.2.1 ∈ tbg := tbAt (i := 216) (by decide +kernel) (by decide +kernel)
theorem wb_217 : Cond.fieldLink RX0 44 (TX0 11).1 (TX0 11).2.1 (TX0 11).2.2.1 ∈ tbg := tbAt (i := 217) (by decide +kernel) (by decide +kernel)
theorem wb_218 : Cond.fieldLink RX0 53 (TX0 12).1 (TX0 12).2.1 (TX0 12).2.2.1 ∈ tbg := tbAt (i := 218) (by decide +kernel) (by decide +kernel)
theorem wb_219 : Cond.fieldLink RX0 59 (TX0 13).1 (TX0 13).2.1 (TX0 13).2.2.1 ∈ tbg := tbAt (i := 219) (by decide +kernel) (by decide +kernel)
theorem wb_220 : Cond.fieldLink RX0 119 (TX0 14).1 (TX0 14).2.1 (TX0 14).2.2.1 ∈ tbg := tbAt (i := 220) (by decide +kernel) (by decide +kernel)
theorem wb_221 : Cond.fieldLink RX0 188 (TX0 15).1 (TX0 15).2.1 (TX0 15).2.2.1 ∈ tbg := tbAt (i := 221) (by decide +kernel) (by decide +kernel)
theorem wb_222 : u_lay RX0 TX0 0 ∈ tbg := tbAt (i := 222) (by decide +kernel) (by decide +kernel)
theorem wb_224 : u_lay RX0 TX0 1 ∈ tbg := tbAt (i := 224) (by decide +kernel) (by decide +kernel)
theorem wb_226 : u_lay RX0 TX0 2 ∈ tbg := tbAt (i := 226) (by decide +kernel) (by decide +kernel)
theorem wb_228 : u_lay RX0 TX0 3 ∈ tbg := tbAt (i := 228) (by decide +kernel) (by decide +kernel)
theorem wb_230 : u_lay RX0 TX0 4 ∈ tbg := tbAt (i := 230) (by decide +kernel) (by decide +kernel)
theorem wb_232 : u_lay RX0 TX0 5 ∈ tbg := tbAt (i := 232) (by decide +kernel) (by decide +kernel)
theorem wb_234 : u_lay RX0 TX0 6 ∈ tbg := tbAt (i := 234) (by decide +kernel) (by decide +kernel)
theorem wb_236 : u_lay RX0 TX0 7 ∈ tbg := tbAt (i := 236) (by decide +kernel) (by decide +kernel)
theorem wb_238 : u_lay RX0 TX0 8 ∈ tbg := tbAt (i := 238) (by decide +kernel) (by decide +kernel)
theorem wb_240 : u_lay RX0 TX0 9 ∈ tbg := tbAt (i := 240) (by decide +kernel) (by decide +kernel)
theorem wb_242 : u_lay RX0 TX0 10 ∈ tbg := tbAt (i := 242) (by decide +kernel) (by decide +kernel)
theorem wb_244 : u_lay RX0 TX0 11 ∈ tbg := tbAt (i := 244) (by decide +kernel) (by decide +kernel)
theorem wb_246 : u_lay RX0 TX0 12 ∈ tbg := tbAt (i := 246) (by decide +kernel) (by decide +kernel)
theorem wb_248 : u_lay RX0 TX0 13 ∈ tbg := tbAt (i := 248) (by decide +kernel) (by decide +kernel)
theorem wb_250 : u_lay RX0 TX0 14 ∈ tbg := tbAt (i := 250) (by decide +kernel) (by decide +kernel)
theorem wb_252 : u_lay RX0 TX0 15 ∈ tbg := tbAt (i := 252) (by decide +kernel) (by decide +kernel)
theorem wb_256 : Cond.fieldLink RX5 12 (TX5 0).1 (TX5 0).2.1 (TX5 0).2.2.1 ∈ tbg := tbAt (i := 256) (by decide +kernel) (by decide +kernel)
theorem wb_257 : Cond.fieldLink RX5 16 (TX5 1).1 (TX5 1).2.1 (TX5 1).2.2.1 ∈ tbg := tbAt (i := 257) (by decide +kernel) (by decide +kernel)
theorem wb_258 : Cond.fieldLink RX5 19 (TX5 2).1 (TX5 2).2.1 (TX5 2).2.2.1 ∈ tbg := tbAt (i := 258) (by decide +kernel) (by decide +kernel)
theorem wb_259 : Cond.fieldLink RX5 22 (TX5 3).1 (TX5 3).2.1 (TX5 3).2.2.1 ∈ tbg := tbAt (i := 259) (by decide +kernel) (by decide +kernel)
theorem wb_260 : Cond.fieldLink RX5 29 (TX5 4).1 (TX5 4).2.1 (TX5 4).2.2.1 ∈ tbg := tbAt (i := 260) (by decide +kernel) (by decide +kernel)
theorem wb_261 : Cond.fieldLink RX5 36 (TX5 5).1 (TX5 5).2.1 (TX5 5).2.2.1 ∈ tbg := tbAt (i := 261) (by decide +kernel) (by decide +kernel)
theorem wb_262 : Cond.fieldLink RX5 43 (TX5 6).1 (TX5 6).2.1 (TX5 6).2.2.1 ∈ tbg := tbAt (i := 262) (by decide +kernel) (by decide +kernel)
theorem wb_263 : Cond.fieldLink RX5 50 (TX5 7).1 (TX5 7).2.1 (TX5 7).2.2.1 ∈ tbg := tbAt (i := 263) (by decide +kernel) (by decide +kernel)
theorem wb_264 : Cond.fieldLink RX5 54 (TX5 8).1 (TX5 8).2.1 (TX5 8).2.2.1 ∈ tbg := tbAt (i := 264) (by decide +kernel) (by decide +kernel)
theorem wb_265 : Cond.fieldLink RX5 58 (TX5 9).1 (TX5 9).2.1 (TX5 9).2.2.1 ∈ tbg := tbAt (i := 265) (by decide +kernel) (by decide +kernel)
theorem wb_266 : u_lay RX5 TX5 0 ∈ tbg := tbAt (i := 266) (by decide +kernel) (by decide +kernel)
theorem wb_268 : u_lay RX5 TX5 1 ∈ tbg := tbAt (i := 268) (by decide +kernel) (by decide +kernel)
theorem wb_270 : u_lay RX5 TX5 2 ∈ tbg := tbAt (i := 270) (by decide +kernel) (by decide +kernel)
theorem wb_272 : u_lay RX5 TX5 3 ∈ tbg := tbAt (i := 272) (by decide +kernel) (by decide +kernel)
theorem wb_274 : u_lay RX5 TX5 4 ∈ tbg := tbAt (i := 274) (by decide +kernel) (by decide +kernel)
theorem wb_276 : u_lay RX5 TX5 5 ∈ tbg := tbAt (i := 276) (by decide +kernel) (by decide +kernel)
theorem wb_278 : u_lay RX5 TX5 6 ∈ tbg := tbAt (i := 278) (by decide +kernel) (by decide +kernel)
theorem wb_280 : u_lay RX5 TX5 7 ∈ tbg := tbAt (i := 280) (by decide +kernel) (by decide +kernel)
theorem wb_282 : u_lay RX5 TX5 8 ∈ tbg := tbAt (i := 282) (by decide +kernel) (by decide +kernel)
theorem wb_284 : u_lay RX5 TX5 9 ∈ tbg := tbAt (i := 284) (by decide +kernel) (by decide +kernel)
theorem wb_288 : Cond.instanceMethod yX5_target ∈ tbg := tbAt (i := 288) (by decide +kernel) (by decide +kernel)
theorem wb_289 : Cond.selects RX5 yX5_target yX5_target ∈ tbg := tbAt (i := 289) (by decide +kernel) (by decide +kernel)
theorem wb_290 : Cond.code yX5_target cX5_target 6 (some .int) ∈ tbg := tbAt (i := 290) (by decide +kernel) (by decide +kernel)
theorem wb_291 : Cond.methodLink RX5 62 yX5_comingError ∈ tbg := tbAt (i := 291) (by decide +kernel) (by decide +kernel)
theorem wb_293 : Cond.instanceMethod yX5_comingError ∈ tbg := tbAt (i := 293) (by decide +kernel) (by decide +kernel)
theorem wb_294 : Cond.code yX5_comingError cX5_comingError 5 (some .int) ∈ tbg := tbAt (i := 294) (by decide +kernel) (by decide +kernel)
theorem wb_295 : Cond.methodLink RX5 102 yX5_isWithin ∈ tbg := tbAt (i := 295) (by decide +kernel) (by decide +kernel)
theorem wb_296 : Cond.static yX5_isWithin ∈ tbg := tbAt (i := 296) (by decide +kernel) (by decide +kernel)
theorem wb_297 : Cond.code yX5_isWithin cX5_isWithin 3 (some .boolean) ∈ tbg := tbAt (i := 297) (by decide +kernel) (by decide +kernel)
theorem wb_298 : Cond.methodLink RX5 249 yX3_holds ∈ tbg := tbAt (i := 298) (by decide +kernel) (by decide +kernel)
theorem wb_299 : Cond.instanceMethod yX3_holds ∈ tbg := tbAt (i := 299) (by decide +kernel) (by decide +kernel)
theorem wb_300 : Cond.selects RX3 yX3_holds yX3_holds ∈ tbg := tbAt (i := 300) (by decide +kernel) (by decide +kernel)
theorem wb_301 : Cond.code yX3_holds cX3_holds 4 (some .boolean) ∈ tbg := tbAt (i := 301) (by decide +kernel) (by decide +kernel)
theorem wb_302 : Cond.methodLink RX3 57 yX3_distanceOf ∈ tbg := tbAt (i := 302) (by decide +kernel) (by decide +kernel)
theorem wb_303 : Cond.instanceMethod yX3_distanceOf ∈ tbg := tbAt (i := 303) (by decide +kernel) (by decide +kernel)
theorem wb_304 : Cond.selects RX3 yX3_distanceOf yX3_distanceOf ∈ tbg := tbAt (i := 304) (by decide +kernel) (by decide +kernel)
theorem wb_305 : Cond.code yX3_distanceOf cX3_distanceOf 2 (some .int) ∈ tbg := tbAt (i := 305) (by decide +kernel) (by decide +kernel)
theorem wb_306 : Cond.methodLink RX3 47 yX3_has ∈ tbg := tbAt (i := 306) (by decide +kernel) (by decide +kernel)
theorem wb_307 : Cond.instanceMethod yX3_has ∈ tbg := tbAt (i := 307) (by decide +kernel) (by decide +kernel)
theorem wb_308 : Cond.selects RX3 yX3_has yX3_has ∈ tbg := tbAt (i := 308) (by decide +kernel) (by decide +kernel)
theorem wb_309 : Cond.code yX3_has cX3_has 2 (some .boolean) ∈ tbg := tbAt (i := 309) (by decide +kernel) (by decide +kernel)
theorem wb_310 : Cond.methodLink RX3 61 yX3_movementOf ∈ tbg := tbAt (i := 310) (by decide +kernel) (by decide +kernel)
theorem wb_311 : Cond.instanceMethod yX3_movementOf ∈ tbg := tbAt (i := 311) (by decide +kernel) (by decide +kernel)
theorem wb_312 : Cond.selects RX3 yX3_movementOf yX3_movementOf ∈ tbg := tbAt (i := 312) (by decide +kernel) (by decide +kernel)
theorem wb_313 : Cond.code yX3_movementOf cX3_movementOf 2 (some .int) ∈ tbg := tbAt (i := 313) (by decide +kernel) (by decide +kernel)
theorem wb_314 : Cond.methodLink RX5 80 yX3_targetCount ∈ tbg := tbAt (i := 314) (by decide +kernel) (by decide +kernel)
theorem wb_315 : Cond.instanceMethod yX3_targetCount ∈ tbg := tbAt (i := 315) (by decide +kernel) (by decide +kernel)
theorem wb_316 : Cond.selects RX3 yX3_targetCount yX3_targetCount ∈ tbg := tbAt (i := 316) (by decide +kernel) (by decide +kernel)
theorem wb_317 : Cond.code yX3_targetCount cX3_targetCount 1 (some .int) ∈ tbg := tbAt (i := 317) (by decide +kernel) (by decide +kernel)
theorem wb_318 : Cond.methodLink RX5 66 yX5_remember ∈ tbg := tbAt (i := 318) (by decide +kernel) (by decide +kernel)
theorem wb_320 : Cond.instanceMethod yX5_remember ∈ tbg := tbAt (i := 320) (by decide +kernel) (by decide +kernel)
theorem wb_321 : Cond.code yX5_remember cX5_remember 1 none ∈ tbg := tbAt (i := 321) (by decide +kernel) (by decide +kernel)
theorem wb_322 : Cond.methodLink RX5 246 yX5_forgetOldest ∈ tbg := tbAt (i := 322) (by decide +kernel) (by decide +kernel)
theorem wb_324 : Cond.instanceMethod yX5_forgetOldest ∈ tbg := tbAt (i := 324) (by decide +kernel) (by decide +kernel)
theorem wb_325 : Cond.code yX5_forgetOldest cX5_forgetOldest 3 none ∈ tbg := tbAt (i := 325) (by decide +kernel) (by decide +kernel)
theorem wb_326 : Cond.methodLink RX5 237 yX3_become ∈ tbg := tbAt (i := 326) (by decide +kernel) (by decide +kernel)
theorem wb_327 : Cond.instanceMethod yX3_become ∈ tbg := tbAt (i := 327) (by decide +kernel) (by decide +kernel)
theorem wb_328 : Cond.selects RX3 yX3_become yX3_become ∈ tbg := tbAt (i := 328) (by decide +kernel) (by decide +kernel)
theorem wb_329 : Cond.code yX3_become cX3_become 2 none ∈ tbg := tbAt (i := 329) (by decide +kernel) (by decide +kernel)
theorem wb_330 : Cond.methodLink RX3 41 arraycopyName ∈ tbg := tbAt (i := 330) (by decide +kernel) (by decide +kernel)
theorem wb_331 : Cond.static arraycopyName ∈ tbg := tbAt (i := 331) (by decide +kernel) (by decide +kernel)
theorem wb_332 : Cond.native arraycopyName ∈ tbg := tbAt (i := 332) (by decide +kernel) (by decide +kernel)
theorem wb_333 : Cond.methodLink RX5 69 yX3_join ∈ tbg := tbAt (i := 333) (by decide +kernel) (by decide +kernel)
theorem wb_334 : Cond.instanceMethod yX3_join ∈ tbg := tbAt (i := 334) (by decide +kernel) (by decide +kernel)
theorem wb_335 : Cond.selects RX3 yX3_join yX3_join ∈ tbg := tbAt (i := 335) (by decide +kernel) (by decide +kernel)
theorem wb_336 : Cond.code yX3_join cX3_join 5 (some .int) ∈ tbg := tbAt (i := 336) (by decide +kernel) (by decide +kernel)
theorem wb_337 : Cond.methodLink RX3 64 yX3_put ∈ tbg := tbAt (i := 337) (by decide +kernel) (by decide +kernel)
theorem wb_339 : Cond.instanceMethod yX3_put ∈ tbg := tbAt (i := 339) (by decide +kernel) (by decide +kernel)
theorem wb_340 : Cond.code yX3_put cX3_put 6 none ∈ tbg := tbAt (i := 340) (by decide +kernel) (by decide +kernel)
theorem wb_342 : Cond.instanceMethod yX5_drop ∈ tbg := tbAt (i := 342) (by decide +kernel) (by decide +kernel)
theorem wb_343 : Cond.selects RX5 yX5_drop yX5_drop ∈ tbg := tbAt (i := 343) (by decide +kernel) (by decide +kernel)
theorem wb_344 : Cond.code yX5_drop cX5_drop 2 (some .int) ∈ tbg := tbAt (i := 344) (by decide +kernel) (by decide +kernel)
theorem wb_345 : Cond.methodLink RX5 72 yX3_has ∈ tbg := tbAt (i := 345) (by decide +kernel) (by decide +kernel)
theorem wb_346 : Cond.methodLink RX5 76 yX3_leave ∈ tbg := tbAt (i := 346) (by decide +kernel) (by decide +kernel)
theorem wb_347 : Cond.instanceMethod yX3_leave ∈ tbg := tbAt (i := 347) (by decide +kernel) (by decide +kernel)
theorem wb_348 : Cond.selects RX3 yX3_leave yX3_leave ∈ tbg := tbAt (i := 348) (by decide +kernel) (by decide +kernel)
theorem wb_349 : Cond.code yX3_leave cX3_leave 3 none ∈ tbg := tbAt (i := 349) (by decide +kernel) (by decide +kernel)
theorem wb_350 : Cond.methodLink RX3 71 yX3_putAs ∈ tbg := tbAt (i := 350) (by decide +kernel) (by decide +kernel)
theorem wb_352 : Cond.instanceMethod yX3_putAs ∈ tbg := tbAt (i := 352) (by decide +kernel) (by decide +kernel)
theorem wb_353 : Cond.code yX3_putAs cX3_putAs 4 none ∈ tbg := tbAt (i := 353) (by decide +kernel) (by decide +kernel)
theorem wb_354 : Cond.methodLink RX3 68 yX3_strengthOf ∈ tbg := tbAt (i := 354) (by decide +kernel) (by decide +kernel)
theorem wb_355 : Cond.instanceMethod yX3_strengthOf ∈ tbg := tbAt (i := 355) (by decide +kernel) (by decide +kernel)
theorem wb_356 : Cond.selects RX3 yX3_strengthOf yX3_strengthOf ∈ tbg := tbAt (i := 356) (by decide +kernel) (by decide +kernel)
theorem wb_357 : Cond.code yX3_strengthOf cX3_strengthOf 2 (some .int) ∈ tbg := tbAt (i := 357) (by decide +kernel) (by decide +kernel)
theorem wb_358 : Cond.methodLink RX3 54 yX3_isWall ∈ tbg := tbAt (i := 358) (by decide +kernel) (by decide +kernel)
theorem wb_359 : Cond.instanceMethod yX3_isWall ∈ tbg := tbAt (i := 359) (by decide +kernel) (by decide +kernel)
theorem wb_360 : Cond.selects RX3 yX3_isWall yX3_isWall ∈ tbg := tbAt (i := 360) (by decide +kernel) (by decide +kernel)
theorem wb_361 : Cond.code yX3_isWall cX3_isWall 2 (some .boolean) ∈ tbg := tbAt (i := 361) (by decide +kernel) (by decide +kernel)
theorem wb_363 : Cond.instanceMethod yX5_go ∈ tbg := tbAt (i := 363) (by decide +kernel) (by decide +kernel)
theorem wb_364 : Cond.selects RX5 yX5_go yX5_go ∈ tbg := tbAt (i := 364) (by decide +kernel) (by decide +kernel)
theorem wb_365 : Cond.code yX5_go cX5_go 1 (some .int) ∈ tbg := tbAt (i := 365) (by decide +kernel) (by decide +kernel)
theorem wb_366 : Cond.methodLink RX5 84 yX3_moveAll ∈ tbg := tbAt (i := 366) (by decide +kernel) (by decide +kernel)
theorem wb_367 : Cond.instanceMethod yX3_moveAll ∈ tbg := tbAt (i := 367) (by decide +kernel) (by decide +kernel)
theorem wb_368 : Cond.selects RX3 yX3_moveAll yX3_moveAll ∈ tbg := tbAt (i := 368) (by decide +kernel) (by decide +kernel)
theorem wb_369 : Cond.code yX3_moveAll cX3_moveAll 4 none ∈ tbg := tbAt (i := 369) (by decide +kernel) (by decide +kernel)
theorem wb_372 : Cond.instanceMethod yX5_spacings ∈ tbg := tbAt (i := 372) (by decide +kernel) (by decide +kernel)
theorem wb_373 : Cond.selects RX5 yX5_spacings yX5_spacings ∈ tbg := tbAt (i := 373) (by decide +kernel) (by decide +kernel)
theorem wb_374 : Cond.code yX5_spacings cX5_spacings 5 (some .int) ∈ tbg := tbAt (i := 374) (by decide +kernel) (by decide +kernel)
theorem wb_375 : Cond.methodLink RX5 87 yX5_isSpacing ∈ tbg := tbAt (i := 375) (by decide +kernel) (by decide +kernel)
theorem wb_376 : Cond.static yX5_isSpacing ∈ tbg := tbAt (i := 376) (by decide +kernel) (by decide +kernel)
theorem wb_377 : Cond.code yX5_isSpacing cX5_isSpacing 1 (some .boolean) ∈ tbg := tbAt (i := 377) (by decide +kernel) (by decide +kernel)
theorem wb_378 : Cond.methodLink RX5 90 yX5_isSpacingOrNone ∈ tbg := tbAt (i := 378) (by decide +kernel) (by decide +kernel)
theorem wb_379 : Cond.static yX5_isSpacingOrNone ∈ tbg := tbAt (i := 379) (by decide +kernel) (by decide +kernel)
theorem wb_380 : Cond.code yX5_isSpacingOrNone cX5_isSpacingOrNone 1 (some .boolean) ∈ tbg := tbAt (i := 380) (by decide +kernel) (by decide +kernel)
theorem wb_381 : Cond.methodLink RX5 93 yX3_forgetTurns ∈ tbg := tbAt (i := 381) (by decide +kernel) (by decide +kernel)
theorem wb_382 : Cond.instanceMethod yX3_forgetTurns ∈ tbg := tbAt (i := 382) (by decide +kernel) (by decide +kernel)
theorem wb_383 : Cond.selects RX3 yX3_forgetTurns yX3_forgetTurns ∈ tbg := tbAt (i := 383) (by decide +kernel) (by decide +kernel)
theorem wb_384 : Cond.code yX3_forgetTurns cX3_forgetTurns 1 none ∈ tbg := tbAt (i := 384) (by decide +kernel) (by decide +kernel)
theorem wb_385 : Cond.methodLink RX5 96 yX3_addTurn ∈ tbg := tbAt (i := 385) (by decide +kernel) (by decide +kernel)
theorem wb_386 : Cond.instanceMethod yX3_addTurn ∈ tbg := tbAt (i := 386) (by decide +kernel) (by decide +kernel)
theorem wb_387 : Cond.selects RX3 yX3_addTurn yX3_addTurn ∈ tbg := tbAt (i := 387) (by decide +kernel) (by decide +kernel)
theorem wb_388 : Cond.code yX3_addTurn cX3_addTurn 2 none ∈ tbg := tbAt (i := 388) (by decide +kernel) (by decide +kernel)
theorem wb_389 : Cond.methodLink RX5 99 yX3_turnCount ∈ tbg := tbAt (i := 389) (by decide +kernel) (by decide +kernel)
theorem wb_390 : Cond.instanceMethod yX3_turnCount ∈ tbg := tbAt (i := 390) (by decide +kernel) (by decide +kernel)
theorem wb_391 : Cond.selects RX3 yX3_turnCount yX3_turnCount ∈ tbg := tbAt (i := 391) (by decide +kernel) (by decide +kernel)
theorem wb_392 : Cond.code yX3_turnCount cX3_turnCount 1 (some .int) ∈ tbg := tbAt (i := 392) (by decide +kernel) (by decide +kernel)
theorem wb_394 : Cond.instanceMethod yX5_set ∈ tbg := tbAt (i := 394) (by decide +kernel) (by decide +kernel)
theorem wb_395 : Cond.selects RX5 yX5_set yX5_set ∈ tbg := tbAt (i := 395) (by decide +kernel) (by decide +kernel)
theorem wb_396 : Cond.code yX5_set cX5_set 3 (some .int) ∈ tbg := tbAt (i := 396) (by decide +kernel) (by decide +kernel)
theorem wb_397 : Cond.methodLink RX5 106 yX3_changeBlind ∈ tbg := tbAt (i := 397) (by decide +kernel) (by decide +kernel)
theorem wb_398 : Cond.instanceMethod yX3_changeBlind ∈ tbg := tbAt (i := 398) (by decide +kernel) (by decide +kernel)
theorem wb_399 : Cond.selects RX3 yX3_changeBlind yX3_changeBlind ∈ tbg := tbAt (i := 399) (by decide +kernel) (by decide +kernel)
theorem wb_400 : Cond.code yX3_changeBlind cX3_changeBlind 3 (some .int) ∈ tbg := tbAt (i := 400) (by decide +kernel) (by decide +kernel)
theorem wb_401 : Cond.methodLink RX5 110 yX3_changeLoud ∈ tbg := tbAt (i := 401) (by decide +kernel) (by decide +kernel)
theorem wb_402 : Cond.instanceMethod yX3_changeLoud ∈ tbg := tbAt (i := 402) (by decide +kernel) (by decide +kernel)
theorem wb_403 : Cond.selects RX3 yX3_changeLoud yX3_changeLoud ∈ tbg := tbAt (i := 403) (by decide +kernel) (by decide +kernel)
theorem wb_404 : Cond.code yX3_changeLoud cX3_changeLoud 3 (some .int) ∈ tbg := tbAt (i := 404) (by decide +kernel) (by decide +kernel)
theorem wb_406 : Cond.instanceMethod yX5_append ∈ tbg := tbAt (i := 406) (by decide +kernel) (by decide +kernel)
theorem wb_407 : Cond.selects RX5 yX5_append yX5_append ∈ tbg := tbAt (i := 407) (by decide +kernel) (by decide +kernel)
theorem wb_408 : Cond.code yX5_append cX5_append 2 (some .int) ∈ tbg := tbAt (i := 408) (by decide +kernel) (by decide +kernel)
theorem wb_409 : Cond.methodLink RX5 113 yX1_take ∈ tbg := tbAt (i := 409) (by decide +kernel) (by decide +kernel)
theorem wb_410 : Cond.instanceMethod yX1_take ∈ tbg := tbAt (i := 410) (by decide +kernel) (by decide +kernel)
theorem wb_411 : Cond.selects RX1 yX1_take yX1_take ∈ tbg := tbAt (i := 411) (by decide +kernel) (by decide +kernel)
theorem wb_412 : Cond.code yX1_take cX1_take 2 (some .boolean) ∈ tbg := tbAt (i := 412) (by decide +kernel) (by decide +kernel)
theorem wb_413 : Cond.methodLink RX5 117 yX1_length ∈ tbg := tbAt (i := 413) (by decide +kernel) (by decide +kernel)
theorem wb_414 : Cond.instanceMethod yX1_length ∈ tbg := tbAt (i := 414) (by decide +kernel) (by decide +kernel)
theorem wb_415 : Cond.selects RX1 yX1_length yX1_length ∈ tbg := tbAt (i := 415) (by decide +kernel) (by decide +kernel)
theorem wb_416 : Cond.code yX1_length cX1_length 1 (some .int) ∈ tbg := tbAt (i := 416) (by decide +kernel) (by decide +kernel)
theorem wb_418 : Cond.instanceMethod yX5_clear ∈ tbg := tbAt (i := 418) (by decide +kernel) (by decide +kernel)
theorem wb_419 : Cond.selects RX5 yX5_clear yX5_clear ∈ tbg := tbAt (i := 419) (by decide +kernel) (by decide +kernel)
theorem wb_420 : Cond.code yX5_clear cX5_clear 1 (some .int) ∈ tbg := tbAt (i := 420) (by decide +kernel) (by decide +kernel)
theorem wb_421 : Cond.methodLink RX5 120 yX1_empty ∈ tbg := tbAt (i := 421) (by decide +kernel) (by decide +kernel)
theorem wb_422 : Cond.instanceMethod yX1_empty ∈ tbg := tbAt (i := 422) (by decide +kernel) (by decide +kernel)
theorem wb_423 : Cond.selects RX1 yX1_empty yX1_empty ∈ tbg := tbAt (i := 423) (by decide +kernel) (by decide +kernel)
theorem wb_424 : Cond.code yX1_empty cX1_empty 2 (some .int) ∈ tbg := tbAt (i := 424) (by decide +kernel) (by decide +kernel)
theorem wb_426 : Cond.instanceMethod yX5_fault ∈ tbg := tbAt (i := 426) (by decide +kernel) (by decide +kernel)
theorem wb_427 : Cond.selects RX5 yX5_fault yX5_fault ∈ tbg := tbAt (i := 427) (by decide +kernel) (by decide +kernel)
theorem wb_428 : Cond.code yX5_fault cX5_fault 1 (some .int) ∈ tbg := tbAt (i := 428) (by decide +kernel) (by decide +kernel)
theorem wb_429 : Cond.methodLink RX5 123 yX2_read ∈ tbg := tbAt (i := 429) (by decide +kernel) (by decide +kernel)
theorem wb_430 : Cond.instanceMethod yX2_read ∈ tbg := tbAt (i := 430) (by decide +kernel) (by decide +kernel)
theorem wb_431 : Cond.selects RX2 yX2_read yX2_read ∈ tbg := tbAt (i := 431) (by decide +kernel) (by decide +kernel)
theorem wb_432 : Cond.code yX2_read cX2_read 3 (some .int) ∈ tbg := tbAt (i := 432) (by decide +kernel) (by decide +kernel)
theorem wb_433 : Cond.methodLink RX2 38 yX1_length ∈ tbg := tbAt (i := 433) (by decide +kernel) (by decide +kernel)
theorem wb_434 : Cond.methodLink RX2 44 yX1_signAt ∈ tbg := tbAt (i := 434) (by decide +kernel) (by decide +kernel)
theorem wb_435 : Cond.instanceMethod yX1_signAt ∈ tbg := tbAt (i := 435) (by decide +kernel) (by decide +kernel)
theorem wb_436 : Cond.selects RX1 yX1_signAt yX1_signAt ∈ tbg := tbAt (i := 436) (by decide +kernel) (by decide +kernel)
theorem wb_437 : Cond.code yX1_signAt cX1_signAt 2 (some .char) ∈ tbg := tbAt (i := 437) (by decide +kernel) (by decide +kernel)
theorem wb_438 : Cond.methodLink RX2 48 yX2_accepts ∈ tbg := tbAt (i := 438) (by decide +kernel) (by decide +kernel)
theorem wb_440 : Cond.instanceMethod yX2_accepts ∈ tbg := tbAt (i := 440) (by decide +kernel) (by decide +kernel)
theorem wb_441 : Cond.code yX2_accepts cX2_accepts 2 (some .boolean) ∈ tbg := tbAt (i := 441) (by decide +kernel) (by decide +kernel)
theorem wb_442 : Cond.methodLink RX2 79 yX2_acceptsKind ∈ tbg := tbAt (i := 442) (by decide +kernel) (by decide +kernel)
theorem wb_444 : Cond.instanceMethod yX2_acceptsKind ∈ tbg := tbAt (i := 444) (by decide +kernel) (by decide +kernel)
theorem wb_445 : Cond.code yX2_acceptsKind cX2_acceptsKind 2 (some .boolean) ∈ tbg := tbAt (i := 445) (by decide +kernel) (by decide +kernel)
theorem wb_446 : Cond.methodLink RX2 82 yX2_acceptsBegin ∈ tbg := tbAt (i := 446) (by decide +kernel) (by decide +kernel)
theorem wb_448 : Cond.instanceMethod yX2_acceptsBegin ∈ tbg := tbAt (i := 448) (by decide +kernel) (by decide +kernel)
theorem wb_449 : Cond.code yX2_acceptsBegin cX2_acceptsBegin 4 (some .boolean) ∈ tbg := tbAt (i := 449) (by decide +kernel) (by decide +kernel)
theorem wb_451 : Cond.methodLink RX2 86 yX2_endDistance ∈ tbg := tbAt (i := 451) (by decide +kernel) (by decide +kernel)
theorem wb_453 : Cond.instanceMethod yX2_endDistance ∈ tbg := tbAt (i := 453) (by decide +kernel) (by decide +kernel)
theorem wb_454 : Cond.code yX2_endDistance cX2_endDistance 1 (some .boolean) ∈ tbg := tbAt (i := 454) (by decide +kernel) (by decide +kernel)
theorem wb_455 : Cond.methodLink RX2 89 yX2_acceptsDigit ∈ tbg := tbAt (i := 455) (by decide +kernel) (by decide +kernel)
theorem wb_457 : Cond.instanceMethod yX2_acceptsDigit ∈ tbg := tbAt (i := 457) (by decide +kernel) (by decide +kernel)
theorem wb_458 : Cond.code yX2_acceptsDigit cX2_acceptsDigit 5 (some .boolean) ∈ tbg := tbAt (i := 458) (by decide +kernel) (by decide +kernel)
theorem wb_459 : Cond.methodLink RX2 92 yX2_acceptsBehindStrength ∈ tbg := tbAt (i := 459) (by decide +kernel) (by decide +kernel)
theorem wb_461 : Cond.instanceMethod yX2_acceptsBehindStrength ∈ tbg := tbAt (i := 461) (by decide +kernel) (by decide +kernel)
theorem wb_462 : Cond.code yX2_acceptsBehindStrength cX2_acceptsBehindStrength 2 (some .boolean) ∈ tbg := tbAt (i := 462) (by decide +kernel) (by decide +kernel)
theorem wb_463 : Cond.methodLink RX2 59 yX2_keepTarget ∈ tbg := tbAt (i := 463) (by decide +kernel) (by decide +kernel)
theorem wb_465 : Cond.instanceMethod yX2_keepTarget ∈ tbg := tbAt (i := 465) (by decide +kernel) (by decide +kernel)
theorem wb_466 : Cond.code yX2_keepTarget cX2_keepTarget 3 none ∈ tbg := tbAt (i := 466) (by decide +kernel) (by decide +kernel)
theorem wb_467 : Cond.methodLink RX2 98 yX2_acceptsTargetEnd ∈ tbg := tbAt (i := 467) (by decide +kernel) (by decide +kernel)
theorem wb_469 : Cond.instanceMethod yX2_acceptsTargetEnd ∈ tbg := tbAt (i := 469) (by decide +kernel) (by decide +kernel)
theorem wb_470 : Cond.code yX2_acceptsTargetEnd cX2_acceptsTargetEnd 2 (some .boolean) ∈ tbg := tbAt (i := 470) (by decide +kernel) (by decide +kernel)
theorem wb_471 : Cond.methodLink RX2 95 yX2_acceptsMovement ∈ tbg := tbAt (i := 471) (by decide +kernel) (by decide +kernel)
theorem wb_473 : Cond.instanceMethod yX2_acceptsMovement ∈ tbg := tbAt (i := 473) (by decide +kernel) (by decide +kernel)
theorem wb_474 : Cond.code yX2_acceptsMovement cX2_acceptsMovement 3 (some .boolean) ∈ tbg := tbAt (i := 474) (by decide +kernel) (by decide +kernel)
theorem wb_475 : Cond.methodLink RX2 101 yX2_keepSpacing ∈ tbg := tbAt (i := 475) (by decide +kernel) (by decide +kernel)
theorem wb_477 : Cond.instanceMethod yX2_keepSpacing ∈ tbg := tbAt (i := 477) (by decide +kernel) (by decide +kernel)
theorem wb_478 : Cond.code yX2_keepSpacing cX2_keepSpacing 1 (some .boolean) ∈ tbg := tbAt (i := 478) (by decide +kernel) (by decide +kernel)
theorem wb_479 : Cond.methodLink RX2 104 yX2_acceptsSlash ∈ tbg := tbAt (i := 479) (by decide +kernel) (by decide +kernel)
theorem wb_481 : Cond.instanceMethod yX2_acceptsSlash ∈ tbg := tbAt (i := 481) (by decide +kernel) (by decide +kernel)
theorem wb_482 : Cond.code yX2_acceptsSlash cX2_acceptsSlash 2 (some .boolean) ∈ tbg := tbAt (i := 482) (by decide +kernel) (by decide +kernel)
theorem wb_483 : Cond.methodLink RX2 52 yX2_isComplete ∈ tbg := tbAt (i := 483) (by decide +kernel) (by decide +kernel)
theorem wb_485 : Cond.instanceMethod yX2_isComplete ∈ tbg := tbAt (i := 485) (by decide +kernel) (by decide +kernel)
theorem wb_486 : Cond.code yX2_isComplete cX2_isComplete 1 (some .boolean) ∈ tbg := tbAt (i := 486) (by decide +kernel) (by decide +kernel)
theorem wb_488 : Cond.instanceMethod yX5_load ∈ tbg := tbAt (i := 488) (by decide +kernel) (by decide +kernel)
theorem wb_489 : Cond.selects RX5 yX5_load yX5_load ∈ tbg := tbAt (i := 489) (by decide +kernel) (by decide +kernel)
theorem wb_490 : Cond.code yX5_load cX5_load 1 (some .int) ∈ tbg := tbAt (i := 490) (by decide +kernel) (by decide +kernel)
theorem wb_491 : Cond.methodLink RX5 127 yX2_hasTwins ∈ tbg := tbAt (i := 491) (by decide +kernel) (by decide +kernel)
theorem wb_492 : Cond.instanceMethod yX2_hasTwins ∈ tbg := tbAt (i := 492) (by decide +kernel) (by decide +kernel)
theorem wb_493 : Cond.selects RX2 yX2_hasTwins yX2_hasTwins ∈ tbg := tbAt (i := 493) (by decide +kernel) (by decide +kernel)
theorem wb_494 : Cond.code yX2_hasTwins cX2_hasTwins 3 (some .boolean) ∈ tbg := tbAt (i := 494) (by decide +kernel) (by decide +kernel)
theorem wb_495 : Cond.methodLink RX5 131 yX2_targetCount ∈ tbg := tbAt (i := 495) (by decide +kernel) (by decide +kernel)
theorem wb_496 : Cond.instanceMethod yX2_targetCount ∈ tbg := tbAt (i := 496) (by decide +kernel) (by decide +kernel)
theorem wb_497 : Cond.selects RX2 yX2_targetCount yX2_targetCount ∈ tbg := tbAt (i := 497) (by decide +kernel) (by decide +kernel)
theorem wb_498 : Cond.code yX2_targetCount cX2_targetCount 1 (some .int) ∈ tbg := tbAt (i := 498) (by decide +kernel) (by decide +kernel)
theorem wb_499 : Cond.methodLink RX5 132 yX2_putInto ∈ tbg := tbAt (i := 499) (by decide +kernel) (by decide +kernel)
theorem wb_500 : Cond.instanceMethod yX2_putInto ∈ tbg := tbAt (i := 500) (by decide +kernel) (by decide +kernel)
theorem wb_501 : Cond.selects RX2 yX2_putInto yX2_putInto ∈ tbg := tbAt (i := 501) (by decide +kernel) (by decide +kernel)
theorem wb_502 : Cond.code yX2_putInto cX2_putInto 3 none ∈ tbg := tbAt (i := 502) (by decide +kernel) (by decide +kernel)
theorem wb_503 : Cond.methodLink RX2 63 yX3_leaveAll ∈ tbg := tbAt (i := 503) (by decide +kernel) (by decide +kernel)
theorem wb_504 : Cond.instanceMethod yX3_leaveAll ∈ tbg := tbAt (i := 504) (by decide +kernel) (by decide +kernel)
theorem wb_505 : Cond.selects RX3 yX3_leaveAll yX3_leaveAll ∈ tbg := tbAt (i := 505) (by decide +kernel) (by decide +kernel)
theorem wb_506 : Cond.code yX3_leaveAll cX3_leaveAll 1 none ∈ tbg := tbAt (i := 506) (by decide +kernel) (by decide +kernel)
theorem wb_507 : Cond.methodLink RX2 68 yX3_join ∈ tbg := tbAt (i := 507) (by decide +kernel) (by decide +kernel)
theorem wb_508 : Cond.methodLink RX2 72 yX3_forgetTurns ∈ tbg := tbAt (i := 508) (by decide +kernel) (by decide +kernel)
theorem wb_509 : Cond.methodLink RX2 75 yX3_addTurn ∈ tbg := tbAt (i := 509) (by decide +kernel) (by decide +kernel)
theorem wb_511 : Cond.instanceMethod yX5_sign ∈ tbg := tbAt (i := 511) (by decide +kernel) (by decide +kernel)
theorem wb_512 : Cond.selects RX5 yX5_sign yX5_sign ∈ tbg := tbAt (i := 512) (by decide +kernel) (by decide +kernel)
theorem wb_513 : Cond.code yX5_sign cX5_sign 2 (some .int) ∈ tbg := tbAt (i := 513) (by decide +kernel) (by decide +kernel)
theorem wb_514 : Cond.methodLink RX5 136 yX4_write ∈ tbg := tbAt (i := 514) (by decide +kernel) (by decide +kernel)
theorem wb_515 : Cond.instanceMethod yX4_write ∈ tbg := tbAt (i := 515) (by decide +kernel) (by decide +kernel)
theorem wb_516 : Cond.selects RX4 yX4_write yX4_write ∈ tbg := tbAt (i := 516) (by decide +kernel) (by decide +kernel)
theorem wb_517 : Cond.code yX4_write cX4_write 3 none ∈ tbg := tbAt (i := 517) (by decide +kernel) (by decide +kernel)
theorem wb_518 : Cond.methodLink RX4 19 yX3_targetCount ∈ tbg := tbAt (i := 518) (by decide +kernel) (by decide +kernel)
theorem wb_519 : Cond.methodLink RX4 25 yX4_put ∈ tbg := tbAt (i := 519) (by decide +kernel) (by decide +kernel)
theorem wb_521 : Cond.instanceMethod yX4_put ∈ tbg := tbAt (i := 521) (by decide +kernel) (by decide +kernel)
theorem wb_522 : Cond.code yX4_put cX4_put 2 none ∈ tbg := tbAt (i := 522) (by decide +kernel) (by decide +kernel)
theorem wb_523 : Cond.methodLink RX4 29 yX4_writeTarget ∈ tbg := tbAt (i := 523) (by decide +kernel) (by decide +kernel)
theorem wb_525 : Cond.instanceMethod yX4_writeTarget ∈ tbg := tbAt (i := 525) (by decide +kernel) (by decide +kernel)
theorem wb_526 : Cond.code yX4_writeTarget cX4_writeTarget 4 none ∈ tbg := tbAt (i := 526) (by decide +kernel) (by decide +kernel)
theorem wb_527 : Cond.methodLink RX4 44 yX3_movementOf ∈ tbg := tbAt (i := 527) (by decide +kernel) (by decide +kernel)
theorem wb_528 : Cond.methodLink RX4 47 yX3_isWall ∈ tbg := tbAt (i := 528) (by decide +kernel) (by decide +kernel)
theorem wb_529 : Cond.methodLink RX4 51 yX3_distanceOf ∈ tbg := tbAt (i := 529) (by decide +kernel) (by decide +kernel)
theorem wb_530 : Cond.methodLink RX4 40 yX4_writeNumber ∈ tbg := tbAt (i := 530) (by decide +kernel) (by decide +kernel)
theorem wb_532 : Cond.instanceMethod yX4_writeNumber ∈ tbg := tbAt (i := 532) (by decide +kernel) (by decide +kernel)
theorem wb_533 : Cond.code yX4_writeNumber cX4_writeNumber 2 none ∈ tbg := tbAt (i := 533) (by decide +kernel) (by decide +kernel)
theorem wb_534 : Cond.methodLink RX4 57 yX4_digitSign ∈ tbg := tbAt (i := 534) (by decide +kernel) (by decide +kernel)
theorem wb_535 : Cond.static yX4_digitSign ∈ tbg := tbAt (i := 535) (by decide +kernel) (by decide +kernel)
theorem wb_536 : Cond.code yX4_digitSign cX4_digitSign 1 (some .char) ∈ tbg := tbAt (i := 536) (by decide +kernel) (by decide +kernel)
theorem wb_537 : Cond.methodLink RX4 54 yX3_strengthOf ∈ tbg := tbAt (i := 537) (by decide +kernel) (by decide +kernel)
theorem wb_538 : Cond.methodLink RX4 33 yX3_turnCount ∈ tbg := tbAt (i := 538) (by decide +kernel) (by decide +kernel)
theorem wb_539 : Cond.methodLink RX4 36 yX3_spacingOf ∈ tbg := tbAt (i := 539) (by decide +kernel) (by decide +kernel)
theorem wb_540 : Cond.instanceMethod yX3_spacingOf ∈ tbg := tbAt (i := 540) (by decide +kernel) (by decide +kernel)
theorem wb_541 : Cond.selects RX3 yX3_spacingOf yX3_spacingOf ∈ tbg := tbAt (i := 541) (by decide +kernel) (by decide +kernel)
theorem wb_542 : Cond.code yX3_spacingOf cX3_spacingOf 2 (some .int) ∈ tbg := tbAt (i := 542) (by decide +kernel) (by decide +kernel)
theorem wb_543 : Cond.methodLink RX3 51 yX3_hasTurn ∈ tbg := tbAt (i := 543) (by decide +kernel) (by decide +kernel)
theorem wb_544 : Cond.instanceMethod yX3_hasTurn ∈ tbg := tbAt (i := 544) (by decide +kernel) (by decide +kernel)
theorem wb_545 : Cond.selects RX3 yX3_hasTurn yX3_hasTurn ∈ tbg := tbAt (i := 545) (by decide +kernel) (by decide +kernel)
theorem wb_546 : Cond.code yX3_hasTurn cX3_hasTurn 2 (some .boolean) ∈ tbg := tbAt (i := 546) (by decide +kernel) (by decide +kernel)
theorem wb_547 : Cond.methodLink RX5 139 yX4_length ∈ tbg := tbAt (i := 547) (by decide +kernel) (by decide +kernel)
theorem wb_548 : Cond.instanceMethod yX4_length ∈ tbg := tbAt (i := 548) (by decide +kernel) (by decide +kernel)
theorem wb_549 : Cond.selects RX4 yX4_length yX4_length ∈ tbg := tbAt (i := 549) (by decide +kernel) (by decide +kernel)
theorem wb_550 : Cond.code yX4_length cX4_length 1 (some .int) ∈ tbg := tbAt (i := 550) (by decide +kernel) (by decide +kernel)
theorem wb_551 : Cond.methodLink RX5 140 yX4_codeAt ∈ tbg := tbAt (i := 551) (by decide +kernel) (by decide +kernel)
theorem wb_552 : Cond.instanceMethod yX4_codeAt ∈ tbg := tbAt (i := 552) (by decide +kernel) (by decide +kernel)
theorem wb_553 : Cond.selects RX4 yX4_codeAt yX4_codeAt ∈ tbg := tbAt (i := 553) (by decide +kernel) (by decide +kernel)
theorem wb_554 : Cond.code yX4_codeAt cX4_codeAt 2 (some .int) ∈ tbg := tbAt (i := 554) (by decide +kernel) (by decide +kernel)
theorem wb_556 : Cond.instanceMethod yX5_targetOf ∈ tbg := tbAt (i := 556) (by decide +kernel) (by decide +kernel)
theorem wb_557 : Cond.selects RX5 yX5_targetOf yX5_targetOf ∈ tbg := tbAt (i := 557) (by decide +kernel) (by decide +kernel)
theorem wb_558 : Cond.code yX5_targetOf cX5_targetOf 3 (some .int) ∈ tbg := tbAt (i := 558) (by decide +kernel) (by decide +kernel)
theorem wb_559 : Cond.methodLink RX5 143 yX3_distanceOf ∈ tbg := tbAt (i := 559) (by decide +kernel) (by decide +kernel)
theorem wb_560 : Cond.methodLink RX5 146 yX3_strengthOf ∈ tbg := tbAt (i := 560) (by decide +kernel) (by decide +kernel)
theorem wb_561 : Cond.methodLink RX5 149 yX3_movementOf ∈ tbg := tbAt (i := 561) (by decide +kernel) (by decide +kernel)
theorem wb_562 : Cond.methodLink RX5 152 yX3_isWall ∈ tbg := tbAt (i := 562) (by decide +kernel) (by decide +kernel)
theorem wb_563 : Cond.methodLink RX5 155 yX5_asNumber ∈ tbg := tbAt (i := 563) (by decide +kernel) (by decide +kernel)
theorem wb_564 : Cond.static yX5_asNumber ∈ tbg := tbAt (i := 564) (by decide +kernel) (by decide +kernel)
theorem wb_565 : Cond.code yX5_asNumber cX5_asNumber 1 (some .int) ∈ tbg := tbAt (i := 565) (by decide +kernel) (by decide +kernel)
theorem wb_566 : Cond.methodLink RX5 159 yX5_heardOf ∈ tbg := tbAt (i := 566) (by decide +kernel) (by decide +kernel)
theorem wb_568 : Cond.instanceMethod yX5_heardOf ∈ tbg := tbAt (i := 568) (by decide +kernel) (by decide +kernel)
theorem wb_569 : Cond.code yX5_heardOf cX5_heardOf 3 (some .int) ∈ tbg := tbAt (i := 569) (by decide +kernel) (by decide +kernel)
theorem wb_570 : Cond.methodLink RX5 163 yX0_listen ∈ tbg := tbAt (i := 570) (by decide +kernel) (by decide +kernel)
theorem wb_571 : Cond.instanceMethod yX0_listen ∈ tbg := tbAt (i := 571) (by decide +kernel) (by decide +kernel)
theorem wb_572 : Cond.selects RX0 yX0_listen yX0_listen ∈ tbg := tbAt (i := 572) (by decide +kernel) (by decide +kernel)
theorem wb_573 : Cond.code yX0_listen cX0_listen 3 none ∈ tbg := tbAt (i := 573) (by decide +kernel) (by decide +kernel)
theorem wb_574 : Cond.methodLink RX0 47 yX3_blindBelow ∈ tbg := tbAt (i := 574) (by decide +kernel) (by decide +kernel)
theorem wb_575 : Cond.instanceMethod yX3_blindBelow ∈ tbg := tbAt (i := 575) (by decide +kernel) (by decide +kernel)
theorem wb_576 : Cond.selects RX3 yX3_blindBelow yX3_blindBelow ∈ tbg := tbAt (i := 576) (by decide +kernel) (by decide +kernel)
theorem wb_577 : Cond.code yX3_blindBelow cX3_blindBelow 1 (some .int) ∈ tbg := tbAt (i := 577) (by decide +kernel) (by decide +kernel)
theorem wb_578 : Cond.methodLink RX0 56 yX3_loudFrom ∈ tbg := tbAt (i := 578) (by decide +kernel) (by decide +kernel)
theorem wb_579 : Cond.instanceMethod yX3_loudFrom ∈ tbg := tbAt (i := 579) (by decide +kernel) (by decide +kernel)
theorem wb_580 : Cond.selects RX3 yX3_loudFrom yX3_loudFrom ∈ tbg := tbAt (i := 580) (by decide +kernel) (by decide +kernel)
theorem wb_581 : Cond.code yX3_loudFrom cX3_loudFrom 1 (some .int) ∈ tbg := tbAt (i := 581) (by decide +kernel) (by decide +kernel)
theorem wb_582 : Cond.methodLink RX0 62 yX0_takeTargets ∈ tbg := tbAt (i := 582) (by decide +kernel) (by decide +kernel)
theorem wb_584 : Cond.instanceMethod yX0_takeTargets ∈ tbg := tbAt (i := 584) (by decide +kernel) (by decide +kernel)
theorem wb_585 : Cond.code yX0_takeTargets cX0_takeTargets 3 none ∈ tbg := tbAt (i := 585) (by decide +kernel) (by decide +kernel)
theorem wb_586 : Cond.methodLink RX0 86 yX3_targetCount ∈ tbg := tbAt (i := 586) (by decide +kernel) (by decide +kernel)
theorem wb_587 : Cond.methodLink RX0 89 yX3_distanceOf ∈ tbg := tbAt (i := 587) (by decide +kernel) (by decide +kernel)
theorem wb_588 : Cond.methodLink RX0 92 yX3_strengthOf ∈ tbg := tbAt (i := 588) (by decide +kernel) (by decide +kernel)
theorem wb_589 : Cond.methodLink RX0 95 yX3_movementOf ∈ tbg := tbAt (i := 589) (by decide +kernel) (by decide +kernel)
theorem wb_590 : Cond.methodLink RX0 98 yX0_take ∈ tbg := tbAt (i := 590) (by decide +kernel) (by decide +kernel)
theorem wb_592 : Cond.instanceMethod yX0_take ∈ tbg := tbAt (i := 592) (by decide +kernel) (by decide +kernel)
theorem wb_593 : Cond.code yX0_take cX0_take 6 none ∈ tbg := tbAt (i := 593) (by decide +kernel) (by decide +kernel)
theorem wb_594 : Cond.methodLink RX0 69 yX0_takeGhosts ∈ tbg := tbAt (i := 594) (by decide +kernel) (by decide +kernel)
theorem wb_596 : Cond.instanceMethod yX0_takeGhosts ∈ tbg := tbAt (i := 596) (by decide +kernel) (by decide +kernel)
theorem wb_597 : Cond.code yX0_takeGhosts cX0_takeGhosts 4 none ∈ tbg := tbAt (i := 597) (by decide +kernel) (by decide +kernel)
theorem wb_598 : Cond.methodLink RX0 102 yX3_isWall ∈ tbg := tbAt (i := 598) (by decide +kernel) (by decide +kernel)
theorem wb_599 : Cond.methodLink RX0 106 yX0_takeGhost ∈ tbg := tbAt (i := 599) (by decide +kernel) (by decide +kernel)
theorem wb_601 : Cond.instanceMethod yX0_takeGhost ∈ tbg := tbAt (i := 601) (by decide +kernel) (by decide +kernel)
theorem wb_602 : Cond.code yX0_takeGhost cX0_takeGhost 7 none ∈ tbg := tbAt (i := 602) (by decide +kernel) (by decide +kernel)
theorem wb_603 : Cond.methodLink RX0 110 Lib.Math.min.name ∈ tbg := tbAt (i := 603) (by decide +kernel) (by decide +kernel)
theorem wb_604 : Cond.static Lib.Math.min.name ∈ tbg := tbAt (i := 604) (by decide +kernel) (by decide +kernel)
theorem wb_605 : Cond.code Lib.Math.min.name Lib.Math.min.code 2 (some .int) ∈ tbg := tbAt (i := 605) (by decide +kernel) (by decide +kernel)
theorem wb_606 : Cond.methodLink RX0 116 Lib.Math.max.name ∈ tbg := tbAt (i := 606) (by decide +kernel) (by decide +kernel)
theorem wb_607 : Cond.static Lib.Math.max.name ∈ tbg := tbAt (i := 607) (by decide +kernel) (by decide +kernel)
theorem wb_608 : Cond.code Lib.Math.max.name Lib.Math.max.code 2 (some .int) ∈ tbg := tbAt (i := 608) (by decide +kernel) (by decide +kernel)
theorem wb_609 : Cond.methodLink RX0 72 yX0_takePitches ∈ tbg := tbAt (i := 609) (by decide +kernel) (by decide +kernel)
theorem wb_611 : Cond.instanceMethod yX0_takePitches ∈ tbg := tbAt (i := 611) (by decide +kernel) (by decide +kernel)
theorem wb_612 : Cond.code yX0_takePitches cX0_takePitches 2 none ∈ tbg := tbAt (i := 612) (by decide +kernel) (by decide +kernel)
theorem wb_613 : Cond.methodLink RX0 122 yX0_sounds ∈ tbg := tbAt (i := 613) (by decide +kernel) (by decide +kernel)
theorem wb_615 : Cond.instanceMethod yX0_sounds ∈ tbg := tbAt (i := 615) (by decide +kernel) (by decide +kernel)
theorem wb_616 : Cond.code yX0_sounds cX0_sounds 3 (some .boolean) ∈ tbg := tbAt (i := 616) (by decide +kernel) (by decide +kernel)
theorem wb_617 : Cond.methodLink RX0 125 yX0_movementOf ∈ tbg := tbAt (i := 617) (by decide +kernel) (by decide +kernel)
theorem wb_619 : Cond.instanceMethod yX0_movementOf ∈ tbg := tbAt (i := 619) (by decide +kernel) (by decide +kernel)
theorem wb_620 : Cond.code yX0_movementOf cX0_movementOf 2 (some .int) ∈ tbg := tbAt (i := 620) (by decide +kernel) (by decide +kernel)
theorem wb_621 : Cond.methodLink RX0 137 yX0_has ∈ tbg := tbAt (i := 621) (by decide +kernel) (by decide +kernel)
theorem wb_623 : Cond.instanceMethod yX0_has ∈ tbg := tbAt (i := 623) (by decide +kernel) (by decide +kernel)
theorem wb_624 : Cond.code yX0_has cX0_has 2 (some .boolean) ∈ tbg := tbAt (i := 624) (by decide +kernel) (by decide +kernel)
theorem wb_625 : Cond.methodLink RX0 126 yX0_isFaint ∈ tbg := tbAt (i := 625) (by decide +kernel) (by decide +kernel)
theorem wb_627 : Cond.instanceMethod yX0_isFaint ∈ tbg := tbAt (i := 627) (by decide +kernel) (by decide +kernel)
theorem wb_628 : Cond.code yX0_isFaint cX0_isFaint 2 (some .boolean) ∈ tbg := tbAt (i := 628) (by decide +kernel) (by decide +kernel)
theorem wb_629 : Cond.methodLink RX0 140 yX0_strengthOf ∈ tbg := tbAt (i := 629) (by decide +kernel) (by decide +kernel)
theorem wb_630 : Cond.instanceMethod yX0_strengthOf ∈ tbg := tbAt (i := 630) (by decide +kernel) (by decide +kernel)
theorem wb_631 : Cond.selects RX0 yX0_strengthOf yX0_strengthOf ∈ tbg := tbAt (i := 631) (by decide +kernel) (by decide +kernel)
theorem wb_632 : Cond.code yX0_strengthOf cX0_strengthOf 2 (some .int) ∈ tbg := tbAt (i := 632) (by decide +kernel) (by decide +kernel)
theorem wb_633 : Cond.methodLink RX0 75 yX3_turnCount ∈ tbg := tbAt (i := 633) (by decide +kernel) (by decide +kernel)
theorem wb_634 : Cond.methodLink RX0 78 yX3_spacingOf ∈ tbg := tbAt (i := 634) (by decide +kernel) (by decide +kernel)
theorem wb_635 : Cond.methodLink RX0 82 yX0_hearTurn ∈ tbg := tbAt (i := 635) (by decide +kernel) (by decide +kernel)
theorem wb_637 : Cond.instanceMethod yX0_hearTurn ∈ tbg := tbAt (i := 637) (by decide +kernel) (by decide +kernel)
theorem wb_638 : Cond.code yX0_hearTurn cX0_hearTurn 6 none ∈ tbg := tbAt (i := 638) (by decide +kernel) (by decide +kernel)
theorem wb_639 : Cond.methodLink RX0 129 yX0_distanceOf ∈ tbg := tbAt (i := 639) (by decide +kernel) (by decide +kernel)
theorem wb_640 : Cond.instanceMethod yX0_distanceOf ∈ tbg := tbAt (i := 640) (by decide +kernel) (by decide +kernel)
theorem wb_641 : Cond.selects RX0 yX0_distanceOf yX0_distanceOf ∈ tbg := tbAt (i := 641) (by decide +kernel) (by decide +kernel)
theorem wb_642 : Cond.code yX0_distanceOf cX0_distanceOf 2 (some .int) ∈ tbg := tbAt (i := 642) (by decide +kernel) (by decide +kernel)
theorem wb_643 : Cond.methodLink RX0 130 yX0_placeOf ∈ tbg := tbAt (i := 643) (by decide +kernel) (by decide +kernel)
theorem wb_645 : Cond.instanceMethod yX0_placeOf ∈ tbg := tbAt (i := 645) (by decide +kernel) (by decide +kernel)
theorem wb_646 : Cond.code yX0_placeOf cX0_placeOf 6 (some .int) ∈ tbg := tbAt (i := 646) (by decide +kernel) (by decide +kernel)
theorem wb_647 : Cond.methodLink RX0 134 yX0_codeOf ∈ tbg := tbAt (i := 647) (by decide +kernel) (by decide +kernel)
theorem wb_648 : Cond.static yX0_codeOf ∈ tbg := tbAt (i := 648) (by decide +kernel) (by decide +kernel)
theorem wb_649 : Cond.code yX0_codeOf cX0_codeOf 2 (some .int) ∈ tbg := tbAt (i := 649) (by decide +kernel) (by decide +kernel)
theorem wb_650 : Cond.methodLink RX5 177 yX0_isToldSource ∈ tbg := tbAt (i := 650) (by decide +kernel) (by decide +kernel)
theorem wb_651 : Cond.instanceMethod yX0_isToldSource ∈ tbg := tbAt (i := 651) (by decide +kernel) (by decide +kernel)
theorem wb_652 : Cond.selects RX0 yX0_isToldSource yX0_isToldSource ∈ tbg := tbAt (i := 652) (by decide +kernel) (by decide +kernel)
theorem wb_653 : Cond.code yX0_isToldSource cX0_isToldSource 2 (some .boolean) ∈ tbg := tbAt (i := 653) (by decide +kernel) (by decide +kernel)
theorem wb_654 : Cond.methodLink RX0 167 yX0_turnsThatFit ∈ tbg := tbAt (i := 654) (by decide +kernel) (by decide +kernel)
theorem wb_655 : Cond.instanceMethod yX0_turnsThatFit ∈ tbg := tbAt (i := 655) (by decide +kernel) (by decide +kernel)
theorem wb_656 : Cond.selects RX0 yX0_turnsThatFit yX0_turnsThatFit ∈ tbg := tbAt (i := 656) (by decide +kernel) (by decide +kernel)
theorem wb_657 : Cond.code yX0_turnsThatFit cX0_turnsThatFit 6 (some .int) ∈ tbg := tbAt (i := 657) (by decide +kernel) (by decide +kernel)
theorem wb_658 : Cond.methodLink RX0 164 yX0_fitOf ∈ tbg := tbAt (i := 658) (by decide +kernel) (by decide +kernel)
theorem wb_659 : Cond.instanceMethod yX0_fitOf ∈ tbg := tbAt (i := 659) (by decide +kernel) (by decide +kernel)
theorem wb_660 : Cond.selects RX0 yX0_fitOf yX0_fitOf ∈ tbg := tbAt (i := 660) (by decide +kernel) (by decide +kernel)
theorem wb_661 : Cond.code yX0_fitOf cX0_fitOf 5 (some .int) ∈ tbg := tbAt (i := 661) (by decide +kernel) (by decide +kernel)
theorem wb_662 : Cond.methodLink RX0 156 yX0_isHeard ∈ tbg := tbAt (i := 662) (by decide +kernel) (by decide +kernel)
theorem wb_664 : Cond.instanceMethod yX0_isHeard ∈ tbg := tbAt (i := 664) (by decide +kernel) (by decide +kernel)
theorem wb_665 : Cond.code yX0_isHeard cX0_isHeard 5 (some .boolean) ∈ tbg := tbAt (i := 665) (by decide +kernel) (by decide +kernel)
theorem wb_666 : Cond.methodLink RX5 252 yX0_lostTurns ∈ tbg := tbAt (i := 666) (by decide +kernel) (by decide +kernel)
theorem wb_667 : Cond.instanceMethod yX0_lostTurns ∈ tbg := tbAt (i := 667) (by decide +kernel) (by decide +kernel)
theorem wb_668 : Cond.selects RX0 yX0_lostTurns yX0_lostTurns ∈ tbg := tbAt (i := 668) (by decide +kernel) (by decide +kernel)
theorem wb_669 : Cond.code yX0_lostTurns cX0_lostTurns 4 (some .int) ∈ tbg := tbAt (i := 669) (by decide +kernel) (by decide +kernel)
theorem wb_670 : Cond.methodLink RX5 255 yX0_ghostsOf ∈ tbg := tbAt (i := 670) (by decide +kernel) (by decide +kernel)
theorem wb_671 : Cond.instanceMethod yX0_ghostsOf ∈ tbg := tbAt (i := 671) (by decide +kernel) (by decide +kernel)
theorem wb_672 : Cond.selects RX0 yX0_ghostsOf yX0_ghostsOf ∈ tbg := tbAt (i := 672) (by decide +kernel) (by decide +kernel)
theorem wb_673 : Cond.code yX0_ghostsOf cX0_ghostsOf 4 (some .int) ∈ tbg := tbAt (i := 673) (by decide +kernel) (by decide +kernel)
theorem wb_674 : Cond.methodLink RX0 141 yX0_lesserWall ∈ tbg := tbAt (i := 674) (by decide +kernel) (by decide +kernel)
theorem wb_675 : Cond.instanceMethod yX0_lesserWall ∈ tbg := tbAt (i := 675) (by decide +kernel) (by decide +kernel)
theorem wb_676 : Cond.selects RX0 yX0_lesserWall yX0_lesserWall ∈ tbg := tbAt (i := 676) (by decide +kernel) (by decide +kernel)
theorem wb_677 : Cond.code yX0_lesserWall cX0_lesserWall 2 (some .int) ∈ tbg := tbAt (i := 677) (by decide +kernel) (by decide +kernel)
theorem wb_678 : Cond.methodLink RX0 144 yX0_greaterWall ∈ tbg := tbAt (i := 678) (by decide +kernel) (by decide +kernel)
theorem wb_679 : Cond.instanceMethod yX0_greaterWall ∈ tbg := tbAt (i := 679) (by decide +kernel) (by decide +kernel)
theorem wb_680 : Cond.selects RX0 yX0_greaterWall yX0_greaterWall ∈ tbg := tbAt (i := 680) (by decide +kernel) (by decide +kernel)
theorem wb_681 : Cond.code yX0_greaterWall cX0_greaterWall 2 (some .int) ∈ tbg := tbAt (i := 681) (by decide +kernel) (by decide +kernel)
theorem wb_683 : Cond.instanceMethod yX5_ghost ∈ tbg := tbAt (i := 683) (by decide +kernel) (by decide +kernel)
theorem wb_684 : Cond.selects RX5 yX5_ghost yX5_ghost ∈ tbg := tbAt (i := 684) (by decide +kernel) (by decide +kernel)
theorem wb_685 : Cond.code yX5_ghost cX5_ghost 4 (some .int) ∈ tbg := tbAt (i := 685) (by decide +kernel) (by decide +kernel)
theorem wb_686 : Cond.methodLink RX5 166 yX0_ghostCount ∈ tbg := tbAt (i := 686) (by decide +kernel) (by decide +kernel)
theorem wb_687 : Cond.instanceMethod yX0_ghostCount ∈ tbg := tbAt (i := 687) (by decide +kernel) (by decide +kernel)
theorem wb_688 : Cond.selects RX0 yX0_ghostCount yX0_ghostCount ∈ tbg := tbAt (i := 688) (by decide +kernel) (by decide +kernel)
theorem wb_689 : Cond.code yX0_ghostCount cX0_ghostCount 1 (some .int) ∈ tbg := tbAt (i := 689) (by decide +kernel) (by decide +kernel)
theorem wb_690 : Cond.methodLink RX5 169 yX0_distanceOf ∈ tbg := tbAt (i := 690) (by decide +kernel) (by decide +kernel)
theorem wb_691 : Cond.methodLink RX5 170 yX0_strengthOf ∈ tbg := tbAt (i := 691) (by decide +kernel) (by decide +kernel)
theorem wb_692 : Cond.methodLink RX5 171 yX0_lesserWall ∈ tbg := tbAt (i := 692) (by decide +kernel) (by decide +kernel)
theorem wb_693 : Cond.methodLink RX5 174 yX0_greaterWall ∈ tbg := tbAt (i := 693) (by decide +kernel) (by decide +kernel)
theorem wb_695 : Cond.instanceMethod yX5_echo ∈ tbg := tbAt (i := 695) (by decide +kernel) (by decide +kernel)
theorem wb_696 : Cond.selects RX5 yX5_echo yX5_echo ∈ tbg := tbAt (i := 696) (by decide +kernel) (by decide +kernel)
theorem wb_697 : Cond.code yX5_echo cX5_echo 7 (some .int) ∈ tbg := tbAt (i := 697) (by decide +kernel) (by decide +kernel)
theorem wb_698 : Cond.methodLink RX5 180 yX3_hasTurn ∈ tbg := tbAt (i := 698) (by decide +kernel) (by decide +kernel)
theorem wb_699 : Cond.methodLink RX5 183 yX0_findEcho ∈ tbg := tbAt (i := 699) (by decide +kernel) (by decide +kernel)
theorem wb_700 : Cond.instanceMethod yX0_findEcho ∈ tbg := tbAt (i := 700) (by decide +kernel) (by decide +kernel)
theorem wb_701 : Cond.selects RX0 yX0_findEcho yX0_findEcho ∈ tbg := tbAt (i := 701) (by decide +kernel) (by decide +kernel)
theorem wb_702 : Cond.code yX0_findEcho cX0_findEcho 6 (some .int) ∈ tbg := tbAt (i := 702) (by decide +kernel) (by decide +kernel)
theorem wb_703 : Cond.methodLink RX5 186 yX0_strengthTogether ∈ tbg := tbAt (i := 703) (by decide +kernel) (by decide +kernel)
theorem wb_704 : Cond.instanceMethod yX0_strengthTogether ∈ tbg := tbAt (i := 704) (by decide +kernel) (by decide +kernel)
theorem wb_705 : Cond.selects RX0 yX0_strengthTogether yX0_strengthTogether ∈ tbg := tbAt (i := 705) (by decide +kernel) (by decide +kernel)
theorem wb_706 : Cond.code yX0_strengthTogether cX0_strengthTogether 6 (some .int) ∈ tbg := tbAt (i := 706) (by decide +kernel) (by decide +kernel)
theorem wb_707 : Cond.methodLink RX0 160 yX0_isPartOf ∈ tbg := tbAt (i := 707) (by decide +kernel) (by decide +kernel)
theorem wb_709 : Cond.instanceMethod yX0_isPartOf ∈ tbg := tbAt (i := 709) (by decide +kernel) (by decide +kernel)
theorem wb_710 : Cond.code yX0_isPartOf cX0_isPartOf 5 (some .boolean) ∈ tbg := tbAt (i := 710) (by decide +kernel) (by decide +kernel)
theorem wb_711 : Cond.methodLink RX5 190 yX0_sourcesTogether ∈ tbg := tbAt (i := 711) (by decide +kernel) (by decide +kernel)
theorem wb_712 : Cond.instanceMethod yX0_sourcesTogether ∈ tbg := tbAt (i := 712) (by decide +kernel) (by decide +kernel)
theorem wb_713 : Cond.selects RX0 yX0_sourcesTogether yX0_sourcesTogether ∈ tbg := tbAt (i := 713) (by decide +kernel) (by decide +kernel)
theorem wb_714 : Cond.code yX0_sourcesTogether cX0_sourcesTogether 6 (some .int) ∈ tbg := tbAt (i := 714) (by decide +kernel) (by decide +kernel)
theorem wb_716 : Cond.instanceMethod yX5_fits ∈ tbg := tbAt (i := 716) (by decide +kernel) (by decide +kernel)
theorem wb_717 : Cond.selects RX5 yX5_fits yX5_fits ∈ tbg := tbAt (i := 717) (by decide +kernel) (by decide +kernel)
theorem wb_718 : Cond.code yX5_fits cX5_fits 4 (some .int) ∈ tbg := tbAt (i := 718) (by decide +kernel) (by decide +kernel)
theorem wb_719 : Cond.methodLink RX5 193 yX0_fitOf ∈ tbg := tbAt (i := 719) (by decide +kernel) (by decide +kernel)
theorem wb_721 : Cond.instanceMethod yX5_told ∈ tbg := tbAt (i := 721) (by decide +kernel) (by decide +kernel)
theorem wb_722 : Cond.selects RX5 yX5_told yX5_told ∈ tbg := tbAt (i := 722) (by decide +kernel) (by decide +kernel)
theorem wb_723 : Cond.code yX5_told cX5_told 6 (some .int) ∈ tbg := tbAt (i := 723) (by decide +kernel) (by decide +kernel)
theorem wb_724 : Cond.methodLink RX5 196 yX0_findTold ∈ tbg := tbAt (i := 724) (by decide +kernel) (by decide +kernel)
theorem wb_725 : Cond.instanceMethod yX0_findTold ∈ tbg := tbAt (i := 725) (by decide +kernel) (by decide +kernel)
theorem wb_726 : Cond.selects RX0 yX0_findTold yX0_findTold ∈ tbg := tbAt (i := 726) (by decide +kernel) (by decide +kernel)
theorem wb_727 : Cond.code yX0_findTold cX0_findTold 5 (some .int) ∈ tbg := tbAt (i := 727) (by decide +kernel) (by decide +kernel)
theorem wb_728 : Cond.methodLink RX5 199 yX0_isTrue ∈ tbg := tbAt (i := 728) (by decide +kernel) (by decide +kernel)
theorem wb_729 : Cond.instanceMethod yX0_isTrue ∈ tbg := tbAt (i := 729) (by decide +kernel) (by decide +kernel)
theorem wb_730 : Cond.selects RX0 yX0_isTrue yX0_isTrue ∈ tbg := tbAt (i := 730) (by decide +kernel) (by decide +kernel)
theorem wb_731 : Cond.code yX0_isTrue cX0_isTrue 3 (some .boolean) ∈ tbg := tbAt (i := 731) (by decide +kernel) (by decide +kernel)
theorem wb_732 : Cond.methodLink RX0 170 yX0_sourcesAt ∈ tbg := tbAt (i := 732) (by decide +kernel) (by decide +kernel)
theorem wb_734 : Cond.instanceMethod yX0_sourcesAt ∈ tbg := tbAt (i := 734) (by decide +kernel) (by decide +kernel)
theorem wb_735 : Cond.code yX0_sourcesAt cX0_sourcesAt 6 (some .int) ∈ tbg := tbAt (i := 735) (by decide +kernel) (by decide +kernel)
theorem wb_736 : Cond.methodLink RX5 203 yX0_turnsThatFit ∈ tbg := tbAt (i := 736) (by decide +kernel) (by decide +kernel)
theorem wb_738 : Cond.instanceMethod yX5_alike ∈ tbg := tbAt (i := 738) (by decide +kernel) (by decide +kernel)
theorem wb_739 : Cond.selects RX5 yX5_alike yX5_alike ∈ tbg := tbAt (i := 739) (by decide +kernel) (by decide +kernel)
theorem wb_740 : Cond.code yX5_alike cX5_alike 5 (some .int) ∈ tbg := tbAt (i := 740) (by decide +kernel) (by decide +kernel)
theorem wb_741 : Cond.methodLink RX5 206 yX3_spacingOf ∈ tbg := tbAt (i := 741) (by decide +kernel) (by decide +kernel)
theorem wb_742 : Cond.methodLink RX5 209 yX5_firstCommonMultiple ∈ tbg := tbAt (i := 742) (by decide +kernel) (by decide +kernel)
theorem wb_743 : Cond.static yX5_firstCommonMultiple ∈ tbg := tbAt (i := 743) (by decide +kernel) (by decide +kernel)
theorem wb_744 : Cond.code yX5_firstCommonMultiple cX5_firstCommonMultiple 4 (some .int) ∈ tbg := tbAt (i := 744) (by decide +kernel) (by decide +kernel)
theorem wb_745 : Cond.methodLink RX5 267 yX5_remainder ∈ tbg := tbAt (i := 745) (by decide +kernel) (by decide +kernel)
theorem wb_746 : Cond.static yX5_remainder ∈ tbg := tbAt (i := 746) (by decide +kernel) (by decide +kernel)
theorem wb_747 : Cond.code yX5_remainder cX5_remainder 2 (some .int) ∈ tbg := tbAt (i := 747) (by decide +kernel) (by decide +kernel)
theorem wb_748 : Cond.methodLink RX5 212 yX5_commonMultiple ∈ tbg := tbAt (i := 748) (by decide +kernel) (by decide +kernel)
theorem wb_749 : Cond.static yX5_commonMultiple ∈ tbg := tbAt (i := 749) (by decide +kernel) (by decide +kernel)
theorem wb_750 : Cond.code yX5_commonMultiple cX5_commonMultiple 3 (some .int) ∈ tbg := tbAt (i := 750) (by decide +kernel) (by decide +kernel)
theorem wb_751 : Cond.methodLink RX5 270 yX5_commonDivisor ∈ tbg := tbAt (i := 751) (by decide +kernel) (by decide +kernel)
theorem wb_752 : Cond.static yX5_commonDivisor ∈ tbg := tbAt (i := 752) (by decide +kernel) (by decide +kernel)
theorem wb_753 : Cond.code yX5_commonDivisor cX5_commonDivisor 6 (some .int) ∈ tbg := tbAt (i := 753) (by decide +kernel) (by decide +kernel)
theorem wb_755 : Cond.instanceMethod yX5_unfold ∈ tbg := tbAt (i := 755) (by decide +kernel) (by decide +kernel)
theorem wb_756 : Cond.selects RX5 yX5_unfold yX5_unfold ∈ tbg := tbAt (i := 756) (by decide +kernel) (by decide +kernel)
theorem wb_757 : Cond.code yX5_unfold cX5_unfold 6 (some .int) ∈ tbg := tbAt (i := 757) (by decide +kernel) (by decide +kernel)
theorem wb_758 : Cond.methodLink RX5 215 yX5_tryDistances ∈ tbg := tbAt (i := 758) (by decide +kernel) (by decide +kernel)
theorem wb_759 : Cond.static yX5_tryDistances ∈ tbg := tbAt (i := 759) (by decide +kernel) (by decide +kernel)
theorem wb_760 : Cond.code yX5_tryDistances cX5_tryDistances 7 (some .int) ∈ tbg := tbAt (i := 760) (by decide +kernel) (by decide +kernel)
theorem wb_762 : Cond.instanceMethod yX5_count ∈ tbg := tbAt (i := 762) (by decide +kernel) (by decide +kernel)
theorem wb_763 : Cond.selects RX5 yX5_count yX5_count ∈ tbg := tbAt (i := 763) (by decide +kernel) (by decide +kernel)
theorem wb_764 : Cond.code yX5_count cX5_count 2 (some .int) ∈ tbg := tbAt (i := 764) (by decide +kernel) (by decide +kernel)
theorem wb_765 : Cond.methodLink RX5 219 yX5_countHeard ∈ tbg := tbAt (i := 765) (by decide +kernel) (by decide +kernel)
theorem wb_767 : Cond.instanceMethod yX5_countHeard ∈ tbg := tbAt (i := 767) (by decide +kernel) (by decide +kernel)
theorem wb_768 : Cond.code yX5_countHeard cX5_countHeard 2 (some .int) ∈ tbg := tbAt (i := 768) (by decide +kernel) (by decide +kernel)
theorem wb_769 : Cond.methodLink RX5 258 yX0_echoCount ∈ tbg := tbAt (i := 769) (by decide +kernel) (by decide +kernel)
theorem wb_770 : Cond.instanceMethod yX0_echoCount ∈ tbg := tbAt (i := 770) (by decide +kernel) (by decide +kernel)
theorem wb_771 : Cond.selects RX0 yX0_echoCount yX0_echoCount ∈ tbg := tbAt (i := 771) (by decide +kernel) (by decide +kernel)
theorem wb_772 : Cond.code yX0_echoCount cX0_echoCount 3 (some .int) ∈ tbg := tbAt (i := 772) (by decide +kernel) (by decide +kernel)
theorem wb_773 : Cond.methodLink RX0 147 yJ13_bitCount_95d88 ∈ tbg := tbAt (i := 773) (by decide +kernel) (by decide +kernel)
theorem wb_774 : Cond.static yJ13_bitCount_95d88 ∈ tbg := tbAt (i := 774) (by decide +kernel) (by decide +kernel)
theorem wb_775 : Cond.code yJ13_bitCount_95d88 cJ13_bitCount_95d88 2 (some .int) ∈ tbg := tbAt (i := 775) (by decide +kernel) (by decide +kernel)
theorem wb_779 : Cond.methodLink RX5 261 yX0_lostCount ∈ tbg := tbAt (i := 779) (by decide +kernel) (by decide +kernel)
theorem wb_780 : Cond.instanceMethod yX0_lostCount ∈ tbg := tbAt (i := 780) (by decide +kernel) (by decide +kernel)
theorem wb_781 : Cond.selects RX0 yX0_lostCount yX0_lostCount ∈ tbg := tbAt (i := 781) (by decide +kernel) (by decide +kernel)
theorem wb_782 : Cond.code yX0_lostCount cX0_lostCount 3 (some .int) ∈ tbg := tbAt (i := 782) (by decide +kernel) (by decide +kernel)
theorem wb_783 : Cond.methodLink RX0 153 yX0_lostTurns ∈ tbg := tbAt (i := 783) (by decide +kernel) (by decide +kernel)
theorem wb_784 : Cond.methodLink RX5 264 yX0_faintCount ∈ tbg := tbAt (i := 784) (by decide +kernel) (by decide +kernel)
theorem wb_785 : Cond.instanceMethod yX0_faintCount ∈ tbg := tbAt (i := 785) (by decide +kernel) (by decide +kernel)
theorem wb_786 : Cond.selects RX0 yX0_faintCount yX0_faintCount ∈ tbg := tbAt (i := 786) (by decide +kernel) (by decide +kernel)
theorem wb_787 : Cond.code yX0_faintCount cX0_faintCount 3 (some .int) ∈ tbg := tbAt (i := 787) (by decide +kernel) (by decide +kernel)
theorem wb_788 : Cond.methodLink RX5 231 yX0_toldCount ∈ tbg := tbAt (i := 788) (by decide +kernel) (by decide +kernel)
theorem wb_789 : Cond.instanceMethod yX0_toldCount ∈ tbg := tbAt (i := 789) (by decide +kernel) (by decide +kernel)
theorem wb_790 : Cond.selects RX0 yX0_toldCount yX0_toldCount ∈ tbg := tbAt (i := 790) (by decide +kernel) (by decide +kernel)
theorem wb_791 : Cond.code yX0_toldCount cX0_toldCount 4 (some .int) ∈ tbg := tbAt (i := 791) (by decide +kernel) (by decide +kernel)
theorem wb_792 : Cond.methodLink RX5 234 yX0_trueCount ∈ tbg := tbAt (i := 792) (by decide +kernel) (by decide +kernel)
theorem wb_793 : Cond.instanceMethod yX0_trueCount ∈ tbg := tbAt (i := 793) (by decide +kernel) (by decide +kernel)
theorem wb_794 : Cond.selects RX0 yX0_trueCount yX0_trueCount ∈ tbg := tbAt (i := 794) (by decide +kernel) (by decide +kernel)
theorem wb_795 : Cond.code yX0_trueCount cX0_trueCount 3 (some .int) ∈ tbg := tbAt (i := 795) (by decide +kernel) (by decide +kernel)
theorem wb_796 : Cond.methodLink RX0 173 yX0_isToldSource ∈ tbg := tbAt (i := 796) (by decide +kernel) (by decide +kernel)
theorem wb_797 : Cond.methodLink RX5 240 yX0_missedCount ∈ tbg := tbAt (i := 797) (by decide +kernel) (by decide +kernel)
theorem wb_798 : Cond.instanceMethod yX0_missedCount ∈ tbg := tbAt (i := 798) (by decide +kernel) (by decide +kernel)
theorem wb_799 : Cond.selects RX0 yX0_missedCount yX0_missedCount ∈ tbg := tbAt (i := 799) (by decide +kernel) (by decide +kernel)
theorem wb_800 : Cond.code yX0_missedCount cX0_missedCount 3 (some .int) ∈ tbg := tbAt (i := 800) (by decide +kernel) (by decide +kernel)
theorem wb_801 : Cond.methodLink RX5 222 yX3_wallCount ∈ tbg := tbAt (i := 801) (by decide +kernel) (by decide +kernel)
theorem wb_802 : Cond.instanceMethod yX3_wallCount ∈ tbg := tbAt (i := 802) (by decide +kernel) (by decide +kernel)
theorem wb_803 : Cond.selects RX3 yX3_wallCount yX3_wallCount ∈ tbg := tbAt (i := 803) (by decide +kernel) (by decide +kernel)
theorem wb_804 : Cond.code yX3_wallCount cX3_wallCount 3 (some .int) ∈ tbg := tbAt (i := 804) (by decide +kernel) (by decide +kernel)
theorem wb_805 : Cond.methodLink RX5 225 yX3_blindBelow ∈ tbg := tbAt (i := 805) (by decide +kernel) (by decide +kernel)
theorem wb_806 : Cond.methodLink RX5 228 yX3_loudFrom ∈ tbg := tbAt (i := 806) (by decide +kernel) (by decide +kernel)
theorem wb_812 : Cond.instanceMethod yX5_ifTurn ∈ tbg := tbAt (i := 812) (by decide +kernel) (by decide +kernel)
theorem wb_813 : Cond.selects RX5 yX5_ifTurn yX5_ifTurn ∈ tbg := tbAt (i := 813) (by decide +kernel) (by decide +kernel)
theorem wb_814 : Cond.code yX5_ifTurn cX5_ifTurn 3 (some .int) ∈ tbg := tbAt (i := 814) (by decide +kernel) (by decide +kernel)
theorem wb_816 : Cond.instanceMethod yX5_bestTurn ∈ tbg := tbAt (i := 816) (by decide +kernel) (by decide +kernel)
theorem wb_817 : Cond.selects RX5 yX5_bestTurn yX5_bestTurn ∈ tbg := tbAt (i := 817) (by decide +kernel) (by decide +kernel)
theorem wb_818 : Cond.code yX5_bestTurn cX5_bestTurn 1 (some .int) ∈ tbg := tbAt (i := 818) (by decide +kernel) (by decide +kernel)
theorem wb_819 : Cond.methodLink RX5 243 yX0_bestNextSpacing ∈ tbg := tbAt (i := 819) (by decide +kernel) (by decide +kernel)
theorem wb_820 : Cond.instanceMethod yX0_bestNextSpacing ∈ tbg := tbAt (i := 820) (by decide +kernel) (by decide +kernel)
theorem wb_821 : Cond.selects RX0 yX0_bestNextSpacing yX0_bestNextSpacing ∈ tbg := tbAt (i := 821) (by decide +kernel) (by decide +kernel)
theorem wb_822 : Cond.code yX0_bestNextSpacing cX0_bestNextSpacing 6 (some .int) ∈ tbg := tbAt (i := 822) (by decide +kernel) (by decide +kernel)
theorem wb_823 : Cond.methodLink RX0 176 yX0_gatherOpen ∈ tbg := tbAt (i := 823) (by decide +kernel) (by decide +kernel)
theorem wb_825 : Cond.instanceMethod yX0_gatherOpen ∈ tbg := tbAt (i := 825) (by decide +kernel) (by decide +kernel)
theorem wb_826 : Cond.code yX0_gatherOpen cX0_gatherOpen 4 none ∈ tbg := tbAt (i := 826) (by decide +kernel) (by decide +kernel)
theorem wb_827 : Cond.methodLink RX0 179 yX0_openTold ∈ tbg := tbAt (i := 827) (by decide +kernel) (by decide +kernel)
theorem wb_829 : Cond.instanceMethod yX0_openTold ∈ tbg := tbAt (i := 829) (by decide +kernel) (by decide +kernel)
theorem wb_830 : Cond.code yX0_openTold cX0_openTold 6 (some .int) ∈ tbg := tbAt (i := 830) (by decide +kernel) (by decide +kernel)
theorem wb_831 : Cond.methodLink RX0 182 yX0_trueCount ∈ tbg := tbAt (i := 831) (by decide +kernel) (by decide +kernel)
theorem wb_832 : Cond.methodLink RX0 185 yX0_missedCount ∈ tbg := tbAt (i := 832) (by decide +kernel) (by decide +kernel)
theorem wb_834 : Cond.instanceMethod yX5_ifWall ∈ tbg := tbAt (i := 834) (by decide +kernel) (by decide +kernel)
theorem wb_835 : Cond.selects RX5 yX5_ifWall yX5_ifWall ∈ tbg := tbAt (i := 835) (by decide +kernel) (by decide +kernel)
theorem wb_836 : Cond.code yX5_ifWall cX5_ifWall 5 (some .int) ∈ tbg := tbAt (i := 836) (by decide +kernel) (by decide +kernel)
theorem wb_838 : Cond.instanceMethod yX5_undo ∈ tbg := tbAt (i := 838) (by decide +kernel) (by decide +kernel)
theorem wb_839 : Cond.selects RX5 yX5_undo yX5_undo ∈ tbg := tbAt (i := 839) (by decide +kernel) (by decide +kernel)
theorem wb_840 : Cond.code yX5_undo cX5_undo 1 (some .int) ∈ tbg := tbAt (i := 840) (by decide +kernel) (by decide +kernel)
theorem wb_842 : Cond.instanceMethod yX5_save ∈ tbg := tbAt (i := 842) (by decide +kernel) (by decide +kernel)
theorem wb_843 : Cond.selects RX5 yX5_save yX5_save ∈ tbg := tbAt (i := 843) (by decide +kernel) (by decide +kernel)
theorem wb_844 : Cond.code yX5_save cX5_save 1 (some .int) ∈ tbg := tbAt (i := 844) (by decide +kernel) (by decide +kernel)
theorem wb_846 : Cond.instanceMethod yX5_restore ∈ tbg := tbAt (i := 846) (by decide +kernel) (by decide +kernel)
theorem wb_847 : Cond.selects RX5 yX5_restore yX5_restore ∈ tbg := tbAt (i := 847) (by decide +kernel) (by decide +kernel)
theorem wb_848 : Cond.code yX5_restore cX5_restore 1 (some .int) ∈ tbg := tbAt (i := 848) (by decide +kernel) (by decide +kernel)
theorem wb_855 : Cond.fieldLink RX6 7 (TX6 0).1 (TX6 0).2.1 (TX6 0).2.2.1 ∈ tbg := tbAt (i := 855) (by decide +kernel) (by decide +kernel)
theorem wb_856 : Cond.fieldLink RX6 13 (TX6 1).1 (TX6 1).2.1 (TX6 1).2.2.1 ∈ tbg := tbAt (i := 856) (by decide +kernel) (by decide +kernel)
theorem wb_857 : Cond.fieldLink RX6 45 (TX6 2).1 (TX6 2).2.1 (TX6 2).2.2.1 ∈ tbg := tbAt (i := 857) (by decide +kernel) (by decide +kernel)
theorem wb_858 : Cond.fieldLink RX6 16 (TX6 3).1 (TX6 3).2.1 (TX6 3).2.2.1 ∈ tbg := tbAt (i := 858) (by decide +kernel) (by decide +kernel)
theorem wb_859 : Cond.fieldLink RX6 49 (TX6 4).1 (TX6 4).2.1 (TX6 4).2.2.1 ∈ tbg := tbAt (i := 859) (by decide +kernel) (by decide +kernel)
theorem wb_860 : Cond.fieldLink RX6 19 (TX6 5).1 (TX6 5).2.1 (TX6 5).2.2.1 ∈ tbg := tbAt (i := 860) (by decide +kernel) (by decide +kernel)
theorem wb_861 : Cond.fieldLink RX6 152 (TX6 6).1 (TX6 6).2.1 (TX6 6).2.2.1 ∈ tbg := tbAt (i := 861) (by decide +kernel) (by decide +kernel)
theorem wb_862 : Cond.fieldLink RX6 23 (TX6 7).1 (TX6 7).2.1 (TX6 7).2.2.1 ∈ tbg := tbAt (i := 862) (by decide +kernel) (by decide +kernel)
theorem wb_863 : Cond.fieldLink RX6 82 (TX6 8).1 (TX6 8).2.1 (TX6 8).2.2.1 ∈ tbg := tbAt (i := 863) (by decide +kernel) (by decide +kernel)
theorem wb_864 : Cond.fieldLink RX6 26 (TX6 9).1 (TX6 9).2.1 (TX6 9).2.2.1 ∈ tbg := tbAt (i := 864) (by decide +kernel) (by decide +kernel)
theorem wb_865 : Cond.fieldLink RX6 29 (TX6 10).1 (TX6 10).2.1 (TX6 10).2.2.1 ∈ tbg := tbAt (i := 865) (by decide +kernel) (by decide +kernel)
theorem wb_866 : Cond.fieldLink RX6 32 (TX6 11).1 (TX6 11).2.1 (TX6 11).2.2.1 ∈ tbg := tbAt (i := 866) (by decide +kernel) (by decide +kernel)
theorem wb_867 : Cond.fieldLink RX6 149 (TX6 12).1 (TX6 12).2.1 (TX6 12).2.2.1 ∈ tbg := tbAt (i := 867) (by decide +kernel) (by decide +kernel)
theorem wb_868 : Cond.fieldLink RX6 35 (TX6 13).1 (TX6 13).2.1 (TX6 13).2.2.1 ∈ tbg := tbAt (i := 868) (by decide +kernel) (by decide +kernel)
theorem wb_869 : Cond.fieldLink RX6 184 (TX6 14).1 (TX6 14).2.1 (TX6 14).2.2.1 ∈ tbg := tbAt (i := 869) (by decide +kernel) (by decide +kernel)
theorem wb_870 : Cond.fieldLink RX6 38 (TX6 15).1 (TX6 15).2.1 (TX6 15).2.2.1 ∈ tbg := tbAt (i := 870) (by decide +kernel) (by decide +kernel)
theorem wb_871 : Cond.fieldLink RX6 187 (TX6 16).1 (TX6 16).2.1 (TX6 16).2.2.1 ∈ tbg := tbAt (i := 871) (by decide +kernel) (by decide +kernel)
theorem wb_872 : Cond.fieldLink RX6 164 (TX6 17).1 (TX6 17).2.1 (TX6 17).2.2.1 ∈ tbg := tbAt (i := 872) (by decide +kernel) (by decide +kernel)
theorem wb_873 : Cond.fieldLink RX6 170 (TX6 18).1 (TX6 18).2.1 (TX6 18).2.2.1 ∈ tbg := tbAt (i := 873) (by decide +kernel) (by decide +kernel)
theorem wb_874 : u_lay RX6 TX6 0 ∈ tbg := tbAt (i := 874) (by decide +kernel) (by decide +kernel)
theorem wb_876 : u_lay RX6 TX6 1 ∈ tbg := tbAt (i := 876) (by decide +kernel) (by decide +kernel)
theorem wb_878 : u_lay RX6 TX6 2 ∈ tbg := tbAt (i := 878) (by decide +kernel) (by decide +kernel)
theorem wb_880 : u_lay RX6 TX6 3 ∈ tbg := tbAt (i := 880) (by decide +kernel) (by decide +kernel)
theorem wb_882 : u_lay RX6 TX6 4 ∈ tbg := tbAt (i := 882) (by decide +kernel) (by decide +kernel)
theorem wb_884 : u_lay RX6 TX6 5 ∈ tbg := tbAt (i := 884) (by decide +kernel) (by decide +kernel)
theorem wb_886 : u_lay RX6 TX6 6 ∈ tbg := tbAt (i := 886) (by decide +kernel) (by decide +kernel)
theorem wb_888 : u_lay RX6 TX6 7 ∈ tbg := tbAt (i := 888) (by decide +kernel) (by decide +kernel)
theorem wb_890 : u_lay RX6 TX6 8 ∈ tbg := tbAt (i := 890) (by decide +kernel) (by decide +kernel)
theorem wb_892 : u_lay RX6 TX6 9 ∈ tbg := tbAt (i := 892) (by decide +kernel) (by decide +kernel)
theorem wb_894 : u_lay RX6 TX6 10 ∈ tbg := tbAt (i := 894) (by decide +kernel) (by decide +kernel)
theorem wb_896 : u_lay RX6 TX6 11 ∈ tbg := tbAt (i := 896) (by decide +kernel) (by decide +kernel)
theorem wb_898 : u_lay RX6 TX6 12 ∈ tbg := tbAt (i := 898) (by decide +kernel) (by decide +kernel)
theorem wb_900 : u_lay RX6 TX6 13 ∈ tbg := tbAt (i := 900) (by decide +kernel) (by decide +kernel)
theorem wb_902 : u_lay RX6 TX6 14 ∈ tbg := tbAt (i := 902) (by decide +kernel) (by decide +kernel)
theorem wb_904 : u_lay RX6 TX6 15 ∈ tbg := tbAt (i := 904) (by decide +kernel) (by decide +kernel)
theorem wb_906 : u_lay RX6 TX6 16 ∈ tbg := tbAt (i := 906) (by decide +kernel) (by decide +kernel)
theorem wb_908 : u_lay RX6 TX6 17 ∈ tbg := tbAt (i := 908) (by decide +kernel) (by decide +kernel)
theorem wb_910 : u_lay RX6 TX6 18 ∈ tbg := tbAt (i := 910) (by decide +kernel) (by decide +kernel)
theorem wb_914 : Cond.instanceMethod yX6_undo ∈ tbg := tbAt (i := 914) (by decide +kernel) (by decide +kernel)
theorem wb_915 : Cond.selects RX6 yX6_undo yX6_undo ∈ tbg := tbAt (i := 915) (by decide +kernel) (by decide +kernel)
theorem wb_916 : Cond.code yX6_undo cX6_undo 2 (some .int) ∈ tbg := tbAt (i := 916) (by decide +kernel) (by decide +kernel)
theorem wb_918 : Cond.instanceMethod yX6_save ∈ tbg := tbAt (i := 918) (by decide +kernel) (by decide +kernel)
theorem wb_919 : Cond.selects RX6 yX6_save yX6_save ∈ tbg := tbAt (i := 919) (by decide +kernel) (by decide +kernel)
theorem wb_920 : Cond.code yX6_save cX6_save 2 (some .int) ∈ tbg := tbAt (i := 920) (by decide +kernel) (by decide +kernel)
theorem wb_922 : Cond.instanceMethod yX6_restore ∈ tbg := tbAt (i := 922) (by decide +kernel) (by decide +kernel)
theorem wb_923 : Cond.selects RX6 yX6_restore yX6_restore ∈ tbg := tbAt (i := 923) (by decide +kernel) (by decide +kernel)
theorem wb_924 : Cond.code yX6_restore cX6_restore 2 (some .int) ∈ tbg := tbAt (i := 924) (by decide +kernel) (by decide +kernel)
theorem wb_925 : Cond.methodLink RX6 53 yX6_record ∈ tbg := tbAt (i := 925) (by decide +kernel) (by decide +kernel)
theorem wb_927 : Cond.instanceMethod yX6_record ∈ tbg := tbAt (i := 927) (by decide +kernel) (by decide +kernel)
theorem wb_928 : Cond.code yX6_record cX6_record 2 none ∈ tbg := tbAt (i := 928) (by decide +kernel) (by decide +kernel)
theorem wb_930 : Cond.instanceMethod yX6_target ∈ tbg := tbAt (i := 930) (by decide +kernel) (by decide +kernel)
theorem wb_931 : Cond.selects RX6 yX6_target yX6_target ∈ tbg := tbAt (i := 931) (by decide +kernel) (by decide +kernel)
theorem wb_932 : Cond.code yX6_target cX6_target 5 (some .int) ∈ tbg := tbAt (i := 932) (by decide +kernel) (by decide +kernel)
theorem wb_933 : Cond.methodLink RX6 60 yX6_isBody ∈ tbg := tbAt (i := 933) (by decide +kernel) (by decide +kernel)
theorem wb_934 : Cond.static yX6_isBody ∈ tbg := tbAt (i := 934) (by decide +kernel) (by decide +kernel)
theorem wb_935 : Cond.code yX6_isBody cX6_isBody 3 (some .boolean) ∈ tbg := tbAt (i := 935) (by decide +kernel) (by decide +kernel)
theorem wb_936 : Cond.methodLink RX6 41 yX6_in ∈ tbg := tbAt (i := 936) (by decide +kernel) (by decide +kernel)
theorem wb_937 : Cond.static yX6_in ∈ tbg := tbAt (i := 937) (by decide +kernel) (by decide +kernel)
theorem wb_938 : Cond.code yX6_in cX6_in 3 (some .boolean) ∈ tbg := tbAt (i := 938) (by decide +kernel) (by decide +kernel)
theorem wb_939 : Cond.methodLink RX6 63 yX6_isThere ∈ tbg := tbAt (i := 939) (by decide +kernel) (by decide +kernel)
theorem wb_941 : Cond.instanceMethod yX6_isThere ∈ tbg := tbAt (i := 941) (by decide +kernel) (by decide +kernel)
theorem wb_942 : Cond.code yX6_isThere cX6_isThere 5 (some .boolean) ∈ tbg := tbAt (i := 942) (by decide +kernel) (by decide +kernel)
theorem wb_943 : Cond.methodLink RX6 56 yX6_of ∈ tbg := tbAt (i := 943) (by decide +kernel) (by decide +kernel)
theorem wb_945 : Cond.instanceMethod yX6_of ∈ tbg := tbAt (i := 945) (by decide +kernel) (by decide +kernel)
theorem wb_946 : Cond.code yX6_of cX6_of 3 (some .int) ∈ tbg := tbAt (i := 946) (by decide +kernel) (by decide +kernel)
theorem wb_947 : Cond.methodLink RX6 67 yX6_add ∈ tbg := tbAt (i := 947) (by decide +kernel) (by decide +kernel)
theorem wb_949 : Cond.instanceMethod yX6_add ∈ tbg := tbAt (i := 949) (by decide +kernel) (by decide +kernel)
theorem wb_950 : Cond.code yX6_add cX6_add 6 none ∈ tbg := tbAt (i := 950) (by decide +kernel) (by decide +kernel)
theorem wb_952 : Cond.instanceMethod yX6_drop ∈ tbg := tbAt (i := 952) (by decide +kernel) (by decide +kernel)
theorem wb_953 : Cond.selects RX6 yX6_drop yX6_drop ∈ tbg := tbAt (i := 953) (by decide +kernel) (by decide +kernel)
theorem wb_954 : Cond.code yX6_drop cX6_drop 2 (some .int) ∈ tbg := tbAt (i := 954) (by decide +kernel) (by decide +kernel)
theorem wb_955 : Cond.methodLink RX6 71 yX6_isTarget ∈ tbg := tbAt (i := 955) (by decide +kernel) (by decide +kernel)
theorem wb_957 : Cond.instanceMethod yX6_isTarget ∈ tbg := tbAt (i := 957) (by decide +kernel) (by decide +kernel)
theorem wb_958 : Cond.code yX6_isTarget cX6_isTarget 2 (some .boolean) ∈ tbg := tbAt (i := 958) (by decide +kernel) (by decide +kernel)
theorem wb_959 : Cond.methodLink RX6 75 yX6_takeOut ∈ tbg := tbAt (i := 959) (by decide +kernel) (by decide +kernel)
theorem wb_961 : Cond.instanceMethod yX6_takeOut ∈ tbg := tbAt (i := 961) (by decide +kernel) (by decide +kernel)
theorem wb_962 : Cond.code yX6_takeOut cX6_takeOut 3 none ∈ tbg := tbAt (i := 962) (by decide +kernel) (by decide +kernel)
theorem wb_964 : Cond.instanceMethod yX6_go ∈ tbg := tbAt (i := 964) (by decide +kernel) (by decide +kernel)
theorem wb_965 : Cond.selects RX6 yX6_go yX6_go ∈ tbg := tbAt (i := 965) (by decide +kernel) (by decide +kernel)
theorem wb_966 : Cond.code yX6_go cX6_go 3 (some .int) ∈ tbg := tbAt (i := 966) (by decide +kernel) (by decide +kernel)
theorem wb_968 : Cond.instanceMethod yX6_spacings ∈ tbg := tbAt (i := 968) (by decide +kernel) (by decide +kernel)
theorem wb_969 : Cond.selects RX6 yX6_spacings yX6_spacings ∈ tbg := tbAt (i := 969) (by decide +kernel) (by decide +kernel)
theorem wb_970 : Cond.code yX6_spacings cX6_spacings 6 (some .int) ∈ tbg := tbAt (i := 970) (by decide +kernel) (by decide +kernel)
theorem wb_971 : Cond.methodLink RX6 79 yX6_isSpacing ∈ tbg := tbAt (i := 971) (by decide +kernel) (by decide +kernel)
theorem wb_972 : Cond.static yX6_isSpacing ∈ tbg := tbAt (i := 972) (by decide +kernel) (by decide +kernel)
theorem wb_973 : Cond.code yX6_isSpacing cX6_isSpacing 1 (some .boolean) ∈ tbg := tbAt (i := 973) (by decide +kernel) (by decide +kernel)
theorem wb_975 : Cond.instanceMethod yX6_set ∈ tbg := tbAt (i := 975) (by decide +kernel) (by decide +kernel)
theorem wb_976 : Cond.selects RX6 yX6_set yX6_set ∈ tbg := tbAt (i := 976) (by decide +kernel) (by decide +kernel)
theorem wb_977 : Cond.code yX6_set cX6_set 4 (some .int) ∈ tbg := tbAt (i := 977) (by decide +kernel) (by decide +kernel)
theorem wb_979 : Cond.instanceMethod yX6_targetOf ∈ tbg := tbAt (i := 979) (by decide +kernel) (by decide +kernel)
theorem wb_980 : Cond.selects RX6 yX6_targetOf yX6_targetOf ∈ tbg := tbAt (i := 980) (by decide +kernel) (by decide +kernel)
theorem wb_981 : Cond.code yX6_targetOf cX6_targetOf 5 (some .int) ∈ tbg := tbAt (i := 981) (by decide +kernel) (by decide +kernel)
theorem wb_982 : Cond.methodLink RX6 117 yX6_listen ∈ tbg := tbAt (i := 982) (by decide +kernel) (by decide +kernel)
theorem wb_984 : Cond.instanceMethod yX6_listen ∈ tbg := tbAt (i := 984) (by decide +kernel) (by decide +kernel)
theorem wb_985 : Cond.code yX6_listen cX6_listen 5 none ∈ tbg := tbAt (i := 985) (by decide +kernel) (by decide +kernel)
theorem wb_986 : Cond.methodLink RX6 95 yX6_layBody ∈ tbg := tbAt (i := 986) (by decide +kernel) (by decide +kernel)
theorem wb_988 : Cond.instanceMethod yX6_layBody ∈ tbg := tbAt (i := 988) (by decide +kernel) (by decide +kernel)
theorem wb_989 : Cond.code yX6_layBody cX6_layBody 7 none ∈ tbg := tbAt (i := 989) (by decide +kernel) (by decide +kernel)
theorem wb_990 : Cond.methodLink RX6 88 yX6_isFaint ∈ tbg := tbAt (i := 990) (by decide +kernel) (by decide +kernel)
theorem wb_992 : Cond.instanceMethod yX6_isFaint ∈ tbg := tbAt (i := 992) (by decide +kernel) (by decide +kernel)
theorem wb_993 : Cond.code yX6_isFaint cX6_isFaint 2 (some .boolean) ∈ tbg := tbAt (i := 993) (by decide +kernel) (by decide +kernel)
theorem wb_994 : Cond.methodLink RX6 85 yX6_body ∈ tbg := tbAt (i := 994) (by decide +kernel) (by decide +kernel)
theorem wb_996 : Cond.instanceMethod yX6_body ∈ tbg := tbAt (i := 996) (by decide +kernel) (by decide +kernel)
theorem wb_997 : Cond.code yX6_body cX6_body 3 (some .int) ∈ tbg := tbAt (i := 997) (by decide +kernel) (by decide +kernel)
theorem wb_998 : Cond.methodLink RX6 99 yX6_isLost ∈ tbg := tbAt (i := 998) (by decide +kernel) (by decide +kernel)
theorem wb_1000 : Cond.instanceMethod yX6_isLost ∈ tbg := tbAt (i := 1000) (by decide +kernel) (by decide +kernel)
theorem wb_1001 : Cond.code yX6_isLost cX6_isLost 3 (some .boolean) ∈ tbg := tbAt (i := 1001) (by decide +kernel) (by decide +kernel)
theorem wb_1002 : Cond.methodLink RX6 91 yX6_placeIn ∈ tbg := tbAt (i := 1002) (by decide +kernel) (by decide +kernel)
theorem wb_1004 : Cond.instanceMethod yX6_placeIn ∈ tbg := tbAt (i := 1004) (by decide +kernel) (by decide +kernel)
theorem wb_1005 : Cond.code yX6_placeIn cX6_placeIn 5 (some .int) ∈ tbg := tbAt (i := 1005) (by decide +kernel) (by decide +kernel)
theorem wb_1006 : Cond.methodLink RX6 102 yX6_mark ∈ tbg := tbAt (i := 1006) (by decide +kernel) (by decide +kernel)
theorem wb_1007 : Cond.static yX6_mark ∈ tbg := tbAt (i := 1007) (by decide +kernel) (by decide +kernel)
theorem wb_1008 : Cond.code yX6_mark cX6_mark 3 (some .int) ∈ tbg := tbAt (i := 1008) (by decide +kernel) (by decide +kernel)
theorem wb_1009 : Cond.methodLink RX6 114 yX6_isTold ∈ tbg := tbAt (i := 1009) (by decide +kernel) (by decide +kernel)
theorem wb_1011 : Cond.instanceMethod yX6_isTold ∈ tbg := tbAt (i := 1011) (by decide +kernel) (by decide +kernel)
theorem wb_1012 : Cond.code yX6_isTold cX6_isTold 2 (some .boolean) ∈ tbg := tbAt (i := 1012) (by decide +kernel) (by decide +kernel)
theorem wb_1013 : Cond.methodLink RX6 108 yX6_fitting ∈ tbg := tbAt (i := 1013) (by decide +kernel) (by decide +kernel)
theorem wb_1015 : Cond.instanceMethod yX6_fitting ∈ tbg := tbAt (i := 1015) (by decide +kernel) (by decide +kernel)
theorem wb_1016 : Cond.code yX6_fitting cX6_fitting 6 (some .int) ∈ tbg := tbAt (i := 1016) (by decide +kernel) (by decide +kernel)
theorem wb_1017 : Cond.methodLink RX6 105 yX6_fit ∈ tbg := tbAt (i := 1017) (by decide +kernel) (by decide +kernel)
theorem wb_1019 : Cond.instanceMethod yX6_fit ∈ tbg := tbAt (i := 1019) (by decide +kernel) (by decide +kernel)
theorem wb_1020 : Cond.code yX6_fit cX6_fit 5 (some .int) ∈ tbg := tbAt (i := 1020) (by decide +kernel) (by decide +kernel)
theorem wb_1022 : Cond.instanceMethod yX6_ghost ∈ tbg := tbAt (i := 1022) (by decide +kernel) (by decide +kernel)
theorem wb_1023 : Cond.selects RX6 yX6_ghost yX6_ghost ∈ tbg := tbAt (i := 1023) (by decide +kernel) (by decide +kernel)
theorem wb_1024 : Cond.code yX6_ghost cX6_ghost 4 (some .int) ∈ tbg := tbAt (i := 1024) (by decide +kernel) (by decide +kernel)
theorem wb_1026 : Cond.instanceMethod yX6_echo ∈ tbg := tbAt (i := 1026) (by decide +kernel) (by decide +kernel)
theorem wb_1027 : Cond.selects RX6 yX6_echo yX6_echo ∈ tbg := tbAt (i := 1027) (by decide +kernel) (by decide +kernel)
theorem wb_1028 : Cond.code yX6_echo cX6_echo 6 (some .int) ∈ tbg := tbAt (i := 1028) (by decide +kernel) (by decide +kernel)
theorem wb_1029 : Cond.methodLink RX6 120 yX6_isTurn ∈ tbg := tbAt (i := 1029) (by decide +kernel) (by decide +kernel)
theorem wb_1031 : Cond.instanceMethod yX6_isTurn ∈ tbg := tbAt (i := 1031) (by decide +kernel) (by decide +kernel)
theorem wb_1032 : Cond.code yX6_isTurn cX6_isTurn 2 (some .boolean) ∈ tbg := tbAt (i := 1032) (by decide +kernel) (by decide +kernel)
theorem wb_1034 : Cond.instanceMethod yX6_fits ∈ tbg := tbAt (i := 1034) (by decide +kernel) (by decide +kernel)
theorem wb_1035 : Cond.selects RX6 yX6_fits yX6_fits ∈ tbg := tbAt (i := 1035) (by decide +kernel) (by decide +kernel)
theorem wb_1036 : Cond.code yX6_fits cX6_fits 4 (some .int) ∈ tbg := tbAt (i := 1036) (by decide +kernel) (by decide +kernel)
theorem wb_1038 : Cond.instanceMethod yX6_told ∈ tbg := tbAt (i := 1038) (by decide +kernel) (by decide +kernel)
theorem wb_1039 : Cond.selects RX6 yX6_told yX6_told ∈ tbg := tbAt (i := 1039) (by decide +kernel) (by decide +kernel)
theorem wb_1040 : Cond.code yX6_told cX6_told 7 (some .int) ∈ tbg := tbAt (i := 1040) (by decide +kernel) (by decide +kernel)
theorem wb_1041 : Cond.methodLink RX6 111 yX6_isTrue ∈ tbg := tbAt (i := 1041) (by decide +kernel) (by decide +kernel)
theorem wb_1043 : Cond.instanceMethod yX6_isTrue ∈ tbg := tbAt (i := 1043) (by decide +kernel) (by decide +kernel)
theorem wb_1044 : Cond.code yX6_isTrue cX6_isTrue 5 (some .boolean) ∈ tbg := tbAt (i := 1044) (by decide +kernel) (by decide +kernel)
theorem wb_1046 : Cond.instanceMethod yX6_alike ∈ tbg := tbAt (i := 1046) (by decide +kernel) (by decide +kernel)
theorem wb_1047 : Cond.selects RX6 yX6_alike yX6_alike ∈ tbg := tbAt (i := 1047) (by decide +kernel) (by decide +kernel)
theorem wb_1048 : Cond.code yX6_alike cX6_alike 4 (some .int) ∈ tbg := tbAt (i := 1048) (by decide +kernel) (by decide +kernel)
theorem wb_1049 : Cond.methodLink RX6 123 yX6_divisor ∈ tbg := tbAt (i := 1049) (by decide +kernel) (by decide +kernel)
theorem wb_1050 : Cond.static yX6_divisor ∈ tbg := tbAt (i := 1050) (by decide +kernel) (by decide +kernel)
theorem wb_1051 : Cond.code yX6_divisor cX6_divisor 5 (some .int) ∈ tbg := tbAt (i := 1051) (by decide +kernel) (by decide +kernel)
theorem wb_1053 : Cond.instanceMethod yX6_unfold ∈ tbg := tbAt (i := 1053) (by decide +kernel) (by decide +kernel)
theorem wb_1054 : Cond.selects RX6 yX6_unfold yX6_unfold ∈ tbg := tbAt (i := 1054) (by decide +kernel) (by decide +kernel)
theorem wb_1055 : Cond.code yX6_unfold cX6_unfold 7 (some .int) ∈ tbg := tbAt (i := 1055) (by decide +kernel) (by decide +kernel)
theorem wb_1057 : Cond.instanceMethod yX6_count ∈ tbg := tbAt (i := 1057) (by decide +kernel) (by decide +kernel)
theorem wb_1058 : Cond.selects RX6 yX6_count yX6_count ∈ tbg := tbAt (i := 1058) (by decide +kernel) (by decide +kernel)
theorem wb_1059 : Cond.code yX6_count cX6_count 2 (some .int) ∈ tbg := tbAt (i := 1059) (by decide +kernel) (by decide +kernel)
theorem wb_1060 : Cond.methodLink RX6 126 yX6_walls ∈ tbg := tbAt (i := 1060) (by decide +kernel) (by decide +kernel)
theorem wb_1062 : Cond.instanceMethod yX6_walls ∈ tbg := tbAt (i := 1062) (by decide +kernel) (by decide +kernel)
theorem wb_1063 : Cond.code yX6_walls cX6_walls 3 (some .int) ∈ tbg := tbAt (i := 1063) (by decide +kernel) (by decide +kernel)
theorem wb_1064 : Cond.methodLink RX6 130 yX6_echoes ∈ tbg := tbAt (i := 1064) (by decide +kernel) (by decide +kernel)
theorem wb_1066 : Cond.instanceMethod yX6_echoes ∈ tbg := tbAt (i := 1066) (by decide +kernel) (by decide +kernel)
theorem wb_1067 : Cond.code yX6_echoes cX6_echoes 3 (some .int) ∈ tbg := tbAt (i := 1067) (by decide +kernel) (by decide +kernel)
theorem wb_1068 : Cond.methodLink RX6 133 yX6_lostMany ∈ tbg := tbAt (i := 1068) (by decide +kernel) (by decide +kernel)
theorem wb_1070 : Cond.instanceMethod yX6_lostMany ∈ tbg := tbAt (i := 1070) (by decide +kernel) (by decide +kernel)
theorem wb_1071 : Cond.code yX6_lostMany cX6_lostMany 4 (some .int) ∈ tbg := tbAt (i := 1071) (by decide +kernel) (by decide +kernel)
theorem wb_1072 : Cond.methodLink RX6 136 yX6_faintMany ∈ tbg := tbAt (i := 1072) (by decide +kernel) (by decide +kernel)
theorem wb_1074 : Cond.instanceMethod yX6_faintMany ∈ tbg := tbAt (i := 1074) (by decide +kernel) (by decide +kernel)
theorem wb_1075 : Cond.code yX6_faintMany cX6_faintMany 3 (some .int) ∈ tbg := tbAt (i := 1075) (by decide +kernel) (by decide +kernel)
theorem wb_1076 : Cond.methodLink RX6 139 yX6_toldMany ∈ tbg := tbAt (i := 1076) (by decide +kernel) (by decide +kernel)
theorem wb_1078 : Cond.instanceMethod yX6_toldMany ∈ tbg := tbAt (i := 1078) (by decide +kernel) (by decide +kernel)
theorem wb_1079 : Cond.code yX6_toldMany cX6_toldMany 5 (some .int) ∈ tbg := tbAt (i := 1079) (by decide +kernel) (by decide +kernel)
theorem wb_1080 : Cond.methodLink RX6 143 yX6_missed ∈ tbg := tbAt (i := 1080) (by decide +kernel) (by decide +kernel)
theorem wb_1082 : Cond.instanceMethod yX6_missed ∈ tbg := tbAt (i := 1082) (by decide +kernel) (by decide +kernel)
theorem wb_1083 : Cond.code yX6_missed cX6_missed 3 (some .int) ∈ tbg := tbAt (i := 1083) (by decide +kernel) (by decide +kernel)
theorem wb_1084 : Cond.methodLink RX6 146 yX6_write ∈ tbg := tbAt (i := 1084) (by decide +kernel) (by decide +kernel)
theorem wb_1086 : Cond.instanceMethod yX6_write ∈ tbg := tbAt (i := 1086) (by decide +kernel) (by decide +kernel)
theorem wb_1087 : Cond.code yX6_write cX6_write 2 none ∈ tbg := tbAt (i := 1087) (by decide +kernel) (by decide +kernel)
theorem wb_1088 : Cond.methodLink RX6 158 yX6_sets ∈ tbg := tbAt (i := 1088) (by decide +kernel) (by decide +kernel)
theorem wb_1090 : Cond.instanceMethod yX6_sets ∈ tbg := tbAt (i := 1090) (by decide +kernel) (by decide +kernel)
theorem wb_1091 : Cond.code yX6_sets cX6_sets 2 none ∈ tbg := tbAt (i := 1091) (by decide +kernel) (by decide +kernel)
theorem wb_1092 : Cond.methodLink RX6 161 yX6_setsNumber ∈ tbg := tbAt (i := 1092) (by decide +kernel) (by decide +kernel)
theorem wb_1094 : Cond.instanceMethod yX6_setsNumber ∈ tbg := tbAt (i := 1094) (by decide +kernel) (by decide +kernel)
theorem wb_1095 : Cond.code yX6_setsNumber cX6_setsNumber 2 none ∈ tbg := tbAt (i := 1095) (by decide +kernel) (by decide +kernel)
theorem wb_1101 : Cond.instanceMethod yX6_ifTurn ∈ tbg := tbAt (i := 1101) (by decide +kernel) (by decide +kernel)
theorem wb_1102 : Cond.selects RX6 yX6_ifTurn yX6_ifTurn ∈ tbg := tbAt (i := 1102) (by decide +kernel) (by decide +kernel)
theorem wb_1103 : Cond.code yX6_ifTurn cX6_ifTurn 3 (some .int) ∈ tbg := tbAt (i := 1103) (by decide +kernel) (by decide +kernel)
theorem wb_1104 : Cond.methodLink RX6 155 yX6_withTurn ∈ tbg := tbAt (i := 1104) (by decide +kernel) (by decide +kernel)
theorem wb_1106 : Cond.instanceMethod yX6_withTurn ∈ tbg := tbAt (i := 1106) (by decide +kernel) (by decide +kernel)
theorem wb_1107 : Cond.code yX6_withTurn cX6_withTurn 4 (some .int) ∈ tbg := tbAt (i := 1107) (by decide +kernel) (by decide +kernel)
theorem wb_1109 : Cond.instanceMethod yX6_bestTurn ∈ tbg := tbAt (i := 1109) (by decide +kernel) (by decide +kernel)
theorem wb_1110 : Cond.selects RX6 yX6_bestTurn yX6_bestTurn ∈ tbg := tbAt (i := 1110) (by decide +kernel) (by decide +kernel)
theorem wb_1111 : Cond.code yX6_bestTurn cX6_bestTurn 5 (some .int) ∈ tbg := tbAt (i := 1111) (by decide +kernel) (by decide +kernel)
theorem wb_1113 : Cond.instanceMethod yX6_ifWall ∈ tbg := tbAt (i := 1113) (by decide +kernel) (by decide +kernel)
theorem wb_1114 : Cond.selects RX6 yX6_ifWall yX6_ifWall ∈ tbg := tbAt (i := 1114) (by decide +kernel) (by decide +kernel)
theorem wb_1115 : Cond.code yX6_ifWall cX6_ifWall 5 (some .int) ∈ tbg := tbAt (i := 1115) (by decide +kernel) (by decide +kernel)
theorem wb_1117 : Cond.instanceMethod yX6_sign ∈ tbg := tbAt (i := 1117) (by decide +kernel) (by decide +kernel)
theorem wb_1118 : Cond.selects RX6 yX6_sign yX6_sign ∈ tbg := tbAt (i := 1118) (by decide +kernel) (by decide +kernel)
theorem wb_1119 : Cond.code yX6_sign cX6_sign 2 (some .int) ∈ tbg := tbAt (i := 1119) (by decide +kernel) (by decide +kernel)
theorem wb_1121 : Cond.instanceMethod yX6_append ∈ tbg := tbAt (i := 1121) (by decide +kernel) (by decide +kernel)
theorem wb_1122 : Cond.selects RX6 yX6_append yX6_append ∈ tbg := tbAt (i := 1122) (by decide +kernel) (by decide +kernel)
theorem wb_1123 : Cond.code yX6_append cX6_append 2 (some .int) ∈ tbg := tbAt (i := 1123) (by decide +kernel) (by decide +kernel)
theorem wb_1125 : Cond.instanceMethod yX6_clear ∈ tbg := tbAt (i := 1125) (by decide +kernel) (by decide +kernel)
theorem wb_1126 : Cond.selects RX6 yX6_clear yX6_clear ∈ tbg := tbAt (i := 1126) (by decide +kernel) (by decide +kernel)
theorem wb_1127 : Cond.code yX6_clear cX6_clear 2 (some .int) ∈ tbg := tbAt (i := 1127) (by decide +kernel) (by decide +kernel)
theorem wb_1129 : Cond.instanceMethod yX6_fault ∈ tbg := tbAt (i := 1129) (by decide +kernel) (by decide +kernel)
theorem wb_1130 : Cond.selects RX6 yX6_fault yX6_fault ∈ tbg := tbAt (i := 1130) (by decide +kernel) (by decide +kernel)
theorem wb_1131 : Cond.code yX6_fault cX6_fault 1 (some .int) ∈ tbg := tbAt (i := 1131) (by decide +kernel) (by decide +kernel)
theorem wb_1132 : Cond.methodLink RX6 190 yX6_readTarget ∈ tbg := tbAt (i := 1132) (by decide +kernel) (by decide +kernel)
theorem wb_1134 : Cond.instanceMethod yX6_readTarget ∈ tbg := tbAt (i := 1134) (by decide +kernel) (by decide +kernel)
theorem wb_1135 : Cond.code yX6_readTarget cX6_readTarget 6 none ∈ tbg := tbAt (i := 1135) (by decide +kernel) (by decide +kernel)
theorem wb_1136 : Cond.methodLink RX6 167 yX6_letter ∈ tbg := tbAt (i := 1136) (by decide +kernel) (by decide +kernel)
theorem wb_1138 : Cond.instanceMethod yX6_letter ∈ tbg := tbAt (i := 1138) (by decide +kernel) (by decide +kernel)
theorem wb_1139 : Cond.code yX6_letter cX6_letter 1 (some .int) ∈ tbg := tbAt (i := 1139) (by decide +kernel) (by decide +kernel)
theorem wb_1140 : Cond.methodLink RX6 176 yX6_wants ∈ tbg := tbAt (i := 1140) (by decide +kernel) (by decide +kernel)
theorem wb_1142 : Cond.instanceMethod yX6_wants ∈ tbg := tbAt (i := 1142) (by decide +kernel) (by decide +kernel)
theorem wb_1143 : Cond.code yX6_wants cX6_wants 2 none ∈ tbg := tbAt (i := 1143) (by decide +kernel) (by decide +kernel)
theorem wb_1144 : Cond.methodLink RX6 180 yX6_number ∈ tbg := tbAt (i := 1144) (by decide +kernel) (by decide +kernel)
theorem wb_1146 : Cond.instanceMethod yX6_number ∈ tbg := tbAt (i := 1146) (by decide +kernel) (by decide +kernel)
theorem wb_1147 : Cond.code yX6_number cX6_number 3 (some .int) ∈ tbg := tbAt (i := 1147) (by decide +kernel) (by decide +kernel)
theorem wb_1148 : Cond.methodLink RX6 173 yX6_figure ∈ tbg := tbAt (i := 1148) (by decide +kernel) (by decide +kernel)
theorem wb_1150 : Cond.instanceMethod yX6_figure ∈ tbg := tbAt (i := 1150) (by decide +kernel) (by decide +kernel)
theorem wb_1151 : Cond.code yX6_figure cX6_figure 2 (some .int) ∈ tbg := tbAt (i := 1151) (by decide +kernel) (by decide +kernel)
theorem wb_1152 : Cond.methodLink RX6 193 yX6_readSpacing ∈ tbg := tbAt (i := 1152) (by decide +kernel) (by decide +kernel)
theorem wb_1154 : Cond.instanceMethod yX6_readSpacing ∈ tbg := tbAt (i := 1154) (by decide +kernel) (by decide +kernel)
theorem wb_1155 : Cond.code yX6_readSpacing cX6_readSpacing 3 none ∈ tbg := tbAt (i := 1155) (by decide +kernel) (by decide +kernel)
theorem wb_1157 : Cond.instanceMethod yX6_load ∈ tbg := tbAt (i := 1157) (by decide +kernel) (by decide +kernel)
theorem wb_1158 : Cond.selects RX6 yX6_load yX6_load ∈ tbg := tbAt (i := 1158) (by decide +kernel) (by decide +kernel)
theorem wb_1159 : Cond.code yX6_load cX6_load 4 (some .int) ∈ tbg := tbAt (i := 1159) (by decide +kernel) (by decide +kernel)
theorem wb_1160 : Cond.methodLink RX6 196 yX6_fault ∈ tbg := tbAt (i := 1160) (by decide +kernel) (by decide +kernel)
end
section
/-! PM: the whole world as one picture in numbers (cells by fixed numbers 0 .. 74), and a logic of programs over it -/
/-- int fields, int rows, the long row, the row of references -/
abbrev St : Type := (Nat → Nat → Int32) × (Nat → Nat → Int32) × (Nat → Int64) × (Nat → Nat)
def sF (σ : St) : Nat → Nat → Int32 := σ.1
def sA (σ : St) : Nat → Nat → Int32 := σ.2.1
def sL (σ : St) : Nat → Int64 := σ.2.2.1
def sP (σ : St) : Nat → Nat := σ.2.2.2
def setF (σ : St) (a k : Nat) (v : Int32) : St := (fun x y => if x = a ∧ y = k then v else sF σ x y, sA σ, sL σ, sP σ)
def setR (σ : St) (a : Nat) (g : Nat → Int32) : St := (sF σ, fun x => if x = a then g else sA σ x, sL σ, sP σ)
def setA (σ : St) (a i : Nat) (v : Int32) : St := setR σ a (upd (sA σ a) i v)
def setL (σ : St) (i : Nat) (v : Int64) : St := (sF σ, sA σ, vp_updL (sL σ) i v, sP σ)
def setP (σ : St) (i : Nat) (v : Nat) : St := (sF σ, sA σ, sL σ, fun j => if j = i then v else sP σ j)
/-- the shapes: (0, class, fields), (1, kind, length): kinds 0 int, 1 boolean, 2 char; (2, 3, length): longs; (3, 4, length): references -/
def shp : List (Nat × Nat × Nat) := [(0, 5, 10),
  (0, 3, 9), (1, 0, 6), (1, 0, 6), (1, 0, 6), (1, 1, 6), (1, 0, 4),
  (0, 3, 9), (1, 0, 6), (1, 0, 6), (1, 0, 6), (1, 1, 6), (1, 0, 4),
  (0, 3, 9), (1, 0, 6), (1, 0, 6), (1, 0, 6), (1, 1, 6), (1, 0, 4),
  (3, 4, 4),
  (0, 3, 9), (1, 0, 6), (1, 0, 6), (1, 0, 6), (1, 1, 6), (1, 0, 4),
  (0, 3, 9), (1, 0, 6), (1, 0, 6), (1, 0, 6), (1, 1, 6), (1, 0, 4),
  (0, 3, 9), (1, 0, 6), (1, 0, 6), (1, 0, 6), (1, 1, 6), (1, 0, 4),
  (0, 3, 9), (1, 0, 6), (1, 0, 6), (1, 0, 6), (1, 1, 6), (1, 0, 4),
  (0, 1, 2), (1, 2, 60),
  (0, 2, 13), (1, 0, 12), (1, 0, 12), (1, 0, 12), (1, 1, 12), (1, 0, 4),
  (0, 4, 2), (1, 2, 72),
  (0, 0, 16), (1, 0, 21), (1, 0, 21), (1, 0, 21), (1, 0, 21), (1, 0, 21), (1, 0, 4), (2, 3, 44), (1, 0, 11), (1, 0, 3600),
  (0, 6, 19), (1, 0, 32), (1, 0, 128), (1, 0, 32), (1, 2, 60), (1, 0, 105), (1, 0, 2200), (1, 0, 2200), (1, 2, 90), (1, 0, 64), (1, 0, 4)]
def isSc (a : Nat) : Prop := a = 1 ∨ a = 7 ∨ a = 13 ∨ a = 20 ∨ a = 26 ∨ a = 32 ∨ a = 38
/-- the fields that are references, all final: what cell they name -/
def FR (a k : Nat) : Option Nat :=
  if a = 0 then (match k with | 0 => some 1 | 1 => some 7 | 2 => some 13 | 3 => some 19 | 4 => some 44 | 5 => some 46 | 6 => some 52 | 7 => some 54 | _ => none)
  else if a = 64 then (match k with | 0 => some 65 | 1 => some 66 | 3 => some 67 | 5 => some 68 | 7 => some 69 | 9 => some 70 | 10 => some 71 | 11 => some 72 | 13 => some 73 | 15 => some 74 | _ => none)
  else if a = 44 ∨ a = 52 then (if k = 0 then some (a + 1) else none)
  else if a = 54 then (if k < 9 then some (a + 1 + k) else none)
  else (if k < 5 then some (a + 1 + k) else none)
abbrev GC : Type := va_G × (Nat → ClassId) × (Nat → Nat)
def ptr (ad : Nat → Nat) : Value → Value
  | .ref k => .ref (ad k)
  | v => v
def pm_fld (ad : Nat → Nat) (k : Nat) (σ : St) (j : Nat) : Value := match FR k j with
  | some q => .ref (ad q)
  | none => .int (sF σ k j)
def pm_cell (G : GC) (k : Nat) (σ : St) : va_E := match shp[k]? with
  | some (0, ci, n) => .inr (ci, (List.range n).map (pm_fld G.2.2 k σ))
  | some (1, t, n) => .inl (G.2.1 t, n, .inl (sA σ k))
  | some (2, t, n) => .inl (G.2.1 t, n, .inr (.inl (sL σ)))
  | some (_, t, n) => .inl (G.2.1 t, n, .inr (.inr (.inr (.inr (fun j => some (G.2.2 (sP σ j)))))))
  | none => .inr (0, [])
def pm_W (G : GC) (σ : St) : va_W := (List.range 75).map (fun k => (G.2.2 k, pm_cell G k σ))
def pm_tys (G : GC) : List (ClassId × FieldType) := [(G.2.1 0, .int), (G.2.1 1, .boolean), (G.2.1 2, .char), (G.2.1 3, .long), (G.2.1 4, .object "EchoTurns$Scene")]
def pm_A (G : GC) : Nat → Prop := fun q => ∃ k, k < 75 ∧ q = G.2.2 k
def pm_inj (G : GC) : Prop := ∀ i j, i < 75 → j < 75 → G.2.2 i = G.2.2 j → i = j
def pm_fit (σ : St) : Prop := ∀ (k n : Nat), shp[k]? = some (1, 1, n) → ∀ j, fits .boolean (.int (sA σ k j)) = true
def pm_H (G : GC) (σ : St) (H : Heap) : Prop := va_P G.1 vwCl (pm_W G σ) H ∧ pm_fit σ
/-- the links to the outer class's private methods -/
def pm_N (U : State) : Prop := ∀ q ∈ pmN, va_Nw (.methodLinkNest q.1 q.2.1 q.2.2.1 q.2.2.2) U
theorem pm_N.warm {s U : State} (hW : s.WarmedH U.vm) (h : pm_N s) : pm_N U := fun q hq => va_Nw.warmM hW (h q hq)
/-- a method: name, code, locals, answer -/
abbrev MI : Type := MethodName × ByteArray × Nat × Option FieldType
def pm_run (y : MI) (G : GC) (p : Program) (s : State) (m : MethodId) (args : Array Value) (meth : Method) (c : Code) : Prop :=
  p.tables.exec = Jvm.exec ∧ c.code = y.2.1 ∧ meth.sig.returnType = y.2.2.2 ∧ c.maxLocals = y.2.2.1 ∧ s.vm.findClass y.1.cls = some m.cls ∧ (∀ w ∈ tbg, w.before args s = true) ∧ meth.locks = false ∧ va_K G.1 vwCl (pm_tys G) s ∧ pm_inj G ∧ pm_N s
def rmz (d : Nat) : Room := { frames := d, cells := 0, slots := 0, locals := 31 * d }
def pm_L (ad : Nat → Nat) (lsA : Array Slot) (n : Nat) (ls : List Value) : Prop := lsA.size = n ∧ lv_wf lsA ∧ ls.length = n ∧ ∀ (i : Nat) (v : Value), ls[i]? = some v → v ≠ .null → lsA[i]? = some (.val (ptr ad v))
def pm_Q (G : GC) (Q : Option Value → St → Prop) : Array Value → State → Outcome → State → Prop := fun _ st o t => (∃ (r : Option Value) (σ' : St), o = .returned (r.map (ptr G.2.2)) ∧ Q r σ' ∧ pm_H G σ' t.heap) ∧ va_F (pm_A G) st t
def pm_P (G : GC) (as : List Value) (σ : St) : Array Value → State → Prop := fun v U => v = (as.map (ptr G.2.2)).toArray ∧ pm_H G σ U.heap ∧ va_K G.1 vwCl (pm_tys G) U ∧ pm_inj G ∧ pm_N U
def wsz (y : MI) : List Cond := .code y.1 y.2.1 y.2.2.1 y.2.2.2 :: tbg
/-- from this frame in this world the method comes to its end, and Q holds of the answer and the world -/
def Go (y : MI) (d : Nat) (pc : Nat) (ls st : List Value) (σ : St) (Q : Option Value → St → Prop) : Prop :=
  ∀ (l : Launch) (G : GC) (p : Program) (e : Env) (s : State) (m : MethodId) (args : Array Value) (below : List Frame) (meth : Method) (c : Code) (H : Heap) (locs : List Loc) (lsA : Array Slot),
    pm_run y G p s m args meth c → pm_H G σ H → va_S (pm_A G) s.heap H locs → pm_L G.2.2 lsA y.2.2.1 ls →
    W p l e (rmz d) s m args below meth c H locs 0 0 (MQ below (pm_Q G Q) args s 0 0 (pm_A G)) (F0 m pc lsA (st.map (ptr G.2.2)))
/-- a call of the method in this world comes back, and Q holds -/
def Call (d : Nat) (y : MI) (as : List Value) (σ : St) (Q : Option Value → St → Prop) : Prop :=
  ∀ (l : Launch) (G : GC), Met l y.1 (wsz y) (rmz d) (pm_P G as σ) (pm_Q G Q) 0 0 (pm_A G)
def QI (K : Int32 → St → Prop) : Option Value → St → Prop := fun r σ => ∃ x : Int32, r = some (.int x) ∧ K x σ
def QU (K : St → Prop) : Option Value → St → Prop := fun r σ => r = none ∧ K σ
abbrev CallI (d : Nat) (y : MI) (as : List Value) (σ : St) (K : Int32 → St → Prop) : Prop := Call d y as σ (QI K)
abbrev CallU (d : Nat) (y : MI) (as : List Value) (σ : St) (K : St → Prop) : Prop := Call d y as σ (QU K)
/-- the locals at a method's entry -/
def ent (as : List Value) (n : Nat) : List Value := as.flatMap (fun v => if v.category = 2 then [v, .null] else [v]) ++ List.replicate (n - (as.flatMap (fun v => if v.category = 2 then [v, Value.null] else [v])).length) .null
theorem ptr_cat (ad : Nat → Nat) (v : Value) : (ptr ad v).category = v.category := by cases v <;> rfl
theorem ptr_cats (ad : Nat → Nat) (st : List Value) : ((st.map (ptr ad)).map fun v => v.category) = st.map fun v => v.category := by
  rw [List.map_map]; exact List.map_congr_left fun v _ => ptr_cat ad v
theorem shp_lt {k : Nat} {x : Nat × Nat × Nat} (h : shp[k]? = some x) : k < 75 := (List.getElem?_eq_some_iff.mp h).1
theorem pm_get {G : GC} {σ : St} {k : Nat} (hk : k < 75) : (pm_W G σ)[k]? = some (G.2.2 k, pm_cell G k σ) := by
  simp [pm_W, List.getElem?_map, List.getElem?_range hk]
theorem pm_getS {G : GC} {σ : St} {k : Nat} {x : Nat × Nat × Nat} (h : shp[k]? = some x) : (pm_W G σ)[k]? = some (G.2.2 k, pm_cell G k σ) := pm_get (shp_lt h)
theorem pm_Wset {G : GC} {σ σ' : St} {k : Nat} {e : va_E} (hk : k < 75) (he : pm_cell G k σ' = e) (ho : ∀ j, j < 75 → j ≠ k → pm_cell G j σ' = pm_cell G j σ) : (pm_W G σ).set k (G.2.2 k, e) = pm_W G σ' := by
  apply List.ext_getElem?
  intro i
  rcases Nat.lt_or_ge i 75 with hi | hi
  · rw [pm_get hi]
    rcases Nat.decEq i k with h | h
    · rw [List.getElem?_set_ne (fun q => h q.symm), pm_get hi, ho i hi h]
    · subst h
      rw [List.getElem?_set_self (by simp [pm_W]; exact hk), he]
  · rw [List.getElem?_eq_none (by simp [pm_W]; exact hi), List.getElem?_eq_none (by simp [pm_W]; exact hi)]
theorem pm_D {G : GC} (hi : pm_inj G) (σ : St) : va_D (pm_A G) (pm_W G σ) := by
  have h75 : ∀ (i : Nat) (p : Nat × va_E), (pm_W G σ)[i]? = some p → i < 75 ∧ p.1 = G.2.2 i := by
    intro i p h
    have hlt : i < 75 := by
      have h1 := (List.getElem?_eq_some_iff.mp h).1
      simpa [pm_W] using h1
    rw [pm_get hlt] at h
    cases h
    exact ⟨hlt, rfl⟩
  refine ⟨fun i j p q h1 h2 h3 => ?_, fun k q h => ?_⟩
  · obtain ⟨a1, a2⟩ := h75 i p h1
    obtain ⟨b1, b2⟩ := h75 j q h2
    exact hi i j a1 b1 (by rw [← a2, ← b2]; exact h3)
  · obtain ⟨a1, a2⟩ := h75 k q h
    exact ⟨k, a1, a2⟩
theorem shp_long : ∀ j, j < 75 → ∀ t n, shp[j]? = some (2, t, n) → j = 61 := by
  intro j hj t n h
  have h1 : ∀ j, j < 75 → (shp[j]?).map (·.1) = some 2 → j = 61 := by decide +kernel
  exact h1 j hj (by rw [h]; rfl)
theorem shp_ref : ∀ j, j < 75 → ∀ i t n, shp[j]? = some (i + 3, t, n) → j = 19 := by
  intro j hj i t n h
  have h1 : ∀ j, j < 75 → (match shp[j]? with | some (0, _, _) => true | some (1, _, _) => true | some (2, _, _) => true | _ => decide (j = 19)) = true := by decide +kernel
  have h2 := h1 j hj
  rw [h] at h2
  simpa using h2
theorem cell_F {G : GC} {σ : St} {a k ci n : Nat} {v : Int32} (hs : shp[a]? = some (0, ci, n)) : ∀ j, j < 75 → j ≠ a → pm_cell G j (setF σ a k v) = pm_cell G j σ := by
  intro j hj hne
  unfold pm_cell
  have hf : pm_fld G.2.2 j (setF σ a k v) = pm_fld G.2.2 j σ := by
    funext i
    unfold pm_fld
    simp [setF, sF, hne]
  rw [hf]
  rfl
theorem cell_R {G : GC} {σ : St} {a : Nat} {g : Nat → Int32} : ∀ j, j < 75 → j ≠ a → pm_cell G j (setR σ a g) = pm_cell G j σ := by
  intro j hj hne
  unfold pm_cell
  have h1 : sA (setR σ a g) j = sA σ j := by simp [setR, sA, hne]
  rw [h1]
  rfl
theorem pm_setF {G : GC} {σ : St} {a k ci n : Nat} {v : Int32} (hs : shp[a]? = some (0, ci, n)) (hk : k < n) (hr : FR a k = none) :
    (pm_W G σ).set a (G.2.2 a, .inr (ci, ((List.range n).map (pm_fld G.2.2 a σ)).set k (.int v))) = pm_W G (setF σ a k v) := by
  refine pm_Wset (shp_lt hs) ?_ (cell_F hs)
  unfold pm_cell
  rw [hs]
  show Sum.inr (ci, _) = Sum.inr (ci, _)
  congr 2
  apply List.ext_getElem?
  intro i
  rcases Nat.lt_or_ge i n with hi | hi
  · rcases Nat.decEq i k with h | h
    · rw [List.getElem?_set_ne (fun q => h q.symm), List.getElem?_map, List.getElem?_map, List.getElem?_range hi]
      simp [pm_fld, setF, sF, h]
    · subst h
      rw [List.getElem?_set_self (by simp; exact hi), List.getElem?_map, List.getElem?_range hi]
      simp [pm_fld, setF, sF, hr]
  · rw [List.getElem?_eq_none (by simp; exact hi), List.getElem?_eq_none (by simp; exact hi)]
theorem pm_setR {G : GC} {σ : St} {a t n : Nat} {g : Nat → Int32} (hs : shp[a]? = some (1, t, n)) :
    (pm_W G σ).set a (G.2.2 a, .inl (G.2.1 t, n, .inl g)) = pm_W G (setR σ a g) := by
  refine pm_Wset (shp_lt hs) ?_ cell_R
  unfold pm_cell
  rw [hs]
  simp [setR, sA]
theorem pm_setL {G : GC} {σ : St} {i : Nat} {v : Int64} :
    (pm_W G σ).set 61 (G.2.2 61, .inl (G.2.1 3, 44, .inr (.inl (vp_updL (sL σ) i v)))) = pm_W G (setL σ i v) := by
  refine pm_Wset (by decide) rfl (fun j hj hne => ?_)
  unfold pm_cell
  have hf : pm_fld G.2.2 j (setL σ i v) = pm_fld G.2.2 j σ := rfl
  rw [hf]
  split <;> first | rfl | skip
  next h => exact absurd (shp_long j hj _ _ h) hne
theorem pm_setP {G : GC} {σ : St} {i v : Nat} :
    (pm_W G σ).set 19 (G.2.2 19, .inl (G.2.1 4, 4, .inr (.inr (.inr (.inr (va_up (fun j => some (G.2.2 (sP σ j))) i (some (G.2.2 v)))))))) = pm_W G (setP σ i v) := by
  have hfun : (fun j => some (G.2.2 (sP (setP σ i v) j))) = va_up (fun j => some (G.2.2 (sP σ j))) i (some (G.2.2 v)) := by
    funext j
    unfold va_up setP sP
    by_cases h : j = i <;> simp [h]
  refine pm_Wset (by decide) (by
    show (Sum.inl (G.2.1 4, 4, _) : va_E) = _
    rw [hfun]) (fun j hj hne => ?_)
  unfold pm_cell
  have hf : pm_fld G.2.2 j (setP σ i v) = pm_fld G.2.2 j σ := rfl
  rw [hf]
  rcases hsh : shp[j]? with _ | ⟨a, t, n⟩
  · rfl
  · match a, hsh with
    | 0, _ => rfl
    | 1, _ => rfl
    | 2, _ => rfl
    | k + 3, hsh => exact absurd (shp_ref j hj k _ _ hsh) hne
end
section
/-! the rows of PM's logic: an instruction a row -/
section GO
variable {y : MI} {d pc : Nat} {ls st : List Value} {σ : St} {Q : Option Value → St → Prop}
theorem Go.iconst {n : Int} {v : Int32} (hd : decode y.2.1 pc = .ok (.iconst n, 1)) (hv : Int32.ofInt n = v) (k : Go y d (pc + 1) ls (.int v :: st) σ Q) : Go y d pc ls st σ Q :=
  fun l G p e s m args below meth c H locs lsA R hH hS hL => lv_iconst R.1 R.2.1 hd hv (k l G p e s m args below meth c H locs lsA R hH hS hL)
theorem Go.bipush {n : Int} {v : Int32} (hd : decode y.2.1 pc = .ok (.bipush n, 2)) (hv : (Int8.ofInt n).toInt32 = v) (k : Go y d (pc + 2) ls (.int v :: st) σ Q) : Go y d pc ls st σ Q :=
  fun l G p e s m args below meth c H locs lsA R hH hS hL => lv_bipush R.1 R.2.1 hd hv (k l G p e s m args below meth c H locs lsA R hH hS hL)
theorem Go.sipush {n : Int} {v : Int32} (hd : decode y.2.1 pc = .ok (.sipush n, 3)) (hv : (Int16.ofInt n).toInt32 = v) (k : Go y d (pc + 3) ls (.int v :: st) σ Q) : Go y d pc ls st σ Q :=
  fun l G p e s m args below meth c H locs lsA R hH hS hL => lv_sipush R.1 R.2.1 hd hv (k l G p e s m args below meth c H locs lsA R hH hS hL)
theorem pm_L.at' {ad : Nat → Nat} {lsA : Array Slot} {n i : Nat} {ls : List Value} {v : Value} (h : pm_L ad lsA n ls) (hi : ls[i]? = some v) (hn : v ≠ .null) : lsA[i]? = some (.val (ptr ad v)) := h.2.2.2 i v hi hn
theorem Go.iload_n {j : Fin 4} {x : Int32} (i : Nat) (hd : decode y.2.1 pc = .ok (.iload_n j, 1)) (hj : (j : Nat) = i) (hl : ls[i]? = some (.int x)) (k : Go y d (pc + 1) ls (.int x :: st) σ Q) : Go y d pc ls st σ Q :=
  fun l G p e s m args below meth c H locs lsA R hH hS hL => lv_iload_n R.1 R.2.1 hd hj (hL.at' hl (by simp)) (k l G p e s m args below meth c H locs lsA R hH hS hL)
theorem Go.iload {i : Nat} {x : Int32} (hd : decode y.2.1 pc = .ok (.iload i, 2)) (hl : ls[i]? = some (.int x)) (k : Go y d (pc + 2) ls (.int x :: st) σ Q) : Go y d pc ls st σ Q :=
  fun l G p e s m args below meth c H locs lsA R hH hS hL => lv_iload R.1 R.2.1 hd (hL.at' hl (by simp)) (k l G p e s m args below meth c H locs lsA R hH hS hL)
theorem Go.aload_n {j : Fin 4} {x : Nat} (i : Nat) (hd : decode y.2.1 pc = .ok (.aload_n j, 1)) (hj : (j : Nat) = i) (hl : ls[i]? = some (.ref x)) (k : Go y d (pc + 1) ls (.ref x :: st) σ Q) : Go y d pc ls st σ Q :=
  fun l G p e s m args below meth c H locs lsA R hH hS hL => lv_aload_n R.1 R.2.1 hd hj (hL.at' hl (by simp)) (k l G p e s m args below meth c H locs lsA R hH hS hL)
theorem Go.lload_n {j : Fin 4} {x : Int64} (i : Nat) (hd : decode y.2.1 pc = .ok (.lload_n j, 1)) (hj : (j : Nat) = i) (hl : ls[i]? = some (.long x)) (k : Go y d (pc + 1) ls (.long x :: st) σ Q) : Go y d pc ls st σ Q :=
  fun l G p e s m args below meth c H locs lsA R hH hS hL => lv_lload_n R.1 R.2.1 hd hj (hL.at' hl (by simp)) (k l G p e s m args below meth c H locs lsA R hH hS hL)
/-- a store may not cut a value of two slots that is named -/
def lvok (ls : List Value) (i : Nat) : Bool := match i with
  | 0 => true
  | j + 1 => (ls.getD j .null).category != 2
theorem pm_L.store {ad : Nat → Nat} {ls : List Value} {n i : Nat} {v : Value} {lsA : Array Slot} (h : pm_L ad lsA n ls) (hi : i < n) (hok : lvok ls i = true) :
    ∃ lv : List (Nat × Value), lv_has lsA n lv ∧ ∀ lsB : Array Slot, lv_has lsB n ((i, ptr ad v) :: lv.filter (fun q => !(q.1 == i) && !(q.1 + 1 == i && q.2.category == 2))) → pm_L ad lsB n (ls.set i v) := by
  obtain ⟨h1, h2, h3, h4⟩ := h
  refine ⟨((List.range n).filterMap fun j => match ls[j]? with | some Value.null => none | some w => some (j, ptr ad w) | none => none), ⟨h1, h2, fun q hq => ?_⟩, fun lsB hB => ?_⟩
  · obtain ⟨j, -, hj⟩ := List.mem_filterMap.mp hq
    rcases hls : ls[j]? with _ | w
    · rw [hls] at hj; cases hj
    · rw [hls] at hj
      cases w <;> first | (cases hj; exact h4 j _ hls (by simp)) | cases hj
  · obtain ⟨b1, b2, b3⟩ := hB
    refine ⟨b1, b2, by simp [h3], fun j w hj hw => ?_⟩
    rcases Nat.decEq j i with hne | rfl
    · rw [List.getElem?_set_ne (fun z => hne z.symm)] at hj
      have hjn : j < n := by rw [← h3]; exact (List.getElem?_eq_some_iff.mp hj).1
      refine b3 (j, ptr ad w) (List.mem_cons_of_mem _ (List.mem_filter.mpr ⟨List.mem_filterMap.mpr ⟨j, List.mem_range.mpr hjn, ?_⟩, ?_⟩))
      · rw [hj]
        cases w <;> first | rfl | exact (hw rfl).elim
      · simp only [Bool.and_eq_true, Bool.not_eq_true', beq_eq_false_iff_ne, ne_eq, Bool.and_eq_false_iff]
        refine ⟨hne, ?_⟩
        rcases Nat.decEq (j + 1) i with hz | hz
        · exact Or.inl hz
        · right
          subst hz
          rw [ptr_cat]
          have hok2 : ((ls.getD j .null).category != 2) = true := hok
          have : ls.getD j .null = w := by simp [List.getD, hj]
          rw [this] at hok2
          simpa using hok2
    · rw [List.getElem?_set_self (by omega)] at hj
      cases hj
      exact b3 (j, ptr ad v) List.mem_cons_self
theorem Go.istore_n {j : Fin 4} {x : Int32} {ls' : List Value} (i : Nat) (hd : decode y.2.1 pc = .ok (.istore_n j, 1)) (hj : (j : Nat) = i) (hi : i < y.2.2.1) (hok : lvok ls i = true) (hl : ls.set i (.int x) = ls') (k : Go y d (pc + 1) ls' st σ Q) : Go y d pc ls (.int x :: st) σ Q := by
  intro l G p e s m args below meth c H locs lsA R hH hS hL
  obtain ⟨lv, h1, h2⟩ := hL.store (v := .int x) hi hok
  refine lv_istore_n R.1 R.2.1 hd hj h1 hi rfl (fun lsB hB => ?_)
  exact k l G p e s m args below meth c H locs lsB R hH hS (hl ▸ h2 lsB hB)
theorem Go.istore {i : Nat} {x : Int32} {ls' : List Value} (hd : decode y.2.1 pc = .ok (.istore i, 2)) (hi : i < y.2.2.1) (hok : lvok ls i = true) (hl : ls.set i (.int x) = ls') (k : Go y d (pc + 2) ls' st σ Q) : Go y d pc ls (.int x :: st) σ Q := by
  intro l G p e s m args below meth c H locs lsA R hH hS hL
  obtain ⟨lv, h1, h2⟩ := hL.store (v := .int x) hi hok
  refine lv_istore R.1 R.2.1 hd h1 hi rfl (fun lsB hB => ?_)
  exact k l G p e s m args below meth c H locs lsB R hH hS (hl ▸ h2 lsB hB)
theorem Go.astore_n {j : Fin 4} {x : Nat} {ls' : List Value} (i : Nat) (hd : decode y.2.1 pc = .ok (.astore_n j, 1)) (hj : (j : Nat) = i) (hi : i < y.2.2.1) (hok : lvok ls i = true) (hl : ls.set i (.ref x) = ls') (k : Go y d (pc + 1) ls' st σ Q) : Go y d pc ls (.ref x :: st) σ Q := by
  intro l G p e s m args below meth c H locs lsA R hH hS hL
  obtain ⟨lv, h1, h2⟩ := hL.store (v := .ref x) hi hok
  refine lv_astore_n R.1 R.2.1 hd hj h1 hi rfl (fun lsB hB => ?_)
  exact k l G p e s m args below meth c H locs lsB R hH hS (hl ▸ h2 lsB hB)
theorem Go.iinc {i : Nat} {n : Int} {x v : Int32} {ls' : List Value} (hd : decode y.2.1 pc = .ok (.iinc i n, 3)) (hx : ls[i]? = some (.int x)) (hv : x + Int32.ofInt n = v) (hi : i < y.2.2.1) (hok : lvok ls i = true) (hl : ls.set i (.int v) = ls') (k : Go y d (pc + 3) ls' st σ Q) : Go y d pc ls st σ Q := by
  intro l G p e s m args below meth c H locs lsA R hH hS hL
  obtain ⟨lv, h1, h2⟩ := hL.store (v := .int v) hi hok
  have h3 : lv_has lsA y.2.2.1 ((i, .int x) :: lv) := ⟨h1.1, h1.2.1, fun q hq => by
    rcases List.mem_cons.mp hq with rfl | hq
    · exact hL.at' hx (by simp)
    · exact h1.2.2 q hq⟩
  refine lv_iinc R.1 R.2.1 hd h3 (k := 0) rfl hv hi rfl (fun lsB hB => ?_)
  refine k l G p e s m args below meth c H locs lsB R hH hS (hl ▸ h2 lsB ?_)
  have e1 : ((i, Value.int x) :: lv).filter (fun q => !(q.1 == i) && !(q.1 + 1 == i && q.2.category == 2)) = lv.filter (fun q => !(q.1 == i) && !(q.1 + 1 == i && q.2.category == 2)) := by simp
  rw [e1] at hB
  exact hB
theorem Go.iadd {a b : Int32} (hd : decode y.2.1 pc = .ok (.iadd, 1)) (k : Go y d (pc + 1) ls (.int (a + b) :: st) σ Q) : Go y d pc ls (.int b :: .int a :: st) σ Q :=
  fun l G p e s m args below meth c H locs lsA R hH hS hL => lv_iadd R.1 R.2.1 hd (k l G p e s m args below meth c H locs lsA R hH hS hL)
theorem Go.isub {a b : Int32} (hd : decode y.2.1 pc = .ok (.isub, 1)) (k : Go y d (pc + 1) ls (.int (a - b) :: st) σ Q) : Go y d pc ls (.int b :: .int a :: st) σ Q :=
  fun l G p e s m args below meth c H locs lsA R hH hS hL => lv_isub R.1 R.2.1 hd (k l G p e s m args below meth c H locs lsA R hH hS hL)
theorem Go.imul {a b : Int32} (hd : decode y.2.1 pc = .ok (.imul, 1)) (k : Go y d (pc + 1) ls (.int (a * b) :: st) σ Q) : Go y d pc ls (.int b :: .int a :: st) σ Q :=
  fun l G p e s m args below meth c H locs lsA R hH hS hL => lv_imul R.1 R.2.1 hd (k l G p e s m args below meth c H locs lsA R hH hS hL)
/-- the remainder, as the machine has it -/
def irem (a b : Int32) : Int32 := a - a / b * b
theorem Go.idiv {a b : Int32} (hd : decode y.2.1 pc = .ok (.idiv, 1)) (hne : ¬ b = 0) (k : Go y d (pc + 1) ls (.int (a / b) :: st) σ Q) : Go y d pc ls (.int b :: .int a :: st) σ Q :=
  fun l G p e s m args below meth c H locs lsA R hH hS hL => lv_idiv R.1 R.2.1 hd hne (k l G p e s m args below meth c H locs lsA R hH hS hL)
theorem Go.irem {a b : Int32} (hd : decode y.2.1 pc = .ok (.irem, 1)) (hne : ¬ b = 0) (k : Go y d (pc + 1) ls (.int (irem a b) :: st) σ Q) : Go y d pc ls (.int b :: .int a :: st) σ Q :=
  fun l G p e s m args below meth c H locs lsA R hH hS hL => lv_irem R.1 R.2.1 hd hne (k l G p e s m args below meth c H locs lsA R hH hS hL)
theorem Go.ineg {a : Int32} (hd : decode y.2.1 pc = .ok (.ineg, 1)) (k : Go y d (pc + 1) ls (.int (-a) :: st) σ Q) : Go y d pc ls (.int a :: st) σ Q :=
  fun l G p e s m args below meth c H locs lsA R hH hS hL => lv_ineg R.1 R.2.1 hd (k l G p e s m args below meth c H locs lsA R hH hS hL)
theorem Go.i2c {a v : Int32} (hd : decode y.2.1 pc = .ok (.i2c, 1)) (hv : (a.toUInt32 % 65536).toInt32 = v) (k : Go y d (pc + 1) ls (.int v :: st) σ Q) : Go y d pc ls (.int a :: st) σ Q :=
  fun l G p e s m args below meth c H locs lsA R hH hS hL => lv_i2c R.1 R.2.1 hd hv (k l G p e s m args below meth c H locs lsA R hH hS hL)
theorem Go.dup {v : Value} (hd : decode y.2.1 pc = .ok (.dup, 1)) (hv : v.category = 1) (k : Go y d (pc + 1) ls (v :: v :: st) σ Q) : Go y d pc ls (v :: st) σ Q :=
  fun l G p e s m args below meth c H locs lsA R hH hS hL => lv_dup R.1 R.2.1 hd ((ptr_cat _ v).trans hv) (k l G p e s m args below meth c H locs lsA R hH hS hL)
theorem Go.dup2 {v w : Value} (hd : decode y.2.1 pc = .ok (.dup2, 1)) (hv : v.category = 1) (hw : w.category = 1) (k : Go y d (pc + 1) ls (v :: w :: v :: w :: st) σ Q) : Go y d pc ls (v :: w :: st) σ Q :=
  fun l G p e s m args below meth c H locs lsA R hH hS hL => lv_dup2_11 R.1 R.2.1 hd ((ptr_cat _ v).trans hv) ((ptr_cat _ w).trans hw) (k l G p e s m args below meth c H locs lsA R hH hS hL)
theorem Go.pop {v : Value} (hd : decode y.2.1 pc = .ok (.pop, 1)) (hv : v.category = 1) (k : Go y d (pc + 1) ls st σ Q) : Go y d pc ls (v :: st) σ Q :=
  fun l G p e s m args below meth c H locs lsA R hH hS hL => lv_pop R.1 R.2.1 hd ((ptr_cat _ v).trans hv) (k l G p e s m args below meth c H locs lsA R hH hS hL)
theorem Go.goto {off : Int} (t : Nat) (hd : decode y.2.1 pc = .ok (.goto off, 3)) (ht : (pc : Int) + off = (t : Int)) (k : Go y d t ls st σ Q) : Go y d pc ls st σ Q :=
  fun l G p e s m args below meth c H locs lsA R hH hS hL => lv_goto R.1 R.2.1 hd ht (k l G p e s m args below meth c H locs lsA R hH hS hL)
theorem Go.if_eq {x : Int32} {off : Int} (t : Nat) (hd : decode y.2.1 pc = .ok (.ifCond .eq off, 3)) (ht : (pc : Int) + off = (t : Int)) (k : (x = 0 → Go y d t ls st σ Q) ∧ (¬ x = 0 → Go y d (pc + 3) ls st σ Q)) : Go y d pc ls (.int x :: st) σ Q :=
  fun l G p e s m args below meth c H locs lsA R hH hS hL => lv_if_eq R.1 R.2.1 hd ht (fun q => k.1 q l G p e s m args below meth c H locs lsA R hH hS hL) (fun q => k.2 q l G p e s m args below meth c H locs lsA R hH hS hL)
theorem Go.icmp_eq {x y0 : Int32} {off : Int} (t : Nat) (hd : decode y.2.1 pc = .ok (.if_icmp .eq off, 3)) (ht : (pc : Int) + off = (t : Int)) (k : (x = y0 → Go y d t ls st σ Q) ∧ (¬ x = y0 → Go y d (pc + 3) ls st σ Q)) : Go y d pc ls (.int y0 :: .int x :: st) σ Q :=
  fun l G p e s m args below meth c H locs lsA R hH hS hL => lv_icmp_eq R.1 R.2.1 hd ht (fun q => k.1 q l G p e s m args below meth c H locs lsA R hH hS hL) (fun q => k.2 q l G p e s m args below meth c H locs lsA R hH hS hL)
theorem Go.if_ne {x : Int32} {off : Int} (t : Nat) (hd : decode y.2.1 pc = .ok (.ifCond .ne off, 3)) (ht : (pc : Int) + off = (t : Int)) (k : (¬ x = 0 → Go y d t ls st σ Q) ∧ (x = 0 → Go y d (pc + 3) ls st σ Q)) : Go y d pc ls (.int x :: st) σ Q :=
  fun l G p e s m args below meth c H locs lsA R hH hS hL => lv_if_ne R.1 R.2.1 hd ht (fun q => k.1 q l G p e s m args below meth c H locs lsA R hH hS hL) (fun q => k.2 q l G p e s m args below meth c H locs lsA R hH hS hL)
theorem Go.icmp_ne {x y0 : Int32} {off : Int} (t : Nat) (hd : decode y.2.1 pc = .ok (.if_icmp .ne off, 3)) (ht : (pc : Int) + off = (t : Int)) (k : (¬ x = y0 → Go y d t ls st σ Q) ∧ (x = y0 → Go y d (pc + 3) ls st σ Q)) : Go y d pc ls (.int y0 :: .int x :: st) σ Q :=
  fun l G p e s m args below meth c H locs lsA R hH hS hL => lv_icmp_ne R.1 R.2.1 hd ht (fun q => k.1 q l G p e s m args below meth c H locs lsA R hH hS hL) (fun q => k.2 q l G p e s m args below meth c H locs lsA R hH hS hL)
theorem Go.if_lt {x : Int32} {off : Int} (t : Nat) (hd : decode y.2.1 pc = .ok (.ifCond .lt off, 3)) (ht : (pc : Int) + off = (t : Int)) (k : (x < 0 → Go y d t ls st σ Q) ∧ (¬ x < 0 → Go y d (pc + 3) ls st σ Q)) : Go y d pc ls (.int x :: st) σ Q :=
  fun l G p e s m args below meth c H locs lsA R hH hS hL => lv_if_lt R.1 R.2.1 hd ht (fun q => k.1 q l G p e s m args below meth c H locs lsA R hH hS hL) (fun q => k.2 q l G p e s m args below meth c H locs lsA R hH hS hL)
theorem Go.icmp_lt {x y0 : Int32} {off : Int} (t : Nat) (hd : decode y.2.1 pc = .ok (.if_icmp .lt off, 3)) (ht : (pc : Int) + off = (t : Int)) (k : (x < y0 → Go y d t ls st σ Q) ∧ (¬ x < y0 → Go y d (pc + 3) ls st σ Q)) : Go y d pc ls (.int y0 :: .int x :: st) σ Q :=
  fun l G p e s m args below meth c H locs lsA R hH hS hL => lv_icmp_lt R.1 R.2.1 hd ht (fun q => k.1 q l G p e s m args below meth c H locs lsA R hH hS hL) (fun q => k.2 q l G p e s m args below meth c H locs lsA R hH hS hL)
theorem Go.if_ge {x : Int32} {off : Int} (t : Nat) (hd : decode y.2.1 pc = .ok (.ifCond .ge off, 3)) (ht : (pc : Int) + off = (t : Int)) (k : (0 ≤ x → Go y d t ls st σ Q) ∧ (¬ 0 ≤ x → Go y d (pc + 3) ls st σ Q)) : Go y d pc ls (.int x :: st) σ Q :=
  fun l G p e s m args below meth c H locs lsA R hH hS hL => lv_if_ge R.1 R.2.1 hd ht (fun q => k.1 q l G p e s m args below meth c H locs lsA R hH hS hL) (fun q => k.2 q l G p e s m args below meth c H locs lsA R hH hS hL)
theorem Go.icmp_ge {x y0 : Int32} {off : Int} (t : Nat) (hd : decode y.2.1 pc = .ok (.if_icmp .ge off, 3)) (ht : (pc : Int) + off = (t : Int)) (k : (y0 ≤ x → Go y d t ls st σ Q) ∧ (¬ y0 ≤ x → Go y d (pc + 3) ls st σ Q)) : Go y d pc ls (.int y0 :: .int x :: st) σ Q :=
  fun l G p e s m args below meth c H locs lsA R hH hS hL => lv_icmp_ge R.1 R.2.1 hd ht (fun q => k.1 q l G p e s m args below meth c H locs lsA R hH hS hL) (fun q => k.2 q l G p e s m args below meth c H locs lsA R hH hS hL)
theorem Go.if_gt {x : Int32} {off : Int} (t : Nat) (hd : decode y.2.1 pc = .ok (.ifCond .gt off, 3)) (ht : (pc : Int) + off = (t : Int)) (k : (0 < x → Go y d t ls st σ Q) ∧ (¬ 0 < x → Go y d (pc + 3) ls st σ Q)) : Go y d pc ls (.int x :: st) σ Q :=
  fun l G p e s m args below meth c H locs lsA R hH hS hL => lv_if_gt R.1 R.2.1 hd ht (fun q => k.1 q l G p e s m args below meth c H locs lsA R hH hS hL) (fun q => k.2 q l G p e s m args below meth c H locs lsA R hH hS hL)
theorem Go.icmp_gt {x y0 : Int32} {off : Int} (t : Nat) (hd : decode y.2.1 pc = .ok (.if_icmp .gt off, 3)) (ht : (pc : Int) + off = (t : Int)) (k : (y0 < x → Go y d t ls st σ Q) ∧ (¬ y0 < x → Go y d (pc + 3) ls st σ Q)) : Go y d pc ls (.int y0 :: .int x :: st) σ Q :=
  fun l G p e s m args below meth c H locs lsA R hH hS hL => lv_icmp_gt R.1 R.2.1 hd ht (fun q => k.1 q l G p e s m args below meth c H locs lsA R hH hS hL) (fun q => k.2 q l G p e s m args below meth c H locs lsA R hH hS hL)
theorem Go.if_le {x : Int32} {off : Int} (t : Nat) (hd : decode y.2.1 pc = .ok (.ifCond .le off, 3)) (ht : (pc : Int) + off = (t : Int)) (k : (x ≤ 0 → Go y d t ls st σ Q) ∧ (¬ x ≤ 0 → Go y d (pc + 3) ls st σ Q)) : Go y d pc ls (.int x :: st) σ Q :=
  fun l G p e s m args below meth c H locs lsA R hH hS hL => lv_if_le R.1 R.2.1 hd ht (fun q => k.1 q l G p e s m args below meth c H locs lsA R hH hS hL) (fun q => k.2 q l G p e s m args below meth c H locs lsA R hH hS hL)
theorem Go.icmp_le {x y0 : Int32} {off : Int} (t : Nat) (hd : decode y.2.1 pc = .ok (.if_icmp .le off, 3)) (ht : (pc : Int) + off = (t : Int)) (k : (x ≤ y0 → Go y d t ls st σ Q) ∧ (¬ x ≤ y0 → Go y d (pc + 3) ls st σ Q)) : Go y d pc ls (.int y0 :: .int x :: st) σ Q :=
  fun l G p e s m args below meth c H locs lsA R hH hS hL => lv_icmp_le R.1 R.2.1 hd ht (fun q => k.1 q l G p e s m args below meth c H locs lsA R hH hS hL) (fun q => k.2 q l G p e s m args below meth c H locs lsA R hH hS hL)
end GO
end
section
/-! the rows of PM's logic: fields, rows, calls, ends -/
def fldOK (own : String) (idx ci k N : Nat) : Prop := ∃ (C : String) (T : u_T), vwCl[ci]? = some (C, T, N) ∧ k < N ∧ (∀ w ∈ u_ws C T N, w ∈ tbg) ∧ Cond.fieldLink own idx (T k).1 (T k).2.1 (T k).2.2.1 ∈ tbg
def fputOK (own : String) (idx ci k N : Nat) (ty : FieldType) : Prop := ∃ (C : String) (T : u_T) (ty0 : Nat → FieldType), vwCl[ci]? = some (C, T, N) ∧ k < N ∧ (∀ w ∈ u_ws C T N, w ∈ tbg) ∧ Cond.fieldLink own idx (T k).1 (T k).2.1 (T k).2.2.1 ∈ tbg ∧
  (∀ k, k < N → parseFieldDescriptor (T k).2.2.1 = some (ty0 k)) ∧ (∀ a, a < N → ∀ b, b < N → a ≠ b → (T a).2.1 ≠ (T b).2.1) ∧ (T k).2.2.2 = false ∧ parseFieldDescriptor (T k).2.2.1 = some ty
theorem pm_obj {G : GC} {σ : St} {a ci N : Nat} (hs : shp[a]? = some (0, ci, N)) : (pm_W G σ)[a]? = some (G.2.2 a, .inr (ci, (List.range N).map (pm_fld G.2.2 a σ))) := by
  rw [pm_getS hs]
  unfold pm_cell
  rw [hs]
  rfl
theorem pm_row {G : GC} {σ : St} {a t n : Nat} (hs : shp[a]? = some (1, t, n)) : (pm_W G σ)[a]? = some (G.2.2 a, .inl (G.2.1 t, n, .inl (sA σ a))) := by
  rw [pm_getS hs]
  unfold pm_cell
  rw [hs]
  rfl
theorem pm_fldAt {ad : Nat → Nat} {σ : St} {a k N : Nat} (hk : k < N) : ((List.range N).map (pm_fld ad a σ))[k]? = some (pm_fld ad a σ k) := by
  simp [List.getElem?_map, List.getElem?_range hk]
section HEAP
variable {y : MI} {d pc : Nat} {ls st : List Value} {σ : St} {Q : Option Value → St → Prop}
theorem Go.getI {a idx ci k N : Nat} (hf : fldOK y.1.cls idx ci k N) (hs : shp[a]? = some (0, ci, N)) (hr : FR a k = none) (hd : decode y.2.1 pc = .ok (.getfield idx, 3)) (kk : Go y d (pc + 3) ls (.int (sF σ a k) :: st) σ Q) : Go y d pc ls (.ref a :: st) σ Q := by
  intro l G p e s m args below meth c H locs lsA R hH hS hL
  obtain ⟨C, T, hc, hk, hin, hln⟩ := hf
  obtain ⟨hx, hb, hret, hml, hown, hts, hlocks, hK, hinj, hN⟩ := id R
  refine va_get hx hb hts hin hown hK hH.1 a (pm_obj hs) hc k hk (hts _ hln) (fun _ h => h) (pm_fldAt hk) hd ?_
  have h := kk l G p e s m args below meth c H locs lsA R hH hS hL
  have e1 : pm_fld G.2.2 a σ k = .int (sF σ a k) := by unfold pm_fld; rw [hr]
  rw [e1]
  exact h
theorem Go.getR {a q idx ci k N : Nat} (hf : fldOK y.1.cls idx ci k N) (hs : shp[a]? = some (0, ci, N)) (hr : FR a k = some q) (hd : decode y.2.1 pc = .ok (.getfield idx, 3)) (kk : Go y d (pc + 3) ls (.ref q :: st) σ Q) : Go y d pc ls (.ref a :: st) σ Q := by
  intro l G p e s m args below meth c H locs lsA R hH hS hL
  obtain ⟨C, T, hc, hk, hin, hln⟩ := hf
  obtain ⟨hx, hb, hret, hml, hown, hts, hlocks, hK, hinj, hN⟩ := id R
  refine va_get hx hb hts hin hown hK hH.1 a (pm_obj hs) hc k hk (hts _ hln) (fun _ h => h) (pm_fldAt hk) hd ?_
  have h := kk l G p e s m args below meth c H locs lsA R hH hS hL
  have e1 : pm_fld G.2.2 a σ k = .ref (G.2.2 q) := by unfold pm_fld; rw [hr]
  rw [e1]
  exact h
theorem Go.put {a idx ci k N : Nat} {ty : FieldType} {x : Int32} (hf : fputOK y.1.cls idx ci k N ty) (hn : narrow ty (.int x) = .int x) (hfit : fits ty (.int x) = true) (hs : shp[a]? = some (0, ci, N)) (hr : FR a k = none) (hd : decode y.2.1 pc = .ok (.putfield idx, 3)) (kk : Go y d (pc + 3) ls st (setF σ a k x) Q) : Go y d pc ls (.int x :: .ref a :: st) σ Q := by
  intro l G p e s m args below meth c H locs lsA R hH hS hL
  obtain ⟨C, T, ty0, hc, hk, hin, hln, hty, hnm, hfin, hpd⟩ := hf
  obtain ⟨hx, hb, hret, hml, hown, hts, hlocks, hK, hinj, hN⟩ := id R
  refine va_put hx hb hts hin ty0 hty hnm hown hK hH.1 (pm_D hinj σ) hS a (pm_obj hs) hc k hk (hts _ hln) (fun _ h => h) hfin hpd hn hfit (by simp; exact hk) hd (fun H1 locs1 hP1 _ hS1 => ?_)
  have hP1 : va_P G.1 vwCl ((pm_W G σ).set a (G.2.2 a, .inr (ci, ((List.range N).map (pm_fld G.2.2 a σ)).set k (.int x)))) H1 := hP1
  rw [pm_setF hs hk hr] at hP1
  exact kk l G p e s m args below meth c H1 locs1 lsA R ⟨hP1, fun k n h j => hH.2 k n h j⟩ hS1 hL
theorem Go.putI {a idx ci k N : Nat} {x : Int32} (hf : fputOK y.1.cls idx ci k N .int) (hs : shp[a]? = some (0, ci, N)) (hr : FR a k = none) (hd : decode y.2.1 pc = .ok (.putfield idx, 3)) (kk : Go y d (pc + 3) ls st (setF σ a k x) Q) : Go y d pc ls (.int x :: .ref a :: st) σ Q :=
  Go.put hf rfl rfl hs hr hd kk
theorem bool_fit {x : Int32} (h : x = 0 ∨ x = 1) : narrow .boolean (.int x) = .int x ∧ fits .boolean (.int x) = true := by
  rcases h with rfl | rfl <;> exact ⟨rfl, rfl⟩
theorem Go.putZ {a idx ci k N : Nat} {x : Int32} (hv : x = 0 ∨ x = 1) (hf : fputOK y.1.cls idx ci k N .boolean) (hs : shp[a]? = some (0, ci, N)) (hr : FR a k = none) (hd : decode y.2.1 pc = .ok (.putfield idx, 3)) (kk : Go y d (pc + 3) ls st (setF σ a k x) Q) : Go y d pc ls (.int x :: .ref a :: st) σ Q :=
  Go.put hf (bool_fit hv).1 (bool_fit hv).2 hs hr hd kk
abbrev ix (i : Int32) : Nat := i.toNatClampNeg
theorem Go.iald {q n : Nat} {i : Int32} (hs : shp[q]? = some (1, 0, n)) (hd : decode y.2.1 pc = .ok (.iaload, 1)) (kk : vp_in i n ∧ Go y d (pc + 1) ls (.int (sA σ q (ix i)) :: st) σ Q) : Go y d pc ls (.int i :: .ref q :: st) σ Q := by
  intro l G p e s m args below meth c H locs lsA R hH hS hL
  exact va_iald R.1 R.2.1 R.2.2.2.2.2.2.2.1 hH.1 q 0 (pm_row hs) rfl kk.1 hd (kk.2 l G p e s m args below meth c H locs lsA R hH hS hL)
theorem Go.zald {q n : Nat} {i : Int32} (hs : shp[q]? = some (1, 1, n)) (hd : decode y.2.1 pc = .ok (.baload, 1)) (kk : vp_in i n ∧ Go y d (pc + 1) ls (.int (sA σ q (ix i)) :: st) σ Q) : Go y d pc ls (.int i :: .ref q :: st) σ Q := by
  intro l G p e s m args below meth c H locs lsA R hH hS hL
  exact va_zald R.1 R.2.1 R.2.2.2.2.2.2.2.1 hH.1 q 1 (pm_row hs) rfl kk.1 hd (kk.2 l G p e s m args below meth c H locs lsA R hH hS hL)
theorem Go.cald {q n : Nat} {i : Int32} (hs : shp[q]? = some (1, 2, n)) (hd : decode y.2.1 pc = .ok (.caload, 1)) (kk : vp_in i n ∧ Go y d (pc + 1) ls (.int (sA σ q (ix i)) :: st) σ Q) : Go y d pc ls (.int i :: .ref q :: st) σ Q := by
  intro l G p e s m args below meth c H locs lsA R hH hS hL
  exact va_cald R.1 R.2.1 R.2.2.2.2.2.2.2.1 hH.1 q 2 (pm_row hs) rfl kk.1 hd (kk.2 l G p e s m args below meth c H locs lsA R hH hS hL)
theorem shp_z {k n t m : Nat} (h : shp[k]? = some (1, t, n)) (h2 : shp[k]? = some (1, 1, m)) : t = 1 := by
  rw [h] at h2
  cases h2
  rfl
theorem pm_fit.setR {σ : St} {a t n : Nat} {g : Nat → Int32} (h : pm_fit σ) (hs : shp[a]? = some (1, t, n)) (hg : t = 1 → ∀ j, fits .boolean (.int (g j)) = true) : pm_fit (setR σ a g) := by
  intro k m hk j
  show fits .boolean (.int ((if k = a then g else sA σ k) j)) = true
  rcases Nat.decEq k a with hne | rfl
  · rw [if_neg hne]
    exact h k m hk j
  · rw [if_pos rfl]
    exact hg (shp_z hs hk) j
theorem Go.iast {q n : Nat} {i x : Int32} (hs : shp[q]? = some (1, 0, n)) (hd : decode y.2.1 pc = .ok (.iastore, 1)) (kk : vp_in i n ∧ Go y d (pc + 1) ls st (setA σ q (ix i) x) Q) : Go y d pc ls (.int x :: .int i :: .ref q :: st) σ Q := by
  intro l G p e s m args below meth c H locs lsA R hH hS hL
  refine va_iast R.1 R.2.1 R.2.2.2.2.2.2.2.1 hH.1 (pm_D R.2.2.2.2.2.2.2.2.1 σ) hS q 0 (pm_row hs) rfl kk.1 hd (fun H1 locs1 hP1 _ hS1 => ?_)
  rw [pm_setR hs] at hP1
  exact kk.2 l G p e s m args below meth c H1 locs1 lsA R ⟨hP1, hH.2.setR hs (fun h => by cases h)⟩ hS1 hL
/-- what a char row, a boolean row keeps of a number -/
abbrev nch (x : Int32) : Int32 := vp_nar .char x
abbrev nbo (x : Int32) : Int32 := vp_nar .boolean x
theorem Go.cast {q n : Nat} {i x : Int32} (hs : shp[q]? = some (1, 2, n)) (hd : decode y.2.1 pc = .ok (.castore, 1)) (kk : vp_in i n ∧ Go y d (pc + 1) ls st (setA σ q (ix i) (nch x)) Q) : Go y d pc ls (.int x :: .int i :: .ref q :: st) σ Q := by
  intro l G p e s m args below meth c H locs lsA R hH hS hL
  refine va_cast R.1 R.2.1 R.2.2.2.2.2.2.2.1 hH.1 (pm_D R.2.2.2.2.2.2.2.2.1 σ) hS q 2 (pm_row hs) rfl kk.1 hd (fun H1 locs1 hP1 _ hS1 => ?_)
  rw [pm_setR hs] at hP1
  exact kk.2 l G p e s m args below meth c H1 locs1 lsA R ⟨hP1, hH.2.setR hs (fun h => by cases h)⟩ hS1 hL
theorem nbo_fit (x : Int32) : fits .boolean (.int (nbo x)) = true := by
  show (x &&& 1 == 0 || x &&& 1 == 1) = true
  have h : x &&& 1 = 0 ∨ x &&& 1 = 1 := by
    obtain ⟨j, hj, e⟩ := pk_andE x (m := 1) 1 (by decide)
    rw [e]
    rcases (show j = 0 ∨ j = 1 by omega) with rfl | rfl
    · left; rfl
    · right; rfl
  rcases h with h | h <;> rw [h] <;> rfl
theorem Go.zast {q n : Nat} {i x : Int32} (hs : shp[q]? = some (1, 1, n)) (hd : decode y.2.1 pc = .ok (.bastore, 1)) (kk : vp_in i n ∧ Go y d (pc + 1) ls st (setA σ q (ix i) (nbo x)) Q) : Go y d pc ls (.int x :: .int i :: .ref q :: st) σ Q := by
  intro l G p e s m args below meth c H locs lsA R hH hS hL
  refine va_zast R.1 R.2.1 R.2.2.2.2.2.2.2.1 hH.1 (pm_D R.2.2.2.2.2.2.2.2.1 σ) hS q 1 (pm_row hs) rfl kk.1 hd (fun H1 locs1 hP1 _ hS1 => ?_)
  rw [pm_setR hs] at hP1
  refine kk.2 l G p e s m args below meth c H1 locs1 lsA R ⟨hP1, hH.2.setR hs (fun _ j => ?_)⟩ hS1 hL
  unfold upd
  by_cases h : j = ix i
  · rw [if_pos h]; exact nbo_fit x
  · rw [if_neg h]; exact hH.2 q n hs j
theorem Go.alen {q t n : Nat} {v : Int32} (hs : shp[q]? = some (1, t, n)) (ht : t < 3) (hv : Int32.ofNat n = v) (hd : decode y.2.1 pc = .ok (.arraylength, 1)) (kk : Go y d (pc + 1) ls (.int v :: st) σ Q) : Go y d pc ls (.ref q :: st) σ Q := by
  intro l G p e s m args below meth c H locs lsA R hH hS hL
  have h := kk l G p e s m args below meth c H locs lsA R hH hS hL
  match t, ht with
  | 0, _ => exact va_alen R.1 R.2.1 R.2.2.2.2.2.2.2.1 hH.1 q 0 (pm_row hs) (ty := .int) rfl hv hd h
  | 1, _ => exact va_alen R.1 R.2.1 R.2.2.2.2.2.2.2.1 hH.1 q 1 (pm_row hs) (ty := .boolean) rfl hv hd h
  | 2, _ => exact va_alen R.1 R.2.1 R.2.2.2.2.2.2.2.1 hH.1 q 2 (pm_row hs) (ty := .char) rfl hv hd h
theorem Go.alenL {v : Int32} (hv : Int32.ofNat 44 = v) (hd : decode y.2.1 pc = .ok (.arraylength, 1)) (kk : Go y d (pc + 1) ls (.int v :: st) σ Q) : Go y d pc ls (.ref 61 :: st) σ Q := by
  intro l G p e s m args below meth c H locs lsA R hH hS hL
  exact va_alen R.1 R.2.1 R.2.2.2.2.2.2.2.1 hH.1 61 3 (pm_get (by decide)) (ty := .long) rfl hv hd (kk l G p e s m args below meth c H locs lsA R hH hS hL)
theorem Go.alenP {v : Int32} (hv : Int32.ofNat 4 = v) (hd : decode y.2.1 pc = .ok (.arraylength, 1)) (kk : Go y d (pc + 1) ls (.int v :: st) σ Q) : Go y d pc ls (.ref 19 :: st) σ Q := by
  intro l G p e s m args below meth c H locs lsA R hH hS hL
  exact va_alen R.1 R.2.1 R.2.2.2.2.2.2.2.1 hH.1 19 4 (pm_get (by decide)) (ty := .object "EchoTurns$Scene") rfl hv hd (kk l G p e s m args below meth c H locs lsA R hH hS hL)
theorem Go.lald {i : Int32} (hd : decode y.2.1 pc = .ok (.laload, 1)) (kk : vp_in i 44 ∧ Go y d (pc + 1) ls (.long (sL σ (ix i)) :: st) σ Q) : Go y d pc ls (.int i :: .ref 61 :: st) σ Q := by
  intro l G p e s m args below meth c H locs lsA R hH hS hL
  exact va_lald R.1 R.2.1 R.2.2.2.2.2.2.2.1 hH.1 61 3 (pm_get (by decide)) rfl kk.1 hd (kk.2 l G p e s m args below meth c H locs lsA R hH hS hL)
theorem Go.last {i : Int32} {x : Int64} (hd : decode y.2.1 pc = .ok (.lastore, 1)) (kk : vp_in i 44 ∧ Go y d (pc + 1) ls st (setL σ (ix i) x) Q) : Go y d pc ls (.long x :: .int i :: .ref 61 :: st) σ Q := by
  intro l G p e s m args below meth c H locs lsA R hH hS hL
  refine va_last R.1 R.2.1 R.2.2.2.2.2.2.2.1 hH.1 (pm_D R.2.2.2.2.2.2.2.2.1 σ) hS 61 3 (pm_get (by decide)) rfl kk.1 hd (fun H1 locs1 hP1 _ hS1 => ?_)
  have hP1 : va_P G.1 vwCl ((pm_W G σ).set 61 (G.2.2 61, .inl (G.2.1 3, 44, .inr (.inl (vp_updL (sL σ) (ix i) x))))) H1 := hP1
  rw [pm_setL] at hP1
  exact kk.2 l G p e s m args below meth c H1 locs1 lsA R ⟨hP1, hH.2⟩ hS1 hL
theorem Go.aald {i : Int32} (hd : decode y.2.1 pc = .ok (.aaload, 1)) (kk : vp_in i 4 ∧ Go y d (pc + 1) ls (.ref (sP σ (ix i)) :: st) σ Q) : Go y d pc ls (.int i :: .ref 19 :: st) σ Q := by
  intro l G p e s m args below meth c H locs lsA R hH hS hL
  exact va_aldq R.1 R.2.1 R.2.2.2.2.2.2.2.1 hH.1 19 4 (pm_get (by decide)) rfl kk.1 hd (kk.2 l G p e s m args below meth c H locs lsA R hH hS hL)
theorem Go.aast {i : Int32} {v : Nat} (hv : shp[v]? = some (0, 3, 9)) (hd : decode y.2.1 pc = .ok (.aastore, 1)) (kk : vp_in i 4 ∧ Go y d (pc + 1) ls st (setP σ (ix i) v) Q) : Go y d pc ls (.ref v :: .int i :: .ref 19 :: st) σ Q := by
  intro l G p e s m args below meth c H locs lsA R hH hS hL
  refine va_astq R.1 R.2.1 R.2.2.2.2.2.2.2.1 hH.1 (pm_D R.2.2.2.2.2.2.2.2.1 σ) hS 19 4 v 3 (pm_get (by decide)) (r := (RX3, TX3, 9)) rfl (pm_obj hv) rfl kk.1 hd (fun H1 locs1 hP1 _ hS1 => ?_)
  have hP1 : va_P G.1 vwCl ((pm_W G σ).set 19 (G.2.2 19, .inl (G.2.1 4, 4, .inr (.inr (.inr (.inr (va_up (fun j => some (G.2.2 (sP σ j))) (ix i) (some (G.2.2 v))))))))) H1 := hP1
  rw [pm_setP] at hP1
  exact kk.2 l G p e s m args below meth c H1 locs1 lsA R ⟨hP1, hH.2⟩ hS1 hL
theorem Go.lconst {n : Fin 2} {v : Int64} (hd : decode y.2.1 pc = .ok (.lconst n, 1)) (hv : Int64.ofNat (n : Nat) = v) (k : Go y d (pc + 1) ls (.long v :: st) σ Q) : Go y d pc ls st σ Q :=
  fun l G p e s m args below meth c H locs lsA R hH hS hL => lv_lconst R.1 R.2.1 hd hv (k l G p e s m args below meth c H locs lsA R hH hS hL)
theorem Go.lshl {x v : Int64} {i : Int32} (hd : decode y.2.1 pc = .ok (.lshl, 1)) (hv : x <<< (i.toInt64 &&& 63) = v) (k : Go y d (pc + 1) ls (.long v :: st) σ Q) : Go y d pc ls (.int i :: .long x :: st) σ Q :=
  fun l G p e s m args below meth c H locs lsA R hH hS hL => lv_lshl R.1 R.2.1 hd hv (k l G p e s m args below meth c H locs lsA R hH hS hL)
theorem Go.lshr {x v : Int64} {i : Int32} (hd : decode y.2.1 pc = .ok (.lshr, 1)) (hv : x >>> (i.toInt64 &&& 63) = v) (k : Go y d (pc + 1) ls (.long v :: st) σ Q) : Go y d pc ls (.int i :: .long x :: st) σ Q :=
  fun l G p e s m args below meth c H locs lsA R hH hS hL => lv_lshr R.1 R.2.1 hd hv (k l G p e s m args below meth c H locs lsA R hH hS hL)
theorem Go.lor {a b : Int64} (hd : decode y.2.1 pc = .ok (.lor, 1)) (k : Go y d (pc + 1) ls (.long (a ||| b) :: st) σ Q) : Go y d pc ls (.long b :: .long a :: st) σ Q :=
  fun l G p e s m args below meth c H locs lsA R hH hS hL => lv_lor R.1 R.2.1 hd (k l G p e s m args below meth c H locs lsA R hH hS hL)
theorem Go.land {a b : Int64} (hd : decode y.2.1 pc = .ok (.land, 1)) (k : Go y d (pc + 1) ls (.long (a &&& b) :: st) σ Q) : Go y d pc ls (.long b :: .long a :: st) σ Q :=
  fun l G p e s m args below meth c H locs lsA R hH hS hL => lv_land R.1 R.2.1 hd (k l G p e s m args below meth c H locs lsA R hH hS hL)
theorem Go.lcmp {a b : Int64} (hd : decode y.2.1 pc = .ok (.lcmp, 1)) (k : Go y d (pc + 1) ls (.int (lg_cmp a b) :: st) σ Q) : Go y d pc ls (.long b :: .long a :: st) σ Q :=
  fun l G p e s m args below meth c H locs lsA R hH hS hL => W.lcmp R.1 R.2.1 hd (k l G p e s m args below meth c H locs lsA R hH hS hL)
theorem Go.iret {v : Int32} (hr : y.2.2.2 = some .int) (hd : decode y.2.1 pc = .ok (.ireturn, 1)) (k : Q (some (.int v)) σ) : Go y d pc ls [.int v] σ Q := by
  intro l G p e s m args below meth c H locs lsA R hH hS hL
  have hlocks := R.2.2.2.2.2.2.1
  exact W.iret R.1 R.2.1 (R.2.2.1.trans hr) (fun t ht _ => ⟨⟨some (.int v), σ, rfl, k, by rw [ht]; exact hH⟩, hS.F ht⟩) hS.2.2 hd
theorem Go.zret {v : Int32} {ty : FieldType} (hr : y.2.2.2 = some ty) (hn : narrow ty (.int v) = .int v) (hd : decode y.2.1 pc = .ok (.ireturn, 1)) (k : Q (some (.int v)) σ) : Go y d pc ls [.int v] σ Q := by
  intro l G p e s m args below meth c H locs lsA R hH hS hL
  have hlocks := R.2.2.2.2.2.2.1
  exact W.zret R.1 R.2.1 (R.2.2.1.trans hr) hn (fun t ht _ => ⟨⟨some (.int v), σ, rfl, k, by rw [ht]; exact hH⟩, hS.F ht⟩) hS.2.2 hd
theorem Go.vret (hr : y.2.2.2 = none) (hd : decode y.2.1 pc = .ok (.return_, 1)) (k : Q none σ) : Go y d pc ls [] σ Q := by
  intro l G p e s m args below meth c H locs lsA R hH hS hL
  have hlocks := R.2.2.2.2.2.2.1
  exact W.vret R.1 R.2.1 (R.2.2.1.trans hr) (fun t ht _ => ⟨⟨none, σ, rfl, k, by rw [ht]; exact hH⟩, hS.F ht⟩) hS.2.2 hd
end HEAP
end
section
/-! calls, switches, copies, entries -/
theorem wsAll : ∀ w ∈ tbg, (w.onTables && w.keeps) = true ∨ ∃ ty, w = .arrayClass ty := fun _ hw => good_of_word (List.mem_filter.mp hw).2
def mOKV (y : MI) (ci n : Nat) : Prop := Cond.instanceMethod y.1 ∈ tbg ∧ Cond.selects y.1.cls y.1 y.1 ∈ tbg ∧ Cond.initialized y.1.cls ∈ tbg ∧ Cond.code y.1 y.2.1 y.2.2.1 y.2.2.2 ∈ tbg ∧ (∃ q, vwCl[ci]? = some q ∧ q.1 = y.1.cls) ∧ (y.1.cls ≠ "java/lang/invoke/MethodHandle" ∧ y.1.cls ≠ "java/lang/invoke/VarHandle") ∧ (parseMethodDescriptor y.1.desc).map (fun d => d.parameters.length) = some n ∧ y.2.2.1 ≤ 12
def mOKS (y : MI) (n : Nat) : Prop := Cond.static y.1 ∈ tbg ∧ Cond.initialized y.1.cls ∈ tbg ∧ Cond.code y.1 y.2.1 y.2.2.1 y.2.2.2 ∈ tbg ∧ (y.1.cls ≠ "java/lang/invoke/MethodHandle" ∧ y.1.cls ≠ "java/lang/invoke/VarHandle") ∧ (parseMethodDescriptor y.1.desc).map (fun d => d.parameters.length) = some n ∧ y.2.2.1 ≤ 12
theorem pm_blind (G : GC) (as : List Value) (σ : St) : FrameBlind (pm_P G as σ) := by
  intro a U g mk ⟨h1, h2, h3, h4, h5⟩
  exact ⟨h1, h2, va_K.moved (u := U) (U := U.calling g mk a) (Vm.Alike.refl U.vm) h3, h4, fun q hq => va_Nw.same rfl rfl (h5 q hq)⟩
theorem pm_words {y : MI} {args : Array Value} {s : State} (hts : ∀ w ∈ tbg, w.before args s = true) (hc : Cond.code y.1 y.2.1 y.2.2.1 y.2.2.2 ∈ tbg) : ∀ w ∈ wsz y, ∀ (a' : Array Value) (U : State), s.WarmedH U.vm → w.before a' U = true := by
  intro w hw a' U hW
  have hm : w ∈ tbg := by
    rcases List.mem_cons.mp hw with rfl | h
    · exact hc
    · exact h
  exact word_at hW (wsAll w hm) (hts w hm)
theorem lenOK {desc : String} {n : Nat} (h : (parseMethodDescriptor desc).map (fun d => d.parameters.length) = some n) : ∀ sig, parseMethodDescriptor desc = some sig → n = sig.parameters.length := by
  intro sig hs
  rw [hs] at h
  exact (Option.some.inj h).symm
theorem rm_le {m d : Nat} (h : m ≤ 12) : (rmz d).frames + 1 ≤ (rmz (d + 1)).frames ∧ 8 + (m + 11) + (rmz d).locals ≤ (rmz (d + 1)).locals := by
  refine ⟨Nat.le_refl _, ?_⟩
  show 8 + (m + 11) + 31 * d ≤ 31 * (d + 1)
  omega
section CALLS
variable {y y2 : MI} {d pc idx : Nat} {ls st : List Value} {σ : St} {Q Q2 : Option Value → St → Prop}
/-- behind a call -/
theorem pm_back {l : Launch} {G : GC} {p : Program} {e : Env} {s : State} {m : MethodId} {args : Array Value} {below : List Frame} {meth : Method} {c : Code} {H : Heap} {locs : List Loc} {lsA : Array Slot} {st0 : List Value} {a2 : Array Value}
    (hr : va_Run p l e (rmz (d + 1)) s m args below meth c H locs 0 0 0 0 (F0 m pc lsA st0) (st.map (ptr G.2.2)) (pm_Q G Q2 a2) (pm_A G))
    (R : pm_run y G p s m args meth c) (hS : va_S (pm_A G) s.heap H locs) (hL : pm_L G.2.2 lsA y.2.2.1 ls)
    (hk : ∀ r σ', Q2 r σ' → Go y (d + 1) (pc + 3) ls (r.toList ++ st) σ' Q) :
    W p l e (rmz (d + 1)) s m args below meth c H locs 0 0 (MQ below (pm_Q G Q) args s 0 0 (pm_A G)) (F0 m pc lsA st0) := by
  intro T hT X
  obtain ⟨v, st₀, t, T', L, h0, X', hLc, e1, e2, ⟨⟨r, σ', ho, hq, hH'⟩, hz, hkp⟩, stp⟩ := hr T hT X
  rw [h0] at hz hkp
  have hv : v = r.map (ptr G.2.2) := Outcome.returned.inj ho
  subst hv
  have hS1 : va_S (pm_A G) s.heap T'.heap (locs ++ L) := by
    refine ⟨Nat.le_trans hS.1 (by rw [e1]; exact hz), fun q h1 h2 => ?_, fun q hq => ?_⟩
    · rw [e1, hkp q (Nat.lt_of_lt_of_le h1 hS.1) h2]; exact hS.2.1 q h1 h2
    · rcases List.mem_append.mp hq with h | h
      · exact hS.2.2 q h
      · exact hLc q h
  have key := hk r σ' hq l G p e s m args below meth c T'.heap (locs ++ L) lsA R (by rw [e1]; exact hH') hS1 hL
  have hst : (r.toList ++ st).map (ptr G.2.2) = (r.map (ptr G.2.2)).toList ++ st.map (ptr G.2.2) := by cases r <;> rfl
  rw [hst] at key
  obtain ⟨t2, a1, b1⟩ := key T' rfl X'
  exact ⟨t2, stp t2 a1, b1⟩
theorem Go.callV {a ci n N : Nat} {as : List Value} {st0 : List Value} (hm : mOKV y2 ci n) (hl : Cond.methodLink y.1.cls idx y2.1 ∈ tbg) (hs : shp[a]? = some (0, ci, N)) (hst : st0 = as.reverse ++ .ref a :: st) (hn : as.length = n) (hw : (st.map fun v => v.category).sum ≤ 8) (hd : decode y.2.1 pc = .ok (.invokevirtual idx, 3))
    (hc : Call d y2 (.ref a :: as) σ Q2) (hk : ∀ r σ', Q2 r σ' → Go y (d + 1) (pc + 3) ls (r.toList ++ st) σ' Q) : Go y (d + 1) pc ls st0 σ Q := by
  subst hst
  intro l G p e s m args below meth c H locs lsA R hH hS hL
  obtain ⟨hx, hb, hret, hml, hown, hts, hlocks, hK, hinj, hN⟩ := id R
  obtain ⟨m1, m2, m3, m4, ⟨q, hq, hqc⟩, m6, m7, m8⟩ := hm
  have hrv := va_recv hK hH.1 hq (pm_obj hs)
  rw [hqc] at hrv
  have hCW : CallW (rmz (d + 1)) s args y.1.cls y2.1.cls idx y2.1 y2.2.1 y2.2.2.1 y2.2.2.2 (wsz y2) (rmz d) 0 0 n :=
    ⟨⟨rfl, rfl, (rm_le m8).1, (rm_le m8).2, pm_words hts m4, List.mem_cons_self, hts _ m4, hts _ m3, m6, lenOK m7, hts _ hl⟩, hts _ m1, hts _ m2⟩
  have hrun := va_runV (p := p) (l := l) (e := e) (R := rmz (d + 1)) (s := s) (m := m) (args := args) (below := below) (meth := meth) (c := c) (H := H) (locs := locs) (cells := 0) (slots := 0) (b := G.2.2 a) (As := as.map (ptr G.2.2)) (rest := st.map (ptr G.2.2)) (g := F0 m pc lsA ((as.reverse ++ .ref a :: st).map (ptr G.2.2)))
    ⟨hx, hb, hml, hown, hts⟩ (hc l G) hCW ⟨pm_blind G _ σ, hrv, fun U hU hW => ⟨rfl, by rw [hU]; exact hH, va_K.moved hW.alike hK, hinj, pm_N.warm hW hN⟩⟩ rfl (by rw [List.length_map]; exact hn) hL.1 (by simp [ptr]) (lv_room (by rw [ptr_cats]; exact hw)) hd ⟨Nat.le_refl _, Nat.le_refl _⟩
  exact pm_back hrun R hS hL hk
theorem Go.callS {n : Nat} {as : List Value} {st0 : List Value} (hm : mOKS y2 n) (hl : Cond.methodLink y.1.cls idx y2.1 ∈ tbg) (hst : st0 = as.reverse ++ st) (hn : as.length = n) (hw : (st.map fun v => v.category).sum ≤ 8) (hd : decode y.2.1 pc = .ok (.invokestatic idx, 3))
    (hc : Call d y2 as σ Q2) (hk : ∀ r σ', Q2 r σ' → Go y (d + 1) (pc + 3) ls (r.toList ++ st) σ' Q) : Go y (d + 1) pc ls st0 σ Q := by
  subst hst
  intro l G p e s m args below meth c H locs lsA R hH hS hL
  obtain ⟨hx, hb, hret, hml, hown, hts, hlocks, hK, hinj, hN⟩ := id R
  obtain ⟨m1, m3, m4, m6, m7, m8⟩ := hm
  have hCB : CallB (rmz (d + 1)) s args y.1.cls idx y2.1 y2.2.1 y2.2.2.1 y2.2.2.2 (wsz y2) (rmz d) 0 0 n ∧ (Cond.static y2.1).before args s = true :=
    ⟨⟨rfl, rfl, (rm_le m8).1, (rm_le m8).2, pm_words hts m4, List.mem_cons_self, hts _ m4, hts _ m3, m6, lenOK m7, hts _ hl⟩, hts _ m1⟩
  have hrun := va_runS (p := p) (l := l) (e := e) (R := rmz (d + 1)) (s := s) (m := m) (args := args) (below := below) (meth := meth) (c := c) (H := H) (locs := locs) (cells := 0) (slots := 0) (As := as.map (ptr G.2.2)) (rest := st.map (ptr G.2.2)) (g := F0 m pc lsA ((as.reverse ++ st).map (ptr G.2.2)))
    ⟨hx, hb, hml, hown, hts⟩ (hc l G) hCB ⟨pm_blind G _ σ, fun U hU hW => ⟨rfl, by rw [hU]; exact hH, va_K.moved hW.alike hK, hinj, pm_N.warm hW hN⟩⟩ rfl (by rw [List.length_map]; exact hn) hL.1 (by simp) (lv_room (by rw [ptr_cats]; exact hw)) hd ⟨Nat.le_refl _, Nat.le_refl _⟩
  exact pm_back hrun R hS hL hk
theorem Go.callSN {n : Nat} {host : String} {as : List Value} {st0 : List Value} (hm : mOKS y2 n) (hl : (y.1.cls, idx, y2.1, host) ∈ pmN) (hst : st0 = as.reverse ++ st) (hn : as.length = n) (hw : (st.map fun v => v.category).sum ≤ 8) (hd : decode y.2.1 pc = .ok (.invokestatic idx, 3))
    (hc : Call d y2 as σ Q2) (hk : ∀ r σ', Q2 r σ' → Go y (d + 1) (pc + 3) ls (r.toList ++ st) σ' Q) : Go y (d + 1) pc ls st0 σ Q := by
  subst hst
  intro l G p e s m args below meth c H locs lsA R hH hS hL
  obtain ⟨hx, hb, hret, hml, hown, hts, hlocks, hK, hinj, hN⟩ := id R
  obtain ⟨m1, m3, m4, m6, m7, m8⟩ := hm
  have hCB : va_CN (rmz (d + 1)) s args y.1.cls idx y2.1 host y2.2.1 y2.2.2.1 y2.2.2.2 (wsz y2) (rmz d) 0 0 n ∧ (Cond.static y2.1).before args s = true ∧ True :=
    ⟨⟨⟨rfl, rfl, (rm_le m8).1, (rm_le m8).2, pm_words hts m4, List.mem_cons_self⟩, hts _ m4, hts _ m3, m6, lenOK m7, va_Nw.use rfl (hN _ hl)⟩, hts _ m1, trivial⟩
  have hrun := va_runSN (p := p) (l := l) (e := e) (R := rmz (d + 1)) (s := s) (m := m) (args := args) (below := below) (meth := meth) (c := c) (H := H) (locs := locs) (cells := 0) (slots := 0) (As := as.map (ptr G.2.2)) (rest := st.map (ptr G.2.2)) (g := F0 m pc lsA ((as.reverse ++ st).map (ptr G.2.2)))
    ⟨hx, hb, hml, hown, hts⟩ (hc l G) hCB ⟨pm_blind G _ σ, fun U hU hW => ⟨rfl, by rw [hU]; exact hH, va_K.moved hW.alike hK, hinj, pm_N.warm hW hN⟩⟩ rfl (by rw [List.length_map]; exact hn) hL.1 (by simp) (lv_room (by rw [ptr_cats]; exact hw)) hd ⟨Nat.le_refl _, Nat.le_refl _⟩
  exact pm_back hrun R hS hL hk
end CALLS
theorem flatMap_len (ad : Nat → Nat) (as : List Value) : (as.flatMap (fun v => if v.category = 2 then [v, Value.null] else [v])).length = (lg_sl (as.map (ptr ad))).length := by
  induction as with
  | nil => rfl
  | cons v vs ih =>
    have e1 : lg_sl ((v :: vs).map (ptr ad)) = (if (ptr ad v).category = 2 then [Slot.val (ptr ad v), Slot.second] else [Slot.val (ptr ad v)]) ++ lg_sl (vs.map (ptr ad)) := rfl
    rw [e1, List.flatMap_cons, List.length_append, List.length_append, ih, ptr_cat]
    by_cases h : v.category = 2 <;> simp [h]
theorem ent_at1 (ad : Nat → Nat) (as : List Value) : ∀ (i : Nat) (v : Value), (as.flatMap (fun v => if v.category = 2 then [v, Value.null] else [v]))[i]? = some v → v ≠ .null → (lg_sl (as.map (ptr ad)))[i]? = some (.val (ptr ad v)) := by
  induction as with
  | nil => intro i v h; simp at h
  | cons w ws ih =>
    intro i v h hn
    have e1 : lg_sl ((w :: ws).map (ptr ad)) = (if (ptr ad w).category = 2 then [Slot.val (ptr ad w), Slot.second] else [Slot.val (ptr ad w)]) ++ lg_sl (ws.map (ptr ad)) := rfl
    rw [e1, ptr_cat]
    rw [List.flatMap_cons] at h
    by_cases hc : w.category = 2
    · rw [if_pos hc] at h ⊢
      match i, h with
      | 0, h => simp at h; subst h; rfl
      | 1, h => simp at h; exact absurd h.symm hn
      | j + 2, h => exact ih j v (by simpa using h) hn
    · rw [if_neg hc] at h ⊢
      match i, h with
      | 0, h => simp at h; subst h; rfl
      | j + 1, h => exact ih j v (by simpa using h) hn
theorem Call_of_Go {y : MI} {d : Nat} {as ls : List Value} {σ : St} {Q : Option Value → St → Prop} (hy : plainName y.1.cls = true) (hls : ent as y.2.2.1 = ls) (hlen : (as.flatMap (fun v => if v.category = 2 then [v, Value.null] else [v])).length ≤ y.2.2.1) (h : Go y d 0 ls [] σ Q) : Call d y as σ Q := by
  intro l G
  refine Met.ofW (cc := y.2.1) (maxL := y.2.2.1) (ret := y.2.2.2) hy rfl ?_
  intro p e s m args below meth c s₁ B hml hv
  obtain ⟨rfl, hH, hK, hinj, hN⟩ := hv
  have hts := atoms_spec (ws := wsz y) B.pre
  have hown : s.vm.findClass y.1.cls = some m.cls := findClass_of_methodNamed B.named
  rw [lg_entry_eq]
  have hlen2 : (lg_sl (as.map (ptr G.2.2))).length ≤ y.2.2.1 := by rw [← flatMap_len]; exact hlen
  have hl := lv_entry (as.map (ptr G.2.2)) (n := y.2.2.1) hlen2
  refine h l G p e s m _ below meth c s.heap [] _ ⟨B.exec, B.bytes, B.returns, hml, hown, fun w hw => hts w (List.mem_cons_of_mem _ hw), B.notSynchronized, hK, hinj, hN⟩ hH va_S.rf ⟨hl.1, hl.2.1, ?_, ?_⟩
  · rw [← hls]
    unfold ent
    rw [List.length_append, List.length_replicate]
    omega
  · intro i v hi hn
    rw [← hls] at hi
    unfold ent at hi
    rw [List.getElem?_toArray]
    rcases Nat.lt_or_ge i (as.flatMap (fun v : Value => if v.category = 2 then [v, Value.null] else [v])).length with hlt | hge
    · rw [List.getElem?_append_left hlt] at hi
      rw [List.getElem?_append_left (by rw [← flatMap_len]; exact hlt)]
      exact ent_at1 G.2.2 as i v hi hn
    · rw [List.getElem?_append_right hge] at hi
      exact absurd (List.eq_of_mem_replicate (List.mem_of_getElem? hi)) hn
/-- less is known of the locals -/
theorem Go.weak {y : MI} {d pc : Nat} {ls ls' st : List Value} {σ : St} {Q : Option Value → St → Prop} (hlen : ls'.length = ls.length) (h : ∀ (i : Nat) (v : Value), ls'[i]? = some v → v ≠ .null → ls[i]? = some v) (k : Go y d pc ls' st σ Q) : Go y d pc ls st σ Q :=
  fun l G p e s m args below meth c H locs lsA R hH hS hL => k l G p e s m args below meth c H locs lsA R hH hS ⟨hL.1, hL.2.1, hlen.trans hL.2.2.1, fun i v hi hn => hL.2.2.2 i v (h i v hi hn) hn⟩
/-- forget places of the locals -/
theorem Go.drop {y : MI} {d pc : Nat} {ls ls' st : List Value} {σ : St} {Q : Option Value → St → Prop} (j : Nat) (h : ls.set j .null = ls') (k : Go y d pc ls' st σ Q) : Go y d pc ls st σ Q := by
  subst h
  refine Go.weak (by simp) (fun i v hi hn => ?_) k
  rcases Nat.decEq i j with hne | rfl
  · rw [List.getElem?_set_ne (fun z => hne z.symm)] at hi
    exact hi
  · rw [List.getElem?_set] at hi
    split at hi
    · split at hi
      · cases hi; exact absurd rfl hn
      · cases hi
    · exact hi
def casesG (x : Int32) (cs : List (Int32 × Nat)) (dt : Nat) (P : Nat → Prop) : Prop := match cs with
  | [] => P dt
  | (v, t) :: r => (x = v → P t) ∧ (¬ x = v → casesG x r dt P)
theorem casesG_hit {x : Int32} {dt t : Nat} {P : Nat → Prop} : ∀ (cs : List (Int32 × Nat)) (j : Nat), cs[j]? = some (x, t) → (∀ (i : Nat) (q : Int32 × Nat), i < j → cs[i]? = some q → ¬ x = q.1) → casesG x cs dt P → P t := by
  intro cs
  induction cs with
  | nil => intro j h; simp at h
  | cons q r ih =>
    intro j h hn k
    obtain ⟨v, t0⟩ := q
    match j, h with
    | 0, h => simp at h; obtain ⟨rfl, rfl⟩ := h; exact k.1 rfl
    | j + 1, h => exact ih j (by simpa using h) (fun i q hi hq => hn (i + 1) q (by omega) (by simpa using hq)) (k.2 (hn 0 (v, t0) (by omega) rfl))
theorem casesG_out {x : Int32} {dt : Nat} {P : Nat → Prop} : ∀ (cs : List (Int32 × Nat)), (∀ q ∈ cs, ¬ x = q.1) → casesG x cs dt P → P dt := by
  intro cs
  induction cs with
  | nil => intro _ k; exact k
  | cons q r ih =>
    intro hn k
    exact ih (fun q hq => hn q (List.mem_cons_of_mem _ hq)) (k.2 (hn q List.mem_cons_self))
def tswOK (pc : Nat) (dflt lo hi : Int) (offs : Array Int) (cs : List (Int32 × Nat)) (dt : Nat) : Bool :=
  decide ((pc : Int) + dflt = (dt : Int)) && decide (hi - lo + 1 = (cs.length : Int)) && decide (offs.size = cs.length) &&
  (List.range cs.length).all (fun j => match cs[j]?, offs[j]? with
    | some (v, t), some off => decide (v.toInt = lo + (j : Int)) && decide ((pc : Int) + off = (t : Int))
    | _, _ => false)
theorem Go.tsw {y : MI} {d pc : Nat} {ls st : List Value} {σ : St} {Q : Option Value → St → Prop} {x : Int32} {dflt lo hi : Int} {offs : Array Int} {len : Nat} (cs : List (Int32 × Nat)) (dt : Nat) (hd : decode y.2.1 pc = .ok (.tableswitch dflt lo hi offs, len)) (hok : tswOK pc dflt lo hi offs cs dt = true) (k : casesG x cs dt (fun t => Go y d t ls st σ Q)) : Go y d pc ls (.int x :: st) σ Q := by
  intro l G p e s m args below meth c H locs lsA R hH hS hL
  unfold tswOK at hok
  simp only [Bool.and_eq_true, decide_eq_true_eq] at hok
  obtain ⟨⟨⟨h1, h2⟩, h3⟩, h4⟩ := hok
  have hrow : ∀ (j : Nat) (q : Int32 × Nat), cs[j]? = some q → q.1.toInt = lo + (j : Int) ∧ ∃ off, offs[j]? = some off ∧ (pc : Int) + off = (q.2 : Int) := by
    intro j q hq
    have hj : j < cs.length := (List.getElem?_eq_some_iff.mp hq).1
    have h5 := List.all_eq_true.mp h4 j (List.mem_range.mpr hj)
    obtain ⟨off, ho⟩ : ∃ off, offs[j]? = some off := ⟨offs[j]'(by omega), by simp⟩
    rw [hq, ho] at h5
    simp only [Bool.and_eq_true, decide_eq_true_eq] at h5
    exact ⟨h5.1, off, ho, h5.2⟩
  by_cases hout : x.toInt < lo ∨ hi < x.toInt
  · refine lv_tableOut R.1 R.2.1 hd hout h1 ?_
    refine (casesG_out (P := fun t => Go y d t ls st σ Q) cs (fun q hq hx => ?_) k) l G p e s m args below meth c H locs lsA R hH hS hL
    obtain ⟨j, hj⟩ := List.getElem?_of_mem hq
    have h6 := (hrow j q hj).1
    have hjl : j < cs.length := (List.getElem?_eq_some_iff.mp hj).1
    rw [← hx] at h6
    omega
  · have hx1 : ¬ x.toInt < lo := fun h => hout (Or.inl h)
    have hx2 : ¬ hi < x.toInt := fun h => hout (Or.inr h)
    obtain ⟨j, hj⟩ : ∃ j : Nat, x.toInt = lo + (j : Int) := ⟨(x.toInt - lo).toNat, by omega⟩
    have hjl : j < cs.length := by omega
    obtain ⟨q, hq⟩ : ∃ q, cs[j]? = some q := ⟨cs[j], by simp [hjl]⟩
    obtain ⟨h6, off, ho, ht⟩ := hrow j q hq
    have hxq : x = q.1 := Int32.toInt_inj.mp (by omega)
    refine lv_tableIn R.1 R.2.1 hd hx1 hx2 (off := off) (tgt := q.2) (by rw [hj, show (lo + (j : Int) - lo).toNat = j by omega]; exact ho) ht ?_
    refine (casesG_hit (P := fun t => Go y d t ls st σ Q) (t := q.2) cs j (by rw [hq, hxq]) (fun i q2 hi hq2 hx3 => ?_) k) l G p e s m args below meth c H locs lsA R hH hS hL
    have h7 := (hrow i q2 hq2).1
    rw [← hx3] at h7
    omega
theorem Go.lsw {y : MI} {d pc : Nat} {ls st : List Value} {σ : St} {Q : Option Value → St → Prop} {x : Int32} {dflt : Int} {ps : Array (Int × Int)} {len : Nat} (cs : List (Int32 × Nat)) (dt : Nat) (hd : decode y.2.1 pc = .ok (.lookupswitch dflt ps, len)) (hp : (ps.toList.zip (ps.toList.drop 1)).all (fun (a, next) => a.1 < next.1) = true) (hdt : (pc : Int) + dflt = (dt : Int)) (hok : ps.toList = cs.map (fun q => (q.1.toInt, (q.2 : Int) - (pc : Int)))) (k : casesG x cs dt (fun t => Go y d t ls st σ Q)) : Go y d pc ls (.int x :: st) σ Q := by
  intro l G p e s m args below meth c H locs lsA R hH hS hL
  have key : ∀ (cs : List (Int32 × Nat)), casesG x cs dt (fun t => Go y d t ls st σ Q) → ∃ t : Nat, Op.lookupswitch.offset (cs.map (fun q => (q.1.toInt, (q.2 : Int) - (pc : Int)))) dflt x.toInt = (t : Int) - (pc : Int) ∧ Go y d t ls st σ Q := by
    intro cs
    induction cs with
    | nil => intro k; exact ⟨dt, by rw [List.map_nil, Op.lookupswitch.offset_nil]; omega, k⟩
    | cons q r ih =>
      intro k
      rw [List.map_cons, Op.lookupswitch.offset_cons]
      by_cases h : q.1.toInt = x.toInt
      · rw [if_pos h]
        exact ⟨q.2, rfl, k.1 (Int32.toInt_inj.mp h).symm⟩
      · rw [if_neg h]
        exact ih (k.2 (fun z => h (by rw [z])))
  obtain ⟨t, h1, h2⟩ := key cs k
  refine lv_lookup R.1 R.2.1 hd hp (off := (t : Int) - (pc : Int)) (tgt := t) (by rw [hok]; exact h1) (by omega) ?_
  exact h2 l G p e s m args below meth c H locs lsA R hH hS hL
theorem vp_in_lt {i : Int32} {n : Nat} (h : vp_in i n) : ix i < n := Nat.not_le.mp fun q => h (Or.inr q)
theorem Go.acopy {y : MI} {d pc idx : Nat} {ls st : List Value} {σ : St} {Q : Option Value → St → Prop} {q0 q1 t n0 n1 : Nat} {sp dp n : Int32} (hs0 : shp[q0]? = some (1, t, n0)) (hs1 : shp[q1]? = some (1, t, n1)) (ht : t < 2) (hl : Cond.methodLink y.1.cls idx arraycopyName ∈ tbg) (hnat : Cond.native arraycopyName ∈ tbg) (hstat : Cond.static arraycopyName ∈ tbg) (hini : Cond.initialized "java/lang/System" ∈ tbg)
    (h1 : ¬ sp < 0) (h2 : ¬ dp < 0) (h3 : ¬ n < 0) (h4 : ix sp + ix n ≤ n0) (h5 : ix dp + ix n ≤ n1) (hw : (st.map fun v => v.category).sum ≤ 8) (hd : decode y.2.1 pc = .ok (.invokestatic idx, 3))
    (kk : Go y (d + 1) (pc + 3) ls st (setR σ q1 (va_cpy (sA σ q0) (sA σ q1) (ix sp) (ix dp) (ix n))) Q) : Go y (d + 1) pc ls (.int n :: .int dp :: .ref q1 :: .int sp :: .ref q0 :: st) σ Q := by
  intro l G p e s m args below meth c H locs lsA R hH hS hL
  obtain ⟨hx, hb, hret, hml, hown, hts, hlocks, hK, hinj, hN⟩ := id R
  have hfr : 1 ≤ (rmz (d + 1)).frames := by show 1 ≤ d + 1; omega
  have hlo : ((st.map (ptr G.2.2)).map fun v => v.category).sum + (nativeFrameWords "java/lang/System" "arraycopy" 5 + 11) ≤ (rmz (d + 1)).locals := by
    rw [ptr_cats]
    show _ + (5 + 2 + 11) ≤ 31 * (d + 1)
    omega
  have hz : t = 1 → ∀ j, fits .boolean (.int (sA σ q0 j)) = true := fun h j => by subst h; exact hH.2 q0 n0 hs0 j
  have hz1 : t = 1 → ∀ j, fits .boolean (.int (sA σ q1 j)) = true := fun h j => by subst h; exact hH.2 q1 n1 hs1 j
  have go : ∀ H1 locs1, va_P G.1 vwCl ((pm_W G σ).set q1 (G.2.2 q1, .inl (G.2.1 t, n1, .inl (va_cpy (sA σ q0) (sA σ q1) (ix sp) (ix dp) (ix n))))) H1 → va_S (pm_A G) s.heap H1 locs1 → W p l e (rmz (d + 1)) s m args below meth c H1 locs1 0 0 (MQ below (pm_Q G Q) args s 0 0 (pm_A G)) (F0 m (pc + 3) lsA (st.map (ptr G.2.2))) := by
    intro H1 locs1 hP1 hS1
    rw [pm_setR hs1] at hP1
    refine kk l G p e s m args below meth c H1 locs1 lsA R ⟨hP1, hH.2.setR hs1 (fun h j => ?_)⟩ hS1 hL
    unfold va_cpy
    split
    · exact hz h _
    · exact hz1 h _
  match t, ht with
  | 0, _ => exact va_copyi hx hb (hml.trans hL.1.symm) hown (hts _ hl) (hts _ hnat) (hts _ hstat) (hts _ hini) hK hH.1 (pm_D hinj σ) hS q0 q1 0 0 (pm_row hs0) (pm_row hs1) rfl rfl rfl h1 h2 h3 h4 h5 (fun _ _ => rfl) hfr hlo hd (fun H1 locs1 hP1 _ hS1 => go H1 locs1 hP1 hS1)
  | 1, _ => exact va_copyi hx hb (hml.trans hL.1.symm) hown (hts _ hl) (hts _ hnat) (hts _ hstat) (hts _ hini) hK hH.1 (pm_D hinj σ) hS q0 q1 1 1 (pm_row hs0) (pm_row hs1) rfl rfl rfl h1 h2 h3 h4 h5 (fun _ _ => hz rfl _) hfr hlo hd (fun H1 locs1 hP1 _ hS1 => go H1 locs1 hP1 hS1)
theorem Go.mmax {y : MI} {d pc idx : Nat} {ls st : List Value} {σ : St} {Q : Option Value → St → Prop} {a b : Int32} (hl : Cond.methodLink y.1.cls idx Lib.Math.max.name ∈ tbg) (hstat : Cond.static Lib.Math.max.name ∈ tbg) (hini : Cond.initialized "java/lang/Math" ∈ tbg) (hcode : Cond.code Lib.Math.max.name Lib.Math.max.code 2 (some .int) ∈ tbg) (hw : (st.map fun v => v.category).sum ≤ 8) (hd : decode y.2.1 pc = .ok (.invokestatic idx, 3))
    (kk : Go y (d + 1) (pc + 3) ls (.int (if a < b then b else a) :: st) σ Q) : Go y (d + 1) pc ls (.int b :: .int a :: st) σ Q := by
  intro l G p e s m args below meth c H locs lsA R hH hS hL
  obtain ⟨hx, hb, hret, hml, hown, hts, hlocks, hK, hinj, hN⟩ := id R
  refine va_mmax hx hb (hml.trans hL.1.symm) hown (hts _ hl) (hts _ hstat) (hts _ hini) (hts _ hcode) (by show 1 ≤ d + 1; omega) (by rw [ptr_cats]; show _ + 13 ≤ 31 * (d + 1); omega) (Nat.le_refl _) (Nat.le_refl _) hd ?_
  exact kk l G p e s m args below meth c H locs lsA R hH hS hL
theorem Go.mmin {y : MI} {d pc idx : Nat} {ls st : List Value} {σ : St} {Q : Option Value → St → Prop} {a b : Int32} (hl : Cond.methodLink y.1.cls idx Lib.Math.min.name ∈ tbg) (hstat : Cond.static Lib.Math.min.name ∈ tbg) (hini : Cond.initialized "java/lang/Math" ∈ tbg) (hcode : Cond.code Lib.Math.min.name Lib.Math.min.code 2 (some .int) ∈ tbg) (hw : (st.map fun v => v.category).sum ≤ 8) (hd : decode y.2.1 pc = .ok (.invokestatic idx, 3))
    (kk : Go y (d + 1) (pc + 3) ls (.int (if b < a then b else a) :: st) σ Q) : Go y (d + 1) pc ls (.int b :: .int a :: st) σ Q := by
  intro l G p e s m args below meth c H locs lsA R hH hS hL
  obtain ⟨hx, hb, hret, hml, hown, hts, hlocks, hK, hinj, hN⟩ := id R
  refine va_mmin hx hb (hml.trans hL.1.symm) hown (hts _ hl) (hts _ hstat) (hts _ hini) (hts _ hcode) (by show 1 ≤ d + 1; omega) (by rw [ptr_cats]; show _ + 13 ≤ 31 * (d + 1); omega) (Nat.le_refl _) (Nat.le_refl _) hd ?_
  exact kk l G p e s m args below meth c H locs lsA R hH hS hL
end
section
/-! facts of methods and fields; shapes; numbers -/
theorem wc_max : Cond.code Lib.Math.max.name Lib.Math.max.code 2 (some .int) ∈ tbg := wb_608
theorem wc_min : Cond.code Lib.Math.min.name Lib.Math.min.code 2 (some .int) ∈ tbg := wb_605
theorem wi_Math : Cond.initialized "java/lang/Math" ∈ tbg := wb_80
theorem wi_Sys : Cond.initialized "java/lang/System" ∈ tbg := wb_79
theorem wl_X0_102 : Cond.methodLink RX0 102 yX3_isWall ∈ tbg := wb_598
theorem wl_X0_106 : Cond.methodLink RX0 106 yX0_takeGhost ∈ tbg := wb_599
theorem wl_X0_110 : Cond.methodLink RX0 110 Lib.Math.min.name ∈ tbg := wb_603
theorem wl_X0_116 : Cond.methodLink RX0 116 Lib.Math.max.name ∈ tbg := wb_606
theorem wl_X0_122 : Cond.methodLink RX0 122 yX0_sounds ∈ tbg := wb_613
theorem wl_X0_125 : Cond.methodLink RX0 125 yX0_movementOf ∈ tbg := wb_617
theorem wl_X0_126 : Cond.methodLink RX0 126 yX0_isFaint ∈ tbg := wb_625
theorem wl_X0_129 : Cond.methodLink RX0 129 yX0_distanceOf ∈ tbg := wb_639
theorem wl_X0_130 : Cond.methodLink RX0 130 yX0_placeOf ∈ tbg := wb_643
theorem wl_X0_134 : Cond.methodLink RX0 134 yX0_codeOf ∈ tbg := wb_647
theorem wl_X0_137 : Cond.methodLink RX0 137 yX0_has ∈ tbg := wb_621
theorem wl_X0_140 : Cond.methodLink RX0 140 yX0_strengthOf ∈ tbg := wb_629
theorem wl_X0_141 : Cond.methodLink RX0 141 yX0_lesserWall ∈ tbg := wb_674
theorem wl_X0_144 : Cond.methodLink RX0 144 yX0_greaterWall ∈ tbg := wb_678
theorem wl_X0_147 : Cond.methodLink RX0 147 yJ13_bitCount_95d88 ∈ tbg := wb_773
theorem wl_X0_153 : Cond.methodLink RX0 153 yX0_lostTurns ∈ tbg := wb_783
theorem wl_X0_156 : Cond.methodLink RX0 156 yX0_isHeard ∈ tbg := wb_662
theorem wl_X0_160 : Cond.methodLink RX0 160 yX0_isPartOf ∈ tbg := wb_707
theorem wl_X0_164 : Cond.methodLink RX0 164 yX0_fitOf ∈ tbg := wb_658
theorem wl_X0_167 : Cond.methodLink RX0 167 yX0_turnsThatFit ∈ tbg := wb_654
theorem wl_X0_170 : Cond.methodLink RX0 170 yX0_sourcesAt ∈ tbg := wb_732
theorem wl_X0_173 : Cond.methodLink RX0 173 yX0_isToldSource ∈ tbg := wb_796
theorem wl_X0_176 : Cond.methodLink RX0 176 yX0_gatherOpen ∈ tbg := wb_823
theorem wl_X0_179 : Cond.methodLink RX0 179 yX0_openTold ∈ tbg := wb_827
theorem wl_X0_182 : Cond.methodLink RX0 182 yX0_trueCount ∈ tbg := wb_831
theorem wl_X0_185 : Cond.methodLink RX0 185 yX0_missedCount ∈ tbg := wb_832
theorem wl_X0_47 : Cond.methodLink RX0 47 yX3_blindBelow ∈ tbg := wb_574
theorem wl_X0_56 : Cond.methodLink RX0 56 yX3_loudFrom ∈ tbg := wb_578
theorem wl_X0_62 : Cond.methodLink RX0 62 yX0_takeTargets ∈ tbg := wb_582
theorem wl_X0_69 : Cond.methodLink RX0 69 yX0_takeGhosts ∈ tbg := wb_594
theorem wl_X0_72 : Cond.methodLink RX0 72 yX0_takePitches ∈ tbg := wb_609
theorem wl_X0_75 : Cond.methodLink RX0 75 yX3_turnCount ∈ tbg := wb_633
theorem wl_X0_78 : Cond.methodLink RX0 78 yX3_spacingOf ∈ tbg := wb_634
theorem wl_X0_82 : Cond.methodLink RX0 82 yX0_hearTurn ∈ tbg := wb_635
theorem wl_X0_86 : Cond.methodLink RX0 86 yX3_targetCount ∈ tbg := wb_586
theorem wl_X0_89 : Cond.methodLink RX0 89 yX3_distanceOf ∈ tbg := wb_587
theorem wl_X0_92 : Cond.methodLink RX0 92 yX3_strengthOf ∈ tbg := wb_588
theorem wl_X0_95 : Cond.methodLink RX0 95 yX3_movementOf ∈ tbg := wb_589
theorem wl_X0_98 : Cond.methodLink RX0 98 yX0_take ∈ tbg := wb_590
theorem wl_X2_101 : Cond.methodLink RX2 101 yX2_keepSpacing ∈ tbg := wb_475
theorem wl_X2_104 : Cond.methodLink RX2 104 yX2_acceptsSlash ∈ tbg := wb_479
theorem wl_X2_38 : Cond.methodLink RX2 38 yX1_length ∈ tbg := wb_433
theorem wl_X2_44 : Cond.methodLink RX2 44 yX1_signAt ∈ tbg := wb_434
theorem wl_X2_48 : Cond.methodLink RX2 48 yX2_accepts ∈ tbg := wb_438
theorem wl_X2_52 : Cond.methodLink RX2 52 yX2_isComplete ∈ tbg := wb_483
theorem wl_X2_59 : Cond.methodLink RX2 59 yX2_keepTarget ∈ tbg := wb_463
theorem wl_X2_63 : Cond.methodLink RX2 63 yX3_leaveAll ∈ tbg := wb_503
theorem wl_X2_68 : Cond.methodLink RX2 68 yX3_join ∈ tbg := wb_507
theorem wl_X2_72 : Cond.methodLink RX2 72 yX3_forgetTurns ∈ tbg := wb_508
theorem wl_X2_75 : Cond.methodLink RX2 75 yX3_addTurn ∈ tbg := wb_509
theorem wl_X2_79 : Cond.methodLink RX2 79 yX2_acceptsKind ∈ tbg := wb_442
theorem wl_X2_82 : Cond.methodLink RX2 82 yX2_acceptsBegin ∈ tbg := wb_446
theorem wl_X2_86 : Cond.methodLink RX2 86 yX2_endDistance ∈ tbg := wb_451
theorem wl_X2_89 : Cond.methodLink RX2 89 yX2_acceptsDigit ∈ tbg := wb_455
theorem wl_X2_92 : Cond.methodLink RX2 92 yX2_acceptsBehindStrength ∈ tbg := wb_459
theorem wl_X2_95 : Cond.methodLink RX2 95 yX2_acceptsMovement ∈ tbg := wb_471
theorem wl_X2_98 : Cond.methodLink RX2 98 yX2_acceptsTargetEnd ∈ tbg := wb_467
theorem wl_X3_41 : Cond.methodLink RX3 41 arraycopyName ∈ tbg := wb_330
theorem wl_X3_47 : Cond.methodLink RX3 47 yX3_has ∈ tbg := wb_306
theorem wl_X3_51 : Cond.methodLink RX3 51 yX3_hasTurn ∈ tbg := wb_543
theorem wl_X3_54 : Cond.methodLink RX3 54 yX3_isWall ∈ tbg := wb_358
theorem wl_X3_57 : Cond.methodLink RX3 57 yX3_distanceOf ∈ tbg := wb_302
theorem wl_X3_61 : Cond.methodLink RX3 61 yX3_movementOf ∈ tbg := wb_310
theorem wl_X3_64 : Cond.methodLink RX3 64 yX3_put ∈ tbg := wb_337
theorem wl_X3_68 : Cond.methodLink RX3 68 yX3_strengthOf ∈ tbg := wb_354
theorem wl_X3_71 : Cond.methodLink RX3 71 yX3_putAs ∈ tbg := wb_350
theorem wl_X4_19 : Cond.methodLink RX4 19 yX3_targetCount ∈ tbg := wb_518
theorem wl_X4_25 : Cond.methodLink RX4 25 yX4_put ∈ tbg := wb_519
theorem wl_X4_29 : Cond.methodLink RX4 29 yX4_writeTarget ∈ tbg := wb_523
theorem wl_X4_33 : Cond.methodLink RX4 33 yX3_turnCount ∈ tbg := wb_538
theorem wl_X4_36 : Cond.methodLink RX4 36 yX3_spacingOf ∈ tbg := wb_539
theorem wl_X4_40 : Cond.methodLink RX4 40 yX4_writeNumber ∈ tbg := wb_530
theorem wl_X4_44 : Cond.methodLink RX4 44 yX3_movementOf ∈ tbg := wb_527
theorem wl_X4_47 : Cond.methodLink RX4 47 yX3_isWall ∈ tbg := wb_528
theorem wl_X4_51 : Cond.methodLink RX4 51 yX3_distanceOf ∈ tbg := wb_529
theorem wl_X4_54 : Cond.methodLink RX4 54 yX3_strengthOf ∈ tbg := wb_537
theorem wl_X4_57 : Cond.methodLink RX4 57 yX4_digitSign ∈ tbg := wb_534
theorem wl_X5_102 : Cond.methodLink RX5 102 yX5_isWithin ∈ tbg := wb_295
theorem wl_X5_106 : Cond.methodLink RX5 106 yX3_changeBlind ∈ tbg := wb_397
theorem wl_X5_110 : Cond.methodLink RX5 110 yX3_changeLoud ∈ tbg := wb_401
theorem wl_X5_113 : Cond.methodLink RX5 113 yX1_take ∈ tbg := wb_409
theorem wl_X5_117 : Cond.methodLink RX5 117 yX1_length ∈ tbg := wb_413
theorem wl_X5_120 : Cond.methodLink RX5 120 yX1_empty ∈ tbg := wb_421
theorem wl_X5_123 : Cond.methodLink RX5 123 yX2_read ∈ tbg := wb_429
theorem wl_X5_127 : Cond.methodLink RX5 127 yX2_hasTwins ∈ tbg := wb_491
theorem wl_X5_131 : Cond.methodLink RX5 131 yX2_targetCount ∈ tbg := wb_495
theorem wl_X5_132 : Cond.methodLink RX5 132 yX2_putInto ∈ tbg := wb_499
theorem wl_X5_136 : Cond.methodLink RX5 136 yX4_write ∈ tbg := wb_514
theorem wl_X5_139 : Cond.methodLink RX5 139 yX4_length ∈ tbg := wb_547
theorem wl_X5_140 : Cond.methodLink RX5 140 yX4_codeAt ∈ tbg := wb_551
theorem wl_X5_143 : Cond.methodLink RX5 143 yX3_distanceOf ∈ tbg := wb_559
theorem wl_X5_146 : Cond.methodLink RX5 146 yX3_strengthOf ∈ tbg := wb_560
theorem wl_X5_149 : Cond.methodLink RX5 149 yX3_movementOf ∈ tbg := wb_561
theorem wl_X5_152 : Cond.methodLink RX5 152 yX3_isWall ∈ tbg := wb_562
theorem wl_X5_155 : Cond.methodLink RX5 155 yX5_asNumber ∈ tbg := wb_563
theorem wl_X5_159 : Cond.methodLink RX5 159 yX5_heardOf ∈ tbg := wb_566
theorem wl_X5_163 : Cond.methodLink RX5 163 yX0_listen ∈ tbg := wb_570
theorem wl_X5_166 : Cond.methodLink RX5 166 yX0_ghostCount ∈ tbg := wb_686
theorem wl_X5_169 : Cond.methodLink RX5 169 yX0_distanceOf ∈ tbg := wb_690
theorem wl_X5_170 : Cond.methodLink RX5 170 yX0_strengthOf ∈ tbg := wb_691
theorem wl_X5_171 : Cond.methodLink RX5 171 yX0_lesserWall ∈ tbg := wb_692
theorem wl_X5_174 : Cond.methodLink RX5 174 yX0_greaterWall ∈ tbg := wb_693
theorem wl_X5_177 : Cond.methodLink RX5 177 yX0_isToldSource ∈ tbg := wb_650
theorem wl_X5_180 : Cond.methodLink RX5 180 yX3_hasTurn ∈ tbg := wb_698
theorem wl_X5_183 : Cond.methodLink RX5 183 yX0_findEcho ∈ tbg := wb_699
theorem wl_X5_186 : Cond.methodLink RX5 186 yX0_strengthTogether ∈ tbg := wb_703
theorem wl_X5_190 : Cond.methodLink RX5 190 yX0_sourcesTogether ∈ tbg := wb_711
theorem wl_X5_193 : Cond.methodLink RX5 193 yX0_fitOf ∈ tbg := wb_719
theorem wl_X5_196 : Cond.methodLink RX5 196 yX0_findTold ∈ tbg := wb_724
theorem wl_X5_199 : Cond.methodLink RX5 199 yX0_isTrue ∈ tbg := wb_728
theorem wl_X5_203 : Cond.methodLink RX5 203 yX0_turnsThatFit ∈ tbg := wb_736
theorem wl_X5_206 : Cond.methodLink RX5 206 yX3_spacingOf ∈ tbg := wb_741
theorem wl_X5_209 : Cond.methodLink RX5 209 yX5_firstCommonMultiple ∈ tbg := wb_742
theorem wl_X5_212 : Cond.methodLink RX5 212 yX5_commonMultiple ∈ tbg := wb_748
theorem wl_X5_215 : Cond.methodLink RX5 215 yX5_tryDistances ∈ tbg := wb_758
theorem wl_X5_219 : Cond.methodLink RX5 219 yX5_countHeard ∈ tbg := wb_765
theorem wl_X5_222 : Cond.methodLink RX5 222 yX3_wallCount ∈ tbg := wb_801
theorem wl_X5_225 : Cond.methodLink RX5 225 yX3_blindBelow ∈ tbg := wb_805
theorem wl_X5_228 : Cond.methodLink RX5 228 yX3_loudFrom ∈ tbg := wb_806
theorem wl_X5_231 : Cond.methodLink RX5 231 yX0_toldCount ∈ tbg := wb_788
theorem wl_X5_234 : Cond.methodLink RX5 234 yX0_trueCount ∈ tbg := wb_792
theorem wl_X5_237 : Cond.methodLink RX5 237 yX3_become ∈ tbg := wb_326
theorem wl_X5_240 : Cond.methodLink RX5 240 yX0_missedCount ∈ tbg := wb_797
theorem wl_X5_243 : Cond.methodLink RX5 243 yX0_bestNextSpacing ∈ tbg := wb_819
theorem wl_X5_246 : Cond.methodLink RX5 246 yX5_forgetOldest ∈ tbg := wb_322
theorem wl_X5_249 : Cond.methodLink RX5 249 yX3_holds ∈ tbg := wb_298
theorem wl_X5_252 : Cond.methodLink RX5 252 yX0_lostTurns ∈ tbg := wb_666
theorem wl_X5_255 : Cond.methodLink RX5 255 yX0_ghostsOf ∈ tbg := wb_670
theorem wl_X5_258 : Cond.methodLink RX5 258 yX0_echoCount ∈ tbg := wb_769
theorem wl_X5_261 : Cond.methodLink RX5 261 yX0_lostCount ∈ tbg := wb_779
theorem wl_X5_264 : Cond.methodLink RX5 264 yX0_faintCount ∈ tbg := wb_784
theorem wl_X5_267 : Cond.methodLink RX5 267 yX5_remainder ∈ tbg := wb_745
theorem wl_X5_270 : Cond.methodLink RX5 270 yX5_commonDivisor ∈ tbg := wb_751
theorem wl_X5_62 : Cond.methodLink RX5 62 yX5_comingError ∈ tbg := wb_291
theorem wl_X5_66 : Cond.methodLink RX5 66 yX5_remember ∈ tbg := wb_318
theorem wl_X5_69 : Cond.methodLink RX5 69 yX3_join ∈ tbg := wb_333
theorem wl_X5_72 : Cond.methodLink RX5 72 yX3_has ∈ tbg := wb_345
theorem wl_X5_76 : Cond.methodLink RX5 76 yX3_leave ∈ tbg := wb_346
theorem wl_X5_80 : Cond.methodLink RX5 80 yX3_targetCount ∈ tbg := wb_314
theorem wl_X5_84 : Cond.methodLink RX5 84 yX3_moveAll ∈ tbg := wb_366
theorem wl_X5_87 : Cond.methodLink RX5 87 yX5_isSpacing ∈ tbg := wb_375
theorem wl_X5_90 : Cond.methodLink RX5 90 yX5_isSpacingOrNone ∈ tbg := wb_378
theorem wl_X5_93 : Cond.methodLink RX5 93 yX3_forgetTurns ∈ tbg := wb_381
theorem wl_X5_96 : Cond.methodLink RX5 96 yX3_addTurn ∈ tbg := wb_385
theorem wl_X5_99 : Cond.methodLink RX5 99 yX3_turnCount ∈ tbg := wb_389
theorem wl_X6_102 : Cond.methodLink RX6 102 yX6_mark ∈ tbg := wb_1006
theorem wl_X6_105 : Cond.methodLink RX6 105 yX6_fit ∈ tbg := wb_1017
theorem wl_X6_108 : Cond.methodLink RX6 108 yX6_fitting ∈ tbg := wb_1013
theorem wl_X6_111 : Cond.methodLink RX6 111 yX6_isTrue ∈ tbg := wb_1041
theorem wl_X6_114 : Cond.methodLink RX6 114 yX6_isTold ∈ tbg := wb_1009
theorem wl_X6_117 : Cond.methodLink RX6 117 yX6_listen ∈ tbg := wb_982
theorem wl_X6_120 : Cond.methodLink RX6 120 yX6_isTurn ∈ tbg := wb_1029
theorem wl_X6_123 : Cond.methodLink RX6 123 yX6_divisor ∈ tbg := wb_1049
theorem wl_X6_126 : Cond.methodLink RX6 126 yX6_walls ∈ tbg := wb_1060
theorem wl_X6_130 : Cond.methodLink RX6 130 yX6_echoes ∈ tbg := wb_1064
theorem wl_X6_133 : Cond.methodLink RX6 133 yX6_lostMany ∈ tbg := wb_1068
theorem wl_X6_136 : Cond.methodLink RX6 136 yX6_faintMany ∈ tbg := wb_1072
theorem wl_X6_139 : Cond.methodLink RX6 139 yX6_toldMany ∈ tbg := wb_1076
theorem wl_X6_143 : Cond.methodLink RX6 143 yX6_missed ∈ tbg := wb_1080
theorem wl_X6_146 : Cond.methodLink RX6 146 yX6_write ∈ tbg := wb_1084
theorem wl_X6_155 : Cond.methodLink RX6 155 yX6_withTurn ∈ tbg := wb_1104
theorem wl_X6_158 : Cond.methodLink RX6 158 yX6_sets ∈ tbg := wb_1088
theorem wl_X6_161 : Cond.methodLink RX6 161 yX6_setsNumber ∈ tbg := wb_1092
theorem wl_X6_167 : Cond.methodLink RX6 167 yX6_letter ∈ tbg := wb_1136
theorem wl_X6_173 : Cond.methodLink RX6 173 yX6_figure ∈ tbg := wb_1148
theorem wl_X6_176 : Cond.methodLink RX6 176 yX6_wants ∈ tbg := wb_1140
theorem wl_X6_180 : Cond.methodLink RX6 180 yX6_number ∈ tbg := wb_1144
theorem wl_X6_190 : Cond.methodLink RX6 190 yX6_readTarget ∈ tbg := wb_1132
theorem wl_X6_193 : Cond.methodLink RX6 193 yX6_readSpacing ∈ tbg := wb_1152
theorem wl_X6_196 : Cond.methodLink RX6 196 yX6_fault ∈ tbg := wb_1160
theorem wl_X6_41 : Cond.methodLink RX6 41 yX6_in ∈ tbg := wb_936
theorem wl_X6_53 : Cond.methodLink RX6 53 yX6_record ∈ tbg := wb_925
theorem wl_X6_56 : Cond.methodLink RX6 56 yX6_of ∈ tbg := wb_943
theorem wl_X6_60 : Cond.methodLink RX6 60 yX6_isBody ∈ tbg := wb_933
theorem wl_X6_63 : Cond.methodLink RX6 63 yX6_isThere ∈ tbg := wb_939
theorem wl_X6_67 : Cond.methodLink RX6 67 yX6_add ∈ tbg := wb_947
theorem wl_X6_71 : Cond.methodLink RX6 71 yX6_isTarget ∈ tbg := wb_955
theorem wl_X6_75 : Cond.methodLink RX6 75 yX6_takeOut ∈ tbg := wb_959
theorem wl_X6_79 : Cond.methodLink RX6 79 yX6_isSpacing ∈ tbg := wb_971
theorem wl_X6_85 : Cond.methodLink RX6 85 yX6_body ∈ tbg := wb_994
theorem wl_X6_88 : Cond.methodLink RX6 88 yX6_isFaint ∈ tbg := wb_990
theorem wl_X6_91 : Cond.methodLink RX6 91 yX6_placeIn ∈ tbg := wb_1002
theorem wl_X6_95 : Cond.methodLink RX6 95 yX6_layBody ∈ tbg := wb_986
theorem wl_X6_99 : Cond.methodLink RX6 99 yX6_isLost ∈ tbg := wb_998
theorem wn_copy : Cond.native arraycopyName ∈ tbg := wb_332
theorem wt_copy : Cond.static arraycopyName ∈ tbg := wb_331
theorem wt_max : Cond.static Lib.Math.max.name ∈ tbg := wb_607
theorem wt_min : Cond.static Lib.Math.min.name ∈ tbg := wb_604
set_option maxRecDepth 100000 in
theorem uw_X0 : ∀ w ∈ u_ws RX0 TX0 16, w ∈ tbg := (show ∀ w ∈ [u_lay RX0 TX0 0, u_lay RX0 TX0 1, u_lay RX0 TX0 2, u_lay RX0 TX0 3, u_lay RX0 TX0 4, u_lay RX0 TX0 5, u_lay RX0 TX0 6, u_lay RX0 TX0 7, u_lay RX0 TX0 8, u_lay RX0 TX0 9, u_lay RX0 TX0 10, u_lay RX0 TX0 11, u_lay RX0 TX0 12, u_lay RX0 TX0 13, u_lay RX0 TX0 14, u_lay RX0 TX0 15], w ∈ tbg from List.forall_mem_cons.mpr ⟨wb_222, List.forall_mem_cons.mpr ⟨wb_224, List.forall_mem_cons.mpr ⟨wb_226, List.forall_mem_cons.mpr ⟨wb_228, List.forall_mem_cons.mpr ⟨wb_230, List.forall_mem_cons.mpr ⟨wb_232, List.forall_mem_cons.mpr ⟨wb_234, List.forall_mem_cons.mpr ⟨wb_236, List.forall_mem_cons.mpr ⟨wb_238, List.forall_mem_cons.mpr ⟨wb_240, List.forall_mem_cons.mpr ⟨wb_242, List.forall_mem_cons.mpr ⟨wb_244, List.forall_mem_cons.mpr ⟨wb_246, List.forall_mem_cons.mpr ⟨wb_248, List.forall_mem_cons.mpr ⟨wb_250, List.forall_mem_cons.mpr ⟨wb_252, fun _ h => absurd h List.not_mem_nil⟩⟩⟩⟩⟩⟩⟩⟩⟩⟩⟩⟩⟩⟩⟩⟩)
set_option maxRecDepth 100000 in
theorem uw_X1 : ∀ w ∈ u_ws RX1 TX1 2, w ∈ tbg := (show ∀ w ∈ [u_lay RX1 TX1 0, u_lay RX1 TX1 1], w ∈ tbg from List.forall_mem_cons.mpr ⟨wb_135, List.forall_mem_cons.mpr ⟨wb_137, fun _ h => absurd h List.not_mem_nil⟩⟩)
set_option maxRecDepth 100000 in
theorem uw_X2 : ∀ w ∈ u_ws RX2 TX2 13, w ∈ tbg := (show ∀ w ∈ [u_lay RX2 TX2 0, u_lay RX2 TX2 1, u_lay RX2 TX2 2, u_lay RX2 TX2 3, u_lay RX2 TX2 4, u_lay RX2 TX2 5, u_lay RX2 TX2 6, u_lay RX2 TX2 7, u_lay RX2 TX2 8, u_lay RX2 TX2 9, u_lay RX2 TX2 10, u_lay RX2 TX2 11, u_lay RX2 TX2 12], w ∈ tbg from List.forall_mem_cons.mpr ⟨wb_160, List.forall_mem_cons.mpr ⟨wb_162, List.forall_mem_cons.mpr ⟨wb_164, List.forall_mem_cons.mpr ⟨wb_166, List.forall_mem_cons.mpr ⟨wb_168, List.forall_mem_cons.mpr ⟨wb_170, List.forall_mem_cons.mpr ⟨wb_172, List.forall_mem_cons.mpr ⟨wb_174, List.forall_mem_cons.mpr ⟨wb_176, List.forall_mem_cons.mpr ⟨wb_178, List.forall_mem_cons.mpr ⟨wb_180, List.forall_mem_cons.mpr ⟨wb_182, List.forall_mem_cons.mpr ⟨wb_184, fun _ h => absurd h List.not_mem_nil⟩⟩⟩⟩⟩⟩⟩⟩⟩⟩⟩⟩⟩)
set_option maxRecDepth 100000 in
theorem uw_X3 : ∀ w ∈ u_ws RX3 TX3 9, w ∈ tbg := (show ∀ w ∈ [u_lay RX3 TX3 0, u_lay RX3 TX3 1, u_lay RX3 TX3 2, u_lay RX3 TX3 3, u_lay RX3 TX3 4, u_lay RX3 TX3 5, u_lay RX3 TX3 6, u_lay RX3 TX3 7, u_lay RX3 TX3 8], w ∈ tbg from List.forall_mem_cons.mpr ⟨wb_105, List.forall_mem_cons.mpr ⟨wb_107, List.forall_mem_cons.mpr ⟨wb_109, List.forall_mem_cons.mpr ⟨wb_111, List.forall_mem_cons.mpr ⟨wb_113, List.forall_mem_cons.mpr ⟨wb_115, List.forall_mem_cons.mpr ⟨wb_117, List.forall_mem_cons.mpr ⟨wb_119, List.forall_mem_cons.mpr ⟨wb_121, fun _ h => absurd h List.not_mem_nil⟩⟩⟩⟩⟩⟩⟩⟩⟩)
set_option maxRecDepth 100000 in
theorem uw_X4 : ∀ w ∈ u_ws RX4 TX4 2, w ∈ tbg := (show ∀ w ∈ [u_lay RX4 TX4 0, u_lay RX4 TX4 1], w ∈ tbg from List.forall_mem_cons.mpr ⟨wb_195, List.forall_mem_cons.mpr ⟨wb_197, fun _ h => absurd h List.not_mem_nil⟩⟩)
set_option maxRecDepth 100000 in
theorem uw_X5 : ∀ w ∈ u_ws RX5 TX5 10, w ∈ tbg := (show ∀ w ∈ [u_lay RX5 TX5 0, u_lay RX5 TX5 1, u_lay RX5 TX5 2, u_lay RX5 TX5 3, u_lay RX5 TX5 4, u_lay RX5 TX5 5, u_lay RX5 TX5 6, u_lay RX5 TX5 7, u_lay RX5 TX5 8, u_lay RX5 TX5 9], w ∈ tbg from List.forall_mem_cons.mpr ⟨wb_266, List.forall_mem_cons.mpr ⟨wb_268, List.forall_mem_cons.mpr ⟨wb_270, List.forall_mem_cons.mpr ⟨wb_272, List.forall_mem_cons.mpr ⟨wb_274, List.forall_mem_cons.mpr ⟨wb_276, List.forall_mem_cons.mpr ⟨wb_278, List.forall_mem_cons.mpr ⟨wb_280, List.forall_mem_cons.mpr ⟨wb_282, List.forall_mem_cons.mpr ⟨wb_284, fun _ h => absurd h List.not_mem_nil⟩⟩⟩⟩⟩⟩⟩⟩⟩⟩)
set_option maxRecDepth 100000 in
theorem uw_X6 : ∀ w ∈ u_ws RX6 TX6 19, w ∈ tbg := (show ∀ w ∈ [u_lay RX6 TX6 0, u_lay RX6 TX6 1, u_lay RX6 TX6 2, u_lay RX6 TX6 3, u_lay RX6 TX6 4, u_lay RX6 TX6 5, u_lay RX6 TX6 6, u_lay RX6 TX6 7, u_lay RX6 TX6 8, u_lay RX6 TX6 9, u_lay RX6 TX6 10, u_lay RX6 TX6 11, u_lay RX6 TX6 12, u_lay RX6 TX6 13, u_lay RX6 TX6 14, u_lay RX6 TX6 15, u_lay RX6 TX6 16, u_lay RX6 TX6 17, u_lay RX6 TX6 18], w ∈ tbg from List.forall_mem_cons.mpr ⟨wb_874, List.forall_mem_cons.mpr ⟨wb_876, List.forall_mem_cons.mpr ⟨wb_878, List.forall_mem_cons.mpr ⟨wb_880, List.forall_mem_cons.mpr ⟨wb_882, List.forall_mem_cons.mpr ⟨wb_884, List.forall_mem_cons.mpr ⟨wb_886, List.forall_mem_cons.mpr ⟨wb_888, List.forall_mem_cons.mpr ⟨wb_890, List.forall_mem_cons.mpr ⟨wb_892, List.forall_mem_cons.mpr ⟨wb_894, List.forall_mem_cons.mpr ⟨wb_896, List.forall_mem_cons.mpr ⟨wb_898, List.forall_mem_cons.mpr ⟨wb_900, List.forall_mem_cons.mpr ⟨wb_902, List.forall_mem_cons.mpr ⟨wb_904, List.forall_mem_cons.mpr ⟨wb_906, List.forall_mem_cons.mpr ⟨wb_908, List.forall_mem_cons.mpr ⟨wb_910, fun _ h => absurd h List.not_mem_nil⟩⟩⟩⟩⟩⟩⟩⟩⟩⟩⟩⟩⟩⟩⟩⟩⟩⟩⟩)
theorem fk_X0_11 : fldOK RX0 11 0 0 16 := ⟨RX0, TX0, rfl, by decide, uw_X0, wb_206⟩
theorem fk_X0_15 : fldOK RX0 15 0 1 16 := ⟨RX0, TX0, rfl, by decide, uw_X0, wb_207⟩
theorem fk_X0_18 : fldOK RX0 18 0 2 16 := ⟨RX0, TX0, rfl, by decide, uw_X0, wb_208⟩
theorem fk_X0_21 : fldOK RX0 21 0 3 16 := ⟨RX0, TX0, rfl, by decide, uw_X0, wb_209⟩
theorem fk_X0_24 : fldOK RX0 24 0 4 16 := ⟨RX0, TX0, rfl, by decide, uw_X0, wb_210⟩
theorem fk_X0_27 : fldOK RX0 27 0 5 16 := ⟨RX0, TX0, rfl, by decide, uw_X0, wb_211⟩
theorem fk_X0_30 : fldOK RX0 30 0 6 16 := ⟨RX0, TX0, rfl, by decide, uw_X0, wb_212⟩
theorem fk_X0_34 : fldOK RX0 34 0 7 16 := ⟨RX0, TX0, rfl, by decide, uw_X0, wb_213⟩
theorem fk_X0_37 : fldOK RX0 37 0 8 16 := ⟨RX0, TX0, rfl, by decide, uw_X0, wb_214⟩
theorem fk_X0_40 : fldOK RX0 40 0 9 16 := ⟨RX0, TX0, rfl, by decide, uw_X0, wb_215⟩
theorem fk_X0_44 : fldOK RX0 44 0 11 16 := ⟨RX0, TX0, rfl, by decide, uw_X0, wb_217⟩
theorem fk_X0_53 : fldOK RX0 53 0 12 16 := ⟨RX0, TX0, rfl, by decide, uw_X0, wb_218⟩
theorem fk_X0_59 : fldOK RX0 59 0 13 16 := ⟨RX0, TX0, rfl, by decide, uw_X0, wb_219⟩
theorem fk_X0_66 : fldOK RX0 66 0 10 16 := ⟨RX0, TX0, rfl, by decide, uw_X0, wb_216⟩
theorem fk_X0_119 : fldOK RX0 119 0 14 16 := ⟨RX0, TX0, rfl, by decide, uw_X0, wb_220⟩
theorem fk_X0_188 : fldOK RX0 188 0 15 16 := ⟨RX0, TX0, rfl, by decide, uw_X0, wb_221⟩
theorem fk_X1_9 : fldOK RX1 9 1 0 2 := ⟨RX1, TX1, rfl, by decide, uw_X1, wb_133⟩
theorem fk_X1_15 : fldOK RX1 15 1 1 2 := ⟨RX1, TX1, rfl, by decide, uw_X1, wb_134⟩
theorem fk_X2_11 : fldOK RX2 11 2 0 13 := ⟨RX2, TX2, rfl, by decide, uw_X2, wb_147⟩
theorem fk_X2_15 : fldOK RX2 15 2 1 13 := ⟨RX2, TX2, rfl, by decide, uw_X2, wb_148⟩
theorem fk_X2_18 : fldOK RX2 18 2 2 13 := ⟨RX2, TX2, rfl, by decide, uw_X2, wb_149⟩
theorem fk_X2_21 : fldOK RX2 21 2 3 13 := ⟨RX2, TX2, rfl, by decide, uw_X2, wb_150⟩
theorem fk_X2_25 : fldOK RX2 25 2 4 13 := ⟨RX2, TX2, rfl, by decide, uw_X2, wb_151⟩
theorem fk_X2_28 : fldOK RX2 28 2 5 13 := ⟨RX2, TX2, rfl, by decide, uw_X2, wb_152⟩
theorem fk_X2_32 : fldOK RX2 32 2 6 13 := ⟨RX2, TX2, rfl, by decide, uw_X2, wb_153⟩
theorem fk_X2_35 : fldOK RX2 35 2 7 13 := ⟨RX2, TX2, rfl, by decide, uw_X2, wb_154⟩
theorem fk_X2_56 : fldOK RX2 56 2 8 13 := ⟨RX2, TX2, rfl, by decide, uw_X2, wb_155⟩
theorem fk_X2_107 : fldOK RX2 107 2 11 13 := ⟨RX2, TX2, rfl, by decide, uw_X2, wb_158⟩
theorem fk_X2_115 : fldOK RX2 115 2 9 13 := ⟨RX2, TX2, rfl, by decide, uw_X2, wb_156⟩
theorem fk_X2_118 : fldOK RX2 118 2 10 13 := ⟨RX2, TX2, rfl, by decide, uw_X2, wb_157⟩
theorem fk_X2_121 : fldOK RX2 121 2 12 13 := ⟨RX2, TX2, rfl, by decide, uw_X2, wb_159⟩
theorem fk_X3_9 : fldOK RX3 9 3 0 9 := ⟨RX3, TX3, rfl, by decide, uw_X3, wb_96⟩
theorem fk_X3_15 : fldOK RX3 15 3 1 9 := ⟨RX3, TX3, rfl, by decide, uw_X3, wb_97⟩
theorem fk_X3_18 : fldOK RX3 18 3 2 9 := ⟨RX3, TX3, rfl, by decide, uw_X3, wb_98⟩
theorem fk_X3_21 : fldOK RX3 21 3 3 9 := ⟨RX3, TX3, rfl, by decide, uw_X3, wb_99⟩
theorem fk_X3_25 : fldOK RX3 25 3 4 9 := ⟨RX3, TX3, rfl, by decide, uw_X3, wb_100⟩
theorem fk_X3_28 : fldOK RX3 28 3 5 9 := ⟨RX3, TX3, rfl, by decide, uw_X3, wb_101⟩
theorem fk_X3_32 : fldOK RX3 32 3 6 9 := ⟨RX3, TX3, rfl, by decide, uw_X3, wb_102⟩
theorem fk_X3_35 : fldOK RX3 35 3 7 9 := ⟨RX3, TX3, rfl, by decide, uw_X3, wb_103⟩
theorem fk_X3_38 : fldOK RX3 38 3 8 9 := ⟨RX3, TX3, rfl, by decide, uw_X3, wb_104⟩
theorem fk_X4_9 : fldOK RX4 9 4 0 2 := ⟨RX4, TX4, rfl, by decide, uw_X4, wb_193⟩
theorem fk_X4_15 : fldOK RX4 15 4 1 2 := ⟨RX4, TX4, rfl, by decide, uw_X4, wb_194⟩
theorem fk_X5_12 : fldOK RX5 12 5 0 10 := ⟨RX5, TX5, rfl, by decide, uw_X5, wb_256⟩
theorem fk_X5_16 : fldOK RX5 16 5 1 10 := ⟨RX5, TX5, rfl, by decide, uw_X5, wb_257⟩
theorem fk_X5_19 : fldOK RX5 19 5 2 10 := ⟨RX5, TX5, rfl, by decide, uw_X5, wb_258⟩
theorem fk_X5_22 : fldOK RX5 22 5 3 10 := ⟨RX5, TX5, rfl, by decide, uw_X5, wb_259⟩
theorem fk_X5_29 : fldOK RX5 29 5 4 10 := ⟨RX5, TX5, rfl, by decide, uw_X5, wb_260⟩
theorem fk_X5_36 : fldOK RX5 36 5 5 10 := ⟨RX5, TX5, rfl, by decide, uw_X5, wb_261⟩
theorem fk_X5_43 : fldOK RX5 43 5 6 10 := ⟨RX5, TX5, rfl, by decide, uw_X5, wb_262⟩
theorem fk_X5_50 : fldOK RX5 50 5 7 10 := ⟨RX5, TX5, rfl, by decide, uw_X5, wb_263⟩
theorem fk_X5_54 : fldOK RX5 54 5 8 10 := ⟨RX5, TX5, rfl, by decide, uw_X5, wb_264⟩
theorem fk_X5_58 : fldOK RX5 58 5 9 10 := ⟨RX5, TX5, rfl, by decide, uw_X5, wb_265⟩
theorem fk_X6_7 : fldOK RX6 7 6 0 19 := ⟨RX6, TX6, rfl, by decide, uw_X6, wb_855⟩
theorem fk_X6_13 : fldOK RX6 13 6 1 19 := ⟨RX6, TX6, rfl, by decide, uw_X6, wb_856⟩
theorem fk_X6_16 : fldOK RX6 16 6 3 19 := ⟨RX6, TX6, rfl, by decide, uw_X6, wb_858⟩
theorem fk_X6_19 : fldOK RX6 19 6 5 19 := ⟨RX6, TX6, rfl, by decide, uw_X6, wb_860⟩
theorem fk_X6_23 : fldOK RX6 23 6 7 19 := ⟨RX6, TX6, rfl, by decide, uw_X6, wb_862⟩
theorem fk_X6_26 : fldOK RX6 26 6 9 19 := ⟨RX6, TX6, rfl, by decide, uw_X6, wb_864⟩
theorem fk_X6_29 : fldOK RX6 29 6 10 19 := ⟨RX6, TX6, rfl, by decide, uw_X6, wb_865⟩
theorem fk_X6_32 : fldOK RX6 32 6 11 19 := ⟨RX6, TX6, rfl, by decide, uw_X6, wb_866⟩
theorem fk_X6_35 : fldOK RX6 35 6 13 19 := ⟨RX6, TX6, rfl, by decide, uw_X6, wb_868⟩
theorem fk_X6_38 : fldOK RX6 38 6 15 19 := ⟨RX6, TX6, rfl, by decide, uw_X6, wb_870⟩
theorem fk_X6_45 : fldOK RX6 45 6 2 19 := ⟨RX6, TX6, rfl, by decide, uw_X6, wb_857⟩
theorem fk_X6_49 : fldOK RX6 49 6 4 19 := ⟨RX6, TX6, rfl, by decide, uw_X6, wb_859⟩
theorem fk_X6_82 : fldOK RX6 82 6 8 19 := ⟨RX6, TX6, rfl, by decide, uw_X6, wb_863⟩
theorem fk_X6_149 : fldOK RX6 149 6 12 19 := ⟨RX6, TX6, rfl, by decide, uw_X6, wb_867⟩
theorem fk_X6_152 : fldOK RX6 152 6 6 19 := ⟨RX6, TX6, rfl, by decide, uw_X6, wb_861⟩
theorem fk_X6_164 : fldOK RX6 164 6 17 19 := ⟨RX6, TX6, rfl, by decide, uw_X6, wb_872⟩
theorem fk_X6_170 : fldOK RX6 170 6 18 19 := ⟨RX6, TX6, rfl, by decide, uw_X6, wb_873⟩
theorem fk_X6_184 : fldOK RX6 184 6 14 19 := ⟨RX6, TX6, rfl, by decide, uw_X6, wb_869⟩
theorem fk_X6_187 : fldOK RX6 187 6 16 19 := ⟨RX6, TX6, rfl, by decide, uw_X6, wb_871⟩
theorem fp_X0_40 : fputOK RX0 40 0 9 16 .int := ⟨RX0, TX0, tyX0, rfl, by decide, uw_X0, wb_215, tyX0_ok, nmX0, rfl, by decide +kernel⟩
theorem fp_X0_44 : fputOK RX0 44 0 11 16 .int := ⟨RX0, TX0, tyX0, rfl, by decide, uw_X0, wb_217, tyX0_ok, nmX0, rfl, by decide +kernel⟩
theorem fp_X0_53 : fputOK RX0 53 0 12 16 .int := ⟨RX0, TX0, tyX0, rfl, by decide, uw_X0, wb_218, tyX0_ok, nmX0, rfl, by decide +kernel⟩
theorem fp_X0_59 : fputOK RX0 59 0 13 16 .int := ⟨RX0, TX0, tyX0, rfl, by decide, uw_X0, wb_219, tyX0_ok, nmX0, rfl, by decide +kernel⟩
theorem fp_X0_66 : fputOK RX0 66 0 10 16 .int := ⟨RX0, TX0, tyX0, rfl, by decide, uw_X0, wb_216, tyX0_ok, nmX0, rfl, by decide +kernel⟩
theorem fp_X0_119 : fputOK RX0 119 0 14 16 .int := ⟨RX0, TX0, tyX0, rfl, by decide, uw_X0, wb_220, tyX0_ok, nmX0, rfl, by decide +kernel⟩
theorem fp_X0_188 : fputOK RX0 188 0 15 16 .int := ⟨RX0, TX0, tyX0, rfl, by decide, uw_X0, wb_221, tyX0_ok, nmX0, rfl, by decide +kernel⟩
theorem fp_X1_15 : fputOK RX1 15 1 1 2 .int := ⟨RX1, TX1, tyX1, rfl, by decide, uw_X1, wb_134, tyX1_ok, nmX1, rfl, by decide +kernel⟩
theorem fp_X2_28 : fputOK RX2 28 2 5 13 .int := ⟨RX2, TX2, tyX2, rfl, by decide, uw_X2, wb_152, tyX2_ok, nmX2, rfl, by decide +kernel⟩
theorem fp_X2_32 : fputOK RX2 32 2 6 13 .int := ⟨RX2, TX2, tyX2, rfl, by decide, uw_X2, wb_153, tyX2_ok, nmX2, rfl, by decide +kernel⟩
theorem fp_X2_35 : fputOK RX2 35 2 7 13 .int := ⟨RX2, TX2, tyX2, rfl, by decide, uw_X2, wb_154, tyX2_ok, nmX2, rfl, by decide +kernel⟩
theorem fp_X2_56 : fputOK RX2 56 2 8 13 .int := ⟨RX2, TX2, tyX2, rfl, by decide, uw_X2, wb_155, tyX2_ok, nmX2, rfl, by decide +kernel⟩
theorem fp_X2_107 : fputOK RX2 107 2 11 13 .boolean := ⟨RX2, TX2, tyX2, rfl, by decide, uw_X2, wb_158, tyX2_ok, nmX2, rfl, by decide +kernel⟩
theorem fp_X2_115 : fputOK RX2 115 2 9 13 .int := ⟨RX2, TX2, tyX2, rfl, by decide, uw_X2, wb_156, tyX2_ok, nmX2, rfl, by decide +kernel⟩
theorem fp_X2_118 : fputOK RX2 118 2 10 13 .int := ⟨RX2, TX2, tyX2, rfl, by decide, uw_X2, wb_157, tyX2_ok, nmX2, rfl, by decide +kernel⟩
theorem fp_X2_121 : fputOK RX2 121 2 12 13 .boolean := ⟨RX2, TX2, tyX2, rfl, by decide, uw_X2, wb_159, tyX2_ok, nmX2, rfl, by decide +kernel⟩
theorem fp_X3_28 : fputOK RX3 28 3 5 9 .int := ⟨RX3, TX3, tyX3, rfl, by decide, uw_X3, wb_101, tyX3_ok, nmX3, rfl, by decide +kernel⟩
theorem fp_X3_32 : fputOK RX3 32 3 6 9 .int := ⟨RX3, TX3, tyX3, rfl, by decide, uw_X3, wb_102, tyX3_ok, nmX3, rfl, by decide +kernel⟩
theorem fp_X3_35 : fputOK RX3 35 3 7 9 .int := ⟨RX3, TX3, tyX3, rfl, by decide, uw_X3, wb_103, tyX3_ok, nmX3, rfl, by decide +kernel⟩
theorem fp_X3_38 : fputOK RX3 38 3 8 9 .int := ⟨RX3, TX3, tyX3, rfl, by decide, uw_X3, wb_104, tyX3_ok, nmX3, rfl, by decide +kernel⟩
theorem fp_X4_15 : fputOK RX4 15 4 1 2 .int := ⟨RX4, TX4, tyX4, rfl, by decide, uw_X4, wb_194, tyX4_ok, nmX4, rfl, by decide +kernel⟩
theorem fp_X5_54 : fputOK RX5 54 5 8 10 .boolean := ⟨RX5, TX5, tyX5, rfl, by decide, uw_X5, wb_264, tyX5_ok, nmX5, rfl, by decide +kernel⟩
theorem fp_X5_58 : fputOK RX5 58 5 9 10 .int := ⟨RX5, TX5, tyX5, rfl, by decide, uw_X5, wb_265, tyX5_ok, nmX5, rfl, by decide +kernel⟩
theorem fp_X6_45 : fputOK RX6 45 6 2 19 .int := ⟨RX6, TX6, tyX6, rfl, by decide, uw_X6, wb_857, tyX6_ok, nmX6, rfl, by decide +kernel⟩
theorem fp_X6_49 : fputOK RX6 49 6 4 19 .boolean := ⟨RX6, TX6, tyX6, rfl, by decide, uw_X6, wb_859, tyX6_ok, nmX6, rfl, by decide +kernel⟩
theorem fp_X6_82 : fputOK RX6 82 6 8 19 .int := ⟨RX6, TX6, tyX6, rfl, by decide, uw_X6, wb_863, tyX6_ok, nmX6, rfl, by decide +kernel⟩
theorem fp_X6_149 : fputOK RX6 149 6 12 19 .int := ⟨RX6, TX6, tyX6, rfl, by decide, uw_X6, wb_867, tyX6_ok, nmX6, rfl, by decide +kernel⟩
theorem fp_X6_152 : fputOK RX6 152 6 6 19 .int := ⟨RX6, TX6, tyX6, rfl, by decide, uw_X6, wb_861, tyX6_ok, nmX6, rfl, by decide +kernel⟩
theorem fp_X6_164 : fputOK RX6 164 6 17 19 .int := ⟨RX6, TX6, tyX6, rfl, by decide, uw_X6, wb_872, tyX6_ok, nmX6, rfl, by decide +kernel⟩
theorem fp_X6_170 : fputOK RX6 170 6 18 19 .int := ⟨RX6, TX6, tyX6, rfl, by decide, uw_X6, wb_873, tyX6_ok, nmX6, rfl, by decide +kernel⟩
theorem fp_X6_184 : fputOK RX6 184 6 14 19 .int := ⟨RX6, TX6, tyX6, rfl, by decide, uw_X6, wb_869, tyX6_ok, nmX6, rfl, by decide +kernel⟩
theorem fp_X6_187 : fputOK RX6 187 6 16 19 .int := ⟨RX6, TX6, tyX6, rfl, by decide, uw_X6, wb_871, tyX6_ok, nmX6, rfl, by decide +kernel⟩
theorem wn_X2_111 : (RX2, 111, yX5_isWithin, "EchoTurns") ∈ pmN := by decide +kernel
theorem wn_X3_75 : (RX3, 75, yX5_isWithin, "EchoTurns") ∈ pmN := by decide +kernel
def mX3_become : MI := (yX3_become, cX3_become, 2, none)
def mX3_targetCount : MI := (yX3_targetCount, cX3_targetCount, 1, some .int)
def mX3_turnCount : MI := (yX3_turnCount, cX3_turnCount, 1, some .int)
def mX3_blindBelow : MI := (yX3_blindBelow, cX3_blindBelow, 1, some .int)
def mX3_loudFrom : MI := (yX3_loudFrom, cX3_loudFrom, 1, some .int)
def mX3_has : MI := (yX3_has, cX3_has, 2, some .boolean)
def mX3_hasTurn : MI := (yX3_hasTurn, cX3_hasTurn, 2, some .boolean)
def mX3_distanceOf : MI := (yX3_distanceOf, cX3_distanceOf, 2, some .int)
def mX3_strengthOf : MI := (yX3_strengthOf, cX3_strengthOf, 2, some .int)
def mX3_movementOf : MI := (yX3_movementOf, cX3_movementOf, 2, some .int)
def mX3_isWall : MI := (yX3_isWall, cX3_isWall, 2, some .boolean)
def mX3_spacingOf : MI := (yX3_spacingOf, cX3_spacingOf, 2, some .int)
def mX3_wallCount : MI := (yX3_wallCount, cX3_wallCount, 3, some .int)
def mX3_holds : MI := (yX3_holds, cX3_holds, 4, some .boolean)
def mX3_join : MI := (yX3_join, cX3_join, 5, some .int)
def mX3_put : MI := (yX3_put, cX3_put, 6, none)
def mX3_putAs : MI := (yX3_putAs, cX3_putAs, 4, none)
def mX3_leave : MI := (yX3_leave, cX3_leave, 3, none)
def mX3_leaveAll : MI := (yX3_leaveAll, cX3_leaveAll, 1, none)
def mX3_moveAll : MI := (yX3_moveAll, cX3_moveAll, 4, none)
def mX3_forgetTurns : MI := (yX3_forgetTurns, cX3_forgetTurns, 1, none)
def mX3_addTurn : MI := (yX3_addTurn, cX3_addTurn, 2, none)
def mX3_changeBlind : MI := (yX3_changeBlind, cX3_changeBlind, 3, some .int)
def mX3_changeLoud : MI := (yX3_changeLoud, cX3_changeLoud, 3, some .int)
def mX0_listen : MI := (yX0_listen, cX0_listen, 3, none)
def mX0_takeTargets : MI := (yX0_takeTargets, cX0_takeTargets, 3, none)
def mX0_takeGhosts : MI := (yX0_takeGhosts, cX0_takeGhosts, 4, none)
def mX0_takeGhost : MI := (yX0_takeGhost, cX0_takeGhost, 7, none)
def mX0_take : MI := (yX0_take, cX0_take, 6, none)
def mX0_takePitches : MI := (yX0_takePitches, cX0_takePitches, 2, none)
def mX0_sounds : MI := (yX0_sounds, cX0_sounds, 3, some .boolean)
def mX0_hearTurn : MI := (yX0_hearTurn, cX0_hearTurn, 6, none)
def mX0_has : MI := (yX0_has, cX0_has, 2, some .boolean)
def mX0_distanceOf : MI := (yX0_distanceOf, cX0_distanceOf, 2, some .int)
def mX0_strengthOf : MI := (yX0_strengthOf, cX0_strengthOf, 2, some .int)
def mX0_movementOf : MI := (yX0_movementOf, cX0_movementOf, 2, some .int)
def mX0_lesserWall : MI := (yX0_lesserWall, cX0_lesserWall, 2, some .int)
def mX0_greaterWall : MI := (yX0_greaterWall, cX0_greaterWall, 2, some .int)
def mX0_isFaint : MI := (yX0_isFaint, cX0_isFaint, 2, some .boolean)
def mX0_placeOf : MI := (yX0_placeOf, cX0_placeOf, 6, some .int)
def mX0_codeOf : MI := (yX0_codeOf, cX0_codeOf, 2, some .int)
def mX0_isHeard : MI := (yX0_isHeard, cX0_isHeard, 5, some .boolean)
def mX0_ghostCount : MI := (yX0_ghostCount, cX0_ghostCount, 1, some .int)
def mX0_ghostsOf : MI := (yX0_ghostsOf, cX0_ghostsOf, 4, some .int)
def mX0_echoCount : MI := (yX0_echoCount, cX0_echoCount, 3, some .int)
def mX0_lostCount : MI := (yX0_lostCount, cX0_lostCount, 3, some .int)
def mX0_lostTurns : MI := (yX0_lostTurns, cX0_lostTurns, 4, some .int)
def mX0_faintCount : MI := (yX0_faintCount, cX0_faintCount, 3, some .int)
def mX0_findEcho : MI := (yX0_findEcho, cX0_findEcho, 6, some .int)
def mX0_strengthTogether : MI := (yX0_strengthTogether, cX0_strengthTogether, 6, some .int)
def mX0_sourcesTogether : MI := (yX0_sourcesTogether, cX0_sourcesTogether, 6, some .int)
def mX0_isPartOf : MI := (yX0_isPartOf, cX0_isPartOf, 5, some .boolean)
def mX0_fitOf : MI := (yX0_fitOf, cX0_fitOf, 5, some .int)
def mX0_turnsThatFit : MI := (yX0_turnsThatFit, cX0_turnsThatFit, 6, some .int)
def mX0_isToldSource : MI := (yX0_isToldSource, cX0_isToldSource, 2, some .boolean)
def mX0_isTrue : MI := (yX0_isTrue, cX0_isTrue, 3, some .boolean)
def mX0_sourcesAt : MI := (yX0_sourcesAt, cX0_sourcesAt, 6, some .int)
def mX0_toldCount : MI := (yX0_toldCount, cX0_toldCount, 4, some .int)
def mX0_findTold : MI := (yX0_findTold, cX0_findTold, 5, some .int)
def mX0_trueCount : MI := (yX0_trueCount, cX0_trueCount, 3, some .int)
def mX0_missedCount : MI := (yX0_missedCount, cX0_missedCount, 3, some .int)
def mX0_bestNextSpacing : MI := (yX0_bestNextSpacing, cX0_bestNextSpacing, 6, some .int)
def mX0_gatherOpen : MI := (yX0_gatherOpen, cX0_gatherOpen, 4, none)
def mX0_openTold : MI := (yX0_openTold, cX0_openTold, 6, some .int)
def mX1_length : MI := (yX1_length, cX1_length, 1, some .int)
def mX1_take : MI := (yX1_take, cX1_take, 2, some .boolean)
def mX1_empty : MI := (yX1_empty, cX1_empty, 2, some .int)
def mX1_signAt : MI := (yX1_signAt, cX1_signAt, 2, some .char)
def mX2_read : MI := (yX2_read, cX2_read, 3, some .int)
def mX2_targetCount : MI := (yX2_targetCount, cX2_targetCount, 1, some .int)
def mX2_hasTwins : MI := (yX2_hasTwins, cX2_hasTwins, 3, some .boolean)
def mX2_putInto : MI := (yX2_putInto, cX2_putInto, 3, none)
def mX2_isComplete : MI := (yX2_isComplete, cX2_isComplete, 1, some .boolean)
def mX2_accepts : MI := (yX2_accepts, cX2_accepts, 2, some .boolean)
def mX2_acceptsKind : MI := (yX2_acceptsKind, cX2_acceptsKind, 2, some .boolean)
def mX2_acceptsBegin : MI := (yX2_acceptsBegin, cX2_acceptsBegin, 4, some .boolean)
def mX2_acceptsDigit : MI := (yX2_acceptsDigit, cX2_acceptsDigit, 5, some .boolean)
def mX2_endDistance : MI := (yX2_endDistance, cX2_endDistance, 1, some .boolean)
def mX2_acceptsBehindStrength : MI := (yX2_acceptsBehindStrength, cX2_acceptsBehindStrength, 2, some .boolean)
def mX2_acceptsMovement : MI := (yX2_acceptsMovement, cX2_acceptsMovement, 3, some .boolean)
def mX2_acceptsTargetEnd : MI := (yX2_acceptsTargetEnd, cX2_acceptsTargetEnd, 2, some .boolean)
def mX2_acceptsSlash : MI := (yX2_acceptsSlash, cX2_acceptsSlash, 2, some .boolean)
def mX2_keepTarget : MI := (yX2_keepTarget, cX2_keepTarget, 3, none)
def mX2_keepSpacing : MI := (yX2_keepSpacing, cX2_keepSpacing, 1, some .boolean)
def mX4_length : MI := (yX4_length, cX4_length, 1, some .int)
def mX4_codeAt : MI := (yX4_codeAt, cX4_codeAt, 2, some .int)
def mX4_write : MI := (yX4_write, cX4_write, 3, none)
def mX4_writeTarget : MI := (yX4_writeTarget, cX4_writeTarget, 4, none)
def mX4_writeNumber : MI := (yX4_writeNumber, cX4_writeNumber, 2, none)
def mX4_digitSign : MI := (yX4_digitSign, cX4_digitSign, 1, some .char)
def mX4_put : MI := (yX4_put, cX4_put, 2, none)
def mX5_target : MI := (yX5_target, cX5_target, 6, some .int)
def mX5_drop : MI := (yX5_drop, cX5_drop, 2, some .int)
def mX5_go : MI := (yX5_go, cX5_go, 1, some .int)
def mX5_spacings : MI := (yX5_spacings, cX5_spacings, 5, some .int)
def mX5_set : MI := (yX5_set, cX5_set, 3, some .int)
def mX5_append : MI := (yX5_append, cX5_append, 2, some .int)
def mX5_clear : MI := (yX5_clear, cX5_clear, 1, some .int)
def mX5_fault : MI := (yX5_fault, cX5_fault, 1, some .int)
def mX5_load : MI := (yX5_load, cX5_load, 1, some .int)
def mX5_sign : MI := (yX5_sign, cX5_sign, 2, some .int)
def mX5_targetOf : MI := (yX5_targetOf, cX5_targetOf, 3, some .int)
def mX5_ghost : MI := (yX5_ghost, cX5_ghost, 4, some .int)
def mX5_echo : MI := (yX5_echo, cX5_echo, 7, some .int)
def mX5_fits : MI := (yX5_fits, cX5_fits, 4, some .int)
def mX5_told : MI := (yX5_told, cX5_told, 6, some .int)
def mX5_alike : MI := (yX5_alike, cX5_alike, 5, some .int)
def mX5_unfold : MI := (yX5_unfold, cX5_unfold, 6, some .int)
def mX5_count : MI := (yX5_count, cX5_count, 2, some .int)
def mX5_ifTurn : MI := (yX5_ifTurn, cX5_ifTurn, 3, some .int)
def mX5_bestTurn : MI := (yX5_bestTurn, cX5_bestTurn, 1, some .int)
def mX5_ifWall : MI := (yX5_ifWall, cX5_ifWall, 5, some .int)
def mX5_undo : MI := (yX5_undo, cX5_undo, 1, some .int)
def mX5_save : MI := (yX5_save, cX5_save, 1, some .int)
def mX5_restore : MI := (yX5_restore, cX5_restore, 1, some .int)
def mX5_remember : MI := (yX5_remember, cX5_remember, 1, none)
def mX5_forgetOldest : MI := (yX5_forgetOldest, cX5_forgetOldest, 3, none)
def mX5_comingError : MI := (yX5_comingError, cX5_comingError, 5, some .int)
def mX5_heardOf : MI := (yX5_heardOf, cX5_heardOf, 3, some .int)
def mX5_countHeard : MI := (yX5_countHeard, cX5_countHeard, 2, some .int)
def mX5_isWithin : MI := (yX5_isWithin, cX5_isWithin, 3, some .boolean)
def mX5_isSpacing : MI := (yX5_isSpacing, cX5_isSpacing, 1, some .boolean)
def mX5_isSpacingOrNone : MI := (yX5_isSpacingOrNone, cX5_isSpacingOrNone, 1, some .boolean)
def mX5_asNumber : MI := (yX5_asNumber, cX5_asNumber, 1, some .int)
def mX5_remainder : MI := (yX5_remainder, cX5_remainder, 2, some .int)
def mX5_firstCommonMultiple : MI := (yX5_firstCommonMultiple, cX5_firstCommonMultiple, 4, some .int)
def mX5_commonMultiple : MI := (yX5_commonMultiple, cX5_commonMultiple, 3, some .int)
def mX5_commonDivisor : MI := (yX5_commonDivisor, cX5_commonDivisor, 6, some .int)
def mX5_tryDistances : MI := (yX5_tryDistances, cX5_tryDistances, 7, some .int)
def mX6_in : MI := (yX6_in, cX6_in, 3, some .boolean)
def mX6_of : MI := (yX6_of, cX6_of, 3, some .int)
def mX6_isTarget : MI := (yX6_isTarget, cX6_isTarget, 2, some .boolean)
def mX6_isTurn : MI := (yX6_isTurn, cX6_isTurn, 2, some .boolean)
def mX6_record : MI := (yX6_record, cX6_record, 2, none)
def mX6_undo : MI := (yX6_undo, cX6_undo, 2, some .int)
def mX6_save : MI := (yX6_save, cX6_save, 2, some .int)
def mX6_restore : MI := (yX6_restore, cX6_restore, 2, some .int)
def mX6_isThere : MI := (yX6_isThere, cX6_isThere, 5, some .boolean)
def mX6_add : MI := (yX6_add, cX6_add, 6, none)
def mX6_isBody : MI := (yX6_isBody, cX6_isBody, 3, some .boolean)
def mX6_target : MI := (yX6_target, cX6_target, 5, some .int)
def mX6_takeOut : MI := (yX6_takeOut, cX6_takeOut, 3, none)
def mX6_drop : MI := (yX6_drop, cX6_drop, 2, some .int)
def mX6_go : MI := (yX6_go, cX6_go, 3, some .int)
def mX6_isSpacing : MI := (yX6_isSpacing, cX6_isSpacing, 1, some .boolean)
def mX6_spacings : MI := (yX6_spacings, cX6_spacings, 6, some .int)
def mX6_set : MI := (yX6_set, cX6_set, 4, some .int)
def mX6_body : MI := (yX6_body, cX6_body, 3, some .int)
def mX6_layBody : MI := (yX6_layBody, cX6_layBody, 7, none)
def mX6_placeIn : MI := (yX6_placeIn, cX6_placeIn, 5, some .int)
def mX6_mark : MI := (yX6_mark, cX6_mark, 3, some .int)
def mX6_isFaint : MI := (yX6_isFaint, cX6_isFaint, 2, some .boolean)
def mX6_isLost : MI := (yX6_isLost, cX6_isLost, 3, some .boolean)
def mX6_listen : MI := (yX6_listen, cX6_listen, 5, none)
def mX6_fit : MI := (yX6_fit, cX6_fit, 5, some .int)
def mX6_fitting : MI := (yX6_fitting, cX6_fitting, 6, some .int)
def mX6_isTrue : MI := (yX6_isTrue, cX6_isTrue, 5, some .boolean)
def mX6_toldMany : MI := (yX6_toldMany, cX6_toldMany, 5, some .int)
def mX6_isTold : MI := (yX6_isTold, cX6_isTold, 2, some .boolean)
def mX6_missed : MI := (yX6_missed, cX6_missed, 3, some .int)
def mX6_targetOf : MI := (yX6_targetOf, cX6_targetOf, 5, some .int)
def mX6_ghost : MI := (yX6_ghost, cX6_ghost, 4, some .int)
def mX6_echo : MI := (yX6_echo, cX6_echo, 6, some .int)
def mX6_fits : MI := (yX6_fits, cX6_fits, 4, some .int)
def mX6_told : MI := (yX6_told, cX6_told, 7, some .int)
def mX6_divisor : MI := (yX6_divisor, cX6_divisor, 5, some .int)
def mX6_alike : MI := (yX6_alike, cX6_alike, 4, some .int)
def mX6_unfold : MI := (yX6_unfold, cX6_unfold, 7, some .int)
def mX6_echoes : MI := (yX6_echoes, cX6_echoes, 3, some .int)
def mX6_lostMany : MI := (yX6_lostMany, cX6_lostMany, 4, some .int)
def mX6_faintMany : MI := (yX6_faintMany, cX6_faintMany, 3, some .int)
def mX6_walls : MI := (yX6_walls, cX6_walls, 3, some .int)
def mX6_count : MI := (yX6_count, cX6_count, 2, some .int)
def mX6_withTurn : MI := (yX6_withTurn, cX6_withTurn, 4, some .int)
def mX6_ifTurn : MI := (yX6_ifTurn, cX6_ifTurn, 3, some .int)
def mX6_bestTurn : MI := (yX6_bestTurn, cX6_bestTurn, 5, some .int)
def mX6_ifWall : MI := (yX6_ifWall, cX6_ifWall, 5, some .int)
def mX6_sets : MI := (yX6_sets, cX6_sets, 2, none)
def mX6_setsNumber : MI := (yX6_setsNumber, cX6_setsNumber, 2, none)
def mX6_write : MI := (yX6_write, cX6_write, 2, none)
def mX6_sign : MI := (yX6_sign, cX6_sign, 2, some .int)
def mX6_append : MI := (yX6_append, cX6_append, 2, some .int)
def mX6_clear : MI := (yX6_clear, cX6_clear, 2, some .int)
def mX6_letter : MI := (yX6_letter, cX6_letter, 1, some .int)
def mX6_figure : MI := (yX6_figure, cX6_figure, 2, some .int)
def mX6_wants : MI := (yX6_wants, cX6_wants, 2, none)
def mX6_number : MI := (yX6_number, cX6_number, 3, some .int)
def mX6_readTarget : MI := (yX6_readTarget, cX6_readTarget, 6, none)
def mX6_readSpacing : MI := (yX6_readSpacing, cX6_readSpacing, 3, none)
def mX6_fault : MI := (yX6_fault, cX6_fault, 1, some .int)
def mX6_load : MI := (yX6_load, cX6_load, 4, some .int)
def mJ13_bitCount_95d88 : MI := (yJ13_bitCount_95d88, cJ13_bitCount_95d88, 2, some .int)
theorem mk_J13_bitCount_95d88 : mOKS mJ13_bitCount_95d88 1 := ⟨wb_774, wb_81, wb_775, ⟨by decide +kernel, by decide +kernel⟩, by decide +kernel, by decide⟩
theorem mk_X0_bestNextSpacing : mOKV mX0_bestNextSpacing 0 0 := ⟨wb_820, wb_821, wb_77, wb_822, ⟨_, rfl, rfl⟩, ⟨by decide +kernel, by decide +kernel⟩, by decide +kernel, by decide⟩
theorem mk_X0_codeOf : mOKS mX0_codeOf 2 := ⟨wb_648, wb_77, wb_649, ⟨by decide +kernel, by decide +kernel⟩, by decide +kernel, by decide⟩
theorem mk_X0_distanceOf : mOKV mX0_distanceOf 0 1 := ⟨wb_640, wb_641, wb_77, wb_642, ⟨_, rfl, rfl⟩, ⟨by decide +kernel, by decide +kernel⟩, by decide +kernel, by decide⟩
theorem mk_X0_echoCount : mOKV mX0_echoCount 0 0 := ⟨wb_770, wb_771, wb_77, wb_772, ⟨_, rfl, rfl⟩, ⟨by decide +kernel, by decide +kernel⟩, by decide +kernel, by decide⟩
theorem mk_X0_faintCount : mOKV mX0_faintCount 0 0 := ⟨wb_785, wb_786, wb_77, wb_787, ⟨_, rfl, rfl⟩, ⟨by decide +kernel, by decide +kernel⟩, by decide +kernel, by decide⟩
theorem mk_X0_findEcho : mOKV mX0_findEcho 0 2 := ⟨wb_700, wb_701, wb_77, wb_702, ⟨_, rfl, rfl⟩, ⟨by decide +kernel, by decide +kernel⟩, by decide +kernel, by decide⟩
theorem mk_X0_findTold : mOKV mX0_findTold 0 1 := ⟨wb_725, wb_726, wb_77, wb_727, ⟨_, rfl, rfl⟩, ⟨by decide +kernel, by decide +kernel⟩, by decide +kernel, by decide⟩
theorem mk_X0_fitOf : mOKV mX0_fitOf 0 3 := ⟨wb_659, wb_660, wb_77, wb_661, ⟨_, rfl, rfl⟩, ⟨by decide +kernel, by decide +kernel⟩, by decide +kernel, by decide⟩
theorem mk_X0_gatherOpen : mOKV mX0_gatherOpen 0 0 := ⟨wb_825, wb_36, wb_77, wb_826, ⟨_, rfl, rfl⟩, ⟨by decide +kernel, by decide +kernel⟩, by decide +kernel, by decide⟩
theorem mk_X0_ghostCount : mOKV mX0_ghostCount 0 0 := ⟨wb_687, wb_688, wb_77, wb_689, ⟨_, rfl, rfl⟩, ⟨by decide +kernel, by decide +kernel⟩, by decide +kernel, by decide⟩
theorem mk_X0_ghostsOf : mOKV mX0_ghostsOf 0 1 := ⟨wb_671, wb_672, wb_77, wb_673, ⟨_, rfl, rfl⟩, ⟨by decide +kernel, by decide +kernel⟩, by decide +kernel, by decide⟩
theorem mk_X0_greaterWall : mOKV mX0_greaterWall 0 1 := ⟨wb_679, wb_680, wb_77, wb_681, ⟨_, rfl, rfl⟩, ⟨by decide +kernel, by decide +kernel⟩, by decide +kernel, by decide⟩
theorem mk_X0_has : mOKV mX0_has 0 1 := ⟨wb_623, wb_28, wb_77, wb_624, ⟨_, rfl, rfl⟩, ⟨by decide +kernel, by decide +kernel⟩, by decide +kernel, by decide⟩
theorem mk_X0_hearTurn : mOKV mX0_hearTurn 0 2 := ⟨wb_637, wb_30, wb_77, wb_638, ⟨_, rfl, rfl⟩, ⟨by decide +kernel, by decide +kernel⟩, by decide +kernel, by decide⟩
theorem mk_X0_isFaint : mOKV mX0_isFaint 0 1 := ⟨wb_627, wb_29, wb_77, wb_628, ⟨_, rfl, rfl⟩, ⟨by decide +kernel, by decide +kernel⟩, by decide +kernel, by decide⟩
theorem mk_X0_isHeard : mOKV mX0_isHeard 0 3 := ⟨wb_664, wb_32, wb_77, wb_665, ⟨_, rfl, rfl⟩, ⟨by decide +kernel, by decide +kernel⟩, by decide +kernel, by decide⟩
theorem mk_X0_isPartOf : mOKV mX0_isPartOf 0 4 := ⟨wb_709, wb_33, wb_77, wb_710, ⟨_, rfl, rfl⟩, ⟨by decide +kernel, by decide +kernel⟩, by decide +kernel, by decide⟩
theorem mk_X0_isToldSource : mOKV mX0_isToldSource 0 1 := ⟨wb_651, wb_652, wb_77, wb_653, ⟨_, rfl, rfl⟩, ⟨by decide +kernel, by decide +kernel⟩, by decide +kernel, by decide⟩
theorem mk_X0_isTrue : mOKV mX0_isTrue 0 2 := ⟨wb_729, wb_730, wb_77, wb_731, ⟨_, rfl, rfl⟩, ⟨by decide +kernel, by decide +kernel⟩, by decide +kernel, by decide⟩
theorem mk_X0_lesserWall : mOKV mX0_lesserWall 0 1 := ⟨wb_675, wb_676, wb_77, wb_677, ⟨_, rfl, rfl⟩, ⟨by decide +kernel, by decide +kernel⟩, by decide +kernel, by decide⟩
theorem mk_X0_listen : mOKV mX0_listen 0 1 := ⟨wb_571, wb_572, wb_77, wb_573, ⟨_, rfl, rfl⟩, ⟨by decide +kernel, by decide +kernel⟩, by decide +kernel, by decide⟩
theorem mk_X0_lostCount : mOKV mX0_lostCount 0 0 := ⟨wb_780, wb_781, wb_77, wb_782, ⟨_, rfl, rfl⟩, ⟨by decide +kernel, by decide +kernel⟩, by decide +kernel, by decide⟩
theorem mk_X0_lostTurns : mOKV mX0_lostTurns 0 1 := ⟨wb_667, wb_668, wb_77, wb_669, ⟨_, rfl, rfl⟩, ⟨by decide +kernel, by decide +kernel⟩, by decide +kernel, by decide⟩
theorem mk_X0_missedCount : mOKV mX0_missedCount 0 0 := ⟨wb_798, wb_799, wb_77, wb_800, ⟨_, rfl, rfl⟩, ⟨by decide +kernel, by decide +kernel⟩, by decide +kernel, by decide⟩
theorem mk_X0_movementOf : mOKV mX0_movementOf 0 1 := ⟨wb_619, wb_27, wb_77, wb_620, ⟨_, rfl, rfl⟩, ⟨by decide +kernel, by decide +kernel⟩, by decide +kernel, by decide⟩
theorem mk_X0_openTold : mOKV mX0_openTold 0 1 := ⟨wb_829, wb_37, wb_77, wb_830, ⟨_, rfl, rfl⟩, ⟨by decide +kernel, by decide +kernel⟩, by decide +kernel, by decide⟩
theorem mk_X0_placeOf : mOKV mX0_placeOf 0 3 := ⟨wb_645, wb_31, wb_77, wb_646, ⟨_, rfl, rfl⟩, ⟨by decide +kernel, by decide +kernel⟩, by decide +kernel, by decide⟩
theorem mk_X0_sounds : mOKV mX0_sounds 0 1 := ⟨wb_615, wb_26, wb_77, wb_616, ⟨_, rfl, rfl⟩, ⟨by decide +kernel, by decide +kernel⟩, by decide +kernel, by decide⟩
theorem mk_X0_sourcesAt : mOKV mX0_sourcesAt 0 3 := ⟨wb_734, wb_34, wb_77, wb_735, ⟨_, rfl, rfl⟩, ⟨by decide +kernel, by decide +kernel⟩, by decide +kernel, by decide⟩
theorem mk_X0_sourcesTogether : mOKV mX0_sourcesTogether 0 3 := ⟨wb_712, wb_713, wb_77, wb_714, ⟨_, rfl, rfl⟩, ⟨by decide +kernel, by decide +kernel⟩, by decide +kernel, by decide⟩
theorem mk_X0_strengthOf : mOKV mX0_strengthOf 0 1 := ⟨wb_630, wb_631, wb_77, wb_632, ⟨_, rfl, rfl⟩, ⟨by decide +kernel, by decide +kernel⟩, by decide +kernel, by decide⟩
theorem mk_X0_strengthTogether : mOKV mX0_strengthTogether 0 3 := ⟨wb_704, wb_705, wb_77, wb_706, ⟨_, rfl, rfl⟩, ⟨by decide +kernel, by decide +kernel⟩, by decide +kernel, by decide⟩
theorem mk_X0_take : mOKV mX0_take 0 5 := ⟨wb_592, wb_22, wb_77, wb_593, ⟨_, rfl, rfl⟩, ⟨by decide +kernel, by decide +kernel⟩, by decide +kernel, by decide⟩
theorem mk_X0_takeGhost : mOKV mX0_takeGhost 0 3 := ⟨wb_601, wb_24, wb_77, wb_602, ⟨_, rfl, rfl⟩, ⟨by decide +kernel, by decide +kernel⟩, by decide +kernel, by decide⟩
theorem mk_X0_takeGhosts : mOKV mX0_takeGhosts 0 1 := ⟨wb_596, wb_23, wb_77, wb_597, ⟨_, rfl, rfl⟩, ⟨by decide +kernel, by decide +kernel⟩, by decide +kernel, by decide⟩
theorem mk_X0_takePitches : mOKV mX0_takePitches 0 0 := ⟨wb_611, wb_25, wb_77, wb_612, ⟨_, rfl, rfl⟩, ⟨by decide +kernel, by decide +kernel⟩, by decide +kernel, by decide⟩
theorem mk_X0_takeTargets : mOKV mX0_takeTargets 0 1 := ⟨wb_584, wb_21, wb_77, wb_585, ⟨_, rfl, rfl⟩, ⟨by decide +kernel, by decide +kernel⟩, by decide +kernel, by decide⟩
theorem mk_X0_toldCount : mOKV mX0_toldCount 0 0 := ⟨wb_789, wb_790, wb_77, wb_791, ⟨_, rfl, rfl⟩, ⟨by decide +kernel, by decide +kernel⟩, by decide +kernel, by decide⟩
theorem mk_X0_trueCount : mOKV mX0_trueCount 0 0 := ⟨wb_793, wb_794, wb_77, wb_795, ⟨_, rfl, rfl⟩, ⟨by decide +kernel, by decide +kernel⟩, by decide +kernel, by decide⟩
theorem mk_X0_turnsThatFit : mOKV mX0_turnsThatFit 0 2 := ⟨wb_655, wb_656, wb_77, wb_657, ⟨_, rfl, rfl⟩, ⟨by decide +kernel, by decide +kernel⟩, by decide +kernel, by decide⟩
theorem mk_X1_empty : mOKV mX1_empty 1 0 := ⟨wb_422, wb_423, wb_74, wb_424, ⟨_, rfl, rfl⟩, ⟨by decide +kernel, by decide +kernel⟩, by decide +kernel, by decide⟩
theorem mk_X1_length : mOKV mX1_length 1 0 := ⟨wb_414, wb_415, wb_74, wb_416, ⟨_, rfl, rfl⟩, ⟨by decide +kernel, by decide +kernel⟩, by decide +kernel, by decide⟩
theorem mk_X1_signAt : mOKV mX1_signAt 1 1 := ⟨wb_435, wb_436, wb_74, wb_437, ⟨_, rfl, rfl⟩, ⟨by decide +kernel, by decide +kernel⟩, by decide +kernel, by decide⟩
theorem mk_X1_take : mOKV mX1_take 1 1 := ⟨wb_410, wb_411, wb_74, wb_412, ⟨_, rfl, rfl⟩, ⟨by decide +kernel, by decide +kernel⟩, by decide +kernel, by decide⟩
theorem mk_X2_accepts : mOKV mX2_accepts 2 1 := ⟨wb_440, wb_5, wb_75, wb_441, ⟨_, rfl, rfl⟩, ⟨by decide +kernel, by decide +kernel⟩, by decide +kernel, by decide⟩
theorem mk_X2_acceptsBegin : mOKV mX2_acceptsBegin 2 3 := ⟨wb_448, wb_7, wb_75, wb_449, ⟨_, rfl, rfl⟩, ⟨by decide +kernel, by decide +kernel⟩, by decide +kernel, by decide⟩
theorem mk_X2_acceptsBehindStrength : mOKV mX2_acceptsBehindStrength 2 1 := ⟨wb_461, wb_10, wb_75, wb_462, ⟨_, rfl, rfl⟩, ⟨by decide +kernel, by decide +kernel⟩, by decide +kernel, by decide⟩
theorem mk_X2_acceptsDigit : mOKV mX2_acceptsDigit 2 3 := ⟨wb_457, wb_9, wb_75, wb_458, ⟨_, rfl, rfl⟩, ⟨by decide +kernel, by decide +kernel⟩, by decide +kernel, by decide⟩
theorem mk_X2_acceptsKind : mOKV mX2_acceptsKind 2 1 := ⟨wb_444, wb_6, wb_75, wb_445, ⟨_, rfl, rfl⟩, ⟨by decide +kernel, by decide +kernel⟩, by decide +kernel, by decide⟩
theorem mk_X2_acceptsMovement : mOKV mX2_acceptsMovement 2 1 := ⟨wb_473, wb_13, wb_75, wb_474, ⟨_, rfl, rfl⟩, ⟨by decide +kernel, by decide +kernel⟩, by decide +kernel, by decide⟩
theorem mk_X2_acceptsSlash : mOKV mX2_acceptsSlash 2 1 := ⟨wb_481, wb_15, wb_75, wb_482, ⟨_, rfl, rfl⟩, ⟨by decide +kernel, by decide +kernel⟩, by decide +kernel, by decide⟩
theorem mk_X2_acceptsTargetEnd : mOKV mX2_acceptsTargetEnd 2 1 := ⟨wb_469, wb_12, wb_75, wb_470, ⟨_, rfl, rfl⟩, ⟨by decide +kernel, by decide +kernel⟩, by decide +kernel, by decide⟩
theorem mk_X2_endDistance : mOKV mX2_endDistance 2 0 := ⟨wb_453, wb_8, wb_75, wb_454, ⟨_, rfl, rfl⟩, ⟨by decide +kernel, by decide +kernel⟩, by decide +kernel, by decide⟩
theorem mk_X2_hasTwins : mOKV mX2_hasTwins 2 0 := ⟨wb_492, wb_493, wb_75, wb_494, ⟨_, rfl, rfl⟩, ⟨by decide +kernel, by decide +kernel⟩, by decide +kernel, by decide⟩
theorem mk_X2_isComplete : mOKV mX2_isComplete 2 0 := ⟨wb_485, wb_16, wb_75, wb_486, ⟨_, rfl, rfl⟩, ⟨by decide +kernel, by decide +kernel⟩, by decide +kernel, by decide⟩
theorem mk_X2_keepSpacing : mOKV mX2_keepSpacing 2 0 := ⟨wb_477, wb_14, wb_75, wb_478, ⟨_, rfl, rfl⟩, ⟨by decide +kernel, by decide +kernel⟩, by decide +kernel, by decide⟩
theorem mk_X2_keepTarget : mOKV mX2_keepTarget 2 2 := ⟨wb_465, wb_11, wb_75, wb_466, ⟨_, rfl, rfl⟩, ⟨by decide +kernel, by decide +kernel⟩, by decide +kernel, by decide⟩
theorem mk_X2_putInto : mOKV mX2_putInto 2 1 := ⟨wb_500, wb_501, wb_75, wb_502, ⟨_, rfl, rfl⟩, ⟨by decide +kernel, by decide +kernel⟩, by decide +kernel, by decide⟩
theorem mk_X2_read : mOKV mX2_read 2 1 := ⟨wb_430, wb_431, wb_75, wb_432, ⟨_, rfl, rfl⟩, ⟨by decide +kernel, by decide +kernel⟩, by decide +kernel, by decide⟩
theorem mk_X2_targetCount : mOKV mX2_targetCount 2 0 := ⟨wb_496, wb_497, wb_75, wb_498, ⟨_, rfl, rfl⟩, ⟨by decide +kernel, by decide +kernel⟩, by decide +kernel, by decide⟩
theorem mk_X3_addTurn : mOKV mX3_addTurn 3 1 := ⟨wb_386, wb_387, wb_73, wb_388, ⟨_, rfl, rfl⟩, ⟨by decide +kernel, by decide +kernel⟩, by decide +kernel, by decide⟩
theorem mk_X3_become : mOKV mX3_become 3 1 := ⟨wb_327, wb_328, wb_73, wb_329, ⟨_, rfl, rfl⟩, ⟨by decide +kernel, by decide +kernel⟩, by decide +kernel, by decide⟩
theorem mk_X3_blindBelow : mOKV mX3_blindBelow 3 0 := ⟨wb_575, wb_576, wb_73, wb_577, ⟨_, rfl, rfl⟩, ⟨by decide +kernel, by decide +kernel⟩, by decide +kernel, by decide⟩
theorem mk_X3_changeBlind : mOKV mX3_changeBlind 3 1 := ⟨wb_398, wb_399, wb_73, wb_400, ⟨_, rfl, rfl⟩, ⟨by decide +kernel, by decide +kernel⟩, by decide +kernel, by decide⟩
theorem mk_X3_changeLoud : mOKV mX3_changeLoud 3 1 := ⟨wb_402, wb_403, wb_73, wb_404, ⟨_, rfl, rfl⟩, ⟨by decide +kernel, by decide +kernel⟩, by decide +kernel, by decide⟩
theorem mk_X3_distanceOf : mOKV mX3_distanceOf 3 1 := ⟨wb_303, wb_304, wb_73, wb_305, ⟨_, rfl, rfl⟩, ⟨by decide +kernel, by decide +kernel⟩, by decide +kernel, by decide⟩
theorem mk_X3_forgetTurns : mOKV mX3_forgetTurns 3 0 := ⟨wb_382, wb_383, wb_73, wb_384, ⟨_, rfl, rfl⟩, ⟨by decide +kernel, by decide +kernel⟩, by decide +kernel, by decide⟩
theorem mk_X3_has : mOKV mX3_has 3 1 := ⟨wb_307, wb_308, wb_73, wb_309, ⟨_, rfl, rfl⟩, ⟨by decide +kernel, by decide +kernel⟩, by decide +kernel, by decide⟩
theorem mk_X3_hasTurn : mOKV mX3_hasTurn 3 1 := ⟨wb_544, wb_545, wb_73, wb_546, ⟨_, rfl, rfl⟩, ⟨by decide +kernel, by decide +kernel⟩, by decide +kernel, by decide⟩
theorem mk_X3_holds : mOKV mX3_holds 3 2 := ⟨wb_299, wb_300, wb_73, wb_301, ⟨_, rfl, rfl⟩, ⟨by decide +kernel, by decide +kernel⟩, by decide +kernel, by decide⟩
theorem mk_X3_isWall : mOKV mX3_isWall 3 1 := ⟨wb_359, wb_360, wb_73, wb_361, ⟨_, rfl, rfl⟩, ⟨by decide +kernel, by decide +kernel⟩, by decide +kernel, by decide⟩
theorem mk_X3_join : mOKV mX3_join 3 4 := ⟨wb_334, wb_335, wb_73, wb_336, ⟨_, rfl, rfl⟩, ⟨by decide +kernel, by decide +kernel⟩, by decide +kernel, by decide⟩
theorem mk_X3_leave : mOKV mX3_leave 3 1 := ⟨wb_347, wb_348, wb_73, wb_349, ⟨_, rfl, rfl⟩, ⟨by decide +kernel, by decide +kernel⟩, by decide +kernel, by decide⟩
theorem mk_X3_leaveAll : mOKV mX3_leaveAll 3 0 := ⟨wb_504, wb_505, wb_73, wb_506, ⟨_, rfl, rfl⟩, ⟨by decide +kernel, by decide +kernel⟩, by decide +kernel, by decide⟩
theorem mk_X3_loudFrom : mOKV mX3_loudFrom 3 0 := ⟨wb_579, wb_580, wb_73, wb_581, ⟨_, rfl, rfl⟩, ⟨by decide +kernel, by decide +kernel⟩, by decide +kernel, by decide⟩
theorem mk_X3_moveAll : mOKV mX3_moveAll 3 0 := ⟨wb_367, wb_368, wb_73, wb_369, ⟨_, rfl, rfl⟩, ⟨by decide +kernel, by decide +kernel⟩, by decide +kernel, by decide⟩
theorem mk_X3_movementOf : mOKV mX3_movementOf 3 1 := ⟨wb_311, wb_312, wb_73, wb_313, ⟨_, rfl, rfl⟩, ⟨by decide +kernel, by decide +kernel⟩, by decide +kernel, by decide⟩
theorem mk_X3_put : mOKV mX3_put 3 5 := ⟨wb_339, wb_3, wb_73, wb_340, ⟨_, rfl, rfl⟩, ⟨by decide +kernel, by decide +kernel⟩, by decide +kernel, by decide⟩
theorem mk_X3_putAs : mOKV mX3_putAs 3 3 := ⟨wb_352, wb_4, wb_73, wb_353, ⟨_, rfl, rfl⟩, ⟨by decide +kernel, by decide +kernel⟩, by decide +kernel, by decide⟩
theorem mk_X3_spacingOf : mOKV mX3_spacingOf 3 1 := ⟨wb_540, wb_541, wb_73, wb_542, ⟨_, rfl, rfl⟩, ⟨by decide +kernel, by decide +kernel⟩, by decide +kernel, by decide⟩
theorem mk_X3_strengthOf : mOKV mX3_strengthOf 3 1 := ⟨wb_355, wb_356, wb_73, wb_357, ⟨_, rfl, rfl⟩, ⟨by decide +kernel, by decide +kernel⟩, by decide +kernel, by decide⟩
theorem mk_X3_targetCount : mOKV mX3_targetCount 3 0 := ⟨wb_315, wb_316, wb_73, wb_317, ⟨_, rfl, rfl⟩, ⟨by decide +kernel, by decide +kernel⟩, by decide +kernel, by decide⟩
theorem mk_X3_turnCount : mOKV mX3_turnCount 3 0 := ⟨wb_390, wb_391, wb_73, wb_392, ⟨_, rfl, rfl⟩, ⟨by decide +kernel, by decide +kernel⟩, by decide +kernel, by decide⟩
theorem mk_X3_wallCount : mOKV mX3_wallCount 3 0 := ⟨wb_802, wb_803, wb_73, wb_804, ⟨_, rfl, rfl⟩, ⟨by decide +kernel, by decide +kernel⟩, by decide +kernel, by decide⟩
theorem mk_X4_codeAt : mOKV mX4_codeAt 4 1 := ⟨wb_552, wb_553, wb_76, wb_554, ⟨_, rfl, rfl⟩, ⟨by decide +kernel, by decide +kernel⟩, by decide +kernel, by decide⟩
theorem mk_X4_digitSign : mOKS mX4_digitSign 1 := ⟨wb_535, wb_76, wb_536, ⟨by decide +kernel, by decide +kernel⟩, by decide +kernel, by decide⟩
theorem mk_X4_length : mOKV mX4_length 4 0 := ⟨wb_548, wb_549, wb_76, wb_550, ⟨_, rfl, rfl⟩, ⟨by decide +kernel, by decide +kernel⟩, by decide +kernel, by decide⟩
theorem mk_X4_put : mOKV mX4_put 4 1 := ⟨wb_521, wb_17, wb_76, wb_522, ⟨_, rfl, rfl⟩, ⟨by decide +kernel, by decide +kernel⟩, by decide +kernel, by decide⟩
theorem mk_X4_write : mOKV mX4_write 4 1 := ⟨wb_515, wb_516, wb_76, wb_517, ⟨_, rfl, rfl⟩, ⟨by decide +kernel, by decide +kernel⟩, by decide +kernel, by decide⟩
theorem mk_X4_writeNumber : mOKV mX4_writeNumber 4 1 := ⟨wb_532, wb_19, wb_76, wb_533, ⟨_, rfl, rfl⟩, ⟨by decide +kernel, by decide +kernel⟩, by decide +kernel, by decide⟩
theorem mk_X4_writeTarget : mOKV mX4_writeTarget 4 2 := ⟨wb_525, wb_18, wb_76, wb_526, ⟨_, rfl, rfl⟩, ⟨by decide +kernel, by decide +kernel⟩, by decide +kernel, by decide⟩
theorem mk_X5_alike : mOKV mX5_alike 5 1 := ⟨wb_738, wb_739, wb_72, wb_740, ⟨_, rfl, rfl⟩, ⟨by decide +kernel, by decide +kernel⟩, by decide +kernel, by decide⟩
theorem mk_X5_append : mOKV mX5_append 5 1 := ⟨wb_406, wb_407, wb_72, wb_408, ⟨_, rfl, rfl⟩, ⟨by decide +kernel, by decide +kernel⟩, by decide +kernel, by decide⟩
theorem mk_X5_asNumber : mOKS mX5_asNumber 1 := ⟨wb_564, wb_72, wb_565, ⟨by decide +kernel, by decide +kernel⟩, by decide +kernel, by decide⟩
theorem mk_X5_bestTurn : mOKV mX5_bestTurn 5 0 := ⟨wb_816, wb_817, wb_72, wb_818, ⟨_, rfl, rfl⟩, ⟨by decide +kernel, by decide +kernel⟩, by decide +kernel, by decide⟩
theorem mk_X5_clear : mOKV mX5_clear 5 0 := ⟨wb_418, wb_419, wb_72, wb_420, ⟨_, rfl, rfl⟩, ⟨by decide +kernel, by decide +kernel⟩, by decide +kernel, by decide⟩
theorem mk_X5_comingError : mOKV mX5_comingError 5 4 := ⟨wb_293, wb_0, wb_72, wb_294, ⟨_, rfl, rfl⟩, ⟨by decide +kernel, by decide +kernel⟩, by decide +kernel, by decide⟩
theorem mk_X5_commonDivisor : mOKS mX5_commonDivisor 2 := ⟨wb_752, wb_72, wb_753, ⟨by decide +kernel, by decide +kernel⟩, by decide +kernel, by decide⟩
theorem mk_X5_commonMultiple : mOKS mX5_commonMultiple 2 := ⟨wb_749, wb_72, wb_750, ⟨by decide +kernel, by decide +kernel⟩, by decide +kernel, by decide⟩
theorem mk_X5_count : mOKV mX5_count 5 1 := ⟨wb_762, wb_763, wb_72, wb_764, ⟨_, rfl, rfl⟩, ⟨by decide +kernel, by decide +kernel⟩, by decide +kernel, by decide⟩
theorem mk_X5_countHeard : mOKV mX5_countHeard 5 1 := ⟨wb_767, wb_35, wb_72, wb_768, ⟨_, rfl, rfl⟩, ⟨by decide +kernel, by decide +kernel⟩, by decide +kernel, by decide⟩
theorem mk_X5_drop : mOKV mX5_drop 5 1 := ⟨wb_342, wb_343, wb_72, wb_344, ⟨_, rfl, rfl⟩, ⟨by decide +kernel, by decide +kernel⟩, by decide +kernel, by decide⟩
theorem mk_X5_echo : mOKV mX5_echo 5 3 := ⟨wb_695, wb_696, wb_72, wb_697, ⟨_, rfl, rfl⟩, ⟨by decide +kernel, by decide +kernel⟩, by decide +kernel, by decide⟩
theorem mk_X5_fault : mOKV mX5_fault 5 0 := ⟨wb_426, wb_427, wb_72, wb_428, ⟨_, rfl, rfl⟩, ⟨by decide +kernel, by decide +kernel⟩, by decide +kernel, by decide⟩
theorem mk_X5_firstCommonMultiple : mOKS mX5_firstCommonMultiple 2 := ⟨wb_743, wb_72, wb_744, ⟨by decide +kernel, by decide +kernel⟩, by decide +kernel, by decide⟩
theorem mk_X5_fits : mOKV mX5_fits 5 3 := ⟨wb_716, wb_717, wb_72, wb_718, ⟨_, rfl, rfl⟩, ⟨by decide +kernel, by decide +kernel⟩, by decide +kernel, by decide⟩
theorem mk_X5_forgetOldest : mOKV mX5_forgetOldest 5 0 := ⟨wb_324, wb_2, wb_72, wb_325, ⟨_, rfl, rfl⟩, ⟨by decide +kernel, by decide +kernel⟩, by decide +kernel, by decide⟩
theorem mk_X5_ghost : mOKV mX5_ghost 5 2 := ⟨wb_683, wb_684, wb_72, wb_685, ⟨_, rfl, rfl⟩, ⟨by decide +kernel, by decide +kernel⟩, by decide +kernel, by decide⟩
theorem mk_X5_go : mOKV mX5_go 5 0 := ⟨wb_363, wb_364, wb_72, wb_365, ⟨_, rfl, rfl⟩, ⟨by decide +kernel, by decide +kernel⟩, by decide +kernel, by decide⟩
theorem mk_X5_heardOf : mOKV mX5_heardOf 5 2 := ⟨wb_568, wb_20, wb_72, wb_569, ⟨_, rfl, rfl⟩, ⟨by decide +kernel, by decide +kernel⟩, by decide +kernel, by decide⟩
theorem mk_X5_ifTurn : mOKV mX5_ifTurn 5 2 := ⟨wb_812, wb_813, wb_72, wb_814, ⟨_, rfl, rfl⟩, ⟨by decide +kernel, by decide +kernel⟩, by decide +kernel, by decide⟩
theorem mk_X5_ifWall : mOKV mX5_ifWall 5 3 := ⟨wb_834, wb_835, wb_72, wb_836, ⟨_, rfl, rfl⟩, ⟨by decide +kernel, by decide +kernel⟩, by decide +kernel, by decide⟩
theorem mk_X5_isSpacing : mOKS mX5_isSpacing 1 := ⟨wb_376, wb_72, wb_377, ⟨by decide +kernel, by decide +kernel⟩, by decide +kernel, by decide⟩
theorem mk_X5_isSpacingOrNone : mOKS mX5_isSpacingOrNone 1 := ⟨wb_379, wb_72, wb_380, ⟨by decide +kernel, by decide +kernel⟩, by decide +kernel, by decide⟩
theorem mk_X5_isWithin : mOKS mX5_isWithin 3 := ⟨wb_296, wb_72, wb_297, ⟨by decide +kernel, by decide +kernel⟩, by decide +kernel, by decide⟩
theorem mk_X5_load : mOKV mX5_load 5 0 := ⟨wb_488, wb_489, wb_72, wb_490, ⟨_, rfl, rfl⟩, ⟨by decide +kernel, by decide +kernel⟩, by decide +kernel, by decide⟩
theorem mk_X5_remainder : mOKS mX5_remainder 2 := ⟨wb_746, wb_72, wb_747, ⟨by decide +kernel, by decide +kernel⟩, by decide +kernel, by decide⟩
theorem mk_X5_remember : mOKV mX5_remember 5 0 := ⟨wb_320, wb_1, wb_72, wb_321, ⟨_, rfl, rfl⟩, ⟨by decide +kernel, by decide +kernel⟩, by decide +kernel, by decide⟩
theorem mk_X5_restore : mOKV mX5_restore 5 0 := ⟨wb_846, wb_847, wb_72, wb_848, ⟨_, rfl, rfl⟩, ⟨by decide +kernel, by decide +kernel⟩, by decide +kernel, by decide⟩
theorem mk_X5_save : mOKV mX5_save 5 0 := ⟨wb_842, wb_843, wb_72, wb_844, ⟨_, rfl, rfl⟩, ⟨by decide +kernel, by decide +kernel⟩, by decide +kernel, by decide⟩
theorem mk_X5_set : mOKV mX5_set 5 2 := ⟨wb_394, wb_395, wb_72, wb_396, ⟨_, rfl, rfl⟩, ⟨by decide +kernel, by decide +kernel⟩, by decide +kernel, by decide⟩
theorem mk_X5_sign : mOKV mX5_sign 5 1 := ⟨wb_511, wb_512, wb_72, wb_513, ⟨_, rfl, rfl⟩, ⟨by decide +kernel, by decide +kernel⟩, by decide +kernel, by decide⟩
theorem mk_X5_spacings : mOKV mX5_spacings 5 4 := ⟨wb_372, wb_373, wb_72, wb_374, ⟨_, rfl, rfl⟩, ⟨by decide +kernel, by decide +kernel⟩, by decide +kernel, by decide⟩
theorem mk_X5_target : mOKV mX5_target 5 4 := ⟨wb_288, wb_289, wb_72, wb_290, ⟨_, rfl, rfl⟩, ⟨by decide +kernel, by decide +kernel⟩, by decide +kernel, by decide⟩
theorem mk_X5_targetOf : mOKV mX5_targetOf 5 2 := ⟨wb_556, wb_557, wb_72, wb_558, ⟨_, rfl, rfl⟩, ⟨by decide +kernel, by decide +kernel⟩, by decide +kernel, by decide⟩
theorem mk_X5_told : mOKV mX5_told 5 2 := ⟨wb_721, wb_722, wb_72, wb_723, ⟨_, rfl, rfl⟩, ⟨by decide +kernel, by decide +kernel⟩, by decide +kernel, by decide⟩
theorem mk_X5_tryDistances : mOKS mX5_tryDistances 6 := ⟨wb_759, wb_72, wb_760, ⟨by decide +kernel, by decide +kernel⟩, by decide +kernel, by decide⟩
theorem mk_X5_undo : mOKV mX5_undo 5 0 := ⟨wb_838, wb_839, wb_72, wb_840, ⟨_, rfl, rfl⟩, ⟨by decide +kernel, by decide +kernel⟩, by decide +kernel, by decide⟩
theorem mk_X5_unfold : mOKV mX5_unfold 5 3 := ⟨wb_755, wb_756, wb_72, wb_757, ⟨_, rfl, rfl⟩, ⟨by decide +kernel, by decide +kernel⟩, by decide +kernel, by decide⟩
theorem mk_X6_add : mOKV mX6_add 6 4 := ⟨wb_949, wb_41, wb_78, wb_950, ⟨_, rfl, rfl⟩, ⟨by decide +kernel, by decide +kernel⟩, by decide +kernel, by decide⟩
theorem mk_X6_alike : mOKV mX6_alike 6 1 := ⟨wb_1046, wb_1047, wb_78, wb_1048, ⟨_, rfl, rfl⟩, ⟨by decide +kernel, by decide +kernel⟩, by decide +kernel, by decide⟩
theorem mk_X6_append : mOKV mX6_append 6 1 := ⟨wb_1121, wb_1122, wb_78, wb_1123, ⟨_, rfl, rfl⟩, ⟨by decide +kernel, by decide +kernel⟩, by decide +kernel, by decide⟩
theorem mk_X6_bestTurn : mOKV mX6_bestTurn 6 0 := ⟨wb_1109, wb_1110, wb_78, wb_1111, ⟨_, rfl, rfl⟩, ⟨by decide +kernel, by decide +kernel⟩, by decide +kernel, by decide⟩
theorem mk_X6_body : mOKV mX6_body 6 2 := ⟨wb_996, wb_47, wb_78, wb_997, ⟨_, rfl, rfl⟩, ⟨by decide +kernel, by decide +kernel⟩, by decide +kernel, by decide⟩
theorem mk_X6_clear : mOKV mX6_clear 6 0 := ⟨wb_1125, wb_1126, wb_78, wb_1127, ⟨_, rfl, rfl⟩, ⟨by decide +kernel, by decide +kernel⟩, by decide +kernel, by decide⟩
theorem mk_X6_count : mOKV mX6_count 6 1 := ⟨wb_1057, wb_1058, wb_78, wb_1059, ⟨_, rfl, rfl⟩, ⟨by decide +kernel, by decide +kernel⟩, by decide +kernel, by decide⟩
theorem mk_X6_divisor : mOKS mX6_divisor 2 := ⟨wb_1050, wb_78, wb_1051, ⟨by decide +kernel, by decide +kernel⟩, by decide +kernel, by decide⟩
theorem mk_X6_drop : mOKV mX6_drop 6 1 := ⟨wb_952, wb_953, wb_78, wb_954, ⟨_, rfl, rfl⟩, ⟨by decide +kernel, by decide +kernel⟩, by decide +kernel, by decide⟩
theorem mk_X6_echo : mOKV mX6_echo 6 3 := ⟨wb_1026, wb_1027, wb_78, wb_1028, ⟨_, rfl, rfl⟩, ⟨by decide +kernel, by decide +kernel⟩, by decide +kernel, by decide⟩
theorem mk_X6_echoes : mOKV mX6_echoes 6 0 := ⟨wb_1066, wb_56, wb_78, wb_1067, ⟨_, rfl, rfl⟩, ⟨by decide +kernel, by decide +kernel⟩, by decide +kernel, by decide⟩
theorem mk_X6_faintMany : mOKV mX6_faintMany 6 0 := ⟨wb_1074, wb_58, wb_78, wb_1075, ⟨_, rfl, rfl⟩, ⟨by decide +kernel, by decide +kernel⟩, by decide +kernel, by decide⟩
theorem mk_X6_fault : mOKV mX6_fault 6 0 := ⟨wb_1129, wb_1130, wb_78, wb_1131, ⟨_, rfl, rfl⟩, ⟨by decide +kernel, by decide +kernel⟩, by decide +kernel, by decide⟩
theorem mk_X6_figure : mOKV mX6_figure 6 0 := ⟨wb_1150, wb_69, wb_78, wb_1151, ⟨_, rfl, rfl⟩, ⟨by decide +kernel, by decide +kernel⟩, by decide +kernel, by decide⟩
theorem mk_X6_fit : mOKV mX6_fit 6 3 := ⟨wb_1019, wb_52, wb_78, wb_1020, ⟨_, rfl, rfl⟩, ⟨by decide +kernel, by decide +kernel⟩, by decide +kernel, by decide⟩
theorem mk_X6_fits : mOKV mX6_fits 6 3 := ⟨wb_1034, wb_1035, wb_78, wb_1036, ⟨_, rfl, rfl⟩, ⟨by decide +kernel, by decide +kernel⟩, by decide +kernel, by decide⟩
theorem mk_X6_fitting : mOKV mX6_fitting 6 2 := ⟨wb_1015, wb_51, wb_78, wb_1016, ⟨_, rfl, rfl⟩, ⟨by decide +kernel, by decide +kernel⟩, by decide +kernel, by decide⟩
theorem mk_X6_ghost : mOKV mX6_ghost 6 2 := ⟨wb_1022, wb_1023, wb_78, wb_1024, ⟨_, rfl, rfl⟩, ⟨by decide +kernel, by decide +kernel⟩, by decide +kernel, by decide⟩
theorem mk_X6_go : mOKV mX6_go 6 0 := ⟨wb_964, wb_965, wb_78, wb_966, ⟨_, rfl, rfl⟩, ⟨by decide +kernel, by decide +kernel⟩, by decide +kernel, by decide⟩
theorem mk_X6_ifTurn : mOKV mX6_ifTurn 6 2 := ⟨wb_1101, wb_1102, wb_78, wb_1103, ⟨_, rfl, rfl⟩, ⟨by decide +kernel, by decide +kernel⟩, by decide +kernel, by decide⟩
theorem mk_X6_ifWall : mOKV mX6_ifWall 6 3 := ⟨wb_1113, wb_1114, wb_78, wb_1115, ⟨_, rfl, rfl⟩, ⟨by decide +kernel, by decide +kernel⟩, by decide +kernel, by decide⟩
theorem mk_X6_in : mOKS mX6_in 3 := ⟨wb_937, wb_78, wb_938, ⟨by decide +kernel, by decide +kernel⟩, by decide +kernel, by decide⟩
theorem mk_X6_isBody : mOKS mX6_isBody 3 := ⟨wb_934, wb_78, wb_935, ⟨by decide +kernel, by decide +kernel⟩, by decide +kernel, by decide⟩
theorem mk_X6_isFaint : mOKV mX6_isFaint 6 1 := ⟨wb_992, wb_46, wb_78, wb_993, ⟨_, rfl, rfl⟩, ⟨by decide +kernel, by decide +kernel⟩, by decide +kernel, by decide⟩
theorem mk_X6_isLost : mOKV mX6_isLost 6 2 := ⟨wb_1000, wb_48, wb_78, wb_1001, ⟨_, rfl, rfl⟩, ⟨by decide +kernel, by decide +kernel⟩, by decide +kernel, by decide⟩
theorem mk_X6_isSpacing : mOKS mX6_isSpacing 1 := ⟨wb_972, wb_78, wb_973, ⟨by decide +kernel, by decide +kernel⟩, by decide +kernel, by decide⟩
theorem mk_X6_isTarget : mOKV mX6_isTarget 6 1 := ⟨wb_957, wb_42, wb_78, wb_958, ⟨_, rfl, rfl⟩, ⟨by decide +kernel, by decide +kernel⟩, by decide +kernel, by decide⟩
theorem mk_X6_isThere : mOKV mX6_isThere 6 2 := ⟨wb_941, wb_39, wb_78, wb_942, ⟨_, rfl, rfl⟩, ⟨by decide +kernel, by decide +kernel⟩, by decide +kernel, by decide⟩
theorem mk_X6_isTold : mOKV mX6_isTold 6 1 := ⟨wb_1011, wb_50, wb_78, wb_1012, ⟨_, rfl, rfl⟩, ⟨by decide +kernel, by decide +kernel⟩, by decide +kernel, by decide⟩
theorem mk_X6_isTrue : mOKV mX6_isTrue 6 2 := ⟨wb_1043, wb_54, wb_78, wb_1044, ⟨_, rfl, rfl⟩, ⟨by decide +kernel, by decide +kernel⟩, by decide +kernel, by decide⟩
theorem mk_X6_isTurn : mOKV mX6_isTurn 6 1 := ⟨wb_1031, wb_53, wb_78, wb_1032, ⟨_, rfl, rfl⟩, ⟨by decide +kernel, by decide +kernel⟩, by decide +kernel, by decide⟩
theorem mk_X6_layBody : mOKV mX6_layBody 6 5 := ⟨wb_988, wb_45, wb_78, wb_989, ⟨_, rfl, rfl⟩, ⟨by decide +kernel, by decide +kernel⟩, by decide +kernel, by decide⟩
theorem mk_X6_letter : mOKV mX6_letter 6 0 := ⟨wb_1138, wb_66, wb_78, wb_1139, ⟨_, rfl, rfl⟩, ⟨by decide +kernel, by decide +kernel⟩, by decide +kernel, by decide⟩
theorem mk_X6_listen : mOKV mX6_listen 6 0 := ⟨wb_984, wb_44, wb_78, wb_985, ⟨_, rfl, rfl⟩, ⟨by decide +kernel, by decide +kernel⟩, by decide +kernel, by decide⟩
theorem mk_X6_load : mOKV mX6_load 6 0 := ⟨wb_1157, wb_1158, wb_78, wb_1159, ⟨_, rfl, rfl⟩, ⟨by decide +kernel, by decide +kernel⟩, by decide +kernel, by decide⟩
theorem mk_X6_lostMany : mOKV mX6_lostMany 6 0 := ⟨wb_1070, wb_57, wb_78, wb_1071, ⟨_, rfl, rfl⟩, ⟨by decide +kernel, by decide +kernel⟩, by decide +kernel, by decide⟩
theorem mk_X6_mark : mOKS mX6_mark 3 := ⟨wb_1007, wb_78, wb_1008, ⟨by decide +kernel, by decide +kernel⟩, by decide +kernel, by decide⟩
theorem mk_X6_missed : mOKV mX6_missed 6 0 := ⟨wb_1082, wb_60, wb_78, wb_1083, ⟨_, rfl, rfl⟩, ⟨by decide +kernel, by decide +kernel⟩, by decide +kernel, by decide⟩
theorem mk_X6_number : mOKV mX6_number 6 1 := ⟨wb_1146, wb_68, wb_78, wb_1147, ⟨_, rfl, rfl⟩, ⟨by decide +kernel, by decide +kernel⟩, by decide +kernel, by decide⟩
theorem mk_X6_of : mOKV mX6_of 6 2 := ⟨wb_945, wb_40, wb_78, wb_946, ⟨_, rfl, rfl⟩, ⟨by decide +kernel, by decide +kernel⟩, by decide +kernel, by decide⟩
theorem mk_X6_placeIn : mOKV mX6_placeIn 6 3 := ⟨wb_1004, wb_49, wb_78, wb_1005, ⟨_, rfl, rfl⟩, ⟨by decide +kernel, by decide +kernel⟩, by decide +kernel, by decide⟩
theorem mk_X6_readSpacing : mOKV mX6_readSpacing 6 0 := ⟨wb_1154, wb_70, wb_78, wb_1155, ⟨_, rfl, rfl⟩, ⟨by decide +kernel, by decide +kernel⟩, by decide +kernel, by decide⟩
theorem mk_X6_readTarget : mOKV mX6_readTarget 6 0 := ⟨wb_1134, wb_65, wb_78, wb_1135, ⟨_, rfl, rfl⟩, ⟨by decide +kernel, by decide +kernel⟩, by decide +kernel, by decide⟩
theorem mk_X6_record : mOKV mX6_record 6 0 := ⟨wb_927, wb_38, wb_78, wb_928, ⟨_, rfl, rfl⟩, ⟨by decide +kernel, by decide +kernel⟩, by decide +kernel, by decide⟩
theorem mk_X6_restore : mOKV mX6_restore 6 0 := ⟨wb_922, wb_923, wb_78, wb_924, ⟨_, rfl, rfl⟩, ⟨by decide +kernel, by decide +kernel⟩, by decide +kernel, by decide⟩
theorem mk_X6_save : mOKV mX6_save 6 0 := ⟨wb_918, wb_919, wb_78, wb_920, ⟨_, rfl, rfl⟩, ⟨by decide +kernel, by decide +kernel⟩, by decide +kernel, by decide⟩
theorem mk_X6_set : mOKV mX6_set 6 2 := ⟨wb_975, wb_976, wb_78, wb_977, ⟨_, rfl, rfl⟩, ⟨by decide +kernel, by decide +kernel⟩, by decide +kernel, by decide⟩
theorem mk_X6_sets : mOKV mX6_sets 6 1 := ⟨wb_1090, wb_62, wb_78, wb_1091, ⟨_, rfl, rfl⟩, ⟨by decide +kernel, by decide +kernel⟩, by decide +kernel, by decide⟩
theorem mk_X6_setsNumber : mOKV mX6_setsNumber 6 1 := ⟨wb_1094, wb_63, wb_78, wb_1095, ⟨_, rfl, rfl⟩, ⟨by decide +kernel, by decide +kernel⟩, by decide +kernel, by decide⟩
theorem mk_X6_sign : mOKV mX6_sign 6 1 := ⟨wb_1117, wb_1118, wb_78, wb_1119, ⟨_, rfl, rfl⟩, ⟨by decide +kernel, by decide +kernel⟩, by decide +kernel, by decide⟩
theorem mk_X6_spacings : mOKV mX6_spacings 6 4 := ⟨wb_968, wb_969, wb_78, wb_970, ⟨_, rfl, rfl⟩, ⟨by decide +kernel, by decide +kernel⟩, by decide +kernel, by decide⟩
theorem mk_X6_takeOut : mOKV mX6_takeOut 6 1 := ⟨wb_961, wb_43, wb_78, wb_962, ⟨_, rfl, rfl⟩, ⟨by decide +kernel, by decide +kernel⟩, by decide +kernel, by decide⟩
theorem mk_X6_target : mOKV mX6_target 6 4 := ⟨wb_930, wb_931, wb_78, wb_932, ⟨_, rfl, rfl⟩, ⟨by decide +kernel, by decide +kernel⟩, by decide +kernel, by decide⟩
theorem mk_X6_targetOf : mOKV mX6_targetOf 6 2 := ⟨wb_979, wb_980, wb_78, wb_981, ⟨_, rfl, rfl⟩, ⟨by decide +kernel, by decide +kernel⟩, by decide +kernel, by decide⟩
theorem mk_X6_told : mOKV mX6_told 6 2 := ⟨wb_1038, wb_1039, wb_78, wb_1040, ⟨_, rfl, rfl⟩, ⟨by decide +kernel, by decide +kernel⟩, by decide +kernel, by decide⟩
theorem mk_X6_toldMany : mOKV mX6_toldMany 6 1 := ⟨wb_1078, wb_59, wb_78, wb_1079, ⟨_, rfl, rfl⟩, ⟨by decide +kernel, by decide +kernel⟩, by decide +kernel, by decide⟩
theorem mk_X6_undo : mOKV mX6_undo 6 0 := ⟨wb_914, wb_915, wb_78, wb_916, ⟨_, rfl, rfl⟩, ⟨by decide +kernel, by decide +kernel⟩, by decide +kernel, by decide⟩
theorem mk_X6_unfold : mOKV mX6_unfold 6 3 := ⟨wb_1053, wb_1054, wb_78, wb_1055, ⟨_, rfl, rfl⟩, ⟨by decide +kernel, by decide +kernel⟩, by decide +kernel, by decide⟩
theorem mk_X6_walls : mOKV mX6_walls 6 0 := ⟨wb_1062, wb_55, wb_78, wb_1063, ⟨_, rfl, rfl⟩, ⟨by decide +kernel, by decide +kernel⟩, by decide +kernel, by decide⟩
theorem mk_X6_wants : mOKV mX6_wants 6 1 := ⟨wb_1142, wb_67, wb_78, wb_1143, ⟨_, rfl, rfl⟩, ⟨by decide +kernel, by decide +kernel⟩, by decide +kernel, by decide⟩
theorem mk_X6_withTurn : mOKV mX6_withTurn 6 2 := ⟨wb_1106, wb_64, wb_78, wb_1107, ⟨_, rfl, rfl⟩, ⟨by decide +kernel, by decide +kernel⟩, by decide +kernel, by decide⟩
theorem mk_X6_write : mOKV mX6_write 6 0 := ⟨wb_1086, wb_61, wb_78, wb_1087, ⟨_, rfl, rfl⟩, ⟨by decide +kernel, by decide +kernel⟩, by decide +kernel, by decide⟩
theorem s0 : shp[0]? = some (0, 5, 10) := rfl
theorem s1 : shp[1]? = some (0, 3, 9) := rfl
theorem s2 : shp[2]? = some (1, 0, 6) := rfl
theorem s3 : shp[3]? = some (1, 0, 6) := rfl
theorem s4 : shp[4]? = some (1, 0, 6) := rfl
theorem s5 : shp[5]? = some (1, 1, 6) := rfl
theorem s6 : shp[6]? = some (1, 0, 4) := rfl
theorem s7 : shp[7]? = some (0, 3, 9) := rfl
theorem s8 : shp[8]? = some (1, 0, 6) := rfl
theorem s9 : shp[9]? = some (1, 0, 6) := rfl
theorem s10 : shp[10]? = some (1, 0, 6) := rfl
theorem s11 : shp[11]? = some (1, 1, 6) := rfl
theorem s12 : shp[12]? = some (1, 0, 4) := rfl
theorem s13 : shp[13]? = some (0, 3, 9) := rfl
theorem s14 : shp[14]? = some (1, 0, 6) := rfl
theorem s15 : shp[15]? = some (1, 0, 6) := rfl
theorem s16 : shp[16]? = some (1, 0, 6) := rfl
theorem s17 : shp[17]? = some (1, 1, 6) := rfl
theorem s18 : shp[18]? = some (1, 0, 4) := rfl
theorem s19 : shp[19]? = some (3, 4, 4) := rfl
theorem s20 : shp[20]? = some (0, 3, 9) := rfl
theorem s21 : shp[21]? = some (1, 0, 6) := rfl
theorem s22 : shp[22]? = some (1, 0, 6) := rfl
theorem s23 : shp[23]? = some (1, 0, 6) := rfl
theorem s24 : shp[24]? = some (1, 1, 6) := rfl
theorem s25 : shp[25]? = some (1, 0, 4) := rfl
theorem s26 : shp[26]? = some (0, 3, 9) := rfl
theorem s27 : shp[27]? = some (1, 0, 6) := rfl
theorem s28 : shp[28]? = some (1, 0, 6) := rfl
theorem s29 : shp[29]? = some (1, 0, 6) := rfl
theorem s30 : shp[30]? = some (1, 1, 6) := rfl
theorem s31 : shp[31]? = some (1, 0, 4) := rfl
theorem s32 : shp[32]? = some (0, 3, 9) := rfl
theorem s33 : shp[33]? = some (1, 0, 6) := rfl
theorem s34 : shp[34]? = some (1, 0, 6) := rfl
theorem s35 : shp[35]? = some (1, 0, 6) := rfl
theorem s36 : shp[36]? = some (1, 1, 6) := rfl
theorem s37 : shp[37]? = some (1, 0, 4) := rfl
theorem s38 : shp[38]? = some (0, 3, 9) := rfl
theorem s39 : shp[39]? = some (1, 0, 6) := rfl
theorem s40 : shp[40]? = some (1, 0, 6) := rfl
theorem s41 : shp[41]? = some (1, 0, 6) := rfl
theorem s42 : shp[42]? = some (1, 1, 6) := rfl
theorem s43 : shp[43]? = some (1, 0, 4) := rfl
theorem s44 : shp[44]? = some (0, 1, 2) := rfl
theorem s45 : shp[45]? = some (1, 2, 60) := rfl
theorem s46 : shp[46]? = some (0, 2, 13) := rfl
theorem s47 : shp[47]? = some (1, 0, 12) := rfl
theorem s48 : shp[48]? = some (1, 0, 12) := rfl
theorem s49 : shp[49]? = some (1, 0, 12) := rfl
theorem s50 : shp[50]? = some (1, 1, 12) := rfl
theorem s51 : shp[51]? = some (1, 0, 4) := rfl
theorem s52 : shp[52]? = some (0, 4, 2) := rfl
theorem s53 : shp[53]? = some (1, 2, 72) := rfl
theorem s54 : shp[54]? = some (0, 0, 16) := rfl
theorem s55 : shp[55]? = some (1, 0, 21) := rfl
theorem s56 : shp[56]? = some (1, 0, 21) := rfl
theorem s57 : shp[57]? = some (1, 0, 21) := rfl
theorem s58 : shp[58]? = some (1, 0, 21) := rfl
theorem s59 : shp[59]? = some (1, 0, 21) := rfl
theorem s60 : shp[60]? = some (1, 0, 4) := rfl
theorem s61 : shp[61]? = some (2, 3, 44) := rfl
theorem s62 : shp[62]? = some (1, 0, 11) := rfl
theorem s63 : shp[63]? = some (1, 0, 3600) := rfl
theorem s64 : shp[64]? = some (0, 6, 19) := rfl
theorem s65 : shp[65]? = some (1, 0, 32) := rfl
theorem s66 : shp[66]? = some (1, 0, 128) := rfl
theorem s67 : shp[67]? = some (1, 0, 32) := rfl
theorem s68 : shp[68]? = some (1, 2, 60) := rfl
theorem s69 : shp[69]? = some (1, 0, 105) := rfl
theorem s70 : shp[70]? = some (1, 0, 2200) := rfl
theorem s71 : shp[71]? = some (1, 0, 2200) := rfl
theorem s72 : shp[72]? = some (1, 2, 90) := rfl
theorem s73 : shp[73]? = some (1, 0, 64) := rfl
theorem s74 : shp[74]? = some (1, 0, 4) := rfl
theorem r0_0 : FR 0 0 = some 1 := rfl
theorem r0_1 : FR 0 1 = some 7 := rfl
theorem r0_2 : FR 0 2 = some 13 := rfl
theorem r0_3 : FR 0 3 = some 19 := rfl
theorem r0_4 : FR 0 4 = some 44 := rfl
theorem r0_5 : FR 0 5 = some 46 := rfl
theorem r0_6 : FR 0 6 = some 52 := rfl
theorem r0_7 : FR 0 7 = some 54 := rfl
theorem r0_8 : FR 0 8 = none := rfl
theorem r0_9 : FR 0 9 = none := rfl
theorem r44_0 : FR 44 0 = some 45 := rfl
theorem r44_1 : FR 44 1 = none := rfl
theorem r46_0 : FR 46 0 = some 47 := rfl
theorem r46_1 : FR 46 1 = some 48 := rfl
theorem r46_2 : FR 46 2 = some 49 := rfl
theorem r46_3 : FR 46 3 = some 50 := rfl
theorem r46_4 : FR 46 4 = some 51 := rfl
theorem r46_5 : FR 46 5 = none := rfl
theorem r46_6 : FR 46 6 = none := rfl
theorem r46_7 : FR 46 7 = none := rfl
theorem r46_8 : FR 46 8 = none := rfl
theorem r46_9 : FR 46 9 = none := rfl
theorem r46_10 : FR 46 10 = none := rfl
theorem r46_11 : FR 46 11 = none := rfl
theorem r46_12 : FR 46 12 = none := rfl
theorem r52_0 : FR 52 0 = some 53 := rfl
theorem r52_1 : FR 52 1 = none := rfl
theorem r54_0 : FR 54 0 = some 55 := rfl
theorem r54_1 : FR 54 1 = some 56 := rfl
theorem r54_2 : FR 54 2 = some 57 := rfl
theorem r54_3 : FR 54 3 = some 58 := rfl
theorem r54_4 : FR 54 4 = some 59 := rfl
theorem r54_5 : FR 54 5 = some 60 := rfl
theorem r54_6 : FR 54 6 = some 61 := rfl
theorem r54_7 : FR 54 7 = some 62 := rfl
theorem r54_8 : FR 54 8 = some 63 := rfl
theorem r54_9 : FR 54 9 = none := rfl
theorem r54_10 : FR 54 10 = none := rfl
theorem r54_11 : FR 54 11 = none := rfl
theorem r54_12 : FR 54 12 = none := rfl
theorem r54_13 : FR 54 13 = none := rfl
theorem r54_14 : FR 54 14 = none := rfl
theorem r54_15 : FR 54 15 = none := rfl
theorem r64_0 : FR 64 0 = some 65 := rfl
theorem r64_1 : FR 64 1 = some 66 := rfl
theorem r64_2 : FR 64 2 = none := rfl
theorem r64_3 : FR 64 3 = some 67 := rfl
theorem r64_4 : FR 64 4 = none := rfl
theorem r64_5 : FR 64 5 = some 68 := rfl
theorem r64_6 : FR 64 6 = none := rfl
theorem r64_7 : FR 64 7 = some 69 := rfl
theorem r64_8 : FR 64 8 = none := rfl
theorem r64_9 : FR 64 9 = some 70 := rfl
theorem r64_10 : FR 64 10 = some 71 := rfl
theorem r64_11 : FR 64 11 = some 72 := rfl
theorem r64_12 : FR 64 12 = none := rfl
theorem r64_13 : FR 64 13 = some 73 := rfl
theorem r64_14 : FR 64 14 = none := rfl
theorem r64_15 : FR 64 15 = some 74 := rfl
theorem r64_16 : FR 64 16 = none := rfl
theorem r64_17 : FR 64 17 = none := rfl
theorem r64_18 : FR 64 18 = none := rfl
theorem sc_0 {a : Nat} (h : isSc a) : shp[a]? = some (0, 3, 9) := by rcases h with rfl | rfl | rfl | rfl | rfl | rfl | rfl <;> rfl
theorem sc_1 {a : Nat} (h : isSc a) : shp[a + 1]? = some (1, 0, 6) := by rcases h with rfl | rfl | rfl | rfl | rfl | rfl | rfl <;> rfl
theorem sc_2 {a : Nat} (h : isSc a) : shp[a + 2]? = some (1, 0, 6) := by rcases h with rfl | rfl | rfl | rfl | rfl | rfl | rfl <;> rfl
theorem sc_3 {a : Nat} (h : isSc a) : shp[a + 3]? = some (1, 0, 6) := by rcases h with rfl | rfl | rfl | rfl | rfl | rfl | rfl <;> rfl
theorem sc_4 {a : Nat} (h : isSc a) : shp[a + 4]? = some (1, 1, 6) := by rcases h with rfl | rfl | rfl | rfl | rfl | rfl | rfl <;> rfl
theorem sc_5 {a : Nat} (h : isSc a) : shp[a + 5]? = some (1, 0, 4) := by rcases h with rfl | rfl | rfl | rfl | rfl | rfl | rfl <;> rfl
theorem scr_0 {a : Nat} (h : isSc a) : FR a 0 = some (a + 1) := by rcases h with rfl | rfl | rfl | rfl | rfl | rfl | rfl <;> rfl
theorem scr_1 {a : Nat} (h : isSc a) : FR a 1 = some (a + 2) := by rcases h with rfl | rfl | rfl | rfl | rfl | rfl | rfl <;> rfl
theorem scr_2 {a : Nat} (h : isSc a) : FR a 2 = some (a + 3) := by rcases h with rfl | rfl | rfl | rfl | rfl | rfl | rfl <;> rfl
theorem scr_3 {a : Nat} (h : isSc a) : FR a 3 = some (a + 4) := by rcases h with rfl | rfl | rfl | rfl | rfl | rfl | rfl <;> rfl
theorem scr_4 {a : Nat} (h : isSc a) : FR a 4 = some (a + 5) := by rcases h with rfl | rfl | rfl | rfl | rfl | rfl | rfl <;> rfl
theorem scr_5 {a : Nat} (h : isSc a) : FR a 5 = none := by rcases h with rfl | rfl | rfl | rfl | rfl | rfl | rfl <;> rfl
theorem scr_6 {a : Nat} (h : isSc a) : FR a 6 = none := by rcases h with rfl | rfl | rfl | rfl | rfl | rfl | rfl <;> rfl
theorem scr_7 {a : Nat} (h : isSc a) : FR a 7 = none := by rcases h with rfl | rfl | rfl | rfl | rfl | rfl | rfl <;> rfl
theorem scr_8 {a : Nat} (h : isSc a) : FR a 8 = none := by rcases h with rfl | rfl | rfl | rfl | rfl | rfl | rfl <;> rfl
theorem k_bi_10 : (Int8.ofInt (10)).toInt32 = 10 := by decide +kernel
theorem k_bi_100 : (Int8.ofInt (100)).toInt32 = 100 := by decide +kernel
theorem k_bi_11 : (Int8.ofInt (11)).toInt32 = 11 := by decide +kernel
theorem k_bi_116 : (Int8.ofInt (116)).toInt32 = 116 := by decide +kernel
theorem k_bi_119 : (Int8.ofInt (119)).toInt32 = 119 := by decide +kernel
theorem k_bi_12 : (Int8.ofInt (12)).toInt32 = 12 := by decide +kernel
theorem k_bi_126 : (Int8.ofInt (126)).toInt32 = 126 := by decide +kernel
theorem k_bi_13 : (Int8.ofInt (13)).toInt32 = 13 := by decide +kernel
theorem k_bi_14 : (Int8.ofInt (14)).toInt32 = 14 := by decide +kernel
theorem k_bi_18 : (Int8.ofInt (18)).toInt32 = 18 := by decide +kernel
theorem k_bi_21 : (Int8.ofInt (21)).toInt32 = 21 := by decide +kernel
theorem k_bi_28 : (Int8.ofInt (28)).toInt32 = 28 := by decide +kernel
theorem k_bi_32 : (Int8.ofInt (32)).toInt32 = 32 := by decide +kernel
theorem k_bi_33 : (Int8.ofInt (33)).toInt32 = 33 := by decide +kernel
theorem k_bi_42 : (Int8.ofInt (42)).toInt32 = 42 := by decide +kernel
theorem k_bi_43 : (Int8.ofInt (43)).toInt32 = 43 := by decide +kernel
theorem k_bi_44 : (Int8.ofInt (44)).toInt32 = 44 := by decide +kernel
theorem k_bi_45 : (Int8.ofInt (45)).toInt32 = 45 := by decide +kernel
theorem k_bi_47 : (Int8.ofInt (47)).toInt32 = 47 := by decide +kernel
theorem k_bi_48 : (Int8.ofInt (48)).toInt32 = 48 := by decide +kernel
theorem k_bi_50 : (Int8.ofInt (50)).toInt32 = 50 := by decide +kernel
theorem k_bi_59 : (Int8.ofInt (59)).toInt32 = 59 := by decide +kernel
theorem k_bi_6 : (Int8.ofInt (6)).toInt32 = 6 := by decide +kernel
theorem k_bi_60 : (Int8.ofInt (60)).toInt32 = 60 := by decide +kernel
theorem k_bi_7 : (Int8.ofInt (7)).toInt32 = 7 := by decide +kernel
theorem k_bi_8 : (Int8.ofInt (8)).toInt32 = 8 := by decide +kernel
theorem k_bi_9 : (Int8.ofInt (9)).toInt32 = 9 := by decide +kernel
theorem k_bi_96 : (Int8.ofInt (96)).toInt32 = 96 := by decide +kernel
theorem k_bi_99 : (Int8.ofInt (99)).toInt32 = 99 := by decide +kernel
theorem k_bi_m2 : (Int8.ofInt (-2)).toInt32 = (-2) := by decide +kernel
theorem k_bi_m3 : (Int8.ofInt (-3)).toInt32 = (-3) := by decide +kernel
theorem k_bi_m4 : (Int8.ofInt (-4)).toInt32 = (-4) := by decide +kernel
theorem k_bi_m5 : (Int8.ofInt (-5)).toInt32 = (-5) := by decide +kernel
theorem k_ic_0 : Int32.ofInt (0) = 0 := by decide +kernel
theorem k_ic_1 : Int32.ofInt (1) = 1 := by decide +kernel
theorem k_ic_2 : Int32.ofInt (2) = 2 := by decide +kernel
theorem k_ic_3 : Int32.ofInt (3) = 3 := by decide +kernel
theorem k_ic_4 : Int32.ofInt (4) = 4 := by decide +kernel
theorem k_ic_5 : Int32.ofInt (5) = 5 := by decide +kernel
theorem k_ic_m1 : Int32.ofInt (-1) = (-1) := by decide +kernel
theorem k_lc_0 : Int64.ofNat (((0 : Fin 2)) : Nat) = 0 := by decide +kernel
theorem k_lc_1 : Int64.ofNat (((1 : Fin 2)) : Nat) = 1 := by decide +kernel
theorem k_on_11 : Int32.ofNat 11 = 11 := by decide +kernel
theorem k_on_3600 : Int32.ofNat 3600 = 3600 := by decide +kernel
theorem k_on_4 : Int32.ofNat 4 = 4 := by decide +kernel
theorem k_on_44 : Int32.ofNat 44 = 44 := by decide +kernel
theorem k_on_60 : Int32.ofNat 60 = 60 := by decide +kernel
theorem k_on_72 : Int32.ofNat 72 = 72 := by decide +kernel
theorem k_si_200 : (Int16.ofInt (200)).toInt32 = 200 := by decide +kernel
theorem k_si_2200 : (Int16.ofInt (2200)).toInt32 = 2200 := by decide +kernel
theorem k_si_300 : (Int16.ofInt (300)).toInt32 = 300 := by decide +kernel
theorem k_si_550 : (Int16.ofInt (550)).toInt32 = 550 := by decide +kernel
theorem k_si_600 : (Int16.ofInt (600)).toInt32 = 600 := by decide +kernel
end
section
theorem dX3_become_0 : decode cX3_become 0 = .ok (.aload_n 1, 1) := by decide +kernel
theorem dX3_become_1 : decode cX3_become 1 = .ok (.getfield 9, 3) := by decide +kernel
theorem dX3_become_4 : decode cX3_become 4 = .ok (.iconst 0, 1) := by decide +kernel
theorem dX3_become_5 : decode cX3_become 5 = .ok (.aload_n 0, 1) := by decide +kernel
theorem dX3_become_6 : decode cX3_become 6 = .ok (.getfield 9, 3) := by decide +kernel
theorem dX3_become_9 : decode cX3_become 9 = .ok (.iconst 0, 1) := by decide +kernel
theorem dX3_become_10 : decode cX3_become 10 = .ok (.bipush 6, 2) := by decide +kernel
theorem dX3_become_12 : decode cX3_become 12 = .ok (.invokestatic 41, 3) := by decide +kernel
theorem dX3_become_15 : decode cX3_become 15 = .ok (.aload_n 1, 1) := by decide +kernel
theorem dX3_become_16 : decode cX3_become 16 = .ok (.getfield 15, 3) := by decide +kernel
theorem dX3_become_19 : decode cX3_become 19 = .ok (.iconst 0, 1) := by decide +kernel
theorem dX3_become_20 : decode cX3_become 20 = .ok (.aload_n 0, 1) := by decide +kernel
theorem dX3_become_21 : decode cX3_become 21 = .ok (.getfield 15, 3) := by decide +kernel
theorem dX3_become_24 : decode cX3_become 24 = .ok (.iconst 0, 1) := by decide +kernel
theorem dX3_become_25 : decode cX3_become 25 = .ok (.bipush 6, 2) := by decide +kernel
theorem dX3_become_27 : decode cX3_become 27 = .ok (.invokestatic 41, 3) := by decide +kernel
theorem dX3_become_30 : decode cX3_become 30 = .ok (.aload_n 1, 1) := by decide +kernel
theorem dX3_become_31 : decode cX3_become 31 = .ok (.getfield 18, 3) := by decide +kernel
theorem dX3_become_34 : decode cX3_become 34 = .ok (.iconst 0, 1) := by decide +kernel
theorem dX3_become_35 : decode cX3_become 35 = .ok (.aload_n 0, 1) := by decide +kernel
theorem dX3_become_36 : decode cX3_become 36 = .ok (.getfield 18, 3) := by decide +kernel
theorem dX3_become_39 : decode cX3_become 39 = .ok (.iconst 0, 1) := by decide +kernel
theorem dX3_become_40 : decode cX3_become 40 = .ok (.bipush 6, 2) := by decide +kernel
theorem dX3_become_42 : decode cX3_become 42 = .ok (.invokestatic 41, 3) := by decide +kernel
theorem dX3_become_45 : decode cX3_become 45 = .ok (.aload_n 1, 1) := by decide +kernel
theorem dX3_become_46 : decode cX3_become 46 = .ok (.getfield 21, 3) := by decide +kernel
theorem dX3_become_49 : decode cX3_become 49 = .ok (.iconst 0, 1) := by decide +kernel
theorem dX3_become_50 : decode cX3_become 50 = .ok (.aload_n 0, 1) := by decide +kernel
theorem dX3_become_51 : decode cX3_become 51 = .ok (.getfield 21, 3) := by decide +kernel
theorem dX3_become_54 : decode cX3_become 54 = .ok (.iconst 0, 1) := by decide +kernel
theorem dX3_become_55 : decode cX3_become 55 = .ok (.bipush 6, 2) := by decide +kernel
theorem dX3_become_57 : decode cX3_become 57 = .ok (.invokestatic 41, 3) := by decide +kernel
theorem dX3_become_60 : decode cX3_become 60 = .ok (.aload_n 1, 1) := by decide +kernel
theorem dX3_become_61 : decode cX3_become 61 = .ok (.getfield 25, 3) := by decide +kernel
theorem dX3_become_64 : decode cX3_become 64 = .ok (.iconst 0, 1) := by decide +kernel
theorem dX3_become_65 : decode cX3_become 65 = .ok (.aload_n 0, 1) := by decide +kernel
theorem dX3_become_66 : decode cX3_become 66 = .ok (.getfield 25, 3) := by decide +kernel
theorem dX3_become_69 : decode cX3_become 69 = .ok (.iconst 0, 1) := by decide +kernel
theorem dX3_become_70 : decode cX3_become 70 = .ok (.iconst 4, 1) := by decide +kernel
theorem dX3_become_71 : decode cX3_become 71 = .ok (.invokestatic 41, 3) := by decide +kernel
theorem dX3_become_74 : decode cX3_become 74 = .ok (.aload_n 0, 1) := by decide +kernel
theorem dX3_become_75 : decode cX3_become 75 = .ok (.aload_n 1, 1) := by decide +kernel
theorem dX3_become_76 : decode cX3_become 76 = .ok (.getfield 28, 3) := by decide +kernel
theorem dX3_become_79 : decode cX3_become 79 = .ok (.putfield 28, 3) := by decide +kernel
theorem dX3_become_82 : decode cX3_become 82 = .ok (.aload_n 0, 1) := by decide +kernel
theorem dX3_become_83 : decode cX3_become 83 = .ok (.aload_n 1, 1) := by decide +kernel
theorem dX3_become_84 : decode cX3_become 84 = .ok (.getfield 32, 3) := by decide +kernel
theorem dX3_become_87 : decode cX3_become 87 = .ok (.putfield 32, 3) := by decide +kernel
theorem dX3_become_90 : decode cX3_become 90 = .ok (.aload_n 0, 1) := by decide +kernel
theorem dX3_become_91 : decode cX3_become 91 = .ok (.aload_n 1, 1) := by decide +kernel
theorem dX3_become_92 : decode cX3_become 92 = .ok (.getfield 35, 3) := by decide +kernel
theorem dX3_become_95 : decode cX3_become 95 = .ok (.putfield 35, 3) := by decide +kernel
theorem dX3_become_98 : decode cX3_become 98 = .ok (.aload_n 0, 1) := by decide +kernel
theorem dX3_become_99 : decode cX3_become 99 = .ok (.aload_n 1, 1) := by decide +kernel
theorem dX3_become_100 : decode cX3_become 100 = .ok (.getfield 38, 3) := by decide +kernel
theorem dX3_become_103 : decode cX3_become 103 = .ok (.putfield 38, 3) := by decide +kernel
theorem dX3_become_106 : decode cX3_become 106 = .ok (.return_, 1) := by decide +kernel
theorem dX3_targetCount_0 : decode cX3_targetCount 0 = .ok (.aload_n 0, 1) := by decide +kernel
theorem dX3_targetCount_1 : decode cX3_targetCount 1 = .ok (.getfield 28, 3) := by decide +kernel
theorem dX3_targetCount_4 : decode cX3_targetCount 4 = .ok (.ireturn, 1) := by decide +kernel
theorem dX3_turnCount_0 : decode cX3_turnCount 0 = .ok (.aload_n 0, 1) := by decide +kernel
theorem dX3_turnCount_1 : decode cX3_turnCount 1 = .ok (.getfield 32, 3) := by decide +kernel
theorem dX3_turnCount_4 : decode cX3_turnCount 4 = .ok (.ireturn, 1) := by decide +kernel
theorem dX3_blindBelow_0 : decode cX3_blindBelow 0 = .ok (.aload_n 0, 1) := by decide +kernel
theorem dX3_blindBelow_1 : decode cX3_blindBelow 1 = .ok (.getfield 35, 3) := by decide +kernel
theorem dX3_blindBelow_4 : decode cX3_blindBelow 4 = .ok (.ireturn, 1) := by decide +kernel
theorem dX3_loudFrom_0 : decode cX3_loudFrom 0 = .ok (.aload_n 0, 1) := by decide +kernel
theorem dX3_loudFrom_1 : decode cX3_loudFrom 1 = .ok (.getfield 38, 3) := by decide +kernel
theorem dX3_loudFrom_4 : decode cX3_loudFrom 4 = .ok (.ireturn, 1) := by decide +kernel
theorem dX3_has_0 : decode cX3_has 0 = .ok (.iload_n 1, 1) := by decide +kernel
theorem dX3_has_1 : decode cX3_has 1 = .ok (.ifCond .lt 21, 3) := by decide +kernel
theorem dX3_has_4 : decode cX3_has 4 = .ok (.iload_n 1, 1) := by decide +kernel
theorem dX3_has_5 : decode cX3_has 5 = .ok (.aload_n 0, 1) := by decide +kernel
theorem dX3_has_6 : decode cX3_has 6 = .ok (.getfield 28, 3) := by decide +kernel
theorem dX3_has_9 : decode cX3_has 9 = .ok (.if_icmp .ge 13, 3) := by decide +kernel
theorem dX3_has_12 : decode cX3_has 12 = .ok (.iload_n 1, 1) := by decide +kernel
theorem dX3_has_13 : decode cX3_has 13 = .ok (.bipush 6, 2) := by decide +kernel
theorem dX3_has_15 : decode cX3_has 15 = .ok (.if_icmp .ge 7, 3) := by decide +kernel
theorem dX3_has_18 : decode cX3_has 18 = .ok (.iconst 1, 1) := by decide +kernel
theorem dX3_has_19 : decode cX3_has 19 = .ok (.goto 4, 3) := by decide +kernel
theorem dX3_has_22 : decode cX3_has 22 = .ok (.iconst 0, 1) := by decide +kernel
theorem dX3_has_23 : decode cX3_has 23 = .ok (.ireturn, 1) := by decide +kernel
theorem dX3_hasTurn_0 : decode cX3_hasTurn 0 = .ok (.iload_n 1, 1) := by decide +kernel
theorem dX3_hasTurn_1 : decode cX3_hasTurn 1 = .ok (.ifCond .lt 20, 3) := by decide +kernel
theorem dX3_hasTurn_4 : decode cX3_hasTurn 4 = .ok (.iload_n 1, 1) := by decide +kernel
theorem dX3_hasTurn_5 : decode cX3_hasTurn 5 = .ok (.aload_n 0, 1) := by decide +kernel
theorem dX3_hasTurn_6 : decode cX3_hasTurn 6 = .ok (.getfield 32, 3) := by decide +kernel
theorem dX3_hasTurn_9 : decode cX3_hasTurn 9 = .ok (.if_icmp .ge 12, 3) := by decide +kernel
theorem dX3_hasTurn_12 : decode cX3_hasTurn 12 = .ok (.iload_n 1, 1) := by decide +kernel
theorem dX3_hasTurn_13 : decode cX3_hasTurn 13 = .ok (.iconst 4, 1) := by decide +kernel
theorem dX3_hasTurn_14 : decode cX3_hasTurn 14 = .ok (.if_icmp .ge 7, 3) := by decide +kernel
theorem dX3_hasTurn_17 : decode cX3_hasTurn 17 = .ok (.iconst 1, 1) := by decide +kernel
theorem dX3_hasTurn_18 : decode cX3_hasTurn 18 = .ok (.goto 4, 3) := by decide +kernel
theorem dX3_hasTurn_21 : decode cX3_hasTurn 21 = .ok (.iconst 0, 1) := by decide +kernel
theorem dX3_hasTurn_22 : decode cX3_hasTurn 22 = .ok (.ireturn, 1) := by decide +kernel
theorem dX3_distanceOf_0 : decode cX3_distanceOf 0 = .ok (.aload_n 0, 1) := by decide +kernel
theorem dX3_distanceOf_1 : decode cX3_distanceOf 1 = .ok (.iload_n 1, 1) := by decide +kernel
theorem dX3_distanceOf_2 : decode cX3_distanceOf 2 = .ok (.invokevirtual 47, 3) := by decide +kernel
theorem dX3_distanceOf_5 : decode cX3_distanceOf 5 = .ok (.ifCond .eq 12, 3) := by decide +kernel
theorem dX3_distanceOf_8 : decode cX3_distanceOf 8 = .ok (.aload_n 0, 1) := by decide +kernel
theorem dX3_distanceOf_9 : decode cX3_distanceOf 9 = .ok (.getfield 9, 3) := by decide +kernel
theorem dX3_distanceOf_12 : decode cX3_distanceOf 12 = .ok (.iload_n 1, 1) := by decide +kernel
theorem dX3_distanceOf_13 : decode cX3_distanceOf 13 = .ok (.iaload, 1) := by decide +kernel
theorem dX3_distanceOf_14 : decode cX3_distanceOf 14 = .ok (.goto 4, 3) := by decide +kernel
theorem dX3_distanceOf_17 : decode cX3_distanceOf 17 = .ok (.iconst 0, 1) := by decide +kernel
theorem dX3_distanceOf_18 : decode cX3_distanceOf 18 = .ok (.ireturn, 1) := by decide +kernel
theorem dX3_strengthOf_0 : decode cX3_strengthOf 0 = .ok (.aload_n 0, 1) := by decide +kernel
theorem dX3_strengthOf_1 : decode cX3_strengthOf 1 = .ok (.iload_n 1, 1) := by decide +kernel
theorem dX3_strengthOf_2 : decode cX3_strengthOf 2 = .ok (.invokevirtual 47, 3) := by decide +kernel
theorem dX3_strengthOf_5 : decode cX3_strengthOf 5 = .ok (.ifCond .eq 12, 3) := by decide +kernel
theorem dX3_strengthOf_8 : decode cX3_strengthOf 8 = .ok (.aload_n 0, 1) := by decide +kernel
theorem dX3_strengthOf_9 : decode cX3_strengthOf 9 = .ok (.getfield 15, 3) := by decide +kernel
theorem dX3_strengthOf_12 : decode cX3_strengthOf 12 = .ok (.iload_n 1, 1) := by decide +kernel
theorem dX3_strengthOf_13 : decode cX3_strengthOf 13 = .ok (.iaload, 1) := by decide +kernel
theorem dX3_strengthOf_14 : decode cX3_strengthOf 14 = .ok (.goto 4, 3) := by decide +kernel
theorem dX3_strengthOf_17 : decode cX3_strengthOf 17 = .ok (.iconst 0, 1) := by decide +kernel
theorem dX3_strengthOf_18 : decode cX3_strengthOf 18 = .ok (.ireturn, 1) := by decide +kernel
theorem dX3_movementOf_0 : decode cX3_movementOf 0 = .ok (.aload_n 0, 1) := by decide +kernel
theorem dX3_movementOf_1 : decode cX3_movementOf 1 = .ok (.iload_n 1, 1) := by decide +kernel
theorem dX3_movementOf_2 : decode cX3_movementOf 2 = .ok (.invokevirtual 47, 3) := by decide +kernel
theorem dX3_movementOf_5 : decode cX3_movementOf 5 = .ok (.ifCond .eq 12, 3) := by decide +kernel
theorem dX3_movementOf_8 : decode cX3_movementOf 8 = .ok (.aload_n 0, 1) := by decide +kernel
theorem dX3_movementOf_9 : decode cX3_movementOf 9 = .ok (.getfield 18, 3) := by decide +kernel
theorem dX3_movementOf_12 : decode cX3_movementOf 12 = .ok (.iload_n 1, 1) := by decide +kernel
theorem dX3_movementOf_13 : decode cX3_movementOf 13 = .ok (.iaload, 1) := by decide +kernel
theorem dX3_movementOf_14 : decode cX3_movementOf 14 = .ok (.goto 4, 3) := by decide +kernel
theorem dX3_movementOf_17 : decode cX3_movementOf 17 = .ok (.iconst 0, 1) := by decide +kernel
theorem dX3_movementOf_18 : decode cX3_movementOf 18 = .ok (.ireturn, 1) := by decide +kernel
theorem dX3_isWall_0 : decode cX3_isWall 0 = .ok (.aload_n 0, 1) := by decide +kernel
theorem dX3_isWall_1 : decode cX3_isWall 1 = .ok (.iload_n 1, 1) := by decide +kernel
theorem dX3_isWall_2 : decode cX3_isWall 2 = .ok (.invokevirtual 47, 3) := by decide +kernel
theorem dX3_isWall_5 : decode cX3_isWall 5 = .ok (.ifCond .eq 16, 3) := by decide +kernel
theorem dX3_isWall_8 : decode cX3_isWall 8 = .ok (.aload_n 0, 1) := by decide +kernel
theorem dX3_isWall_9 : decode cX3_isWall 9 = .ok (.getfield 21, 3) := by decide +kernel
theorem dX3_isWall_12 : decode cX3_isWall 12 = .ok (.iload_n 1, 1) := by decide +kernel
theorem dX3_isWall_13 : decode cX3_isWall 13 = .ok (.baload, 1) := by decide +kernel
theorem dX3_isWall_14 : decode cX3_isWall 14 = .ok (.ifCond .eq 7, 3) := by decide +kernel
theorem dX3_isWall_17 : decode cX3_isWall 17 = .ok (.iconst 1, 1) := by decide +kernel
theorem dX3_isWall_18 : decode cX3_isWall 18 = .ok (.goto 4, 3) := by decide +kernel
theorem dX3_isWall_21 : decode cX3_isWall 21 = .ok (.iconst 0, 1) := by decide +kernel
theorem dX3_isWall_22 : decode cX3_isWall 22 = .ok (.ireturn, 1) := by decide +kernel
theorem dX3_spacingOf_0 : decode cX3_spacingOf 0 = .ok (.aload_n 0, 1) := by decide +kernel
theorem dX3_spacingOf_1 : decode cX3_spacingOf 1 = .ok (.iload_n 1, 1) := by decide +kernel
theorem dX3_spacingOf_2 : decode cX3_spacingOf 2 = .ok (.invokevirtual 51, 3) := by decide +kernel
theorem dX3_spacingOf_5 : decode cX3_spacingOf 5 = .ok (.ifCond .eq 12, 3) := by decide +kernel
theorem dX3_spacingOf_8 : decode cX3_spacingOf 8 = .ok (.aload_n 0, 1) := by decide +kernel
theorem dX3_spacingOf_9 : decode cX3_spacingOf 9 = .ok (.getfield 25, 3) := by decide +kernel
theorem dX3_spacingOf_12 : decode cX3_spacingOf 12 = .ok (.iload_n 1, 1) := by decide +kernel
theorem dX3_spacingOf_13 : decode cX3_spacingOf 13 = .ok (.iaload, 1) := by decide +kernel
theorem dX3_spacingOf_14 : decode cX3_spacingOf 14 = .ok (.goto 4, 3) := by decide +kernel
theorem dX3_spacingOf_17 : decode cX3_spacingOf 17 = .ok (.iconst 0, 1) := by decide +kernel
theorem dX3_spacingOf_18 : decode cX3_spacingOf 18 = .ok (.ireturn, 1) := by decide +kernel
theorem dX3_wallCount_0 : decode cX3_wallCount 0 = .ok (.iconst 0, 1) := by decide +kernel
theorem dX3_wallCount_1 : decode cX3_wallCount 1 = .ok (.istore_n 1, 1) := by decide +kernel
theorem dX3_wallCount_2 : decode cX3_wallCount 2 = .ok (.iconst 0, 1) := by decide +kernel
theorem dX3_wallCount_3 : decode cX3_wallCount 3 = .ok (.istore_n 2, 1) := by decide +kernel
theorem dX3_wallCount_4 : decode cX3_wallCount 4 = .ok (.iload_n 2, 1) := by decide +kernel
theorem dX3_wallCount_5 : decode cX3_wallCount 5 = .ok (.aload_n 0, 1) := by decide +kernel
theorem dX3_wallCount_6 : decode cX3_wallCount 6 = .ok (.getfield 28, 3) := by decide +kernel
theorem dX3_wallCount_9 : decode cX3_wallCount 9 = .ok (.if_icmp .ge 25, 3) := by decide +kernel
theorem dX3_wallCount_12 : decode cX3_wallCount 12 = .ok (.iload_n 1, 1) := by decide +kernel
theorem dX3_wallCount_13 : decode cX3_wallCount 13 = .ok (.aload_n 0, 1) := by decide +kernel
theorem dX3_wallCount_14 : decode cX3_wallCount 14 = .ok (.iload_n 2, 1) := by decide +kernel
theorem dX3_wallCount_15 : decode cX3_wallCount 15 = .ok (.invokevirtual 54, 3) := by decide +kernel
theorem dX3_wallCount_18 : decode cX3_wallCount 18 = .ok (.ifCond .eq 7, 3) := by decide +kernel
theorem dX3_wallCount_21 : decode cX3_wallCount 21 = .ok (.iconst 1, 1) := by decide +kernel
theorem dX3_wallCount_22 : decode cX3_wallCount 22 = .ok (.goto 4, 3) := by decide +kernel
theorem dX3_wallCount_25 : decode cX3_wallCount 25 = .ok (.iconst 0, 1) := by decide +kernel
theorem dX3_wallCount_26 : decode cX3_wallCount 26 = .ok (.iadd, 1) := by decide +kernel
theorem dX3_wallCount_27 : decode cX3_wallCount 27 = .ok (.istore_n 1, 1) := by decide +kernel
theorem dX3_wallCount_28 : decode cX3_wallCount 28 = .ok (.iinc 2 1, 3) := by decide +kernel
theorem dX3_wallCount_31 : decode cX3_wallCount 31 = .ok (.goto (-27), 3) := by decide +kernel
theorem dX3_wallCount_34 : decode cX3_wallCount 34 = .ok (.iload_n 1, 1) := by decide +kernel
theorem dX3_wallCount_35 : decode cX3_wallCount 35 = .ok (.ireturn, 1) := by decide +kernel
theorem dX3_holds_0 : decode cX3_holds 0 = .ok (.iconst 0, 1) := by decide +kernel
theorem dX3_holds_1 : decode cX3_holds 1 = .ok (.istore_n 3, 1) := by decide +kernel
theorem dX3_holds_2 : decode cX3_holds 2 = .ok (.iload_n 3, 1) := by decide +kernel
theorem dX3_holds_3 : decode cX3_holds 3 = .ok (.aload_n 0, 1) := by decide +kernel
theorem dX3_holds_4 : decode cX3_holds 4 = .ok (.getfield 28, 3) := by decide +kernel
theorem dX3_holds_7 : decode cX3_holds 7 = .ok (.if_icmp .ge 29, 3) := by decide +kernel
theorem dX3_holds_10 : decode cX3_holds 10 = .ok (.aload_n 0, 1) := by decide +kernel
theorem dX3_holds_11 : decode cX3_holds 11 = .ok (.iload_n 3, 1) := by decide +kernel
theorem dX3_holds_12 : decode cX3_holds 12 = .ok (.invokevirtual 57, 3) := by decide +kernel
theorem dX3_holds_15 : decode cX3_holds 15 = .ok (.iload_n 1, 1) := by decide +kernel
theorem dX3_holds_16 : decode cX3_holds 16 = .ok (.if_icmp .ne 14, 3) := by decide +kernel
theorem dX3_holds_19 : decode cX3_holds 19 = .ok (.aload_n 0, 1) := by decide +kernel
theorem dX3_holds_20 : decode cX3_holds 20 = .ok (.iload_n 3, 1) := by decide +kernel
theorem dX3_holds_21 : decode cX3_holds 21 = .ok (.invokevirtual 61, 3) := by decide +kernel
theorem dX3_holds_24 : decode cX3_holds 24 = .ok (.iload_n 2, 1) := by decide +kernel
theorem dX3_holds_25 : decode cX3_holds 25 = .ok (.if_icmp .ne 5, 3) := by decide +kernel
theorem dX3_holds_28 : decode cX3_holds 28 = .ok (.iconst 1, 1) := by decide +kernel
theorem dX3_holds_29 : decode cX3_holds 29 = .ok (.ireturn, 1) := by decide +kernel
theorem dX3_holds_30 : decode cX3_holds 30 = .ok (.iinc 3 1, 3) := by decide +kernel
theorem dX3_holds_33 : decode cX3_holds 33 = .ok (.goto (-31), 3) := by decide +kernel
theorem dX3_holds_36 : decode cX3_holds 36 = .ok (.iconst 0, 1) := by decide +kernel
theorem dX3_holds_37 : decode cX3_holds 37 = .ok (.ireturn, 1) := by decide +kernel
theorem dX3_join_0 : decode cX3_join 0 = .ok (.aload_n 0, 1) := by decide +kernel
theorem dX3_join_1 : decode cX3_join 1 = .ok (.getfield 28, 3) := by decide +kernel
theorem dX3_join_4 : decode cX3_join 4 = .ok (.bipush 6, 2) := by decide +kernel
theorem dX3_join_6 : decode cX3_join 6 = .ok (.if_icmp .lt 6, 3) := by decide +kernel
theorem dX3_join_9 : decode cX3_join 9 = .ok (.bipush (-3), 2) := by decide +kernel
theorem dX3_join_11 : decode cX3_join 11 = .ok (.ireturn, 1) := by decide +kernel
theorem dX3_join_12 : decode cX3_join 12 = .ok (.aload_n 0, 1) := by decide +kernel
theorem dX3_join_13 : decode cX3_join 13 = .ok (.dup, 1) := by decide +kernel
theorem dX3_join_14 : decode cX3_join 14 = .ok (.getfield 28, 3) := by decide +kernel
theorem dX3_join_17 : decode cX3_join 17 = .ok (.iconst 1, 1) := by decide +kernel
theorem dX3_join_18 : decode cX3_join 18 = .ok (.iadd, 1) := by decide +kernel
theorem dX3_join_19 : decode cX3_join 19 = .ok (.putfield 28, 3) := by decide +kernel
theorem dX3_join_22 : decode cX3_join 22 = .ok (.aload_n 0, 1) := by decide +kernel
theorem dX3_join_23 : decode cX3_join 23 = .ok (.aload_n 0, 1) := by decide +kernel
theorem dX3_join_24 : decode cX3_join 24 = .ok (.getfield 28, 3) := by decide +kernel
theorem dX3_join_27 : decode cX3_join 27 = .ok (.iconst 1, 1) := by decide +kernel
theorem dX3_join_28 : decode cX3_join 28 = .ok (.isub, 1) := by decide +kernel
theorem dX3_join_29 : decode cX3_join 29 = .ok (.iload_n 1, 1) := by decide +kernel
theorem dX3_join_30 : decode cX3_join 30 = .ok (.iload_n 2, 1) := by decide +kernel
theorem dX3_join_31 : decode cX3_join 31 = .ok (.iload_n 3, 1) := by decide +kernel
theorem dX3_join_32 : decode cX3_join 32 = .ok (.iload 4, 2) := by decide +kernel
theorem dX3_join_34 : decode cX3_join 34 = .ok (.invokevirtual 64, 3) := by decide +kernel
theorem dX3_join_37 : decode cX3_join 37 = .ok (.aload_n 0, 1) := by decide +kernel
theorem dX3_join_38 : decode cX3_join 38 = .ok (.getfield 28, 3) := by decide +kernel
theorem dX3_join_41 : decode cX3_join 41 = .ok (.iconst 1, 1) := by decide +kernel
theorem dX3_join_42 : decode cX3_join 42 = .ok (.isub, 1) := by decide +kernel
theorem dX3_join_43 : decode cX3_join 43 = .ok (.ireturn, 1) := by decide +kernel
theorem dX3_put_0 : decode cX3_put 0 = .ok (.aload_n 0, 1) := by decide +kernel
theorem dX3_put_1 : decode cX3_put 1 = .ok (.iload_n 1, 1) := by decide +kernel
theorem dX3_put_2 : decode cX3_put 2 = .ok (.invokevirtual 47, 3) := by decide +kernel
theorem dX3_put_5 : decode cX3_put 5 = .ok (.ifCond .eq 33, 3) := by decide +kernel
theorem dX3_put_8 : decode cX3_put 8 = .ok (.aload_n 0, 1) := by decide +kernel
theorem dX3_put_9 : decode cX3_put 9 = .ok (.getfield 9, 3) := by decide +kernel
theorem dX3_put_12 : decode cX3_put 12 = .ok (.iload_n 1, 1) := by decide +kernel
theorem dX3_put_13 : decode cX3_put 13 = .ok (.iload_n 2, 1) := by decide +kernel
theorem dX3_put_14 : decode cX3_put 14 = .ok (.iastore, 1) := by decide +kernel
theorem dX3_put_15 : decode cX3_put 15 = .ok (.aload_n 0, 1) := by decide +kernel
theorem dX3_put_16 : decode cX3_put 16 = .ok (.getfield 15, 3) := by decide +kernel
theorem dX3_put_19 : decode cX3_put 19 = .ok (.iload_n 1, 1) := by decide +kernel
theorem dX3_put_20 : decode cX3_put 20 = .ok (.iload_n 3, 1) := by decide +kernel
theorem dX3_put_21 : decode cX3_put 21 = .ok (.iastore, 1) := by decide +kernel
theorem dX3_put_22 : decode cX3_put 22 = .ok (.aload_n 0, 1) := by decide +kernel
theorem dX3_put_23 : decode cX3_put 23 = .ok (.getfield 18, 3) := by decide +kernel
theorem dX3_put_26 : decode cX3_put 26 = .ok (.iload_n 1, 1) := by decide +kernel
theorem dX3_put_27 : decode cX3_put 27 = .ok (.iload 4, 2) := by decide +kernel
theorem dX3_put_29 : decode cX3_put 29 = .ok (.iastore, 1) := by decide +kernel
theorem dX3_put_30 : decode cX3_put 30 = .ok (.aload_n 0, 1) := by decide +kernel
theorem dX3_put_31 : decode cX3_put 31 = .ok (.getfield 21, 3) := by decide +kernel
theorem dX3_put_34 : decode cX3_put 34 = .ok (.iload_n 1, 1) := by decide +kernel
theorem dX3_put_35 : decode cX3_put 35 = .ok (.iload 5, 2) := by decide +kernel
theorem dX3_put_37 : decode cX3_put 37 = .ok (.bastore, 1) := by decide +kernel
theorem dX3_put_38 : decode cX3_put 38 = .ok (.return_, 1) := by decide +kernel
theorem dX3_putAs_0 : decode cX3_putAs 0 = .ok (.aload_n 0, 1) := by decide +kernel
theorem dX3_putAs_1 : decode cX3_putAs 1 = .ok (.iload_n 2, 1) := by decide +kernel
theorem dX3_putAs_2 : decode cX3_putAs 2 = .ok (.iload_n 3, 1) := by decide +kernel
theorem dX3_putAs_3 : decode cX3_putAs 3 = .ok (.aload_n 0, 1) := by decide +kernel
theorem dX3_putAs_4 : decode cX3_putAs 4 = .ok (.iload_n 1, 1) := by decide +kernel
theorem dX3_putAs_5 : decode cX3_putAs 5 = .ok (.invokevirtual 68, 3) := by decide +kernel
theorem dX3_putAs_8 : decode cX3_putAs 8 = .ok (.aload_n 0, 1) := by decide +kernel
theorem dX3_putAs_9 : decode cX3_putAs 9 = .ok (.iload_n 1, 1) := by decide +kernel
theorem dX3_putAs_10 : decode cX3_putAs 10 = .ok (.invokevirtual 61, 3) := by decide +kernel
theorem dX3_putAs_13 : decode cX3_putAs 13 = .ok (.aload_n 0, 1) := by decide +kernel
theorem dX3_putAs_14 : decode cX3_putAs 14 = .ok (.iload_n 1, 1) := by decide +kernel
theorem dX3_putAs_15 : decode cX3_putAs 15 = .ok (.invokevirtual 54, 3) := by decide +kernel
theorem dX3_putAs_18 : decode cX3_putAs 18 = .ok (.invokevirtual 64, 3) := by decide +kernel
theorem dX3_putAs_21 : decode cX3_putAs 21 = .ok (.return_, 1) := by decide +kernel
theorem dX3_leave_0 : decode cX3_leave 0 = .ok (.aload_n 0, 1) := by decide +kernel
theorem dX3_leave_1 : decode cX3_leave 1 = .ok (.iload_n 1, 1) := by decide +kernel
theorem dX3_leave_2 : decode cX3_leave 2 = .ok (.invokevirtual 47, 3) := by decide +kernel
theorem dX3_leave_5 : decode cX3_leave 5 = .ok (.ifCond .ne 4, 3) := by decide +kernel
theorem dX3_leave_8 : decode cX3_leave 8 = .ok (.return_, 1) := by decide +kernel
theorem dX3_leave_9 : decode cX3_leave 9 = .ok (.iload_n 1, 1) := by decide +kernel
theorem dX3_leave_10 : decode cX3_leave 10 = .ok (.iconst 1, 1) := by decide +kernel
theorem dX3_leave_11 : decode cX3_leave 11 = .ok (.iadd, 1) := by decide +kernel
theorem dX3_leave_12 : decode cX3_leave 12 = .ok (.istore_n 2, 1) := by decide +kernel
theorem dX3_leave_13 : decode cX3_leave 13 = .ok (.iload_n 2, 1) := by decide +kernel
theorem dX3_leave_14 : decode cX3_leave 14 = .ok (.aload_n 0, 1) := by decide +kernel
theorem dX3_leave_15 : decode cX3_leave 15 = .ok (.getfield 28, 3) := by decide +kernel
theorem dX3_leave_18 : decode cX3_leave 18 = .ok (.if_icmp .ge 22, 3) := by decide +kernel
theorem dX3_leave_21 : decode cX3_leave 21 = .ok (.aload_n 0, 1) := by decide +kernel
theorem dX3_leave_22 : decode cX3_leave 22 = .ok (.iload_n 2, 1) := by decide +kernel
theorem dX3_leave_23 : decode cX3_leave 23 = .ok (.iload_n 2, 1) := by decide +kernel
theorem dX3_leave_24 : decode cX3_leave 24 = .ok (.iconst 1, 1) := by decide +kernel
theorem dX3_leave_25 : decode cX3_leave 25 = .ok (.isub, 1) := by decide +kernel
theorem dX3_leave_26 : decode cX3_leave 26 = .ok (.aload_n 0, 1) := by decide +kernel
theorem dX3_leave_27 : decode cX3_leave 27 = .ok (.iload_n 2, 1) := by decide +kernel
theorem dX3_leave_28 : decode cX3_leave 28 = .ok (.invokevirtual 57, 3) := by decide +kernel
theorem dX3_leave_31 : decode cX3_leave 31 = .ok (.invokevirtual 71, 3) := by decide +kernel
theorem dX3_leave_34 : decode cX3_leave 34 = .ok (.iinc 2 1, 3) := by decide +kernel
theorem dX3_leave_37 : decode cX3_leave 37 = .ok (.goto (-24), 3) := by decide +kernel
theorem dX3_leave_40 : decode cX3_leave 40 = .ok (.aload_n 0, 1) := by decide +kernel
theorem dX3_leave_41 : decode cX3_leave 41 = .ok (.dup, 1) := by decide +kernel
theorem dX3_leave_42 : decode cX3_leave 42 = .ok (.getfield 28, 3) := by decide +kernel
theorem dX3_leave_45 : decode cX3_leave 45 = .ok (.iconst 1, 1) := by decide +kernel
theorem dX3_leave_46 : decode cX3_leave 46 = .ok (.isub, 1) := by decide +kernel
theorem dX3_leave_47 : decode cX3_leave 47 = .ok (.putfield 28, 3) := by decide +kernel
theorem dX3_leave_50 : decode cX3_leave 50 = .ok (.return_, 1) := by decide +kernel
theorem dX3_leaveAll_0 : decode cX3_leaveAll 0 = .ok (.aload_n 0, 1) := by decide +kernel
theorem dX3_leaveAll_1 : decode cX3_leaveAll 1 = .ok (.iconst 0, 1) := by decide +kernel
theorem dX3_leaveAll_2 : decode cX3_leaveAll 2 = .ok (.putfield 28, 3) := by decide +kernel
theorem dX3_leaveAll_5 : decode cX3_leaveAll 5 = .ok (.return_, 1) := by decide +kernel
theorem dX3_moveAll_0 : decode cX3_moveAll 0 = .ok (.iconst 0, 1) := by decide +kernel
theorem dX3_moveAll_1 : decode cX3_moveAll 1 = .ok (.istore_n 1, 1) := by decide +kernel
theorem dX3_moveAll_2 : decode cX3_moveAll 2 = .ok (.iconst 0, 1) := by decide +kernel
theorem dX3_moveAll_3 : decode cX3_moveAll 3 = .ok (.istore_n 2, 1) := by decide +kernel
theorem dX3_moveAll_4 : decode cX3_moveAll 4 = .ok (.iload_n 2, 1) := by decide +kernel
theorem dX3_moveAll_5 : decode cX3_moveAll 5 = .ok (.aload_n 0, 1) := by decide +kernel
theorem dX3_moveAll_6 : decode cX3_moveAll 6 = .ok (.getfield 28, 3) := by decide +kernel
theorem dX3_moveAll_9 : decode cX3_moveAll 9 = .ok (.if_icmp .ge 47, 3) := by decide +kernel
theorem dX3_moveAll_12 : decode cX3_moveAll 12 = .ok (.aload_n 0, 1) := by decide +kernel
theorem dX3_moveAll_13 : decode cX3_moveAll 13 = .ok (.iload_n 2, 1) := by decide +kernel
theorem dX3_moveAll_14 : decode cX3_moveAll 14 = .ok (.invokevirtual 57, 3) := by decide +kernel
theorem dX3_moveAll_17 : decode cX3_moveAll 17 = .ok (.aload_n 0, 1) := by decide +kernel
theorem dX3_moveAll_18 : decode cX3_moveAll 18 = .ok (.iload_n 2, 1) := by decide +kernel
theorem dX3_moveAll_19 : decode cX3_moveAll 19 = .ok (.invokevirtual 61, 3) := by decide +kernel
theorem dX3_moveAll_22 : decode cX3_moveAll 22 = .ok (.aload_n 0, 1) := by decide +kernel
theorem dX3_moveAll_23 : decode cX3_moveAll 23 = .ok (.getfield 32, 3) := by decide +kernel
theorem dX3_moveAll_26 : decode cX3_moveAll 26 = .ok (.imul, 1) := by decide +kernel
theorem dX3_moveAll_27 : decode cX3_moveAll 27 = .ok (.iadd, 1) := by decide +kernel
theorem dX3_moveAll_28 : decode cX3_moveAll 28 = .ok (.istore_n 3, 1) := by decide +kernel
theorem dX3_moveAll_29 : decode cX3_moveAll 29 = .ok (.iload_n 3, 1) := by decide +kernel
theorem dX3_moveAll_30 : decode cX3_moveAll 30 = .ok (.iconst 1, 1) := by decide +kernel
theorem dX3_moveAll_31 : decode cX3_moveAll 31 = .ok (.sipush 300, 3) := by decide +kernel
theorem dX3_moveAll_34 : decode cX3_moveAll 34 = .ok (.invokestatic 75, 3) := by decide +kernel
theorem dX3_moveAll_37 : decode cX3_moveAll 37 = .ok (.ifCond .eq 13, 3) := by decide +kernel
theorem dX3_moveAll_40 : decode cX3_moveAll 40 = .ok (.aload_n 0, 1) := by decide +kernel
theorem dX3_moveAll_41 : decode cX3_moveAll 41 = .ok (.iload_n 2, 1) := by decide +kernel
theorem dX3_moveAll_42 : decode cX3_moveAll 42 = .ok (.iload_n 1, 1) := by decide +kernel
theorem dX3_moveAll_43 : decode cX3_moveAll 43 = .ok (.iload_n 3, 1) := by decide +kernel
theorem dX3_moveAll_44 : decode cX3_moveAll 44 = .ok (.invokevirtual 71, 3) := by decide +kernel
theorem dX3_moveAll_47 : decode cX3_moveAll 47 = .ok (.iinc 1 1, 3) := by decide +kernel
theorem dX3_moveAll_50 : decode cX3_moveAll 50 = .ok (.iinc 2 1, 3) := by decide +kernel
theorem dX3_moveAll_53 : decode cX3_moveAll 53 = .ok (.goto (-49), 3) := by decide +kernel
theorem dX3_moveAll_56 : decode cX3_moveAll 56 = .ok (.aload_n 0, 1) := by decide +kernel
theorem dX3_moveAll_57 : decode cX3_moveAll 57 = .ok (.iload_n 1, 1) := by decide +kernel
theorem dX3_moveAll_58 : decode cX3_moveAll 58 = .ok (.putfield 28, 3) := by decide +kernel
theorem dX3_moveAll_61 : decode cX3_moveAll 61 = .ok (.return_, 1) := by decide +kernel
theorem dX3_forgetTurns_0 : decode cX3_forgetTurns 0 = .ok (.aload_n 0, 1) := by decide +kernel
theorem dX3_forgetTurns_1 : decode cX3_forgetTurns 1 = .ok (.iconst 0, 1) := by decide +kernel
theorem dX3_forgetTurns_2 : decode cX3_forgetTurns 2 = .ok (.putfield 32, 3) := by decide +kernel
theorem dX3_forgetTurns_5 : decode cX3_forgetTurns 5 = .ok (.return_, 1) := by decide +kernel
theorem dX3_addTurn_0 : decode cX3_addTurn 0 = .ok (.iload_n 1, 1) := by decide +kernel
theorem dX3_addTurn_1 : decode cX3_addTurn 1 = .ok (.ifCond .le 38, 3) := by decide +kernel
theorem dX3_addTurn_4 : decode cX3_addTurn 4 = .ok (.aload_n 0, 1) := by decide +kernel
theorem dX3_addTurn_5 : decode cX3_addTurn 5 = .ok (.getfield 32, 3) := by decide +kernel
theorem dX3_addTurn_8 : decode cX3_addTurn 8 = .ok (.ifCond .lt 31, 3) := by decide +kernel
theorem dX3_addTurn_11 : decode cX3_addTurn 11 = .ok (.aload_n 0, 1) := by decide +kernel
theorem dX3_addTurn_12 : decode cX3_addTurn 12 = .ok (.getfield 32, 3) := by decide +kernel
theorem dX3_addTurn_15 : decode cX3_addTurn 15 = .ok (.iconst 4, 1) := by decide +kernel
theorem dX3_addTurn_16 : decode cX3_addTurn 16 = .ok (.if_icmp .ge 23, 3) := by decide +kernel
theorem dX3_addTurn_19 : decode cX3_addTurn 19 = .ok (.aload_n 0, 1) := by decide +kernel
theorem dX3_addTurn_20 : decode cX3_addTurn 20 = .ok (.getfield 25, 3) := by decide +kernel
theorem dX3_addTurn_23 : decode cX3_addTurn 23 = .ok (.aload_n 0, 1) := by decide +kernel
theorem dX3_addTurn_24 : decode cX3_addTurn 24 = .ok (.getfield 32, 3) := by decide +kernel
theorem dX3_addTurn_27 : decode cX3_addTurn 27 = .ok (.iload_n 1, 1) := by decide +kernel
theorem dX3_addTurn_28 : decode cX3_addTurn 28 = .ok (.iastore, 1) := by decide +kernel
theorem dX3_addTurn_29 : decode cX3_addTurn 29 = .ok (.aload_n 0, 1) := by decide +kernel
theorem dX3_addTurn_30 : decode cX3_addTurn 30 = .ok (.dup, 1) := by decide +kernel
theorem dX3_addTurn_31 : decode cX3_addTurn 31 = .ok (.getfield 32, 3) := by decide +kernel
theorem dX3_addTurn_34 : decode cX3_addTurn 34 = .ok (.iconst 1, 1) := by decide +kernel
theorem dX3_addTurn_35 : decode cX3_addTurn 35 = .ok (.iadd, 1) := by decide +kernel
theorem dX3_addTurn_36 : decode cX3_addTurn 36 = .ok (.putfield 32, 3) := by decide +kernel
theorem dX3_addTurn_39 : decode cX3_addTurn 39 = .ok (.return_, 1) := by decide +kernel
theorem dX3_changeBlind_0 : decode cX3_changeBlind 0 = .ok (.aload_n 0, 1) := by decide +kernel
theorem dX3_changeBlind_1 : decode cX3_changeBlind 1 = .ok (.getfield 35, 3) := by decide +kernel
theorem dX3_changeBlind_4 : decode cX3_changeBlind 4 = .ok (.istore_n 2, 1) := by decide +kernel
theorem dX3_changeBlind_5 : decode cX3_changeBlind 5 = .ok (.aload_n 0, 1) := by decide +kernel
theorem dX3_changeBlind_6 : decode cX3_changeBlind 6 = .ok (.iload_n 1, 1) := by decide +kernel
theorem dX3_changeBlind_7 : decode cX3_changeBlind 7 = .ok (.putfield 35, 3) := by decide +kernel
theorem dX3_changeBlind_10 : decode cX3_changeBlind 10 = .ok (.iload_n 2, 1) := by decide +kernel
theorem dX3_changeBlind_11 : decode cX3_changeBlind 11 = .ok (.ireturn, 1) := by decide +kernel
theorem dX3_changeLoud_0 : decode cX3_changeLoud 0 = .ok (.aload_n 0, 1) := by decide +kernel
theorem dX3_changeLoud_1 : decode cX3_changeLoud 1 = .ok (.getfield 38, 3) := by decide +kernel
theorem dX3_changeLoud_4 : decode cX3_changeLoud 4 = .ok (.istore_n 2, 1) := by decide +kernel
theorem dX3_changeLoud_5 : decode cX3_changeLoud 5 = .ok (.aload_n 0, 1) := by decide +kernel
theorem dX3_changeLoud_6 : decode cX3_changeLoud 6 = .ok (.iload_n 1, 1) := by decide +kernel
theorem dX3_changeLoud_7 : decode cX3_changeLoud 7 = .ok (.putfield 38, 3) := by decide +kernel
theorem dX3_changeLoud_10 : decode cX3_changeLoud 10 = .ok (.iload_n 2, 1) := by decide +kernel
theorem dX3_changeLoud_11 : decode cX3_changeLoud 11 = .ok (.ireturn, 1) := by decide +kernel
end
section
set_option maxHeartbeats 4000000 in
set_option maxRecDepth 100000 in
theorem sgX3_become_0 {d : Nat} {σ : St} {K : St → Prop} {a : Nat} (h_a : isSc a) {b : Nat} (h_b : isSc b) (h : ∀ s1, s1 = setR σ (a + 1) (va_cpy (sA σ (b + 1)) (sA σ (a + 1)) (ix 0) (ix 0) (ix 6)) → ∀ s2, s2 = setR s1 (a + 2) (va_cpy (sA s1 (b + 2)) (sA s1 (a + 2)) (ix 0) (ix 0) (ix 6)) → ∀ s3, s3 = setR s2 (a + 3) (va_cpy (sA s2 (b + 3)) (sA s2 (a + 3)) (ix 0) (ix 0) (ix 6)) → ∀ s4, s4 = setR s3 (a + 4) (va_cpy (sA s3 (b + 4)) (sA s3 (a + 4)) (ix 0) (ix 0) (ix 6)) → ∀ s5, s5 = setR s4 (a + 5) (va_cpy (sA s4 (b + 5)) (sA s4 (a + 5)) (ix 0) (ix 0) (ix 4)) → ∀ s6, s6 = setF s5 a 5 (sF s5 b 5) → ∀ s7, s7 = setF s6 a 6 (sF s6 b 6) → ∀ s8, s8 = setF s7 a 7 (sF s7 b 7) → ∀ s9, s9 = setF s8 a 8 (sF s8 b 8) → K s9) : Go mX3_become (d + 1) 0 [.ref a, .ref b] [] σ (QU K) := by
  refine Go.aload_n 1 dX3_become_0 rfl rfl (?_ : Go _ _ 1 _ _ _ _)
  refine Go.getR fk_X3_9 (sc_0 h_b) (scr_0 h_b) dX3_become_1 (?_ : Go _ _ 4 _ _ _ _)
  refine Go.iconst dX3_become_4 k_ic_0 (?_ : Go _ _ 5 _ _ _ _)
  refine Go.aload_n 0 dX3_become_5 rfl rfl (?_ : Go _ _ 6 _ _ _ _)
  refine Go.getR fk_X3_9 (sc_0 h_a) (scr_0 h_a) dX3_become_6 (?_ : Go _ _ 9 _ _ _ _)
  refine Go.iconst dX3_become_9 k_ic_0 (?_ : Go _ _ 10 _ _ _ _)
  refine Go.bipush dX3_become_10 k_bi_6 (?_ : Go _ _ 12 _ _ _ _)
  refine Go.acopy (sc_1 h_b) (sc_1 h_a) (by decide) wl_X3_41 wn_copy wt_copy wi_Sys (by decide) (by decide) (by decide) (by decide +kernel) (by decide +kernel) (Nat.le_of_ble_eq_true rfl) dX3_become_12 (?_ : Go _ _ 15 _ _ _ _)
  generalize es1 : setR σ (a + 1) (va_cpy (sA σ (b + 1)) (sA σ (a + 1)) (ix 0) (ix 0) (ix 6)) = s1
  have h := h s1 es1.symm
  refine Go.aload_n 1 dX3_become_15 rfl rfl (?_ : Go _ _ 16 _ _ _ _)
  refine Go.getR fk_X3_15 (sc_0 h_b) (scr_1 h_b) dX3_become_16 (?_ : Go _ _ 19 _ _ _ _)
  refine Go.iconst dX3_become_19 k_ic_0 (?_ : Go _ _ 20 _ _ _ _)
  refine Go.aload_n 0 dX3_become_20 rfl rfl (?_ : Go _ _ 21 _ _ _ _)
  refine Go.getR fk_X3_15 (sc_0 h_a) (scr_1 h_a) dX3_become_21 (?_ : Go _ _ 24 _ _ _ _)
  refine Go.iconst dX3_become_24 k_ic_0 (?_ : Go _ _ 25 _ _ _ _)
  refine Go.bipush dX3_become_25 k_bi_6 (?_ : Go _ _ 27 _ _ _ _)
  refine Go.acopy (sc_2 h_b) (sc_2 h_a) (by decide) wl_X3_41 wn_copy wt_copy wi_Sys (by decide) (by decide) (by decide) (by decide +kernel) (by decide +kernel) (Nat.le_of_ble_eq_true rfl) dX3_become_27 (?_ : Go _ _ 30 _ _ _ _)
  generalize es2 : setR s1 (a + 2) (va_cpy (sA s1 (b + 2)) (sA s1 (a + 2)) (ix 0) (ix 0) (ix 6)) = s2
  have h := h s2 es2.symm
  refine Go.aload_n 1 dX3_become_30 rfl rfl (?_ : Go _ _ 31 _ _ _ _)
  refine Go.getR fk_X3_18 (sc_0 h_b) (scr_2 h_b) dX3_become_31 (?_ : Go _ _ 34 _ _ _ _)
  refine Go.iconst dX3_become_34 k_ic_0 (?_ : Go _ _ 35 _ _ _ _)
  refine Go.aload_n 0 dX3_become_35 rfl rfl (?_ : Go _ _ 36 _ _ _ _)
  refine Go.getR fk_X3_18 (sc_0 h_a) (scr_2 h_a) dX3_become_36 (?_ : Go _ _ 39 _ _ _ _)
  refine Go.iconst dX3_become_39 k_ic_0 (?_ : Go _ _ 40 _ _ _ _)
  refine Go.bipush dX3_become_40 k_bi_6 (?_ : Go _ _ 42 _ _ _ _)
  refine Go.acopy (sc_3 h_b) (sc_3 h_a) (by decide) wl_X3_41 wn_copy wt_copy wi_Sys (by decide) (by decide) (by decide) (by decide +kernel) (by decide +kernel) (Nat.le_of_ble_eq_true rfl) dX3_become_42 (?_ : Go _ _ 45 _ _ _ _)
  generalize es3 : setR s2 (a + 3) (va_cpy (sA s2 (b + 3)) (sA s2 (a + 3)) (ix 0) (ix 0) (ix 6)) = s3
  have h := h s3 es3.symm
  refine Go.aload_n 1 dX3_become_45 rfl rfl (?_ : Go _ _ 46 _ _ _ _)
  refine Go.getR fk_X3_21 (sc_0 h_b) (scr_3 h_b) dX3_become_46 (?_ : Go _ _ 49 _ _ _ _)
  refine Go.iconst dX3_become_49 k_ic_0 (?_ : Go _ _ 50 _ _ _ _)
  refine Go.aload_n 0 dX3_become_50 rfl rfl (?_ : Go _ _ 51 _ _ _ _)
  refine Go.getR fk_X3_21 (sc_0 h_a) (scr_3 h_a) dX3_become_51 (?_ : Go _ _ 54 _ _ _ _)
  refine Go.iconst dX3_become_54 k_ic_0 (?_ : Go _ _ 55 _ _ _ _)
  refine Go.bipush dX3_become_55 k_bi_6 (?_ : Go _ _ 57 _ _ _ _)
  refine Go.acopy (sc_4 h_b) (sc_4 h_a) (by decide) wl_X3_41 wn_copy wt_copy wi_Sys (by decide) (by decide) (by decide) (by decide +kernel) (by decide +kernel) (Nat.le_of_ble_eq_true rfl) dX3_become_57 (?_ : Go _ _ 60 _ _ _ _)
  generalize es4 : setR s3 (a + 4) (va_cpy (sA s3 (b + 4)) (sA s3 (a + 4)) (ix 0) (ix 0) (ix 6)) = s4
  have h := h s4 es4.symm
  refine Go.aload_n 1 dX3_become_60 rfl rfl (?_ : Go _ _ 61 _ _ _ _)
  refine Go.getR fk_X3_25 (sc_0 h_b) (scr_4 h_b) dX3_become_61 (?_ : Go _ _ 64 _ _ _ _)
  refine Go.iconst dX3_become_64 k_ic_0 (?_ : Go _ _ 65 _ _ _ _)
  refine Go.aload_n 0 dX3_become_65 rfl rfl (?_ : Go _ _ 66 _ _ _ _)
  refine Go.getR fk_X3_25 (sc_0 h_a) (scr_4 h_a) dX3_become_66 (?_ : Go _ _ 69 _ _ _ _)
  refine Go.iconst dX3_become_69 k_ic_0 (?_ : Go _ _ 70 _ _ _ _)
  refine Go.iconst dX3_become_70 k_ic_4 (?_ : Go _ _ 71 _ _ _ _)
  refine Go.acopy (sc_5 h_b) (sc_5 h_a) (by decide) wl_X3_41 wn_copy wt_copy wi_Sys (by decide) (by decide) (by decide) (by decide +kernel) (by decide +kernel) (Nat.le_of_ble_eq_true rfl) dX3_become_71 (?_ : Go _ _ 74 _ _ _ _)
  generalize es5 : setR s4 (a + 5) (va_cpy (sA s4 (b + 5)) (sA s4 (a + 5)) (ix 0) (ix 0) (ix 4)) = s5
  have h := h s5 es5.symm
  refine Go.aload_n 0 dX3_become_74 rfl rfl (?_ : Go _ _ 75 _ _ _ _)
  refine Go.aload_n 1 dX3_become_75 rfl rfl (?_ : Go _ _ 76 _ _ _ _)
  refine Go.getI fk_X3_28 (sc_0 h_b) (scr_5 h_b) dX3_become_76 (?_ : Go _ _ 79 _ _ _ _)
  refine Go.putI fp_X3_28 (sc_0 h_a) (scr_5 h_a) dX3_become_79 (?_ : Go _ _ 82 _ _ _ _)
  generalize es6 : setF s5 a 5 (sF s5 b 5) = s6
  have h := h s6 es6.symm
  refine Go.aload_n 0 dX3_become_82 rfl rfl (?_ : Go _ _ 83 _ _ _ _)
  refine Go.aload_n 1 dX3_become_83 rfl rfl (?_ : Go _ _ 84 _ _ _ _)
  refine Go.getI fk_X3_32 (sc_0 h_b) (scr_6 h_b) dX3_become_84 (?_ : Go _ _ 87 _ _ _ _)
  refine Go.putI fp_X3_32 (sc_0 h_a) (scr_6 h_a) dX3_become_87 (?_ : Go _ _ 90 _ _ _ _)
  generalize es7 : setF s6 a 6 (sF s6 b 6) = s7
  have h := h s7 es7.symm
  refine Go.aload_n 0 dX3_become_90 rfl rfl (?_ : Go _ _ 91 _ _ _ _)
  refine Go.aload_n 1 dX3_become_91 rfl rfl (?_ : Go _ _ 92 _ _ _ _)
  refine Go.getI fk_X3_35 (sc_0 h_b) (scr_7 h_b) dX3_become_92 (?_ : Go _ _ 95 _ _ _ _)
  refine Go.putI fp_X3_35 (sc_0 h_a) (scr_7 h_a) dX3_become_95 (?_ : Go _ _ 98 _ _ _ _)
  generalize es8 : setF s7 a 7 (sF s7 b 7) = s8
  have h := h s8 es8.symm
  refine Go.aload_n 0 dX3_become_98 rfl rfl (?_ : Go _ _ 99 _ _ _ _)
  refine Go.aload_n 1 dX3_become_99 rfl rfl (?_ : Go _ _ 100 _ _ _ _)
  refine Go.getI fk_X3_38 (sc_0 h_b) (scr_8 h_b) dX3_become_100 (?_ : Go _ _ 103 _ _ _ _)
  refine Go.putI fp_X3_38 (sc_0 h_a) (scr_8 h_a) dX3_become_103 (?_ : Go _ _ 106 _ _ _ _)
  generalize es9 : setF s8 a 8 (sF s8 b 8) = s9
  have h := h s9 es9.symm
  exact Go.vret rfl dX3_become_106 ⟨rfl, h⟩
theorem cgX3_become {d : Nat} {σ : St} {K : St → Prop} {a : Nat} (h_a : isSc a) {b : Nat} (h_b : isSc b) (h : ∀ s1, s1 = setR σ (a + 1) (va_cpy (sA σ (b + 1)) (sA σ (a + 1)) (ix 0) (ix 0) (ix 6)) → ∀ s2, s2 = setR s1 (a + 2) (va_cpy (sA s1 (b + 2)) (sA s1 (a + 2)) (ix 0) (ix 0) (ix 6)) → ∀ s3, s3 = setR s2 (a + 3) (va_cpy (sA s2 (b + 3)) (sA s2 (a + 3)) (ix 0) (ix 0) (ix 6)) → ∀ s4, s4 = setR s3 (a + 4) (va_cpy (sA s3 (b + 4)) (sA s3 (a + 4)) (ix 0) (ix 0) (ix 6)) → ∀ s5, s5 = setR s4 (a + 5) (va_cpy (sA s4 (b + 5)) (sA s4 (a + 5)) (ix 0) (ix 0) (ix 4)) → ∀ s6, s6 = setF s5 a 5 (sF s5 b 5) → ∀ s7, s7 = setF s6 a 6 (sF s6 b 6) → ∀ s8, s8 = setF s7 a 7 (sF s7 b 7) → ∀ s9, s9 = setF s8 a 8 (sF s8 b 8) → K s9) : CallU (d + 1) mX3_become [.ref a, .ref b] σ K := Call_of_Go (by decide +kernel) (ls := [.ref a, .ref b]) rfl (Nat.le_of_ble_eq_true rfl) (sgX3_become_0 h_a h_b h)
set_option maxHeartbeats 4000000 in
set_option maxRecDepth 100000 in
theorem sgX3_targetCount_0 {d : Nat} {σ : St} {K : Int32 → St → Prop} {a : Nat} (h_a : isSc a) (h : K (sF σ a 5) σ) : Go mX3_targetCount (d + 1) 0 [.ref a] [] σ (QI K) := by
  refine Go.aload_n 0 dX3_targetCount_0 rfl rfl (?_ : Go _ _ 1 _ _ _ _)
  refine Go.getI fk_X3_28 (sc_0 h_a) (scr_5 h_a) dX3_targetCount_1 (?_ : Go _ _ 4 _ _ _ _)
  exact Go.iret rfl dX3_targetCount_4 ⟨_, rfl, h⟩
theorem cgX3_targetCount {d : Nat} {σ : St} {K : Int32 → St → Prop} {a : Nat} (h_a : isSc a) (h : K (sF σ a 5) σ) : CallI (d + 1) mX3_targetCount [.ref a] σ K := Call_of_Go (by decide +kernel) (ls := [.ref a]) rfl (Nat.le_of_ble_eq_true rfl) (sgX3_targetCount_0 h_a h)
set_option maxHeartbeats 4000000 in
set_option maxRecDepth 100000 in
theorem sgX3_turnCount_0 {d : Nat} {σ : St} {K : Int32 → St → Prop} {a : Nat} (h_a : isSc a) (h : K (sF σ a 6) σ) : Go mX3_turnCount (d + 1) 0 [.ref a] [] σ (QI K) := by
  refine Go.aload_n 0 dX3_turnCount_0 rfl rfl (?_ : Go _ _ 1 _ _ _ _)
  refine Go.getI fk_X3_32 (sc_0 h_a) (scr_6 h_a) dX3_turnCount_1 (?_ : Go _ _ 4 _ _ _ _)
  exact Go.iret rfl dX3_turnCount_4 ⟨_, rfl, h⟩
theorem cgX3_turnCount {d : Nat} {σ : St} {K : Int32 → St → Prop} {a : Nat} (h_a : isSc a) (h : K (sF σ a 6) σ) : CallI (d + 1) mX3_turnCount [.ref a] σ K := Call_of_Go (by decide +kernel) (ls := [.ref a]) rfl (Nat.le_of_ble_eq_true rfl) (sgX3_turnCount_0 h_a h)
set_option maxHeartbeats 4000000 in
set_option maxRecDepth 100000 in
theorem sgX3_blindBelow_0 {d : Nat} {σ : St} {K : Int32 → St → Prop} {a : Nat} (h_a : isSc a) (h : K (sF σ a 7) σ) : Go mX3_blindBelow (d + 1) 0 [.ref a] [] σ (QI K) := by
  refine Go.aload_n 0 dX3_blindBelow_0 rfl rfl (?_ : Go _ _ 1 _ _ _ _)
  refine Go.getI fk_X3_35 (sc_0 h_a) (scr_7 h_a) dX3_blindBelow_1 (?_ : Go _ _ 4 _ _ _ _)
  exact Go.iret rfl dX3_blindBelow_4 ⟨_, rfl, h⟩
theorem cgX3_blindBelow {d : Nat} {σ : St} {K : Int32 → St → Prop} {a : Nat} (h_a : isSc a) (h : K (sF σ a 7) σ) : CallI (d + 1) mX3_blindBelow [.ref a] σ K := Call_of_Go (by decide +kernel) (ls := [.ref a]) rfl (Nat.le_of_ble_eq_true rfl) (sgX3_blindBelow_0 h_a h)
set_option maxHeartbeats 4000000 in
set_option maxRecDepth 100000 in
theorem sgX3_loudFrom_0 {d : Nat} {σ : St} {K : Int32 → St → Prop} {a : Nat} (h_a : isSc a) (h : K (sF σ a 8) σ) : Go mX3_loudFrom (d + 1) 0 [.ref a] [] σ (QI K) := by
  refine Go.aload_n 0 dX3_loudFrom_0 rfl rfl (?_ : Go _ _ 1 _ _ _ _)
  refine Go.getI fk_X3_38 (sc_0 h_a) (scr_8 h_a) dX3_loudFrom_1 (?_ : Go _ _ 4 _ _ _ _)
  exact Go.iret rfl dX3_loudFrom_4 ⟨_, rfl, h⟩
theorem cgX3_loudFrom {d : Nat} {σ : St} {K : Int32 → St → Prop} {a : Nat} (h_a : isSc a) (h : K (sF σ a 8) σ) : CallI (d + 1) mX3_loudFrom [.ref a] σ K := Call_of_Go (by decide +kernel) (ls := [.ref a]) rfl (Nat.le_of_ble_eq_true rfl) (sgX3_loudFrom_0 h_a h)
set_option maxHeartbeats 4000000 in
set_option maxRecDepth 100000 in
theorem sgX3_has_0 {d : Nat} {σ : St} {x1 : Int32} {K : Int32 → St → Prop} {a : Nat} (h_a : isSc a) (h : (x1 < 0 → K 0 σ) ∧ (¬ x1 < 0 → ((sF σ a 5) ≤ x1 → K 0 σ) ∧ (¬ (sF σ a 5) ≤ x1 → (6 ≤ x1 → K 0 σ) ∧ (¬ 6 ≤ x1 → K 1 σ)))) : Go mX3_has (d + 1) 0 [.ref a, .int x1] [] σ (QI K) := by
  refine Go.iload_n 1 dX3_has_0 rfl rfl (?_ : Go _ _ 1 _ _ _ _)
  refine Go.if_lt 22 dX3_has_1 rfl ⟨fun c1 => ?_, fun c1 => (?_ : Go _ _ 4 _ _ _ _)⟩
  · have h := h.1 c1
    refine Go.iconst dX3_has_22 k_ic_0 (?_ : Go _ _ 23 _ _ _ _)
    exact Go.zret rfl rfl dX3_has_23 ⟨_, rfl, h⟩
  · have h := h.2 c1
    refine Go.iload_n 1 dX3_has_4 rfl rfl (?_ : Go _ _ 5 _ _ _ _)
    refine Go.aload_n 0 dX3_has_5 rfl rfl (?_ : Go _ _ 6 _ _ _ _)
    refine Go.getI fk_X3_28 (sc_0 h_a) (scr_5 h_a) dX3_has_6 (?_ : Go _ _ 9 _ _ _ _)
    refine Go.icmp_ge 22 dX3_has_9 rfl ⟨fun c2 => ?_, fun c2 => (?_ : Go _ _ 12 _ _ _ _)⟩
    · have h := h.1 c2
      refine Go.iconst dX3_has_22 k_ic_0 (?_ : Go _ _ 23 _ _ _ _)
      exact Go.zret rfl rfl dX3_has_23 ⟨_, rfl, h⟩
    · have h := h.2 c2
      refine Go.iload_n 1 dX3_has_12 rfl rfl (?_ : Go _ _ 13 _ _ _ _)
      refine Go.bipush dX3_has_13 k_bi_6 (?_ : Go _ _ 15 _ _ _ _)
      refine Go.icmp_ge 22 dX3_has_15 rfl ⟨fun c3 => ?_, fun c3 => (?_ : Go _ _ 18 _ _ _ _)⟩
      · have h := h.1 c3
        refine Go.iconst dX3_has_22 k_ic_0 (?_ : Go _ _ 23 _ _ _ _)
        exact Go.zret rfl rfl dX3_has_23 ⟨_, rfl, h⟩
      · have h := h.2 c3
        refine Go.iconst dX3_has_18 k_ic_1 (?_ : Go _ _ 19 _ _ _ _)
        refine Go.goto 23 dX3_has_19 rfl ?_
        exact Go.zret rfl rfl dX3_has_23 ⟨_, rfl, h⟩
theorem cgX3_has {d : Nat} {σ : St} {x1 : Int32} {K : Int32 → St → Prop} {a : Nat} (h_a : isSc a) (h : (x1 < 0 → K 0 σ) ∧ (¬ x1 < 0 → ((sF σ a 5) ≤ x1 → K 0 σ) ∧ (¬ (sF σ a 5) ≤ x1 → (6 ≤ x1 → K 0 σ) ∧ (¬ 6 ≤ x1 → K 1 σ)))) : CallI (d + 1) mX3_has [.ref a, .int x1] σ K := Call_of_Go (by decide +kernel) (ls := [.ref a, .int x1]) rfl (Nat.le_of_ble_eq_true rfl) (sgX3_has_0 h_a h)
set_option maxHeartbeats 4000000 in
set_option maxRecDepth 100000 in
theorem sgX3_hasTurn_0 {d : Nat} {σ : St} {x1 : Int32} {K : Int32 → St → Prop} {a : Nat} (h_a : isSc a) (h : (x1 < 0 → K 0 σ) ∧ (¬ x1 < 0 → ((sF σ a 6) ≤ x1 → K 0 σ) ∧ (¬ (sF σ a 6) ≤ x1 → (4 ≤ x1 → K 0 σ) ∧ (¬ 4 ≤ x1 → K 1 σ)))) : Go mX3_hasTurn (d + 1) 0 [.ref a, .int x1] [] σ (QI K) := by
  refine Go.iload_n 1 dX3_hasTurn_0 rfl rfl (?_ : Go _ _ 1 _ _ _ _)
  refine Go.if_lt 21 dX3_hasTurn_1 rfl ⟨fun c1 => ?_, fun c1 => (?_ : Go _ _ 4 _ _ _ _)⟩
  · have h := h.1 c1
    refine Go.iconst dX3_hasTurn_21 k_ic_0 (?_ : Go _ _ 22 _ _ _ _)
    exact Go.zret rfl rfl dX3_hasTurn_22 ⟨_, rfl, h⟩
  · have h := h.2 c1
    refine Go.iload_n 1 dX3_hasTurn_4 rfl rfl (?_ : Go _ _ 5 _ _ _ _)
    refine Go.aload_n 0 dX3_hasTurn_5 rfl rfl (?_ : Go _ _ 6 _ _ _ _)
    refine Go.getI fk_X3_32 (sc_0 h_a) (scr_6 h_a) dX3_hasTurn_6 (?_ : Go _ _ 9 _ _ _ _)
    refine Go.icmp_ge 21 dX3_hasTurn_9 rfl ⟨fun c2 => ?_, fun c2 => (?_ : Go _ _ 12 _ _ _ _)⟩
    · have h := h.1 c2
      refine Go.iconst dX3_hasTurn_21 k_ic_0 (?_ : Go _ _ 22 _ _ _ _)
      exact Go.zret rfl rfl dX3_hasTurn_22 ⟨_, rfl, h⟩
    · have h := h.2 c2
      refine Go.iload_n 1 dX3_hasTurn_12 rfl rfl (?_ : Go _ _ 13 _ _ _ _)
      refine Go.iconst dX3_hasTurn_13 k_ic_4 (?_ : Go _ _ 14 _ _ _ _)
      refine Go.icmp_ge 21 dX3_hasTurn_14 rfl ⟨fun c3 => ?_, fun c3 => (?_ : Go _ _ 17 _ _ _ _)⟩
      · have h := h.1 c3
        refine Go.iconst dX3_hasTurn_21 k_ic_0 (?_ : Go _ _ 22 _ _ _ _)
        exact Go.zret rfl rfl dX3_hasTurn_22 ⟨_, rfl, h⟩
      · have h := h.2 c3
        refine Go.iconst dX3_hasTurn_17 k_ic_1 (?_ : Go _ _ 18 _ _ _ _)
        refine Go.goto 22 dX3_hasTurn_18 rfl ?_
        exact Go.zret rfl rfl dX3_hasTurn_22 ⟨_, rfl, h⟩
theorem cgX3_hasTurn {d : Nat} {σ : St} {x1 : Int32} {K : Int32 → St → Prop} {a : Nat} (h_a : isSc a) (h : (x1 < 0 → K 0 σ) ∧ (¬ x1 < 0 → ((sF σ a 6) ≤ x1 → K 0 σ) ∧ (¬ (sF σ a 6) ≤ x1 → (4 ≤ x1 → K 0 σ) ∧ (¬ 4 ≤ x1 → K 1 σ)))) : CallI (d + 1) mX3_hasTurn [.ref a, .int x1] σ K := Call_of_Go (by decide +kernel) (ls := [.ref a, .int x1]) rfl (Nat.le_of_ble_eq_true rfl) (sgX3_hasTurn_0 h_a h)
set_option maxHeartbeats 4000000 in
set_option maxRecDepth 100000 in
theorem sgX3_distanceOf_0 {d : Nat} {σ : St} {x1 : Int32} {K : Int32 → St → Prop} {a : Nat} (h_a : isSc a) (h : CallI d mX3_has [.ref a, .int x1] σ (fun r2 s1 => (r2 = 0 → K 0 s1) ∧ (¬ r2 = 0 → vp_in x1 6 ∧ K (sA s1 (a + 1) (ix x1)) s1))) : Go mX3_distanceOf (d + 1) 0 [.ref a, .int x1] [] σ (QI K) := by
  refine Go.aload_n 0 dX3_distanceOf_0 rfl rfl (?_ : Go _ _ 1 _ _ _ _)
  refine Go.iload_n 1 dX3_distanceOf_1 rfl rfl (?_ : Go _ _ 2 _ _ _ _)
  refine Go.callV (as := [.int x1]) (st := []) mk_X3_has wl_X3_47 (sc_0 h_a) rfl rfl (Nat.le_of_ble_eq_true rfl) dX3_distanceOf_2 h ?_
  rintro _ s1 ⟨r2, rfl, h⟩
  show Go _ _ 5 _ [.int r2] _ _
  refine Go.if_eq 17 dX3_distanceOf_5 rfl ⟨fun c3 => ?_, fun c3 => (?_ : Go _ _ 8 _ _ _ _)⟩
  · have h := h.1 c3
    refine Go.iconst dX3_distanceOf_17 k_ic_0 (?_ : Go _ _ 18 _ _ _ _)
    exact Go.iret rfl dX3_distanceOf_18 ⟨_, rfl, h⟩
  · have h := h.2 c3
    refine Go.aload_n 0 dX3_distanceOf_8 rfl rfl (?_ : Go _ _ 9 _ _ _ _)
    refine Go.getR fk_X3_9 (sc_0 h_a) (scr_0 h_a) dX3_distanceOf_9 (?_ : Go _ _ 12 _ _ _ _)
    refine Go.iload_n 1 dX3_distanceOf_12 rfl rfl (?_ : Go _ _ 13 _ _ _ _)
    refine Go.iald (sc_1 h_a) dX3_distanceOf_13 ⟨h.1, (?_ : Go _ _ 14 _ _ _ _)⟩
    have h := h.2
    refine Go.goto 18 dX3_distanceOf_14 rfl ?_
    exact Go.iret rfl dX3_distanceOf_18 ⟨_, rfl, h⟩
theorem cgX3_distanceOf {d : Nat} {σ : St} {x1 : Int32} {K : Int32 → St → Prop} {a : Nat} (h_a : isSc a) (h : CallI d mX3_has [.ref a, .int x1] σ (fun r2 s1 => (r2 = 0 → K 0 s1) ∧ (¬ r2 = 0 → vp_in x1 6 ∧ K (sA s1 (a + 1) (ix x1)) s1))) : CallI (d + 1) mX3_distanceOf [.ref a, .int x1] σ K := Call_of_Go (by decide +kernel) (ls := [.ref a, .int x1]) rfl (Nat.le_of_ble_eq_true rfl) (sgX3_distanceOf_0 h_a h)
set_option maxHeartbeats 4000000 in
set_option maxRecDepth 100000 in
theorem sgX3_strengthOf_0 {d : Nat} {σ : St} {x1 : Int32} {K : Int32 → St → Prop} {a : Nat} (h_a : isSc a) (h : CallI d mX3_has [.ref a, .int x1] σ (fun r2 s1 => (r2 = 0 → K 0 s1) ∧ (¬ r2 = 0 → vp_in x1 6 ∧ K (sA s1 (a + 2) (ix x1)) s1))) : Go mX3_strengthOf (d + 1) 0 [.ref a, .int x1] [] σ (QI K) := by
  refine Go.aload_n 0 dX3_strengthOf_0 rfl rfl (?_ : Go _ _ 1 _ _ _ _)
  refine Go.iload_n 1 dX3_strengthOf_1 rfl rfl (?_ : Go _ _ 2 _ _ _ _)
  refine Go.callV (as := [.int x1]) (st := []) mk_X3_has wl_X3_47 (sc_0 h_a) rfl rfl (Nat.le_of_ble_eq_true rfl) dX3_strengthOf_2 h ?_
  rintro _ s1 ⟨r2, rfl, h⟩
  show Go _ _ 5 _ [.int r2] _ _
  refine Go.if_eq 17 dX3_strengthOf_5 rfl ⟨fun c3 => ?_, fun c3 => (?_ : Go _ _ 8 _ _ _ _)⟩
  · have h := h.1 c3
    refine Go.iconst dX3_strengthOf_17 k_ic_0 (?_ : Go _ _ 18 _ _ _ _)
    exact Go.iret rfl dX3_strengthOf_18 ⟨_, rfl, h⟩
  · have h := h.2 c3
    refine Go.aload_n 0 dX3_strengthOf_8 rfl rfl (?_ : Go _ _ 9 _ _ _ _)
    refine Go.getR fk_X3_15 (sc_0 h_a) (scr_1 h_a) dX3_strengthOf_9 (?_ : Go _ _ 12 _ _ _ _)
    refine Go.iload_n 1 dX3_strengthOf_12 rfl rfl (?_ : Go _ _ 13 _ _ _ _)
    refine Go.iald (sc_2 h_a) dX3_strengthOf_13 ⟨h.1, (?_ : Go _ _ 14 _ _ _ _)⟩
    have h := h.2
    refine Go.goto 18 dX3_strengthOf_14 rfl ?_
    exact Go.iret rfl dX3_strengthOf_18 ⟨_, rfl, h⟩
theorem cgX3_strengthOf {d : Nat} {σ : St} {x1 : Int32} {K : Int32 → St → Prop} {a : Nat} (h_a : isSc a) (h : CallI d mX3_has [.ref a, .int x1] σ (fun r2 s1 => (r2 = 0 → K 0 s1) ∧ (¬ r2 = 0 → vp_in x1 6 ∧ K (sA s1 (a + 2) (ix x1)) s1))) : CallI (d + 1) mX3_strengthOf [.ref a, .int x1] σ K := Call_of_Go (by decide +kernel) (ls := [.ref a, .int x1]) rfl (Nat.le_of_ble_eq_true rfl) (sgX3_strengthOf_0 h_a h)
set_option maxHeartbeats 4000000 in
set_option maxRecDepth 100000 in
theorem sgX3_movementOf_0 {d : Nat} {σ : St} {x1 : Int32} {K : Int32 → St → Prop} {a : Nat} (h_a : isSc a) (h : CallI d mX3_has [.ref a, .int x1] σ (fun r2 s1 => (r2 = 0 → K 0 s1) ∧ (¬ r2 = 0 → vp_in x1 6 ∧ K (sA s1 (a + 3) (ix x1)) s1))) : Go mX3_movementOf (d + 1) 0 [.ref a, .int x1] [] σ (QI K) := by
  refine Go.aload_n 0 dX3_movementOf_0 rfl rfl (?_ : Go _ _ 1 _ _ _ _)
  refine Go.iload_n 1 dX3_movementOf_1 rfl rfl (?_ : Go _ _ 2 _ _ _ _)
  refine Go.callV (as := [.int x1]) (st := []) mk_X3_has wl_X3_47 (sc_0 h_a) rfl rfl (Nat.le_of_ble_eq_true rfl) dX3_movementOf_2 h ?_
  rintro _ s1 ⟨r2, rfl, h⟩
  show Go _ _ 5 _ [.int r2] _ _
  refine Go.if_eq 17 dX3_movementOf_5 rfl ⟨fun c3 => ?_, fun c3 => (?_ : Go _ _ 8 _ _ _ _)⟩
  · have h := h.1 c3
    refine Go.iconst dX3_movementOf_17 k_ic_0 (?_ : Go _ _ 18 _ _ _ _)
    exact Go.iret rfl dX3_movementOf_18 ⟨_, rfl, h⟩
  · have h := h.2 c3
    refine Go.aload_n 0 dX3_movementOf_8 rfl rfl (?_ : Go _ _ 9 _ _ _ _)
    refine Go.getR fk_X3_18 (sc_0 h_a) (scr_2 h_a) dX3_movementOf_9 (?_ : Go _ _ 12 _ _ _ _)
    refine Go.iload_n 1 dX3_movementOf_12 rfl rfl (?_ : Go _ _ 13 _ _ _ _)
    refine Go.iald (sc_3 h_a) dX3_movementOf_13 ⟨h.1, (?_ : Go _ _ 14 _ _ _ _)⟩
    have h := h.2
    refine Go.goto 18 dX3_movementOf_14 rfl ?_
    exact Go.iret rfl dX3_movementOf_18 ⟨_, rfl, h⟩
theorem cgX3_movementOf {d : Nat} {σ : St} {x1 : Int32} {K : Int32 → St → Prop} {a : Nat} (h_a : isSc a) (h : CallI d mX3_has [.ref a, .int x1] σ (fun r2 s1 => (r2 = 0 → K 0 s1) ∧ (¬ r2 = 0 → vp_in x1 6 ∧ K (sA s1 (a + 3) (ix x1)) s1))) : CallI (d + 1) mX3_movementOf [.ref a, .int x1] σ K := Call_of_Go (by decide +kernel) (ls := [.ref a, .int x1]) rfl (Nat.le_of_ble_eq_true rfl) (sgX3_movementOf_0 h_a h)
set_option maxHeartbeats 4000000 in
set_option maxRecDepth 100000 in
theorem sgX3_isWall_0 {d : Nat} {σ : St} {x1 : Int32} {K : Int32 → St → Prop} {a : Nat} (h_a : isSc a) (h : CallI d mX3_has [.ref a, .int x1] σ (fun r2 s1 => (r2 = 0 → K 0 s1) ∧ (¬ r2 = 0 → vp_in x1 6 ∧ ((sA s1 (a + 4) (ix x1)) = 0 → K 0 s1) ∧ (¬ (sA s1 (a + 4) (ix x1)) = 0 → K 1 s1)))) : Go mX3_isWall (d + 1) 0 [.ref a, .int x1] [] σ (QI K) := by
  refine Go.aload_n 0 dX3_isWall_0 rfl rfl (?_ : Go _ _ 1 _ _ _ _)
  refine Go.iload_n 1 dX3_isWall_1 rfl rfl (?_ : Go _ _ 2 _ _ _ _)
  refine Go.callV (as := [.int x1]) (st := []) mk_X3_has wl_X3_47 (sc_0 h_a) rfl rfl (Nat.le_of_ble_eq_true rfl) dX3_isWall_2 h ?_
  rintro _ s1 ⟨r2, rfl, h⟩
  show Go _ _ 5 _ [.int r2] _ _
  refine Go.if_eq 21 dX3_isWall_5 rfl ⟨fun c3 => ?_, fun c3 => (?_ : Go _ _ 8 _ _ _ _)⟩
  · have h := h.1 c3
    refine Go.iconst dX3_isWall_21 k_ic_0 (?_ : Go _ _ 22 _ _ _ _)
    exact Go.zret rfl rfl dX3_isWall_22 ⟨_, rfl, h⟩
  · have h := h.2 c3
    refine Go.aload_n 0 dX3_isWall_8 rfl rfl (?_ : Go _ _ 9 _ _ _ _)
    refine Go.getR fk_X3_21 (sc_0 h_a) (scr_3 h_a) dX3_isWall_9 (?_ : Go _ _ 12 _ _ _ _)
    refine Go.iload_n 1 dX3_isWall_12 rfl rfl (?_ : Go _ _ 13 _ _ _ _)
    refine Go.zald (sc_4 h_a) dX3_isWall_13 ⟨h.1, (?_ : Go _ _ 14 _ _ _ _)⟩
    have h := h.2
    refine Go.if_eq 21 dX3_isWall_14 rfl ⟨fun c4 => ?_, fun c4 => (?_ : Go _ _ 17 _ _ _ _)⟩
    · have h := h.1 c4
      refine Go.iconst dX3_isWall_21 k_ic_0 (?_ : Go _ _ 22 _ _ _ _)
      exact Go.zret rfl rfl dX3_isWall_22 ⟨_, rfl, h⟩
    · have h := h.2 c4
      refine Go.iconst dX3_isWall_17 k_ic_1 (?_ : Go _ _ 18 _ _ _ _)
      refine Go.goto 22 dX3_isWall_18 rfl ?_
      exact Go.zret rfl rfl dX3_isWall_22 ⟨_, rfl, h⟩
theorem cgX3_isWall {d : Nat} {σ : St} {x1 : Int32} {K : Int32 → St → Prop} {a : Nat} (h_a : isSc a) (h : CallI d mX3_has [.ref a, .int x1] σ (fun r2 s1 => (r2 = 0 → K 0 s1) ∧ (¬ r2 = 0 → vp_in x1 6 ∧ ((sA s1 (a + 4) (ix x1)) = 0 → K 0 s1) ∧ (¬ (sA s1 (a + 4) (ix x1)) = 0 → K 1 s1)))) : CallI (d + 1) mX3_isWall [.ref a, .int x1] σ K := Call_of_Go (by decide +kernel) (ls := [.ref a, .int x1]) rfl (Nat.le_of_ble_eq_true rfl) (sgX3_isWall_0 h_a h)
set_option maxHeartbeats 4000000 in
set_option maxRecDepth 100000 in
theorem sgX3_spacingOf_0 {d : Nat} {σ : St} {x1 : Int32} {K : Int32 → St → Prop} {a : Nat} (h_a : isSc a) (h : CallI d mX3_hasTurn [.ref a, .int x1] σ (fun r2 s1 => (r2 = 0 → K 0 s1) ∧ (¬ r2 = 0 → vp_in x1 4 ∧ K (sA s1 (a + 5) (ix x1)) s1))) : Go mX3_spacingOf (d + 1) 0 [.ref a, .int x1] [] σ (QI K) := by
  refine Go.aload_n 0 dX3_spacingOf_0 rfl rfl (?_ : Go _ _ 1 _ _ _ _)
  refine Go.iload_n 1 dX3_spacingOf_1 rfl rfl (?_ : Go _ _ 2 _ _ _ _)
  refine Go.callV (as := [.int x1]) (st := []) mk_X3_hasTurn wl_X3_51 (sc_0 h_a) rfl rfl (Nat.le_of_ble_eq_true rfl) dX3_spacingOf_2 h ?_
  rintro _ s1 ⟨r2, rfl, h⟩
  show Go _ _ 5 _ [.int r2] _ _
  refine Go.if_eq 17 dX3_spacingOf_5 rfl ⟨fun c3 => ?_, fun c3 => (?_ : Go _ _ 8 _ _ _ _)⟩
  · have h := h.1 c3
    refine Go.iconst dX3_spacingOf_17 k_ic_0 (?_ : Go _ _ 18 _ _ _ _)
    exact Go.iret rfl dX3_spacingOf_18 ⟨_, rfl, h⟩
  · have h := h.2 c3
    refine Go.aload_n 0 dX3_spacingOf_8 rfl rfl (?_ : Go _ _ 9 _ _ _ _)
    refine Go.getR fk_X3_25 (sc_0 h_a) (scr_4 h_a) dX3_spacingOf_9 (?_ : Go _ _ 12 _ _ _ _)
    refine Go.iload_n 1 dX3_spacingOf_12 rfl rfl (?_ : Go _ _ 13 _ _ _ _)
    refine Go.iald (sc_5 h_a) dX3_spacingOf_13 ⟨h.1, (?_ : Go _ _ 14 _ _ _ _)⟩
    have h := h.2
    refine Go.goto 18 dX3_spacingOf_14 rfl ?_
    exact Go.iret rfl dX3_spacingOf_18 ⟨_, rfl, h⟩
theorem cgX3_spacingOf {d : Nat} {σ : St} {x1 : Int32} {K : Int32 → St → Prop} {a : Nat} (h_a : isSc a) (h : CallI d mX3_hasTurn [.ref a, .int x1] σ (fun r2 s1 => (r2 = 0 → K 0 s1) ∧ (¬ r2 = 0 → vp_in x1 4 ∧ K (sA s1 (a + 5) (ix x1)) s1))) : CallI (d + 1) mX3_spacingOf [.ref a, .int x1] σ K := Call_of_Go (by decide +kernel) (ls := [.ref a, .int x1]) rfl (Nat.le_of_ble_eq_true rfl) (sgX3_spacingOf_0 h_a h)
set_option maxHeartbeats 4000000 in
set_option maxRecDepth 100000 in
theorem sgX3_wallCount_0 {d : Nat} {σ : St} {K : Int32 → St → Prop} {a : Nat} (h_a : isSc a) (h : Go mX3_wallCount (d + 1) 4 [.ref a, .int 0, .int 0] [] σ (QI K)) : Go mX3_wallCount (d + 1) 0 [.ref a, .null, .null] [] σ (QI K) := by
  refine Go.iconst dX3_wallCount_0 k_ic_0 (?_ : Go _ _ 1 _ _ _ _)
  refine Go.istore_n 1 dX3_wallCount_1 rfl (by decide) rfl rfl (?_ : Go _ _ 2 [.ref a, .int 0, .null] _ _ _)
  refine Go.iconst dX3_wallCount_2 k_ic_0 (?_ : Go _ _ 3 _ _ _ _)
  refine Go.istore_n 2 dX3_wallCount_3 rfl (by decide) rfl rfl (?_ : Go _ _ 4 [.ref a, .int 0, .int 0] _ _ _)
  exact h
theorem cgX3_wallCount {d : Nat} {σ : St} {K : Int32 → St → Prop} {a : Nat} (h_a : isSc a) (h : Go mX3_wallCount (d + 1) 4 [.ref a, .int 0, .int 0] [] σ (QI K)) : CallI (d + 1) mX3_wallCount [.ref a] σ K := Call_of_Go (by decide +kernel) (ls := [.ref a, .null, .null]) rfl (Nat.le_of_ble_eq_true rfl) (sgX3_wallCount_0 h_a h)
set_option maxHeartbeats 4000000 in
set_option maxRecDepth 100000 in
theorem sgX3_wallCount_4 {d : Nat} {σ : St} {v1 : Int32} {v2 : Int32} {K : Int32 → St → Prop} {a : Nat} (h_a : isSc a) (h : ((sF σ a 5) ≤ v2 → K v1 σ) ∧ (¬ (sF σ a 5) ≤ v2 → CallI d mX3_isWall [.ref a, .int v2] σ (fun r3 s2 => (r3 = 0 → Go mX3_wallCount (d + 1) 4 [.ref a, .int (v1 + 0), .int (v2 + 1)] [] s2 (QI K)) ∧ (¬ r3 = 0 → Go mX3_wallCount (d + 1) 4 [.ref a, .int (v1 + 1), .int (v2 + 1)] [] s2 (QI K))))) : Go mX3_wallCount (d + 1) 4 [.ref a, .int v1, .int v2] [] σ (QI K) := by
  refine Go.iload_n 2 dX3_wallCount_4 rfl rfl (?_ : Go _ _ 5 _ _ _ _)
  refine Go.aload_n 0 dX3_wallCount_5 rfl rfl (?_ : Go _ _ 6 _ _ _ _)
  refine Go.getI fk_X3_28 (sc_0 h_a) (scr_5 h_a) dX3_wallCount_6 (?_ : Go _ _ 9 _ _ _ _)
  refine Go.icmp_ge 34 dX3_wallCount_9 rfl ⟨fun c1 => ?_, fun c1 => (?_ : Go _ _ 12 _ _ _ _)⟩
  · have h := h.1 c1
    refine Go.iload_n 1 dX3_wallCount_34 rfl rfl (?_ : Go _ _ 35 _ _ _ _)
    exact Go.iret rfl dX3_wallCount_35 ⟨_, rfl, h⟩
  · have h := h.2 c1
    refine Go.iload_n 1 dX3_wallCount_12 rfl rfl (?_ : Go _ _ 13 _ _ _ _)
    refine Go.aload_n 0 dX3_wallCount_13 rfl rfl (?_ : Go _ _ 14 _ _ _ _)
    refine Go.iload_n 2 dX3_wallCount_14 rfl rfl (?_ : Go _ _ 15 _ _ _ _)
    refine Go.callV (as := [.int v2]) (st := [.int v1]) mk_X3_isWall wl_X3_54 (sc_0 h_a) rfl rfl (Nat.le_of_ble_eq_true rfl) dX3_wallCount_15 h ?_
    rintro _ s2 ⟨r3, rfl, h⟩
    show Go _ _ 18 _ [.int r3, .int v1] _ _
    refine Go.if_eq 25 dX3_wallCount_18 rfl ⟨fun c4 => ?_, fun c4 => (?_ : Go _ _ 21 _ _ _ _)⟩
    · have h := h.1 c4
      refine Go.iconst dX3_wallCount_25 k_ic_0 (?_ : Go _ _ 26 _ _ _ _)
      refine Go.iadd dX3_wallCount_26 (?_ : Go _ _ 27 _ _ _ _)
      refine Go.istore_n 1 dX3_wallCount_27 rfl (by decide) rfl rfl (?_ : Go _ _ 28 [.ref a, .int (v1 + 0), .int v2] _ _ _)
      refine Go.iinc dX3_wallCount_28 rfl (congrArg (fun z => v2 + z) k_ic_1) (by decide) rfl rfl (?_ : Go _ _ 31 [.ref a, .int (v1 + 0), .int (v2 + 1)] _ _ _)
      refine Go.goto 4 dX3_wallCount_31 rfl ?_
      exact h
    · have h := h.2 c4
      refine Go.iconst dX3_wallCount_21 k_ic_1 (?_ : Go _ _ 22 _ _ _ _)
      refine Go.goto 26 dX3_wallCount_22 rfl ?_
      refine Go.iadd dX3_wallCount_26 (?_ : Go _ _ 27 _ _ _ _)
      refine Go.istore_n 1 dX3_wallCount_27 rfl (by decide) rfl rfl (?_ : Go _ _ 28 [.ref a, .int (v1 + 1), .int v2] _ _ _)
      refine Go.iinc dX3_wallCount_28 rfl (congrArg (fun z => v2 + z) k_ic_1) (by decide) rfl rfl (?_ : Go _ _ 31 [.ref a, .int (v1 + 1), .int (v2 + 1)] _ _ _)
      refine Go.goto 4 dX3_wallCount_31 rfl ?_
      exact h
set_option maxHeartbeats 4000000 in
set_option maxRecDepth 100000 in
theorem sgX3_holds_0 {d : Nat} {σ : St} {x1 : Int32} {x2 : Int32} {K : Int32 → St → Prop} {a : Nat} (h_a : isSc a) (h : Go mX3_holds (d + 1) 2 [.ref a, .int x1, .int x2, .int 0] [] σ (QI K)) : Go mX3_holds (d + 1) 0 [.ref a, .int x1, .int x2, .null] [] σ (QI K) := by
  refine Go.iconst dX3_holds_0 k_ic_0 (?_ : Go _ _ 1 _ _ _ _)
  refine Go.istore_n 3 dX3_holds_1 rfl (by decide) rfl rfl (?_ : Go _ _ 2 [.ref a, .int x1, .int x2, .int 0] _ _ _)
  exact h
theorem cgX3_holds {d : Nat} {σ : St} {x1 : Int32} {x2 : Int32} {K : Int32 → St → Prop} {a : Nat} (h_a : isSc a) (h : Go mX3_holds (d + 1) 2 [.ref a, .int x1, .int x2, .int 0] [] σ (QI K)) : CallI (d + 1) mX3_holds [.ref a, .int x1, .int x2] σ K := Call_of_Go (by decide +kernel) (ls := [.ref a, .int x1, .int x2, .null]) rfl (Nat.le_of_ble_eq_true rfl) (sgX3_holds_0 h_a h)
set_option maxHeartbeats 4000000 in
set_option maxRecDepth 100000 in
theorem sgX3_holds_2 {d : Nat} {σ : St} {v1 : Int32} {v2 : Int32} {v3 : Int32} {K : Int32 → St → Prop} {a : Nat} (h_a : isSc a) (h : ((sF σ a 5) ≤ v3 → K 0 σ) ∧ (¬ (sF σ a 5) ≤ v3 → CallI d mX3_distanceOf [.ref a, .int v3] σ (fun r3 s2 => (¬ r3 = v1 → Go mX3_holds (d + 1) 2 [.ref a, .int v1, .int v2, .int (v3 + 1)] [] s2 (QI K)) ∧ (r3 = v1 → CallI d mX3_movementOf [.ref a, .int v3] s2 (fun r6 s5 => (¬ r6 = v2 → Go mX3_holds (d + 1) 2 [.ref a, .int v1, .int v2, .int (v3 + 1)] [] s5 (QI K)) ∧ (r6 = v2 → K 1 s5)))))) : Go mX3_holds (d + 1) 2 [.ref a, .int v1, .int v2, .int v3] [] σ (QI K) := by
  refine Go.iload_n 3 dX3_holds_2 rfl rfl (?_ : Go _ _ 3 _ _ _ _)
  refine Go.aload_n 0 dX3_holds_3 rfl rfl (?_ : Go _ _ 4 _ _ _ _)
  refine Go.getI fk_X3_28 (sc_0 h_a) (scr_5 h_a) dX3_holds_4 (?_ : Go _ _ 7 _ _ _ _)
  refine Go.icmp_ge 36 dX3_holds_7 rfl ⟨fun c1 => ?_, fun c1 => (?_ : Go _ _ 10 _ _ _ _)⟩
  · have h := h.1 c1
    refine Go.iconst dX3_holds_36 k_ic_0 (?_ : Go _ _ 37 _ _ _ _)
    exact Go.zret rfl rfl dX3_holds_37 ⟨_, rfl, h⟩
  · have h := h.2 c1
    refine Go.aload_n 0 dX3_holds_10 rfl rfl (?_ : Go _ _ 11 _ _ _ _)
    refine Go.iload_n 3 dX3_holds_11 rfl rfl (?_ : Go _ _ 12 _ _ _ _)
    refine Go.callV (as := [.int v3]) (st := []) mk_X3_distanceOf wl_X3_57 (sc_0 h_a) rfl rfl (Nat.le_of_ble_eq_true rfl) dX3_holds_12 h ?_
    rintro _ s2 ⟨r3, rfl, h⟩
    show Go _ _ 15 _ [.int r3] _ _
    refine Go.iload_n 1 dX3_holds_15 rfl rfl (?_ : Go _ _ 16 _ _ _ _)
    refine Go.icmp_ne 30 dX3_holds_16 rfl ⟨fun c4 => ?_, fun c4 => (?_ : Go _ _ 19 _ _ _ _)⟩
    · have h := h.1 c4
      refine Go.iinc dX3_holds_30 rfl (congrArg (fun z => v3 + z) k_ic_1) (by decide) rfl rfl (?_ : Go _ _ 33 [.ref a, .int v1, .int v2, .int (v3 + 1)] _ _ _)
      refine Go.goto 2 dX3_holds_33 rfl ?_
      exact h
    · have h := h.2 c4
      refine Go.aload_n 0 dX3_holds_19 rfl rfl (?_ : Go _ _ 20 _ _ _ _)
      refine Go.iload_n 3 dX3_holds_20 rfl rfl (?_ : Go _ _ 21 _ _ _ _)
      refine Go.callV (as := [.int v3]) (st := []) mk_X3_movementOf wl_X3_61 (sc_0 h_a) rfl rfl (Nat.le_of_ble_eq_true rfl) dX3_holds_21 h ?_
      rintro _ s5 ⟨r6, rfl, h⟩
      show Go _ _ 24 _ [.int r6] _ _
      refine Go.iload_n 2 dX3_holds_24 rfl rfl (?_ : Go _ _ 25 _ _ _ _)
      refine Go.icmp_ne 30 dX3_holds_25 rfl ⟨fun c7 => ?_, fun c7 => (?_ : Go _ _ 28 _ _ _ _)⟩
      · have h := h.1 c7
        refine Go.iinc dX3_holds_30 rfl (congrArg (fun z => v3 + z) k_ic_1) (by decide) rfl rfl (?_ : Go _ _ 33 [.ref a, .int v1, .int v2, .int (v3 + 1)] _ _ _)
        refine Go.goto 2 dX3_holds_33 rfl ?_
        exact h
      · have h := h.2 c7
        refine Go.iconst dX3_holds_28 k_ic_1 (?_ : Go _ _ 29 _ _ _ _)
        exact Go.zret rfl rfl dX3_holds_29 ⟨_, rfl, h⟩
set_option maxHeartbeats 4000000 in
set_option maxRecDepth 100000 in
theorem sgX3_join_0 {d : Nat} {σ : St} {x1 : Int32} {x2 : Int32} {x3 : Int32} {x4 : Int32} {K : Int32 → St → Prop} {a : Nat} (h_a : isSc a) (h : ((sF σ a 5) < 6 → ∀ s2, s2 = setF σ a 5 ((sF σ a 5) + 1) → CallU d mX3_put [.ref a, .int ((sF s2 a 5) - 1), .int x1, .int x2, .int x3, .int x4] s2 (fun s3 => K ((sF s3 a 5) - 1) s3)) ∧ (¬ (sF σ a 5) < 6 → K (-3) σ)) : Go mX3_join (d + 1) 0 [.ref a, .int x1, .int x2, .int x3, .int x4] [] σ (QI K) := by
  refine Go.aload_n 0 dX3_join_0 rfl rfl (?_ : Go _ _ 1 _ _ _ _)
  refine Go.getI fk_X3_28 (sc_0 h_a) (scr_5 h_a) dX3_join_1 (?_ : Go _ _ 4 _ _ _ _)
  refine Go.bipush dX3_join_4 k_bi_6 (?_ : Go _ _ 6 _ _ _ _)
  refine Go.icmp_lt 12 dX3_join_6 rfl ⟨fun c1 => ?_, fun c1 => (?_ : Go _ _ 9 _ _ _ _)⟩
  · have h := h.1 c1
    refine Go.aload_n 0 dX3_join_12 rfl rfl (?_ : Go _ _ 13 _ _ _ _)
    refine Go.dup dX3_join_13 rfl (?_ : Go _ _ 14 _ _ _ _)
    refine Go.getI fk_X3_28 (sc_0 h_a) (scr_5 h_a) dX3_join_14 (?_ : Go _ _ 17 _ _ _ _)
    refine Go.iconst dX3_join_17 k_ic_1 (?_ : Go _ _ 18 _ _ _ _)
    refine Go.iadd dX3_join_18 (?_ : Go _ _ 19 _ _ _ _)
    refine Go.putI fp_X3_28 (sc_0 h_a) (scr_5 h_a) dX3_join_19 (?_ : Go _ _ 22 _ _ _ _)
    generalize es2 : setF σ a 5 ((sF σ a 5) + 1) = s2
    have h := h s2 es2.symm
    refine Go.aload_n 0 dX3_join_22 rfl rfl (?_ : Go _ _ 23 _ _ _ _)
    refine Go.aload_n 0 dX3_join_23 rfl rfl (?_ : Go _ _ 24 _ _ _ _)
    refine Go.getI fk_X3_28 (sc_0 h_a) (scr_5 h_a) dX3_join_24 (?_ : Go _ _ 27 _ _ _ _)
    refine Go.iconst dX3_join_27 k_ic_1 (?_ : Go _ _ 28 _ _ _ _)
    refine Go.isub dX3_join_28 (?_ : Go _ _ 29 _ _ _ _)
    refine Go.iload_n 1 dX3_join_29 rfl rfl (?_ : Go _ _ 30 _ _ _ _)
    refine Go.iload_n 2 dX3_join_30 rfl rfl (?_ : Go _ _ 31 _ _ _ _)
    refine Go.iload_n 3 dX3_join_31 rfl rfl (?_ : Go _ _ 32 _ _ _ _)
    refine Go.iload dX3_join_32 rfl (?_ : Go _ _ 34 _ _ _ _)
    refine Go.callV (as := [.int ((sF s2 a 5) - 1), .int x1, .int x2, .int x3, .int x4]) (st := []) mk_X3_put wl_X3_64 (sc_0 h_a) rfl rfl (Nat.le_of_ble_eq_true rfl) dX3_join_34 h ?_
    rintro _ s3 ⟨rfl, h⟩
    show Go _ _ 37 _ [] _ _
    refine Go.aload_n 0 dX3_join_37 rfl rfl (?_ : Go _ _ 38 _ _ _ _)
    refine Go.getI fk_X3_28 (sc_0 h_a) (scr_5 h_a) dX3_join_38 (?_ : Go _ _ 41 _ _ _ _)
    refine Go.iconst dX3_join_41 k_ic_1 (?_ : Go _ _ 42 _ _ _ _)
    refine Go.isub dX3_join_42 (?_ : Go _ _ 43 _ _ _ _)
    exact Go.iret rfl dX3_join_43 ⟨_, rfl, h⟩
  · have h := h.2 c1
    refine Go.bipush dX3_join_9 k_bi_m3 (?_ : Go _ _ 11 _ _ _ _)
    exact Go.iret rfl dX3_join_11 ⟨_, rfl, h⟩
theorem cgX3_join {d : Nat} {σ : St} {x1 : Int32} {x2 : Int32} {x3 : Int32} {x4 : Int32} {K : Int32 → St → Prop} {a : Nat} (h_a : isSc a) (h : ((sF σ a 5) < 6 → ∀ s2, s2 = setF σ a 5 ((sF σ a 5) + 1) → CallU d mX3_put [.ref a, .int ((sF s2 a 5) - 1), .int x1, .int x2, .int x3, .int x4] s2 (fun s3 => K ((sF s3 a 5) - 1) s3)) ∧ (¬ (sF σ a 5) < 6 → K (-3) σ)) : CallI (d + 1) mX3_join [.ref a, .int x1, .int x2, .int x3, .int x4] σ K := Call_of_Go (by decide +kernel) (ls := [.ref a, .int x1, .int x2, .int x3, .int x4]) rfl (Nat.le_of_ble_eq_true rfl) (sgX3_join_0 h_a h)
set_option maxHeartbeats 4000000 in
set_option maxRecDepth 100000 in
theorem sgX3_put_0 {d : Nat} {σ : St} {x1 : Int32} {x2 : Int32} {x3 : Int32} {x4 : Int32} {x5 : Int32} {K : St → Prop} {a : Nat} (h_a : isSc a) (h : CallI d mX3_has [.ref a, .int x1] σ (fun r2 s1 => (r2 = 0 → K s1) ∧ (¬ r2 = 0 → vp_in x1 6 ∧ ∀ s4, s4 = setA s1 (a + 1) (ix x1) x2 → vp_in x1 6 ∧ ∀ s5, s5 = setA s4 (a + 2) (ix x1) x3 → vp_in x1 6 ∧ ∀ s6, s6 = setA s5 (a + 3) (ix x1) x4 → vp_in x1 6 ∧ ∀ s7, s7 = setA s6 (a + 4) (ix x1) (nbo x5) → K s7))) : Go mX3_put (d + 1) 0 [.ref a, .int x1, .int x2, .int x3, .int x4, .int x5] [] σ (QU K) := by
  refine Go.aload_n 0 dX3_put_0 rfl rfl (?_ : Go _ _ 1 _ _ _ _)
  refine Go.iload_n 1 dX3_put_1 rfl rfl (?_ : Go _ _ 2 _ _ _ _)
  refine Go.callV (as := [.int x1]) (st := []) mk_X3_has wl_X3_47 (sc_0 h_a) rfl rfl (Nat.le_of_ble_eq_true rfl) dX3_put_2 h ?_
  rintro _ s1 ⟨r2, rfl, h⟩
  show Go _ _ 5 _ [.int r2] _ _
  refine Go.if_eq 38 dX3_put_5 rfl ⟨fun c3 => ?_, fun c3 => (?_ : Go _ _ 8 _ _ _ _)⟩
  · have h := h.1 c3
    exact Go.vret rfl dX3_put_38 ⟨rfl, h⟩
  · have h := h.2 c3
    refine Go.aload_n 0 dX3_put_8 rfl rfl (?_ : Go _ _ 9 _ _ _ _)
    refine Go.getR fk_X3_9 (sc_0 h_a) (scr_0 h_a) dX3_put_9 (?_ : Go _ _ 12 _ _ _ _)
    refine Go.iload_n 1 dX3_put_12 rfl rfl (?_ : Go _ _ 13 _ _ _ _)
    refine Go.iload_n 2 dX3_put_13 rfl rfl (?_ : Go _ _ 14 _ _ _ _)
    refine Go.iast (sc_1 h_a) dX3_put_14 ⟨h.1, (?_ : Go _ _ 15 _ _ _ _)⟩
    generalize es4 : setA s1 (a + 1) (ix x1) x2 = s4
    have h := h.2 s4 es4.symm
    refine Go.aload_n 0 dX3_put_15 rfl rfl (?_ : Go _ _ 16 _ _ _ _)
    refine Go.getR fk_X3_15 (sc_0 h_a) (scr_1 h_a) dX3_put_16 (?_ : Go _ _ 19 _ _ _ _)
    refine Go.iload_n 1 dX3_put_19 rfl rfl (?_ : Go _ _ 20 _ _ _ _)
    refine Go.iload_n 3 dX3_put_20 rfl rfl (?_ : Go _ _ 21 _ _ _ _)
    refine Go.iast (sc_2 h_a) dX3_put_21 ⟨h.1, (?_ : Go _ _ 22 _ _ _ _)⟩
    generalize es5 : setA s4 (a + 2) (ix x1) x3 = s5
    have h := h.2 s5 es5.symm
    refine Go.aload_n 0 dX3_put_22 rfl rfl (?_ : Go _ _ 23 _ _ _ _)
    refine Go.getR fk_X3_18 (sc_0 h_a) (scr_2 h_a) dX3_put_23 (?_ : Go _ _ 26 _ _ _ _)
    refine Go.iload_n 1 dX3_put_26 rfl rfl (?_ : Go _ _ 27 _ _ _ _)
    refine Go.iload dX3_put_27 rfl (?_ : Go _ _ 29 _ _ _ _)
    refine Go.iast (sc_3 h_a) dX3_put_29 ⟨h.1, (?_ : Go _ _ 30 _ _ _ _)⟩
    generalize es6 : setA s5 (a + 3) (ix x1) x4 = s6
    have h := h.2 s6 es6.symm
    refine Go.aload_n 0 dX3_put_30 rfl rfl (?_ : Go _ _ 31 _ _ _ _)
    refine Go.getR fk_X3_21 (sc_0 h_a) (scr_3 h_a) dX3_put_31 (?_ : Go _ _ 34 _ _ _ _)
    refine Go.iload_n 1 dX3_put_34 rfl rfl (?_ : Go _ _ 35 _ _ _ _)
    refine Go.iload dX3_put_35 rfl (?_ : Go _ _ 37 _ _ _ _)
    refine Go.zast (sc_4 h_a) dX3_put_37 ⟨h.1, (?_ : Go _ _ 38 _ _ _ _)⟩
    generalize es7 : setA s6 (a + 4) (ix x1) (nbo x5) = s7
    have h := h.2 s7 es7.symm
    exact Go.vret rfl dX3_put_38 ⟨rfl, h⟩
theorem cgX3_put {d : Nat} {σ : St} {x1 : Int32} {x2 : Int32} {x3 : Int32} {x4 : Int32} {x5 : Int32} {K : St → Prop} {a : Nat} (h_a : isSc a) (h : CallI d mX3_has [.ref a, .int x1] σ (fun r2 s1 => (r2 = 0 → K s1) ∧ (¬ r2 = 0 → vp_in x1 6 ∧ ∀ s4, s4 = setA s1 (a + 1) (ix x1) x2 → vp_in x1 6 ∧ ∀ s5, s5 = setA s4 (a + 2) (ix x1) x3 → vp_in x1 6 ∧ ∀ s6, s6 = setA s5 (a + 3) (ix x1) x4 → vp_in x1 6 ∧ ∀ s7, s7 = setA s6 (a + 4) (ix x1) (nbo x5) → K s7))) : CallU (d + 1) mX3_put [.ref a, .int x1, .int x2, .int x3, .int x4, .int x5] σ K := Call_of_Go (by decide +kernel) (ls := [.ref a, .int x1, .int x2, .int x3, .int x4, .int x5]) rfl (Nat.le_of_ble_eq_true rfl) (sgX3_put_0 h_a h)
set_option maxHeartbeats 4000000 in
set_option maxRecDepth 100000 in
theorem sgX3_putAs_0 {d : Nat} {σ : St} {x1 : Int32} {x2 : Int32} {x3 : Int32} {K : St → Prop} {a : Nat} (h_a : isSc a) (h : CallI d mX3_strengthOf [.ref a, .int x1] σ (fun r2 s1 => CallI d mX3_movementOf [.ref a, .int x1] s1 (fun r4 s3 => CallI d mX3_isWall [.ref a, .int x1] s3 (fun r6 s5 => CallU d mX3_put [.ref a, .int x2, .int x3, .int r2, .int r4, .int r6] s5 (fun s7 => K s7))))) : Go mX3_putAs (d + 1) 0 [.ref a, .int x1, .int x2, .int x3] [] σ (QU K) := by
  refine Go.aload_n 0 dX3_putAs_0 rfl rfl (?_ : Go _ _ 1 _ _ _ _)
  refine Go.iload_n 2 dX3_putAs_1 rfl rfl (?_ : Go _ _ 2 _ _ _ _)
  refine Go.iload_n 3 dX3_putAs_2 rfl rfl (?_ : Go _ _ 3 _ _ _ _)
  refine Go.aload_n 0 dX3_putAs_3 rfl rfl (?_ : Go _ _ 4 _ _ _ _)
  refine Go.iload_n 1 dX3_putAs_4 rfl rfl (?_ : Go _ _ 5 _ _ _ _)
  refine Go.callV (as := [.int x1]) (st := [.int x3, .int x2, .ref a]) mk_X3_strengthOf wl_X3_68 (sc_0 h_a) rfl rfl (Nat.le_of_ble_eq_true rfl) dX3_putAs_5 h ?_
  rintro _ s1 ⟨r2, rfl, h⟩
  show Go _ _ 8 _ [.int r2, .int x3, .int x2, .ref a] _ _
  refine Go.aload_n 0 dX3_putAs_8 rfl rfl (?_ : Go _ _ 9 _ _ _ _)
  refine Go.iload_n 1 dX3_putAs_9 rfl rfl (?_ : Go _ _ 10 _ _ _ _)
  refine Go.callV (as := [.int x1]) (st := [.int r2, .int x3, .int x2, .ref a]) mk_X3_movementOf wl_X3_61 (sc_0 h_a) rfl rfl (Nat.le_of_ble_eq_true rfl) dX3_putAs_10 h ?_
  rintro _ s3 ⟨r4, rfl, h⟩
  show Go _ _ 13 _ [.int r4, .int r2, .int x3, .int x2, .ref a] _ _
  refine Go.aload_n 0 dX3_putAs_13 rfl rfl (?_ : Go _ _ 14 _ _ _ _)
  refine Go.iload_n 1 dX3_putAs_14 rfl rfl (?_ : Go _ _ 15 _ _ _ _)
  refine Go.callV (as := [.int x1]) (st := [.int r4, .int r2, .int x3, .int x2, .ref a]) mk_X3_isWall wl_X3_54 (sc_0 h_a) rfl rfl (Nat.le_of_ble_eq_true rfl) dX3_putAs_15 h ?_
  rintro _ s5 ⟨r6, rfl, h⟩
  show Go _ _ 18 _ [.int r6, .int r4, .int r2, .int x3, .int x2, .ref a] _ _
  refine Go.callV (as := [.int x2, .int x3, .int r2, .int r4, .int r6]) (st := []) mk_X3_put wl_X3_64 (sc_0 h_a) rfl rfl (Nat.le_of_ble_eq_true rfl) dX3_putAs_18 h ?_
  rintro _ s7 ⟨rfl, h⟩
  show Go _ _ 21 _ [] _ _
  exact Go.vret rfl dX3_putAs_21 ⟨rfl, h⟩
theorem cgX3_putAs {d : Nat} {σ : St} {x1 : Int32} {x2 : Int32} {x3 : Int32} {K : St → Prop} {a : Nat} (h_a : isSc a) (h : CallI d mX3_strengthOf [.ref a, .int x1] σ (fun r2 s1 => CallI d mX3_movementOf [.ref a, .int x1] s1 (fun r4 s3 => CallI d mX3_isWall [.ref a, .int x1] s3 (fun r6 s5 => CallU d mX3_put [.ref a, .int x2, .int x3, .int r2, .int r4, .int r6] s5 (fun s7 => K s7))))) : CallU (d + 1) mX3_putAs [.ref a, .int x1, .int x2, .int x3] σ K := Call_of_Go (by decide +kernel) (ls := [.ref a, .int x1, .int x2, .int x3]) rfl (Nat.le_of_ble_eq_true rfl) (sgX3_putAs_0 h_a h)
set_option maxHeartbeats 4000000 in
set_option maxRecDepth 100000 in
theorem sgX3_leave_0 {d : Nat} {σ : St} {x1 : Int32} {K : St → Prop} {a : Nat} (h_a : isSc a) (h : CallI d mX3_has [.ref a, .int x1] σ (fun r2 s1 => (¬ r2 = 0 → Go mX3_leave (d + 1) 13 [.ref a, .int x1, .int (x1 + 1)] [] s1 (QU K)) ∧ (r2 = 0 → K s1))) : Go mX3_leave (d + 1) 0 [.ref a, .int x1, .null] [] σ (QU K) := by
  refine Go.aload_n 0 dX3_leave_0 rfl rfl (?_ : Go _ _ 1 _ _ _ _)
  refine Go.iload_n 1 dX3_leave_1 rfl rfl (?_ : Go _ _ 2 _ _ _ _)
  refine Go.callV (as := [.int x1]) (st := []) mk_X3_has wl_X3_47 (sc_0 h_a) rfl rfl (Nat.le_of_ble_eq_true rfl) dX3_leave_2 h ?_
  rintro _ s1 ⟨r2, rfl, h⟩
  show Go _ _ 5 _ [.int r2] _ _
  refine Go.if_ne 9 dX3_leave_5 rfl ⟨fun c3 => ?_, fun c3 => (?_ : Go _ _ 8 _ _ _ _)⟩
  · have h := h.1 c3
    refine Go.iload_n 1 dX3_leave_9 rfl rfl (?_ : Go _ _ 10 _ _ _ _)
    refine Go.iconst dX3_leave_10 k_ic_1 (?_ : Go _ _ 11 _ _ _ _)
    refine Go.iadd dX3_leave_11 (?_ : Go _ _ 12 _ _ _ _)
    refine Go.istore_n 2 dX3_leave_12 rfl (by decide) rfl rfl (?_ : Go _ _ 13 [.ref a, .int x1, .int (x1 + 1)] _ _ _)
    exact h
  · have h := h.2 c3
    exact Go.vret rfl dX3_leave_8 ⟨rfl, h⟩
theorem cgX3_leave {d : Nat} {σ : St} {x1 : Int32} {K : St → Prop} {a : Nat} (h_a : isSc a) (h : CallI d mX3_has [.ref a, .int x1] σ (fun r2 s1 => (¬ r2 = 0 → Go mX3_leave (d + 1) 13 [.ref a, .int x1, .int (x1 + 1)] [] s1 (QU K)) ∧ (r2 = 0 → K s1))) : CallU (d + 1) mX3_leave [.ref a, .int x1] σ K := Call_of_Go (by decide +kernel) (ls := [.ref a, .int x1, .null]) rfl (Nat.le_of_ble_eq_true rfl) (sgX3_leave_0 h_a h)
set_option maxHeartbeats 4000000 in
set_option maxRecDepth 100000 in
theorem sgX3_leave_13 {d : Nat} {σ : St} {v1 : Int32} {v2 : Int32} {K : St → Prop} {a : Nat} (h_a : isSc a) (h : ((sF σ a 5) ≤ v2 → ∀ s2, s2 = setF σ a 5 ((sF σ a 5) - 1) → K s2) ∧ (¬ (sF σ a 5) ≤ v2 → CallI d mX3_distanceOf [.ref a, .int v2] σ (fun r4 s3 => CallU d mX3_putAs [.ref a, .int v2, .int (v2 - 1), .int r4] s3 (fun s5 => Go mX3_leave (d + 1) 13 [.ref a, .int v1, .int (v2 + 1)] [] s5 (QU K))))) : Go mX3_leave (d + 1) 13 [.ref a, .int v1, .int v2] [] σ (QU K) := by
  refine Go.iload_n 2 dX3_leave_13 rfl rfl (?_ : Go _ _ 14 _ _ _ _)
  refine Go.aload_n 0 dX3_leave_14 rfl rfl (?_ : Go _ _ 15 _ _ _ _)
  refine Go.getI fk_X3_28 (sc_0 h_a) (scr_5 h_a) dX3_leave_15 (?_ : Go _ _ 18 _ _ _ _)
  refine Go.icmp_ge 40 dX3_leave_18 rfl ⟨fun c1 => ?_, fun c1 => (?_ : Go _ _ 21 _ _ _ _)⟩
  · have h := h.1 c1
    refine Go.aload_n 0 dX3_leave_40 rfl rfl (?_ : Go _ _ 41 _ _ _ _)
    refine Go.dup dX3_leave_41 rfl (?_ : Go _ _ 42 _ _ _ _)
    refine Go.getI fk_X3_28 (sc_0 h_a) (scr_5 h_a) dX3_leave_42 (?_ : Go _ _ 45 _ _ _ _)
    refine Go.iconst dX3_leave_45 k_ic_1 (?_ : Go _ _ 46 _ _ _ _)
    refine Go.isub dX3_leave_46 (?_ : Go _ _ 47 _ _ _ _)
    refine Go.putI fp_X3_28 (sc_0 h_a) (scr_5 h_a) dX3_leave_47 (?_ : Go _ _ 50 _ _ _ _)
    generalize es2 : setF σ a 5 ((sF σ a 5) - 1) = s2
    have h := h s2 es2.symm
    exact Go.vret rfl dX3_leave_50 ⟨rfl, h⟩
  · have h := h.2 c1
    refine Go.aload_n 0 dX3_leave_21 rfl rfl (?_ : Go _ _ 22 _ _ _ _)
    refine Go.iload_n 2 dX3_leave_22 rfl rfl (?_ : Go _ _ 23 _ _ _ _)
    refine Go.iload_n 2 dX3_leave_23 rfl rfl (?_ : Go _ _ 24 _ _ _ _)
    refine Go.iconst dX3_leave_24 k_ic_1 (?_ : Go _ _ 25 _ _ _ _)
    refine Go.isub dX3_leave_25 (?_ : Go _ _ 26 _ _ _ _)
    refine Go.aload_n 0 dX3_leave_26 rfl rfl (?_ : Go _ _ 27 _ _ _ _)
    refine Go.iload_n 2 dX3_leave_27 rfl rfl (?_ : Go _ _ 28 _ _ _ _)
    refine Go.callV (as := [.int v2]) (st := [.int (v2 - 1), .int v2, .ref a]) mk_X3_distanceOf wl_X3_57 (sc_0 h_a) rfl rfl (Nat.le_of_ble_eq_true rfl) dX3_leave_28 h ?_
    rintro _ s3 ⟨r4, rfl, h⟩
    show Go _ _ 31 _ [.int r4, .int (v2 - 1), .int v2, .ref a] _ _
    refine Go.callV (as := [.int v2, .int (v2 - 1), .int r4]) (st := []) mk_X3_putAs wl_X3_71 (sc_0 h_a) rfl rfl (Nat.le_of_ble_eq_true rfl) dX3_leave_31 h ?_
    rintro _ s5 ⟨rfl, h⟩
    show Go _ _ 34 _ [] _ _
    refine Go.iinc dX3_leave_34 rfl (congrArg (fun z => v2 + z) k_ic_1) (by decide) rfl rfl (?_ : Go _ _ 37 [.ref a, .int v1, .int (v2 + 1)] _ _ _)
    refine Go.goto 13 dX3_leave_37 rfl ?_
    exact h
set_option maxHeartbeats 4000000 in
set_option maxRecDepth 100000 in
theorem sgX3_leaveAll_0 {d : Nat} {σ : St} {K : St → Prop} {a : Nat} (h_a : isSc a) (h : ∀ s1, s1 = setF σ a 5 0 → K s1) : Go mX3_leaveAll (d + 1) 0 [.ref a] [] σ (QU K) := by
  refine Go.aload_n 0 dX3_leaveAll_0 rfl rfl (?_ : Go _ _ 1 _ _ _ _)
  refine Go.iconst dX3_leaveAll_1 k_ic_0 (?_ : Go _ _ 2 _ _ _ _)
  refine Go.putI fp_X3_28 (sc_0 h_a) (scr_5 h_a) dX3_leaveAll_2 (?_ : Go _ _ 5 _ _ _ _)
  generalize es1 : setF σ a 5 0 = s1
  have h := h s1 es1.symm
  exact Go.vret rfl dX3_leaveAll_5 ⟨rfl, h⟩
theorem cgX3_leaveAll {d : Nat} {σ : St} {K : St → Prop} {a : Nat} (h_a : isSc a) (h : ∀ s1, s1 = setF σ a 5 0 → K s1) : CallU (d + 1) mX3_leaveAll [.ref a] σ K := Call_of_Go (by decide +kernel) (ls := [.ref a]) rfl (Nat.le_of_ble_eq_true rfl) (sgX3_leaveAll_0 h_a h)
set_option maxHeartbeats 4000000 in
set_option maxRecDepth 100000 in
theorem sgX3_moveAll_0 {d : Nat} {σ : St} {K : St → Prop} {a : Nat} (h_a : isSc a) (h : Go mX3_moveAll (d + 1) 4 [.ref a, .int 0, .int 0, .null] [] σ (QU K)) : Go mX3_moveAll (d + 1) 0 [.ref a, .null, .null, .null] [] σ (QU K) := by
  refine Go.iconst dX3_moveAll_0 k_ic_0 (?_ : Go _ _ 1 _ _ _ _)
  refine Go.istore_n 1 dX3_moveAll_1 rfl (by decide) rfl rfl (?_ : Go _ _ 2 [.ref a, .int 0, .null, .null] _ _ _)
  refine Go.iconst dX3_moveAll_2 k_ic_0 (?_ : Go _ _ 3 _ _ _ _)
  refine Go.istore_n 2 dX3_moveAll_3 rfl (by decide) rfl rfl (?_ : Go _ _ 4 [.ref a, .int 0, .int 0, .null] _ _ _)
  exact h
theorem cgX3_moveAll {d : Nat} {σ : St} {K : St → Prop} {a : Nat} (h_a : isSc a) (h : Go mX3_moveAll (d + 1) 4 [.ref a, .int 0, .int 0, .null] [] σ (QU K)) : CallU (d + 1) mX3_moveAll [.ref a] σ K := Call_of_Go (by decide +kernel) (ls := [.ref a, .null, .null, .null]) rfl (Nat.le_of_ble_eq_true rfl) (sgX3_moveAll_0 h_a h)
set_option maxHeartbeats 4000000 in
set_option maxRecDepth 100000 in
theorem sgX3_moveAll_4 {d : Nat} {σ : St} {v1 : Int32} {v2 : Int32} {K : St → Prop} {a : Nat} (h_a : isSc a) (h : ((sF σ a 5) ≤ v2 → ∀ s2, s2 = setF σ a 5 v1 → K s2) ∧ (¬ (sF σ a 5) ≤ v2 → CallI d mX3_distanceOf [.ref a, .int v2] σ (fun r4 s3 => CallI d mX3_movementOf [.ref a, .int v2] s3 (fun r6 s5 => CallI d mX5_isWithin [.int (r4 + (r6 * (sF s5 a 6))), .int 1, .int 300] s5 (fun r8 s7 => (r8 = 0 → Go mX3_moveAll (d + 1) 4 [.ref a, .int v1, .int (v2 + 1), .null] [] s7 (QU K)) ∧ (¬ r8 = 0 → CallU d mX3_putAs [.ref a, .int v2, .int v1, .int (r4 + (r6 * (sF s5 a 6)))] s7 (fun s10 => Go mX3_moveAll (d + 1) 4 [.ref a, .int (v1 + 1), .int (v2 + 1), .null] [] s10 (QU K)))))))) : Go mX3_moveAll (d + 1) 4 [.ref a, .int v1, .int v2, .null] [] σ (QU K) := by
  refine Go.iload_n 2 dX3_moveAll_4 rfl rfl (?_ : Go _ _ 5 _ _ _ _)
  refine Go.aload_n 0 dX3_moveAll_5 rfl rfl (?_ : Go _ _ 6 _ _ _ _)
  refine Go.getI fk_X3_28 (sc_0 h_a) (scr_5 h_a) dX3_moveAll_6 (?_ : Go _ _ 9 _ _ _ _)
  refine Go.icmp_ge 56 dX3_moveAll_9 rfl ⟨fun c1 => ?_, fun c1 => (?_ : Go _ _ 12 _ _ _ _)⟩
  · have h := h.1 c1
    refine Go.aload_n 0 dX3_moveAll_56 rfl rfl (?_ : Go _ _ 57 _ _ _ _)
    refine Go.iload_n 1 dX3_moveAll_57 rfl rfl (?_ : Go _ _ 58 _ _ _ _)
    refine Go.putI fp_X3_28 (sc_0 h_a) (scr_5 h_a) dX3_moveAll_58 (?_ : Go _ _ 61 _ _ _ _)
    generalize es2 : setF σ a 5 v1 = s2
    have h := h s2 es2.symm
    exact Go.vret rfl dX3_moveAll_61 ⟨rfl, h⟩
  · have h := h.2 c1
    refine Go.aload_n 0 dX3_moveAll_12 rfl rfl (?_ : Go _ _ 13 _ _ _ _)
    refine Go.iload_n 2 dX3_moveAll_13 rfl rfl (?_ : Go _ _ 14 _ _ _ _)
    refine Go.callV (as := [.int v2]) (st := []) mk_X3_distanceOf wl_X3_57 (sc_0 h_a) rfl rfl (Nat.le_of_ble_eq_true rfl) dX3_moveAll_14 h ?_
    rintro _ s3 ⟨r4, rfl, h⟩
    show Go _ _ 17 _ [.int r4] _ _
    refine Go.aload_n 0 dX3_moveAll_17 rfl rfl (?_ : Go _ _ 18 _ _ _ _)
    refine Go.iload_n 2 dX3_moveAll_18 rfl rfl (?_ : Go _ _ 19 _ _ _ _)
    refine Go.callV (as := [.int v2]) (st := [.int r4]) mk_X3_movementOf wl_X3_61 (sc_0 h_a) rfl rfl (Nat.le_of_ble_eq_true rfl) dX3_moveAll_19 h ?_
    rintro _ s5 ⟨r6, rfl, h⟩
    show Go _ _ 22 _ [.int r6, .int r4] _ _
    refine Go.aload_n 0 dX3_moveAll_22 rfl rfl (?_ : Go _ _ 23 _ _ _ _)
    refine Go.getI fk_X3_32 (sc_0 h_a) (scr_6 h_a) dX3_moveAll_23 (?_ : Go _ _ 26 _ _ _ _)
    refine Go.imul dX3_moveAll_26 (?_ : Go _ _ 27 _ _ _ _)
    refine Go.iadd dX3_moveAll_27 (?_ : Go _ _ 28 _ _ _ _)
    refine Go.istore_n 3 dX3_moveAll_28 rfl (by decide) rfl rfl (?_ : Go _ _ 29 [.ref a, .int v1, .int v2, .int (r4 + (r6 * (sF s5 a 6)))] _ _ _)
    refine Go.iload_n 3 dX3_moveAll_29 rfl rfl (?_ : Go _ _ 30 _ _ _ _)
    refine Go.iconst dX3_moveAll_30 k_ic_1 (?_ : Go _ _ 31 _ _ _ _)
    refine Go.sipush dX3_moveAll_31 k_si_300 (?_ : Go _ _ 34 _ _ _ _)
    refine Go.callSN (as := [.int (r4 + (r6 * (sF s5 a 6))), .int 1, .int 300]) (st := []) mk_X5_isWithin wn_X3_75 rfl rfl (Nat.le_of_ble_eq_true rfl) dX3_moveAll_34 h ?_
    rintro _ s7 ⟨r8, rfl, h⟩
    show Go _ _ 37 _ [.int r8] _ _
    refine Go.if_eq 50 dX3_moveAll_37 rfl ⟨fun c9 => ?_, fun c9 => (?_ : Go _ _ 40 _ _ _ _)⟩
    · have h := h.1 c9
      refine Go.iinc dX3_moveAll_50 rfl (congrArg (fun z => v2 + z) k_ic_1) (by decide) rfl rfl (?_ : Go _ _ 53 [.ref a, .int v1, .int (v2 + 1), .int (r4 + (r6 * (sF s5 a 6)))] _ _ _)
      refine Go.goto 4 dX3_moveAll_53 rfl ?_
      refine Go.drop (ls' := [.ref a, .int v1, .int (v2 + 1), .null]) 3 rfl ?_
      exact h
    · have h := h.2 c9
      refine Go.aload_n 0 dX3_moveAll_40 rfl rfl (?_ : Go _ _ 41 _ _ _ _)
      refine Go.iload_n 2 dX3_moveAll_41 rfl rfl (?_ : Go _ _ 42 _ _ _ _)
      refine Go.iload_n 1 dX3_moveAll_42 rfl rfl (?_ : Go _ _ 43 _ _ _ _)
      refine Go.iload_n 3 dX3_moveAll_43 rfl rfl (?_ : Go _ _ 44 _ _ _ _)
      refine Go.callV (as := [.int v2, .int v1, .int (r4 + (r6 * (sF s5 a 6)))]) (st := []) mk_X3_putAs wl_X3_71 (sc_0 h_a) rfl rfl (Nat.le_of_ble_eq_true rfl) dX3_moveAll_44 h ?_
      rintro _ s10 ⟨rfl, h⟩
      show Go _ _ 47 _ [] _ _
      refine Go.iinc dX3_moveAll_47 rfl (congrArg (fun z => v1 + z) k_ic_1) (by decide) rfl rfl (?_ : Go _ _ 50 [.ref a, .int (v1 + 1), .int v2, .int (r4 + (r6 * (sF s5 a 6)))] _ _ _)
      refine Go.iinc dX3_moveAll_50 rfl (congrArg (fun z => v2 + z) k_ic_1) (by decide) rfl rfl (?_ : Go _ _ 53 [.ref a, .int (v1 + 1), .int (v2 + 1), .int (r4 + (r6 * (sF s5 a 6)))] _ _ _)
      refine Go.goto 4 dX3_moveAll_53 rfl ?_
      refine Go.drop (ls' := [.ref a, .int (v1 + 1), .int (v2 + 1), .null]) 3 rfl ?_
      exact h
set_option maxHeartbeats 4000000 in
set_option maxRecDepth 100000 in
theorem sgX3_forgetTurns_0 {d : Nat} {σ : St} {K : St → Prop} {a : Nat} (h_a : isSc a) (h : ∀ s1, s1 = setF σ a 6 0 → K s1) : Go mX3_forgetTurns (d + 1) 0 [.ref a] [] σ (QU K) := by
  refine Go.aload_n 0 dX3_forgetTurns_0 rfl rfl (?_ : Go _ _ 1 _ _ _ _)
  refine Go.iconst dX3_forgetTurns_1 k_ic_0 (?_ : Go _ _ 2 _ _ _ _)
  refine Go.putI fp_X3_32 (sc_0 h_a) (scr_6 h_a) dX3_forgetTurns_2 (?_ : Go _ _ 5 _ _ _ _)
  generalize es1 : setF σ a 6 0 = s1
  have h := h s1 es1.symm
  exact Go.vret rfl dX3_forgetTurns_5 ⟨rfl, h⟩
theorem cgX3_forgetTurns {d : Nat} {σ : St} {K : St → Prop} {a : Nat} (h_a : isSc a) (h : ∀ s1, s1 = setF σ a 6 0 → K s1) : CallU (d + 1) mX3_forgetTurns [.ref a] σ K := Call_of_Go (by decide +kernel) (ls := [.ref a]) rfl (Nat.le_of_ble_eq_true rfl) (sgX3_forgetTurns_0 h_a h)
set_option maxHeartbeats 4000000 in
set_option maxRecDepth 100000 in
theorem sgX3_addTurn_0 {d : Nat} {σ : St} {x1 : Int32} {K : St → Prop} {a : Nat} (h_a : isSc a) (h : (x1 ≤ 0 → K σ) ∧ (¬ x1 ≤ 0 → ((sF σ a 6) < 0 → K σ) ∧ (¬ (sF σ a 6) < 0 → (4 ≤ (sF σ a 6) → K σ) ∧ (¬ 4 ≤ (sF σ a 6) → vp_in (sF σ a 6) 4 ∧ ∀ s4, s4 = setA σ (a + 5) (ix (sF σ a 6)) x1 → ∀ s5, s5 = setF s4 a 6 ((sF s4 a 6) + 1) → K s5)))) : Go mX3_addTurn (d + 1) 0 [.ref a, .int x1] [] σ (QU K) := by
  refine Go.iload_n 1 dX3_addTurn_0 rfl rfl (?_ : Go _ _ 1 _ _ _ _)
  refine Go.if_le 39 dX3_addTurn_1 rfl ⟨fun c1 => ?_, fun c1 => (?_ : Go _ _ 4 _ _ _ _)⟩
  · have h := h.1 c1
    exact Go.vret rfl dX3_addTurn_39 ⟨rfl, h⟩
  · have h := h.2 c1
    refine Go.aload_n 0 dX3_addTurn_4 rfl rfl (?_ : Go _ _ 5 _ _ _ _)
    refine Go.getI fk_X3_32 (sc_0 h_a) (scr_6 h_a) dX3_addTurn_5 (?_ : Go _ _ 8 _ _ _ _)
    refine Go.if_lt 39 dX3_addTurn_8 rfl ⟨fun c2 => ?_, fun c2 => (?_ : Go _ _ 11 _ _ _ _)⟩
    · have h := h.1 c2
      exact Go.vret rfl dX3_addTurn_39 ⟨rfl, h⟩
    · have h := h.2 c2
      refine Go.aload_n 0 dX3_addTurn_11 rfl rfl (?_ : Go _ _ 12 _ _ _ _)
      refine Go.getI fk_X3_32 (sc_0 h_a) (scr_6 h_a) dX3_addTurn_12 (?_ : Go _ _ 15 _ _ _ _)
      refine Go.iconst dX3_addTurn_15 k_ic_4 (?_ : Go _ _ 16 _ _ _ _)
      refine Go.icmp_ge 39 dX3_addTurn_16 rfl ⟨fun c3 => ?_, fun c3 => (?_ : Go _ _ 19 _ _ _ _)⟩
      · have h := h.1 c3
        exact Go.vret rfl dX3_addTurn_39 ⟨rfl, h⟩
      · have h := h.2 c3
        refine Go.aload_n 0 dX3_addTurn_19 rfl rfl (?_ : Go _ _ 20 _ _ _ _)
        refine Go.getR fk_X3_25 (sc_0 h_a) (scr_4 h_a) dX3_addTurn_20 (?_ : Go _ _ 23 _ _ _ _)
        refine Go.aload_n 0 dX3_addTurn_23 rfl rfl (?_ : Go _ _ 24 _ _ _ _)
        refine Go.getI fk_X3_32 (sc_0 h_a) (scr_6 h_a) dX3_addTurn_24 (?_ : Go _ _ 27 _ _ _ _)
        refine Go.iload_n 1 dX3_addTurn_27 rfl rfl (?_ : Go _ _ 28 _ _ _ _)
        refine Go.iast (sc_5 h_a) dX3_addTurn_28 ⟨h.1, (?_ : Go _ _ 29 _ _ _ _)⟩
        generalize es4 : setA σ (a + 5) (ix (sF σ a 6)) x1 = s4
        have h := h.2 s4 es4.symm
        refine Go.aload_n 0 dX3_addTurn_29 rfl rfl (?_ : Go _ _ 30 _ _ _ _)
        refine Go.dup dX3_addTurn_30 rfl (?_ : Go _ _ 31 _ _ _ _)
        refine Go.getI fk_X3_32 (sc_0 h_a) (scr_6 h_a) dX3_addTurn_31 (?_ : Go _ _ 34 _ _ _ _)
        refine Go.iconst dX3_addTurn_34 k_ic_1 (?_ : Go _ _ 35 _ _ _ _)
        refine Go.iadd dX3_addTurn_35 (?_ : Go _ _ 36 _ _ _ _)
        refine Go.putI fp_X3_32 (sc_0 h_a) (scr_6 h_a) dX3_addTurn_36 (?_ : Go _ _ 39 _ _ _ _)
        generalize es5 : setF s4 a 6 ((sF s4 a 6) + 1) = s5
        have h := h s5 es5.symm
        exact Go.vret rfl dX3_addTurn_39 ⟨rfl, h⟩
theorem cgX3_addTurn {d : Nat} {σ : St} {x1 : Int32} {K : St → Prop} {a : Nat} (h_a : isSc a) (h : (x1 ≤ 0 → K σ) ∧ (¬ x1 ≤ 0 → ((sF σ a 6) < 0 → K σ) ∧ (¬ (sF σ a 6) < 0 → (4 ≤ (sF σ a 6) → K σ) ∧ (¬ 4 ≤ (sF σ a 6) → vp_in (sF σ a 6) 4 ∧ ∀ s4, s4 = setA σ (a + 5) (ix (sF σ a 6)) x1 → ∀ s5, s5 = setF s4 a 6 ((sF s4 a 6) + 1) → K s5)))) : CallU (d + 1) mX3_addTurn [.ref a, .int x1] σ K := Call_of_Go (by decide +kernel) (ls := [.ref a, .int x1]) rfl (Nat.le_of_ble_eq_true rfl) (sgX3_addTurn_0 h_a h)
set_option maxHeartbeats 4000000 in
set_option maxRecDepth 100000 in
theorem sgX3_changeBlind_0 {d : Nat} {σ : St} {x1 : Int32} {K : Int32 → St → Prop} {a : Nat} (h_a : isSc a) (h : ∀ s1, s1 = setF σ a 7 x1 → K (sF σ a 7) s1) : Go mX3_changeBlind (d + 1) 0 [.ref a, .int x1, .null] [] σ (QI K) := by
  refine Go.aload_n 0 dX3_changeBlind_0 rfl rfl (?_ : Go _ _ 1 _ _ _ _)
  refine Go.getI fk_X3_35 (sc_0 h_a) (scr_7 h_a) dX3_changeBlind_1 (?_ : Go _ _ 4 _ _ _ _)
  refine Go.istore_n 2 dX3_changeBlind_4 rfl (by decide) rfl rfl (?_ : Go _ _ 5 [.ref a, .int x1, .int (sF σ a 7)] _ _ _)
  refine Go.aload_n 0 dX3_changeBlind_5 rfl rfl (?_ : Go _ _ 6 _ _ _ _)
  refine Go.iload_n 1 dX3_changeBlind_6 rfl rfl (?_ : Go _ _ 7 _ _ _ _)
  refine Go.putI fp_X3_35 (sc_0 h_a) (scr_7 h_a) dX3_changeBlind_7 (?_ : Go _ _ 10 _ _ _ _)
  generalize es1 : setF σ a 7 x1 = s1
  have h := h s1 es1.symm
  refine Go.iload_n 2 dX3_changeBlind_10 rfl rfl (?_ : Go _ _ 11 _ _ _ _)
  exact Go.iret rfl dX3_changeBlind_11 ⟨_, rfl, h⟩
theorem cgX3_changeBlind {d : Nat} {σ : St} {x1 : Int32} {K : Int32 → St → Prop} {a : Nat} (h_a : isSc a) (h : ∀ s1, s1 = setF σ a 7 x1 → K (sF σ a 7) s1) : CallI (d + 1) mX3_changeBlind [.ref a, .int x1] σ K := Call_of_Go (by decide +kernel) (ls := [.ref a, .int x1, .null]) rfl (Nat.le_of_ble_eq_true rfl) (sgX3_changeBlind_0 h_a h)
set_option maxHeartbeats 4000000 in
set_option maxRecDepth 100000 in
theorem sgX3_changeLoud_0 {d : Nat} {σ : St} {x1 : Int32} {K : Int32 → St → Prop} {a : Nat} (h_a : isSc a) (h : ∀ s1, s1 = setF σ a 8 x1 → K (sF σ a 8) s1) : Go mX3_changeLoud (d + 1) 0 [.ref a, .int x1, .null] [] σ (QI K) := by
  refine Go.aload_n 0 dX3_changeLoud_0 rfl rfl (?_ : Go _ _ 1 _ _ _ _)
  refine Go.getI fk_X3_38 (sc_0 h_a) (scr_8 h_a) dX3_changeLoud_1 (?_ : Go _ _ 4 _ _ _ _)
  refine Go.istore_n 2 dX3_changeLoud_4 rfl (by decide) rfl rfl (?_ : Go _ _ 5 [.ref a, .int x1, .int (sF σ a 8)] _ _ _)
  refine Go.aload_n 0 dX3_changeLoud_5 rfl rfl (?_ : Go _ _ 6 _ _ _ _)
  refine Go.iload_n 1 dX3_changeLoud_6 rfl rfl (?_ : Go _ _ 7 _ _ _ _)
  refine Go.putI fp_X3_38 (sc_0 h_a) (scr_8 h_a) dX3_changeLoud_7 (?_ : Go _ _ 10 _ _ _ _)
  generalize es1 : setF σ a 8 x1 = s1
  have h := h s1 es1.symm
  refine Go.iload_n 2 dX3_changeLoud_10 rfl rfl (?_ : Go _ _ 11 _ _ _ _)
  exact Go.iret rfl dX3_changeLoud_11 ⟨_, rfl, h⟩
theorem cgX3_changeLoud {d : Nat} {σ : St} {x1 : Int32} {K : Int32 → St → Prop} {a : Nat} (h_a : isSc a) (h : ∀ s1, s1 = setF σ a 8 x1 → K (sF σ a 8) s1) : CallI (d + 1) mX3_changeLoud [.ref a, .int x1] σ K := Call_of_Go (by decide +kernel) (ls := [.ref a, .int x1, .null]) rfl (Nat.le_of_ble_eq_true rfl) (sgX3_changeLoud_0 h_a h)
end
