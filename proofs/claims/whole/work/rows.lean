section
-- ===== PART A: goes FIRST, ahead of the names: the tables' words, and 'selects' of the private methods out of them =====
/-- a private method of a class that the tables say can be made, by its rows of tables_1 -/
def lw_okq (q : MethodName × Nat) : Prop := (q.1.cls ≠ "java/lang/invoke/MethodHandle" ∧ q.1.cls ≠ "java/lang/invoke/VarHandle") ∧ Cond.instantiable q.1.cls q.2 ∈ tables_1 ∧ Cond.privateMethod q.1 ∈ tables_1 ∧ Cond.instanceMethod q.1 ∈ tables_1
theorem lw_p0 : lw_okq (⟨"PermitPark$SetupText", "readToken", "()V"⟩, 8) := ⟨⟨by decide +kernel, by decide +kernel⟩, List.mem_of_getElem? (i := 32) (by decide +kernel), List.mem_of_getElem? (i := 287) (by decide +kernel), List.mem_of_getElem? (i := 288) (by decide +kernel)⟩
theorem lw_p1 : lw_okq (⟨"PermitPark$SetupText", "valueOfToken", "()I"⟩, 8) := ⟨⟨by decide +kernel, by decide +kernel⟩, List.mem_of_getElem? (i := 32) (by decide +kernel), List.mem_of_getElem? (i := 294) (by decide +kernel), List.mem_of_getElem? (i := 295) (by decide +kernel)⟩
theorem lw_p2 : lw_okq (⟨"PermitPark$SetupText", "isWord", "(Ljava/lang/String;)Z"⟩, 8) := ⟨⟨by decide +kernel, by decide +kernel⟩, List.mem_of_getElem? (i := 32) (by decide +kernel), List.mem_of_getElem? (i := 308) (by decide +kernel), List.mem_of_getElem? (i := 309) (by decide +kernel)⟩
theorem lw_p3 : lw_okq (⟨"PermitPark$SetupText", "readThread", "(LPermitPark$Machine;)Z"⟩, 8) := ⟨⟨by decide +kernel, by decide +kernel⟩, List.mem_of_getElem? (i := 32) (by decide +kernel), List.mem_of_getElem? (i := 360) (by decide +kernel), List.mem_of_getElem? (i := 361) (by decide +kernel)⟩
theorem lw_p4 : lw_okq (⟨"PermitPark$SetupText", "refuse", "(I)Z"⟩, 8) := ⟨⟨by decide +kernel, by decide +kernel⟩, List.mem_of_getElem? (i := 32) (by decide +kernel), List.mem_of_getElem? (i := 368) (by decide +kernel), List.mem_of_getElem? (i := 369) (by decide +kernel)⟩
theorem lw_p5 : lw_okq (⟨"PermitPark$SetupText", "readNumber", "(II)Z"⟩, 8) := ⟨⟨by decide +kernel, by decide +kernel⟩, List.mem_of_getElem? (i := 32) (by decide +kernel), List.mem_of_getElem? (i := 372) (by decide +kernel), List.mem_of_getElem? (i := 373) (by decide +kernel)⟩
theorem lw_p6 : lw_okq (⟨"PermitPark$SetupText", "needNumber", "(II)Z"⟩, 8) := ⟨⟨by decide +kernel, by decide +kernel⟩, List.mem_of_getElem? (i := 32) (by decide +kernel), List.mem_of_getElem? (i := 376) (by decide +kernel), List.mem_of_getElem? (i := 377) (by decide +kernel)⟩
theorem lw_p7 : lw_okq (⟨"PermitPark$SetupText", "readSymbol", "(C)Z"⟩, 8) := ⟨⟨by decide +kernel, by decide +kernel⟩, List.mem_of_getElem? (i := 32) (by decide +kernel), List.mem_of_getElem? (i := 380) (by decide +kernel), List.mem_of_getElem? (i := 381) (by decide +kernel)⟩
theorem lw_p8 : lw_okq (⟨"PermitPark$SetupText", "readInstruction", "(LPermitPark$Strand;)Z"⟩, 8) := ⟨⟨by decide +kernel, by decide +kernel⟩, List.mem_of_getElem? (i := 32) (by decide +kernel), List.mem_of_getElem? (i := 392) (by decide +kernel), List.mem_of_getElem? (i := 393) (by decide +kernel)⟩
theorem lw_p9 : lw_okq (⟨"PermitPark$SetupText", "instructionCode", "()I"⟩, 8) := ⟨⟨by decide +kernel, by decide +kernel⟩, List.mem_of_getElem? (i := 32) (by decide +kernel), List.mem_of_getElem? (i := 396) (by decide +kernel), List.mem_of_getElem? (i := 397) (by decide +kernel)⟩
theorem lw_p10 : lw_okq (⟨"PermitPark$SetupText", "readFlag", "(LPermitPark$Machine;)Z"⟩, 8) := ⟨⟨by decide +kernel, by decide +kernel⟩, List.mem_of_getElem? (i := 32) (by decide +kernel), List.mem_of_getElem? (i := 409) (by decide +kernel), List.mem_of_getElem? (i := 410) (by decide +kernel)⟩
theorem lw_p11 : lw_okq (⟨"PermitPark$SetupText", "readSetting", "(LPermitPark$Machine;)Z"⟩, 8) := ⟨⟨by decide +kernel, by decide +kernel⟩, List.mem_of_getElem? (i := 32) (by decide +kernel), List.mem_of_getElem? (i := 422) (by decide +kernel), List.mem_of_getElem? (i := 423) (by decide +kernel)⟩
theorem lw_p12 : lw_okq (⟨"PermitPark$SetupText", "readSeed", "(LPermitPark$Machine;)Z"⟩, 8) := ⟨⟨by decide +kernel, by decide +kernel⟩, List.mem_of_getElem? (i := 32) (by decide +kernel), List.mem_of_getElem? (i := 434) (by decide +kernel), List.mem_of_getElem? (i := 435) (by decide +kernel)⟩
theorem lw_p13 : lw_okq (⟨"PermitPark$Machine", "noteGreatestPriorities", "()V"⟩, 16) := ⟨⟨by decide +kernel, by decide +kernel⟩, List.mem_of_getElem? (i := 67) (by decide +kernel), List.mem_of_getElem? (i := 477) (by decide +kernel), List.mem_of_getElem? (i := 478) (by decide +kernel)⟩
theorem lw_p14 : lw_okq (⟨"PermitPark$Machine", "blockerOf", "(I)I"⟩, 16) := ⟨⟨by decide +kernel, by decide +kernel⟩, List.mem_of_getElem? (i := 67) (by decide +kernel), List.mem_of_getElem? (i := 485) (by decide +kernel), List.mem_of_getElem? (i := 486) (by decide +kernel)⟩
theorem lw_p15 : lw_okq (⟨"PermitPark$Machine", "firstLate", "()I"⟩, 16) := ⟨⟨by decide +kernel, by decide +kernel⟩, List.mem_of_getElem? (i := 67) (by decide +kernel), List.mem_of_getElem? (i := 492) (by decide +kernel), List.mem_of_getElem? (i := 493) (by decide +kernel)⟩
def lw_privs_1 : List (MethodName × Nat) := [(⟨"PermitPark$SetupText", "readToken", "()V"⟩, 8), (⟨"PermitPark$SetupText", "valueOfToken", "()I"⟩, 8), (⟨"PermitPark$SetupText", "isWord", "(Ljava/lang/String;)Z"⟩, 8), (⟨"PermitPark$SetupText", "readThread", "(LPermitPark$Machine;)Z"⟩, 8), (⟨"PermitPark$SetupText", "refuse", "(I)Z"⟩, 8), (⟨"PermitPark$SetupText", "readNumber", "(II)Z"⟩, 8), (⟨"PermitPark$SetupText", "needNumber", "(II)Z"⟩, 8), (⟨"PermitPark$SetupText", "readSymbol", "(C)Z"⟩, 8), (⟨"PermitPark$SetupText", "readInstruction", "(LPermitPark$Strand;)Z"⟩, 8), (⟨"PermitPark$SetupText", "instructionCode", "()I"⟩, 8), (⟨"PermitPark$SetupText", "readFlag", "(LPermitPark$Machine;)Z"⟩, 8), (⟨"PermitPark$SetupText", "readSetting", "(LPermitPark$Machine;)Z"⟩, 8), (⟨"PermitPark$SetupText", "readSeed", "(LPermitPark$Machine;)Z"⟩, 8), (⟨"PermitPark$Machine", "noteGreatestPriorities", "()V"⟩, 16), (⟨"PermitPark$Machine", "blockerOf", "(I)I"⟩, 16), (⟨"PermitPark$Machine", "firstLate", "()I"⟩, 16)]
theorem lw_r1 : ∀ q ∈ lw_privs_1, lw_okq q := List.forall_mem_cons.mpr ⟨lw_p0, List.forall_mem_cons.mpr ⟨lw_p1, List.forall_mem_cons.mpr ⟨lw_p2, List.forall_mem_cons.mpr ⟨lw_p3, List.forall_mem_cons.mpr ⟨lw_p4, List.forall_mem_cons.mpr ⟨lw_p5, List.forall_mem_cons.mpr ⟨lw_p6, List.forall_mem_cons.mpr ⟨lw_p7, List.forall_mem_cons.mpr ⟨lw_p8, List.forall_mem_cons.mpr ⟨lw_p9, List.forall_mem_cons.mpr ⟨lw_p10, List.forall_mem_cons.mpr ⟨lw_p11, List.forall_mem_cons.mpr ⟨lw_p12, List.forall_mem_cons.mpr ⟨lw_p13, List.forall_mem_cons.mpr ⟨lw_p14, List.forall_mem_cons.mpr ⟨lw_p15, fun _ h => absurd h List.not_mem_nil⟩⟩⟩⟩⟩⟩⟩⟩⟩⟩⟩⟩⟩⟩⟩⟩
theorem lw_p16 : lw_okq (⟨"PermitPark$Machine", "endIfThrough", "(I)V"⟩, 16) := ⟨⟨by decide +kernel, by decide +kernel⟩, List.mem_of_getElem? (i := 67) (by decide +kernel), List.mem_of_getElem? (i := 504) (by decide +kernel), List.mem_of_getElem? (i := 505) (by decide +kernel)⟩
theorem lw_p17 : lw_okq (⟨"PermitPark$Machine", "giveUp", "(I)V"⟩, 16) := ⟨⟨by decide +kernel, by decide +kernel⟩, List.mem_of_getElem? (i := 67) (by decide +kernel), List.mem_of_getElem? (i := 516) (by decide +kernel), List.mem_of_getElem? (i := 517) (by decide +kernel)⟩
theorem lw_p18 : lw_okq (⟨"PermitPark$Machine", "firstWaiter", "(I)I"⟩, 16) := ⟨⟨by decide +kernel, by decide +kernel⟩, List.mem_of_getElem? (i := 67) (by decide +kernel), List.mem_of_getElem? (i := 520) (by decide +kernel), List.mem_of_getElem? (i := 521) (by decide +kernel)⟩
theorem lw_p19 : lw_okq (⟨"PermitPark$Machine", "advance", "(I)V"⟩, 16) := ⟨⟨by decide +kernel, by decide +kernel⟩, List.mem_of_getElem? (i := 67) (by decide +kernel), List.mem_of_getElem? (i := 532) (by decide +kernel), List.mem_of_getElem? (i := 533) (by decide +kernel)⟩
theorem lw_p20 : lw_okq (⟨"PermitPark$Machine", "drawOfThousand", "()I"⟩, 16) := ⟨⟨by decide +kernel, by decide +kernel⟩, List.mem_of_getElem? (i := 67) (by decide +kernel), List.mem_of_getElem? (i := 536) (by decide +kernel), List.mem_of_getElem? (i := 537) (by decide +kernel)⟩
theorem lw_p21 : lw_okq (⟨"PermitPark$Machine", "firstReady", "()I"⟩, 16) := ⟨⟨by decide +kernel, by decide +kernel⟩, List.mem_of_getElem? (i := 67) (by decide +kernel), List.mem_of_getElem? (i := 541) (by decide +kernel), List.mem_of_getElem? (i := 542) (by decide +kernel)⟩
theorem lw_p22 : lw_okq (⟨"PermitPark$Machine", "perform", "(I)Z"⟩, 16) := ⟨⟨by decide +kernel, by decide +kernel⟩, List.mem_of_getElem? (i := 67) (by decide +kernel), List.mem_of_getElem? (i := 548) (by decide +kernel), List.mem_of_getElem? (i := 549) (by decide +kernel)⟩
theorem lw_p23 : lw_okq (⟨"PermitPark$Machine", "park", "(II)V"⟩, 16) := ⟨⟨by decide +kernel, by decide +kernel⟩, List.mem_of_getElem? (i := 67) (by decide +kernel), List.mem_of_getElem? (i := 561) (by decide +kernel), List.mem_of_getElem? (i := 562) (by decide +kernel)⟩
theorem lw_p24 : lw_okq (⟨"PermitPark$Machine", "tellOn", "(II)V"⟩, 16) := ⟨⟨by decide +kernel, by decide +kernel⟩, List.mem_of_getElem? (i := 67) (by decide +kernel), List.mem_of_getElem? (i := 575) (by decide +kernel), List.mem_of_getElem? (i := 576) (by decide +kernel)⟩
theorem lw_p25 : lw_okq (⟨"PermitPark$Machine", "stealPermit", "(II)V"⟩, 16) := ⟨⟨by decide +kernel, by decide +kernel⟩, List.mem_of_getElem? (i := 67) (by decide +kernel), List.mem_of_getElem? (i := 579) (by decide +kernel), List.mem_of_getElem? (i := 580) (by decide +kernel)⟩
theorem lw_p26 : lw_okq (⟨"PermitPark$Machine", "takeLock", "(II)Z"⟩, 16) := ⟨⟨by decide +kernel, by decide +kernel⟩, List.mem_of_getElem? (i := 67) (by decide +kernel), List.mem_of_getElem? (i := 583) (by decide +kernel), List.mem_of_getElem? (i := 584) (by decide +kernel)⟩
theorem lw_p27 : lw_okq (⟨"PermitPark$Machine", "fail", "(I)V"⟩, 16) := ⟨⟨by decide +kernel, by decide +kernel⟩, List.mem_of_getElem? (i := 67) (by decide +kernel), List.mem_of_getElem? (i := 587) (by decide +kernel), List.mem_of_getElem? (i := 588) (by decide +kernel)⟩
theorem lw_p28 : lw_okq (⟨"PermitPark$Machine", "unlock", "(II)Z"⟩, 16) := ⟨⟨by decide +kernel, by decide +kernel⟩, List.mem_of_getElem? (i := 67) (by decide +kernel), List.mem_of_getElem? (i := 595) (by decide +kernel), List.mem_of_getElem? (i := 596) (by decide +kernel)⟩
theorem lw_p29 : lw_okq (⟨"java/lang/Throwable", "fillInStackTrace", "(I)Ljava/lang/Throwable;"⟩, 6) := ⟨⟨by decide +kernel, by decide +kernel⟩, List.mem_of_getElem? (i := 657) (by decide +kernel), List.mem_of_getElem? (i := 655) (by decide +kernel), List.mem_of_getElem? (i := 656) (by decide +kernel)⟩
theorem lw_p30 : lw_okq (⟨"PermitPark", "needThread", "(I)V"⟩, 5) := ⟨⟨by decide +kernel, by decide +kernel⟩, List.mem_of_getElem? (i := 24) (by decide +kernel), List.mem_of_getElem? (i := 740) (by decide +kernel), List.mem_of_getElem? (i := 741) (by decide +kernel)⟩
theorem lw_p31 : lw_okq (⟨"PermitParkModel", "clear", "()V"⟩, 21) := ⟨⟨by decide +kernel, by decide +kernel⟩, List.mem_of_getElem? (i := 998) (by decide +kernel), List.mem_of_getElem? (i := 1004) (by decide +kernel), List.mem_of_getElem? (i := 1005) (by decide +kernel)⟩
def lw_privs_2 : List (MethodName × Nat) := [(⟨"PermitPark$Machine", "endIfThrough", "(I)V"⟩, 16), (⟨"PermitPark$Machine", "giveUp", "(I)V"⟩, 16), (⟨"PermitPark$Machine", "firstWaiter", "(I)I"⟩, 16), (⟨"PermitPark$Machine", "advance", "(I)V"⟩, 16), (⟨"PermitPark$Machine", "drawOfThousand", "()I"⟩, 16), (⟨"PermitPark$Machine", "firstReady", "()I"⟩, 16), (⟨"PermitPark$Machine", "perform", "(I)Z"⟩, 16), (⟨"PermitPark$Machine", "park", "(II)V"⟩, 16), (⟨"PermitPark$Machine", "tellOn", "(II)V"⟩, 16), (⟨"PermitPark$Machine", "stealPermit", "(II)V"⟩, 16), (⟨"PermitPark$Machine", "takeLock", "(II)Z"⟩, 16), (⟨"PermitPark$Machine", "fail", "(I)V"⟩, 16), (⟨"PermitPark$Machine", "unlock", "(II)Z"⟩, 16), (⟨"java/lang/Throwable", "fillInStackTrace", "(I)Ljava/lang/Throwable;"⟩, 6), (⟨"PermitPark", "needThread", "(I)V"⟩, 5), (⟨"PermitParkModel", "clear", "()V"⟩, 21)]
theorem lw_r2 : ∀ q ∈ lw_privs_2, lw_okq q := List.forall_mem_cons.mpr ⟨lw_p16, List.forall_mem_cons.mpr ⟨lw_p17, List.forall_mem_cons.mpr ⟨lw_p18, List.forall_mem_cons.mpr ⟨lw_p19, List.forall_mem_cons.mpr ⟨lw_p20, List.forall_mem_cons.mpr ⟨lw_p21, List.forall_mem_cons.mpr ⟨lw_p22, List.forall_mem_cons.mpr ⟨lw_p23, List.forall_mem_cons.mpr ⟨lw_p24, List.forall_mem_cons.mpr ⟨lw_p25, List.forall_mem_cons.mpr ⟨lw_p26, List.forall_mem_cons.mpr ⟨lw_p27, List.forall_mem_cons.mpr ⟨lw_p28, List.forall_mem_cons.mpr ⟨lw_p29, List.forall_mem_cons.mpr ⟨lw_p30, List.forall_mem_cons.mpr ⟨lw_p31, fun _ h => absurd h List.not_mem_nil⟩⟩⟩⟩⟩⟩⟩⟩⟩⟩⟩⟩⟩⟩⟩⟩
theorem lw_p32 : lw_okq (⟨"PermitParkModel", "fail", "(I)I"⟩, 21) := ⟨⟨by decide +kernel, by decide +kernel⟩, List.mem_of_getElem? (i := 998) (by decide +kernel), List.mem_of_getElem? (i := 1080) (by decide +kernel), List.mem_of_getElem? (i := 1081) (by decide +kernel)⟩
theorem lw_p33 : lw_okq (⟨"PermitParkModel", "nextToken", "()V"⟩, 21) := ⟨⟨by decide +kernel, by decide +kernel⟩, List.mem_of_getElem? (i := 998) (by decide +kernel), List.mem_of_getElem? (i := 1098) (by decide +kernel), List.mem_of_getElem? (i := 1099) (by decide +kernel)⟩
theorem lw_p34 : lw_okq (⟨"PermitParkModel", "byteAt", "(I)I"⟩, 21) := ⟨⟨by decide +kernel, by decide +kernel⟩, List.mem_of_getElem? (i := 998) (by decide +kernel), List.mem_of_getElem? (i := 1102) (by decide +kernel), List.mem_of_getElem? (i := 1103) (by decide +kernel)⟩
theorem lw_p35 : lw_okq (⟨"PermitParkModel", "isFine", "()Z"⟩, 21) := ⟨⟨by decide +kernel, by decide +kernel⟩, List.mem_of_getElem? (i := 998) (by decide +kernel), List.mem_of_getElem? (i := 1115) (by decide +kernel), List.mem_of_getElem? (i := 1116) (by decide +kernel)⟩
theorem lw_p36 : lw_okq (⟨"PermitParkModel", "parseStatement", "()V"⟩, 21) := ⟨⟨by decide +kernel, by decide +kernel⟩, List.mem_of_getElem? (i := 998) (by decide +kernel), List.mem_of_getElem? (i := 1119) (by decide +kernel), List.mem_of_getElem? (i := 1120) (by decide +kernel)⟩
theorem lw_p37 : lw_okq (⟨"PermitParkModel", "isWord", "(Ljava/lang/String;)Z"⟩, 21) := ⟨⟨by decide +kernel, by decide +kernel⟩, List.mem_of_getElem? (i := 998) (by decide +kernel), List.mem_of_getElem? (i := 1124) (by decide +kernel), List.mem_of_getElem? (i := 1125) (by decide +kernel)⟩
theorem lw_p38 : lw_okq (⟨"PermitParkModel", "parseThread", "()V"⟩, 21) := ⟨⟨by decide +kernel, by decide +kernel⟩, List.mem_of_getElem? (i := 998) (by decide +kernel), List.mem_of_getElem? (i := 1130) (by decide +kernel), List.mem_of_getElem? (i := 1131) (by decide +kernel)⟩
theorem lw_p39 : lw_okq (⟨"PermitParkModel", "require", "(ZI)V"⟩, 21) := ⟨⟨by decide +kernel, by decide +kernel⟩, List.mem_of_getElem? (i := 998) (by decide +kernel), List.mem_of_getElem? (i := 1134) (by decide +kernel), List.mem_of_getElem? (i := 1135) (by decide +kernel)⟩
theorem lw_p40 : lw_okq (⟨"PermitParkModel", "advance", "()V"⟩, 21) := ⟨⟨by decide +kernel, by decide +kernel⟩, List.mem_of_getElem? (i := 998) (by decide +kernel), List.mem_of_getElem? (i := 1138) (by decide +kernel), List.mem_of_getElem? (i := 1139) (by decide +kernel)⟩
theorem lw_p41 : lw_okq (⟨"PermitParkModel", "parseNumber", "(II)I"⟩, 21) := ⟨⟨by decide +kernel, by decide +kernel⟩, List.mem_of_getElem? (i := 998) (by decide +kernel), List.mem_of_getElem? (i := 1142) (by decide +kernel), List.mem_of_getElem? (i := 1143) (by decide +kernel)⟩
theorem lw_p42 : lw_okq (⟨"PermitParkModel", "look", "(II)V"⟩, 21) := ⟨⟨by decide +kernel, by decide +kernel⟩, List.mem_of_getElem? (i := 998) (by decide +kernel), List.mem_of_getElem? (i := 1146) (by decide +kernel), List.mem_of_getElem? (i := 1147) (by decide +kernel)⟩
theorem lw_p43 : lw_okq (⟨"PermitParkModel", "parseSymbol", "(I)V"⟩, 21) := ⟨⟨by decide +kernel, by decide +kernel⟩, List.mem_of_getElem? (i := 998) (by decide +kernel), List.mem_of_getElem? (i := 1150) (by decide +kernel), List.mem_of_getElem? (i := 1151) (by decide +kernel)⟩
theorem lw_p44 : lw_okq (⟨"PermitParkModel", "isSymbol", "(I)Z"⟩, 21) := ⟨⟨by decide +kernel, by decide +kernel⟩, List.mem_of_getElem? (i := 998) (by decide +kernel), List.mem_of_getElem? (i := 1154) (by decide +kernel), List.mem_of_getElem? (i := 1155) (by decide +kernel)⟩
theorem lw_p45 : lw_okq (⟨"PermitParkModel", "appendThread", "(I)I"⟩, 21) := ⟨⟨by decide +kernel, by decide +kernel⟩, List.mem_of_getElem? (i := 998) (by decide +kernel), List.mem_of_getElem? (i := 1158) (by decide +kernel), List.mem_of_getElem? (i := 1159) (by decide +kernel)⟩
theorem lw_p46 : lw_okq (⟨"PermitParkModel", "put", "(III)V"⟩, 21) := ⟨⟨by decide +kernel, by decide +kernel⟩, List.mem_of_getElem? (i := 998) (by decide +kernel), List.mem_of_getElem? (i := 1162) (by decide +kernel), List.mem_of_getElem? (i := 1163) (by decide +kernel)⟩
theorem lw_p47 : lw_okq (⟨"PermitParkModel", "parseInstruction", "(I)V"⟩, 21) := ⟨⟨by decide +kernel, by decide +kernel⟩, List.mem_of_getElem? (i := 998) (by decide +kernel), List.mem_of_getElem? (i := 1166) (by decide +kernel), List.mem_of_getElem? (i := 1167) (by decide +kernel)⟩
def lw_privs_3 : List (MethodName × Nat) := [(⟨"PermitParkModel", "fail", "(I)I"⟩, 21), (⟨"PermitParkModel", "nextToken", "()V"⟩, 21), (⟨"PermitParkModel", "byteAt", "(I)I"⟩, 21), (⟨"PermitParkModel", "isFine", "()Z"⟩, 21), (⟨"PermitParkModel", "parseStatement", "()V"⟩, 21), (⟨"PermitParkModel", "isWord", "(Ljava/lang/String;)Z"⟩, 21), (⟨"PermitParkModel", "parseThread", "()V"⟩, 21), (⟨"PermitParkModel", "require", "(ZI)V"⟩, 21), (⟨"PermitParkModel", "advance", "()V"⟩, 21), (⟨"PermitParkModel", "parseNumber", "(II)I"⟩, 21), (⟨"PermitParkModel", "look", "(II)V"⟩, 21), (⟨"PermitParkModel", "parseSymbol", "(I)V"⟩, 21), (⟨"PermitParkModel", "isSymbol", "(I)Z"⟩, 21), (⟨"PermitParkModel", "appendThread", "(I)I"⟩, 21), (⟨"PermitParkModel", "put", "(III)V"⟩, 21), (⟨"PermitParkModel", "parseInstruction", "(I)V"⟩, 21)]
theorem lw_r3 : ∀ q ∈ lw_privs_3, lw_okq q := List.forall_mem_cons.mpr ⟨lw_p32, List.forall_mem_cons.mpr ⟨lw_p33, List.forall_mem_cons.mpr ⟨lw_p34, List.forall_mem_cons.mpr ⟨lw_p35, List.forall_mem_cons.mpr ⟨lw_p36, List.forall_mem_cons.mpr ⟨lw_p37, List.forall_mem_cons.mpr ⟨lw_p38, List.forall_mem_cons.mpr ⟨lw_p39, List.forall_mem_cons.mpr ⟨lw_p40, List.forall_mem_cons.mpr ⟨lw_p41, List.forall_mem_cons.mpr ⟨lw_p42, List.forall_mem_cons.mpr ⟨lw_p43, List.forall_mem_cons.mpr ⟨lw_p44, List.forall_mem_cons.mpr ⟨lw_p45, List.forall_mem_cons.mpr ⟨lw_p46, List.forall_mem_cons.mpr ⟨lw_p47, fun _ h => absurd h List.not_mem_nil⟩⟩⟩⟩⟩⟩⟩⟩⟩⟩⟩⟩⟩⟩⟩⟩
theorem lw_p48 : lw_okq (⟨"PermitParkModel", "codeHere", "()I"⟩, 21) := ⟨⟨by decide +kernel, by decide +kernel⟩, List.mem_of_getElem? (i := 998) (by decide +kernel), List.mem_of_getElem? (i := 1170) (by decide +kernel), List.mem_of_getElem? (i := 1171) (by decide +kernel)⟩
theorem lw_p49 : lw_okq (⟨"PermitParkModel", "laterCodeHere", "()I"⟩, 21) := ⟨⟨by decide +kernel, by decide +kernel⟩, List.mem_of_getElem? (i := 998) (by decide +kernel), List.mem_of_getElem? (i := 1180) (by decide +kernel), List.mem_of_getElem? (i := 1181) (by decide +kernel)⟩
theorem lw_p50 : lw_okq (⟨"PermitParkModel", "of", "(II)I"⟩, 21) := ⟨⟨by decide +kernel, by decide +kernel⟩, List.mem_of_getElem? (i := 998) (by decide +kernel), List.mem_of_getElem? (i := 1189) (by decide +kernel), List.mem_of_getElem? (i := 1190) (by decide +kernel)⟩
theorem lw_p51 : lw_okq (⟨"PermitParkModel", "appendInstruction", "(III)V"⟩, 21) := ⟨⟨by decide +kernel, by decide +kernel⟩, List.mem_of_getElem? (i := 998) (by decide +kernel), List.mem_of_getElem? (i := 1193) (by decide +kernel), List.mem_of_getElem? (i := 1194) (by decide +kernel)⟩
theorem lw_p52 : lw_okq (⟨"PermitParkModel", "grow", "(II)V"⟩, 21) := ⟨⟨by decide +kernel, by decide +kernel⟩, List.mem_of_getElem? (i := 998) (by decide +kernel), List.mem_of_getElem? (i := 1200) (by decide +kernel), List.mem_of_getElem? (i := 1201) (by decide +kernel)⟩
theorem lw_p53 : lw_okq (⟨"PermitParkModel", "parseFlag", "()V"⟩, 21) := ⟨⟨by decide +kernel, by decide +kernel⟩, List.mem_of_getElem? (i := 998) (by decide +kernel), List.mem_of_getElem? (i := 1205) (by decide +kernel), List.mem_of_getElem? (i := 1206) (by decide +kernel)⟩
theorem lw_p54 : lw_okq (⟨"PermitParkModel", "isOn", "(I)Z"⟩, 21) := ⟨⟨by decide +kernel, by decide +kernel⟩, List.mem_of_getElem? (i := 998) (by decide +kernel), List.mem_of_getElem? (i := 1209) (by decide +kernel), List.mem_of_getElem? (i := 1210) (by decide +kernel)⟩
theorem lw_p55 : lw_okq (⟨"PermitParkModel", "turnFlag", "(IZ)V"⟩, 21) := ⟨⟨by decide +kernel, by decide +kernel⟩, List.mem_of_getElem? (i := 998) (by decide +kernel), List.mem_of_getElem? (i := 1213) (by decide +kernel), List.mem_of_getElem? (i := 1214) (by decide +kernel)⟩
theorem lw_p56 : lw_okq (⟨"PermitParkModel", "parseSet", "()V"⟩, 21) := ⟨⟨by decide +kernel, by decide +kernel⟩, List.mem_of_getElem? (i := 998) (by decide +kernel), List.mem_of_getElem? (i := 1217) (by decide +kernel), List.mem_of_getElem? (i := 1218) (by decide +kernel)⟩
theorem lw_p57 : lw_okq (⟨"PermitParkModel", "parseSeed", "()V"⟩, 21) := ⟨⟨by decide +kernel, by decide +kernel⟩, List.mem_of_getElem? (i := 998) (by decide +kernel), List.mem_of_getElem? (i := 1221) (by decide +kernel), List.mem_of_getElem? (i := 1222) (by decide +kernel)⟩
theorem lw_p58 : lw_okq (⟨"PermitParkModel", "isInstruction", "(II)Z"⟩, 21) := ⟨⟨by decide +kernel, by decide +kernel⟩, List.mem_of_getElem? (i := 998) (by decide +kernel), List.mem_of_getElem? (i := 1239) (by decide +kernel), List.mem_of_getElem? (i := 1240) (by decide +kernel)⟩
theorem lw_p59 : lw_okq (⟨"PermitParkModel", "isThread", "(I)Z"⟩, 21) := ⟨⟨by decide +kernel, by decide +kernel⟩, List.mem_of_getElem? (i := 998) (by decide +kernel), List.mem_of_getElem? (i := 1247) (by decide +kernel), List.mem_of_getElem? (i := 1248) (by decide +kernel)⟩
theorem lw_p60 : lw_okq (⟨"PermitParkModel", "inState", "(I)I"⟩, 21) := ⟨⟨by decide +kernel, by decide +kernel⟩, List.mem_of_getElem? (i := 998) (by decide +kernel), List.mem_of_getElem? (i := 1271) (by decide +kernel), List.mem_of_getElem? (i := 1272) (by decide +kernel)⟩
theorem lw_p61 : lw_okq (⟨"PermitParkModel", "heldLocks", "()I"⟩, 21) := ⟨⟨by decide +kernel, by decide +kernel⟩, List.mem_of_getElem? (i := 998) (by decide +kernel), List.mem_of_getElem? (i := 1275) (by decide +kernel), List.mem_of_getElem? (i := 1276) (by decide +kernel)⟩
theorem lw_p62 : lw_okq (⟨"PermitParkModel", "priorityOf", "(I)I"⟩, 21) := ⟨⟨by decide +kernel, by decide +kernel⟩, List.mem_of_getElem? (i := 998) (by decide +kernel), List.mem_of_getElem? (i := 1283) (by decide +kernel), List.mem_of_getElem? (i := 1284) (by decide +kernel)⟩
theorem lw_p63 : lw_okq (⟨"PermitParkModel", "locksOf", "(I)I"⟩, 21) := ⟨⟨by decide +kernel, by decide +kernel⟩, List.mem_of_getElem? (i := 998) (by decide +kernel), List.mem_of_getElem? (i := 1288) (by decide +kernel), List.mem_of_getElem? (i := 1289) (by decide +kernel)⟩
def lw_privs_4 : List (MethodName × Nat) := [(⟨"PermitParkModel", "codeHere", "()I"⟩, 21), (⟨"PermitParkModel", "laterCodeHere", "()I"⟩, 21), (⟨"PermitParkModel", "of", "(II)I"⟩, 21), (⟨"PermitParkModel", "appendInstruction", "(III)V"⟩, 21), (⟨"PermitParkModel", "grow", "(II)V"⟩, 21), (⟨"PermitParkModel", "parseFlag", "()V"⟩, 21), (⟨"PermitParkModel", "isOn", "(I)Z"⟩, 21), (⟨"PermitParkModel", "turnFlag", "(IZ)V"⟩, 21), (⟨"PermitParkModel", "parseSet", "()V"⟩, 21), (⟨"PermitParkModel", "parseSeed", "()V"⟩, 21), (⟨"PermitParkModel", "isInstruction", "(II)Z"⟩, 21), (⟨"PermitParkModel", "isThread", "(I)Z"⟩, 21), (⟨"PermitParkModel", "inState", "(I)I"⟩, 21), (⟨"PermitParkModel", "heldLocks", "()I"⟩, 21), (⟨"PermitParkModel", "priorityOf", "(I)I"⟩, 21), (⟨"PermitParkModel", "locksOf", "(I)I"⟩, 21)]
theorem lw_r4 : ∀ q ∈ lw_privs_4, lw_okq q := List.forall_mem_cons.mpr ⟨lw_p48, List.forall_mem_cons.mpr ⟨lw_p49, List.forall_mem_cons.mpr ⟨lw_p50, List.forall_mem_cons.mpr ⟨lw_p51, List.forall_mem_cons.mpr ⟨lw_p52, List.forall_mem_cons.mpr ⟨lw_p53, List.forall_mem_cons.mpr ⟨lw_p54, List.forall_mem_cons.mpr ⟨lw_p55, List.forall_mem_cons.mpr ⟨lw_p56, List.forall_mem_cons.mpr ⟨lw_p57, List.forall_mem_cons.mpr ⟨lw_p58, List.forall_mem_cons.mpr ⟨lw_p59, List.forall_mem_cons.mpr ⟨lw_p60, List.forall_mem_cons.mpr ⟨lw_p61, List.forall_mem_cons.mpr ⟨lw_p62, List.forall_mem_cons.mpr ⟨lw_p63, fun _ h => absurd h List.not_mem_nil⟩⟩⟩⟩⟩⟩⟩⟩⟩⟩⟩⟩⟩⟩⟩⟩
theorem lw_p64 : lw_okq (⟨"PermitParkModel", "waiter", "(II)I"⟩, 21) := ⟨⟨by decide +kernel, by decide +kernel⟩, List.mem_of_getElem? (i := 998) (by decide +kernel), List.mem_of_getElem? (i := 1300) (by decide +kernel), List.mem_of_getElem? (i := 1301) (by decide +kernel)⟩
theorem lw_p65 : lw_okq (⟨"PermitParkModel", "wakeUp", "(II)I"⟩, 21) := ⟨⟨by decide +kernel, by decide +kernel⟩, List.mem_of_getElem? (i := 998) (by decide +kernel), List.mem_of_getElem? (i := 1320) (by decide +kernel), List.mem_of_getElem? (i := 1321) (by decide +kernel)⟩
theorem lw_p66 : lw_okq (⟨"PermitParkModel", "comeBack", "(II)V"⟩, 21) := ⟨⟨by decide +kernel, by decide +kernel⟩, List.mem_of_getElem? (i := 998) (by decide +kernel), List.mem_of_getElem? (i := 1324) (by decide +kernel), List.mem_of_getElem? (i := 1325) (by decide +kernel)⟩
theorem lw_p67 : lw_okq (⟨"PermitParkModel", "note", "(III)V"⟩, 21) := ⟨⟨by decide +kernel, by decide +kernel⟩, List.mem_of_getElem? (i := 998) (by decide +kernel), List.mem_of_getElem? (i := 1328) (by decide +kernel), List.mem_of_getElem? (i := 1329) (by decide +kernel)⟩
theorem lw_p68 : lw_okq (⟨"PermitParkModel", "endIfBehind", "(I)V"⟩, 21) := ⟨⟨by decide +kernel, by decide +kernel⟩, List.mem_of_getElem? (i := 998) (by decide +kernel), List.mem_of_getElem? (i := 1332) (by decide +kernel), List.mem_of_getElem? (i := 1333) (by decide +kernel)⟩
theorem lw_p69 : lw_okq (⟨"PermitParkModel", "settle", "()V"⟩, 21) := ⟨⟨by decide +kernel, by decide +kernel⟩, List.mem_of_getElem? (i := 998) (by decide +kernel), List.mem_of_getElem? (i := 1336) (by decide +kernel), List.mem_of_getElem? (i := 1337) (by decide +kernel)⟩
theorem lw_p70 : lw_okq (⟨"PermitParkModel", "lowestLock", "(I)I"⟩, 21) := ⟨⟨by decide +kernel, by decide +kernel⟩, List.mem_of_getElem? (i := 998) (by decide +kernel), List.mem_of_getElem? (i := 1340) (by decide +kernel), List.mem_of_getElem? (i := 1341) (by decide +kernel)⟩
theorem lw_p71 : lw_okq (⟨"PermitParkModel", "giveUp", "(II)V"⟩, 21) := ⟨⟨by decide +kernel, by decide +kernel⟩, List.mem_of_getElem? (i := 998) (by decide +kernel), List.mem_of_getElem? (i := 1344) (by decide +kernel), List.mem_of_getElem? (i := 1345) (by decide +kernel)⟩
theorem lw_p72 : lw_okq (⟨"PermitParkModel", "successor", "(I)I"⟩, 21) := ⟨⟨by decide +kernel, by decide +kernel⟩, List.mem_of_getElem? (i := 998) (by decide +kernel), List.mem_of_getElem? (i := 1348) (by decide +kernel), List.mem_of_getElem? (i := 1349) (by decide +kernel)⟩
theorem lw_p73 : lw_okq (⟨"PermitParkModel", "goOn", "(I)V"⟩, 21) := ⟨⟨by decide +kernel, by decide +kernel⟩, List.mem_of_getElem? (i := 998) (by decide +kernel), List.mem_of_getElem? (i := 1352) (by decide +kernel), List.mem_of_getElem? (i := 1353) (by decide +kernel)⟩
theorem lw_p74 : lw_okq (⟨"PermitParkModel", "passTicks", "(I)V"⟩, 21) := ⟨⟨by decide +kernel, by decide +kernel⟩, List.mem_of_getElem? (i := 998) (by decide +kernel), List.mem_of_getElem? (i := 1368) (by decide +kernel), List.mem_of_getElem? (i := 1369) (by decide +kernel)⟩
theorem lw_p75 : lw_okq (⟨"PermitParkModel", "passTick", "()V"⟩, 21) := ⟨⟨by decide +kernel, by decide +kernel⟩, List.mem_of_getElem? (i := 998) (by decide +kernel), List.mem_of_getElem? (i := 1372) (by decide +kernel), List.mem_of_getElem? (i := 1373) (by decide +kernel)⟩
theorem lw_p76 : lw_okq (⟨"PermitParkModel", "wakeByTime", "()V"⟩, 21) := ⟨⟨by decide +kernel, by decide +kernel⟩, List.mem_of_getElem? (i := 998) (by decide +kernel), List.mem_of_getElem? (i := 1376) (by decide +kernel), List.mem_of_getElem? (i := 1377) (by decide +kernel)⟩
theorem lw_p77 : lw_okq (⟨"PermitParkModel", "nextDue", "()I"⟩, 21) := ⟨⟨by decide +kernel, by decide +kernel⟩, List.mem_of_getElem? (i := 998) (by decide +kernel), List.mem_of_getElem? (i := 1380) (by decide +kernel), List.mem_of_getElem? (i := 1381) (by decide +kernel)⟩
theorem lw_p78 : lw_okq (⟨"PermitParkModel", "draw", "(I)I"⟩, 21) := ⟨⟨by decide +kernel, by decide +kernel⟩, List.mem_of_getElem? (i := 998) (by decide +kernel), List.mem_of_getElem? (i := 1384) (by decide +kernel), List.mem_of_getElem? (i := 1385) (by decide +kernel)⟩
theorem lw_p79 : lw_okq (⟨"PermitParkModel", "chosen", "()I"⟩, 21) := ⟨⟨by decide +kernel, by decide +kernel⟩, List.mem_of_getElem? (i := 998) (by decide +kernel), List.mem_of_getElem? (i := 1391) (by decide +kernel), List.mem_of_getElem? (i := 1392) (by decide +kernel)⟩
def lw_privs_5 : List (MethodName × Nat) := [(⟨"PermitParkModel", "waiter", "(II)I"⟩, 21), (⟨"PermitParkModel", "wakeUp", "(II)I"⟩, 21), (⟨"PermitParkModel", "comeBack", "(II)V"⟩, 21), (⟨"PermitParkModel", "note", "(III)V"⟩, 21), (⟨"PermitParkModel", "endIfBehind", "(I)V"⟩, 21), (⟨"PermitParkModel", "settle", "()V"⟩, 21), (⟨"PermitParkModel", "lowestLock", "(I)I"⟩, 21), (⟨"PermitParkModel", "giveUp", "(II)V"⟩, 21), (⟨"PermitParkModel", "successor", "(I)I"⟩, 21), (⟨"PermitParkModel", "goOn", "(I)V"⟩, 21), (⟨"PermitParkModel", "passTicks", "(I)V"⟩, 21), (⟨"PermitParkModel", "passTick", "()V"⟩, 21), (⟨"PermitParkModel", "wakeByTime", "()V"⟩, 21), (⟨"PermitParkModel", "nextDue", "()I"⟩, 21), (⟨"PermitParkModel", "draw", "(I)I"⟩, 21), (⟨"PermitParkModel", "chosen", "()I"⟩, 21)]
theorem lw_r5 : ∀ q ∈ lw_privs_5, lw_okq q := List.forall_mem_cons.mpr ⟨lw_p64, List.forall_mem_cons.mpr ⟨lw_p65, List.forall_mem_cons.mpr ⟨lw_p66, List.forall_mem_cons.mpr ⟨lw_p67, List.forall_mem_cons.mpr ⟨lw_p68, List.forall_mem_cons.mpr ⟨lw_p69, List.forall_mem_cons.mpr ⟨lw_p70, List.forall_mem_cons.mpr ⟨lw_p71, List.forall_mem_cons.mpr ⟨lw_p72, List.forall_mem_cons.mpr ⟨lw_p73, List.forall_mem_cons.mpr ⟨lw_p74, List.forall_mem_cons.mpr ⟨lw_p75, List.forall_mem_cons.mpr ⟨lw_p76, List.forall_mem_cons.mpr ⟨lw_p77, List.forall_mem_cons.mpr ⟨lw_p78, List.forall_mem_cons.mpr ⟨lw_p79, fun _ h => absurd h List.not_mem_nil⟩⟩⟩⟩⟩⟩⟩⟩⟩⟩⟩⟩⟩⟩⟩⟩
theorem lw_p80 : lw_okq (⟨"PermitParkModel", "perform", "(I)V"⟩, 21) := ⟨⟨by decide +kernel, by decide +kernel⟩, List.mem_of_getElem? (i := 998) (by decide +kernel), List.mem_of_getElem? (i := 1395) (by decide +kernel), List.mem_of_getElem? (i := 1396) (by decide +kernel)⟩
theorem lw_p81 : lw_okq (⟨"PermitParkModel", "doRun", "(II)V"⟩, 21) := ⟨⟨by decide +kernel, by decide +kernel⟩, List.mem_of_getElem? (i := 998) (by decide +kernel), List.mem_of_getElem? (i := 1399) (by decide +kernel), List.mem_of_getElem? (i := 1400) (by decide +kernel)⟩
theorem lw_p82 : lw_okq (⟨"PermitParkModel", "finish", "(I)V"⟩, 21) := ⟨⟨by decide +kernel, by decide +kernel⟩, List.mem_of_getElem? (i := 998) (by decide +kernel), List.mem_of_getElem? (i := 1403) (by decide +kernel), List.mem_of_getElem? (i := 1404) (by decide +kernel)⟩
theorem lw_p83 : lw_okq (⟨"PermitParkModel", "park", "(II)V"⟩, 21) := ⟨⟨by decide +kernel, by decide +kernel⟩, List.mem_of_getElem? (i := 998) (by decide +kernel), List.mem_of_getElem? (i := 1407) (by decide +kernel), List.mem_of_getElem? (i := 1408) (by decide +kernel)⟩
theorem lw_p84 : lw_okq (⟨"PermitParkModel", "goBehind", "(I)V"⟩, 21) := ⟨⟨by decide +kernel, by decide +kernel⟩, List.mem_of_getElem? (i := 998) (by decide +kernel), List.mem_of_getElem? (i := 1411) (by decide +kernel), List.mem_of_getElem? (i := 1412) (by decide +kernel)⟩
theorem lw_p85 : lw_okq (⟨"PermitParkModel", "doAwait", "(II)V"⟩, 21) := ⟨⟨by decide +kernel, by decide +kernel⟩, List.mem_of_getElem? (i := 998) (by decide +kernel), List.mem_of_getElem? (i := 1415) (by decide +kernel), List.mem_of_getElem? (i := 1416) (by decide +kernel)⟩
theorem lw_p86 : lw_okq (⟨"PermitParkModel", "doWake", "(II)V"⟩, 21) := ⟨⟨by decide +kernel, by decide +kernel⟩, List.mem_of_getElem? (i := 998) (by decide +kernel), List.mem_of_getElem? (i := 1419) (by decide +kernel), List.mem_of_getElem? (i := 1420) (by decide +kernel)⟩
theorem lw_p87 : lw_okq (⟨"PermitParkModel", "doTell", "(II)V"⟩, 21) := ⟨⟨by decide +kernel, by decide +kernel⟩, List.mem_of_getElem? (i := 998) (by decide +kernel), List.mem_of_getElem? (i := 1423) (by decide +kernel), List.mem_of_getElem? (i := 1424) (by decide +kernel)⟩
theorem lw_p88 : lw_okq (⟨"PermitParkModel", "doSteal", "(II)V"⟩, 21) := ⟨⟨by decide +kernel, by decide +kernel⟩, List.mem_of_getElem? (i := 998) (by decide +kernel), List.mem_of_getElem? (i := 1427) (by decide +kernel), List.mem_of_getElem? (i := 1428) (by decide +kernel)⟩
theorem lw_p89 : lw_okq (⟨"PermitParkModel", "doLock", "(II)V"⟩, 21) := ⟨⟨by decide +kernel, by decide +kernel⟩, List.mem_of_getElem? (i := 998) (by decide +kernel), List.mem_of_getElem? (i := 1431) (by decide +kernel), List.mem_of_getElem? (i := 1432) (by decide +kernel)⟩
theorem lw_p90 : lw_okq (⟨"PermitParkModel", "fault", "(I)V"⟩, 21) := ⟨⟨by decide +kernel, by decide +kernel⟩, List.mem_of_getElem? (i := 998) (by decide +kernel), List.mem_of_getElem? (i := 1435) (by decide +kernel), List.mem_of_getElem? (i := 1436) (by decide +kernel)⟩
theorem lw_p91 : lw_okq (⟨"PermitParkModel", "doUnlock", "(II)V"⟩, 21) := ⟨⟨by decide +kernel, by decide +kernel⟩, List.mem_of_getElem? (i := 998) (by decide +kernel), List.mem_of_getElem? (i := 1439) (by decide +kernel), List.mem_of_getElem? (i := 1440) (by decide +kernel)⟩
theorem lw_p92 : lw_okq (⟨"PermitParkModel", "holderFor", "(I)I"⟩, 21) := ⟨⟨by decide +kernel, by decide +kernel⟩, List.mem_of_getElem? (i := 998) (by decide +kernel), List.mem_of_getElem? (i := 1451) (by decide +kernel), List.mem_of_getElem? (i := 1452) (by decide +kernel)⟩
theorem lw_p93 : lw_okq (⟨"PermitParkModel", "ticksToDone", "(II)I"⟩, 21) := ⟨⟨by decide +kernel, by decide +kernel⟩, List.mem_of_getElem? (i := 998) (by decide +kernel), List.mem_of_getElem? (i := 1471) (by decide +kernel), List.mem_of_getElem? (i := 1472) (by decide +kernel)⟩
theorem lw_p94 : lw_okq (⟨"PermitParkModel", "returnsOf", "(I)I"⟩, 21) := ⟨⟨by decide +kernel, by decide +kernel⟩, List.mem_of_getElem? (i := 998) (by decide +kernel), List.mem_of_getElem? (i := 1479) (by decide +kernel), List.mem_of_getElem? (i := 1480) (by decide +kernel)⟩
theorem lw_p95 : lw_okq (⟨"PermitParkModel", "allReturns", "()I"⟩, 21) := ⟨⟨by decide +kernel, by decide +kernel⟩, List.mem_of_getElem? (i := 998) (by decide +kernel), List.mem_of_getElem? (i := 1487) (by decide +kernel), List.mem_of_getElem? (i := 1488) (by decide +kernel)⟩
def lw_privs_6 : List (MethodName × Nat) := [(⟨"PermitParkModel", "perform", "(I)V"⟩, 21), (⟨"PermitParkModel", "doRun", "(II)V"⟩, 21), (⟨"PermitParkModel", "finish", "(I)V"⟩, 21), (⟨"PermitParkModel", "park", "(II)V"⟩, 21), (⟨"PermitParkModel", "goBehind", "(I)V"⟩, 21), (⟨"PermitParkModel", "doAwait", "(II)V"⟩, 21), (⟨"PermitParkModel", "doWake", "(II)V"⟩, 21), (⟨"PermitParkModel", "doTell", "(II)V"⟩, 21), (⟨"PermitParkModel", "doSteal", "(II)V"⟩, 21), (⟨"PermitParkModel", "doLock", "(II)V"⟩, 21), (⟨"PermitParkModel", "fault", "(I)V"⟩, 21), (⟨"PermitParkModel", "doUnlock", "(II)V"⟩, 21), (⟨"PermitParkModel", "holderFor", "(I)I"⟩, 21), (⟨"PermitParkModel", "ticksToDone", "(II)I"⟩, 21), (⟨"PermitParkModel", "returnsOf", "(I)I"⟩, 21), (⟨"PermitParkModel", "allReturns", "()I"⟩, 21)]
theorem lw_r6 : ∀ q ∈ lw_privs_6, lw_okq q := List.forall_mem_cons.mpr ⟨lw_p80, List.forall_mem_cons.mpr ⟨lw_p81, List.forall_mem_cons.mpr ⟨lw_p82, List.forall_mem_cons.mpr ⟨lw_p83, List.forall_mem_cons.mpr ⟨lw_p84, List.forall_mem_cons.mpr ⟨lw_p85, List.forall_mem_cons.mpr ⟨lw_p86, List.forall_mem_cons.mpr ⟨lw_p87, List.forall_mem_cons.mpr ⟨lw_p88, List.forall_mem_cons.mpr ⟨lw_p89, List.forall_mem_cons.mpr ⟨lw_p90, List.forall_mem_cons.mpr ⟨lw_p91, List.forall_mem_cons.mpr ⟨lw_p92, List.forall_mem_cons.mpr ⟨lw_p93, List.forall_mem_cons.mpr ⟨lw_p94, List.forall_mem_cons.mpr ⟨lw_p95, fun _ h => absurd h List.not_mem_nil⟩⟩⟩⟩⟩⟩⟩⟩⟩⟩⟩⟩⟩⟩⟩⟩
def lw_privs : List (MethodName × Nat) := lw_privs_1 ++ (lw_privs_2 ++ (lw_privs_3 ++ (lw_privs_4 ++ (lw_privs_5 ++ (lw_privs_6)))))
def lw_tbl : List Cond := k2_sels lw_privs ++ tables_1
theorem lw_privs_ok : ∀ q ∈ lw_privs, lw_okq q := by
  show ∀ q ∈ lw_privs_1 ++ (lw_privs_2 ++ (lw_privs_3 ++ (lw_privs_4 ++ (lw_privs_5 ++ (lw_privs_6))))), lw_okq q
  exact List.forall_mem_append.mpr ⟨lw_r1, List.forall_mem_append.mpr ⟨lw_r2, List.forall_mem_append.mpr ⟨lw_r3, List.forall_mem_append.mpr ⟨lw_r4, List.forall_mem_append.mpr ⟨lw_r5, lw_r6⟩⟩⟩⟩⟩
/-- the streams that the claim lets the run draw from -/
abbrev lw_cs : List Choice := [Jvm.Choice.named "NaN.bits"]
theorem lw_bits : nanBits ∈ lw_cs := by first | decide | exact List.mem_cons_self | simp [lw_cs, nanBits]
end
section
/-! ===== BEGIN words of one list among another's, by their places ===== -/
theorem goodIn_r {big : List Cond} (ws : List Cond) (ps : List Nat) (hp : ws = ps.filterMap (fun i => big[i]?)) (h : ws.all goodWord = true) : GoodIn big ws := by
  intro w hw
  have h1 := List.all_eq_true.mp h w hw
  rw [hp] at hw
  obtain ⟨i, -, hi⟩ := List.mem_filterMap.mp hw
  have hm : w ∈ big := by first | exact List.mem_of_getElem? hi | exact List.getElem?_mem hi
  exact ⟨hm, good_of_word h1⟩
theorem goodIn_app {big a b : List Cond} (ha : GoodIn big a) (hb : GoodIn big b) : GoodIn big (a ++ b) := fun w h => (List.mem_append.mp h).elim (ha w) (hb w)
theorem goodIn_ca {big a b : List Cond} {c : Cond} (ha : GoodIn big (c :: a)) (hb : GoodIn big b) : GoodIn big (c :: (a ++ b)) := fun w h => (List.mem_cons.mp h).elim (fun e => ha w (List.mem_cons.mpr (Or.inl e))) (fun h => (List.mem_append.mp h).elim (fun h => ha w (List.mem_cons.mpr (Or.inr h))) (hb w))
theorem goodIn_sub {big ws : List Cond} (hm : ∀ w ∈ ws, w ∈ big) (h : ws.all goodWord = true) : GoodIn big ws := fun w hw => ⟨hm w hw, good_of_word (List.all_eq_true.mp h w hw)⟩
/-! ===== END ===== -/

/-! ===== BEGIN exceptions that leave a method, and their catching by the caller (launches without stack traces) ===== -/
section VXA
/-! The laws vx_back, vx_callV, vx_callS, vx_callSW, vx_throw0, vx_throwS follow proofs of the library, with one case more: JvmDerived/Free/Laws.lean (Back.of_free), Shelf42/LK1.lean (callV, callS), Shelf/KitTraced.lean (throwNew0V, throwNewS). -/
/-- where a method has thrown q: the class by its name, the cell, what was written, the world -/
def vx_T (XC : String → State → State → Prop) (st : State) (q : Addr) (t : State) (mc ms : Nat) (free : Addr → Prop) : Prop :=
  ∃ (E : String) (ce : Cell) (L : List Loc), XC E st t ∧ t.heap[q]? = some ce ∧ ce.vm = .none ∧ st.vm.findClass E = some ce.cls ∧ st.WarmedH t.vm ∧ st.sameButNew ({ t with vm := st.vm } : State) L mc ms ∧ ∀ z ∈ L, free z.base
def vx_Q (Qc : Array Value → State → Outcome → State → Prop) (XC : String → State → State → Prop) (mc ms : Nat) (free : Addr → Prop) : Array Value → State → Outcome → State → Prop := fun a st o t =>
  (Qc a st o t ∧ ∃ L, FrameEnd st o t L mc ms ∧ ∀ q ∈ L, free q.base) ∨ ∃ q, o = .threw q ∧ vx_T XC st q t mc ms free
/-- a callee that returns or throws -/
def vx_Met (l : Launch) (y : MethodName) (ws : List Cond) (rm : Room) (Pc : Array Value → State → Prop) (Qc : Array Value → State → Outcome → State → Prop) (XC : String → State → State → Prop) (mc ms : Nat) (free : Addr → Prop) : Prop :=
  MetFree l y (headSpec ws rm) Pc (fun _ _ _ _ _ => True) (vx_Q Qc XC mc ms free)
def vx_Post (XC : String → State → State → Prop) (mc ms : Nat) (free : Addr → Prop) : Pt → Array Value → Addr → Pt → Prop := fun A a q B =>
  ∃ (g : JFrame) (mk : MethodId) (t : State) (L : List Loc) (E : String) (ce : Cell), B.U.heap = t.heap ∧ B.U.vm = t.vm ∧ XC E (A.U.calling g mk a) t ∧ t.heap[q]? = some ce ∧ ce.vm = .none ∧ A.U.vm.findClass E = some ce.cls ∧ B.locs = A.locs ++ L ∧ (∀ z ∈ L, free z.base) ∧ B.cells = A.cells + mc ∧ B.slots = A.slots + ms
def vx_Back (l : Launch) (R : Room) (p : Program) (e : Env) (below : List Frame) (s : State) (sargs : Array Value) (y : MethodName) (len W9 : Nat)
    (Pre : Pt → Array Value → Prop) (Post : Pt → Array Value → Option Value → Pt → Prop) (PostX : Pt → Array Value → Addr → Pt → Prop) : Prop :=
  ∀ (m : MethodId) (meth : Method) (c : Code) (A : Pt) (g : JFrame) (ig : Instr) (mk : MethodId) (a : Array Value),
    Stand p l e R s m sargs below meth c A.U A.locs A.cells A.slots → g.method = m → g.locals.size = c.maxLocals → decode c.code g.pc = .ok (ig, len) →
    2 * g.monitorRoom + (g.stack.map fun v => v.category).sum ≤ W9 → A.U.methodNamed? y = some mk → Pre A a →
    (∃ (v : Option Value) (B : Pt), Stand p l e R s m sargs below meth c B.U B.locs B.cells B.slots ∧ Post A a v B ∧
      Steps p.tables e below (doInvoke e (A.U.setTop g) [] mk a).1 (B.U.setTop { g with pc := g.pc + len, stack := v.toList ++ g.stack })) ∨
    (∃ (q : Addr) (B : Pt), Stand p l e R s m sargs below meth c B.U B.locs B.cells B.slots ∧ PostX A a q B ∧
      Steps p.tables e below (doInvoke e (A.U.setTop g) [] mk a).1 ((B.U.setTop g).pushFrame (.throwing q)))
section Payer
variable {l : Launch} {R : Room} {p : Program} {e : Env} {below : List Frame} {s : State} {sargs : Array Value} {y : MethodName} {len W9 : Nat}
theorem vx_back {ws : List Cond} {rm : Room} {Pc : Array Value → State → Prop} {Qc : Array Value → State → Outcome → State → Prop} {XC : String → State → State → Prop} {mc ms : Nat} {free : Addr → Prop} {bytes : ByteArray} {maxL : Nat} {ret : Option FieldType}
    (hM : vx_Met l y ws rm Pc Qc XC mc ms free) (hblind : FrameBlind Pc) (hrc : rm.cells = mc) (hrs : rm.slots = ms)
    (hframes : rm.frames + 1 ≤ R.frames) (hlocals : W9 + (maxL + 11) + rm.locals ≤ R.locals)
    (hws : ∀ w ∈ ws, ∀ a' U, s.WarmedH U.vm → w.before a' U = true) (hcode : Cond.code y bytes maxL ret ∈ ws) (hinit : ∀ a' U, s.WarmedH U.vm → (Cond.initialized y.cls).before a' U = true) :
    vx_Back l R p e below s sargs y len W9 (PreOf R mc ms Pc) (PostOf Qc mc ms free) (vx_Post XC mc ms free) := by
  intro m meth c A g ig mk a X hg hsize hdg hW hn hp
  have h1 : (headSpec ws rm).pre.before a A.U = true := atoms_intro fun w hw => hws w hw _ _ X.warmed
  have h2 : (Cond.code y bytes maxL ret).before a A.U = true := hws _ hcode _ _ X.warmed
  have h3 : (Cond.initialized y.cls).before a A.U = true := hinit _ _ X.warmed
  have h4 : A.cells + (headSpec ws rm).room.cells ≤ R.cells := by rw [show (headSpec ws rm).room.cells = mc from hrc]; exact hp.1
  have h5 : A.slots + (headSpec ws rm).room.slots ≤ R.slots := by rw [show (headSpec ws rm).room.slots = ms from hrs]; exact hp.2.1
  have hPc : Pc a (A.U.calling g mk a) := hblind _ _ _ _ hp.2.2
  obtain ⟨U, Ls, c0, s0⟩ := A
  dsimp only [Pt.U, Pt.locs, Pt.cells, Pt.slots] at h1 h2 h3 h4 h5 X hn hPc ⊢
  obtain ⟨methY, cY, hmY, hcY, -, hlY, -, -, -, -⟩ := Cond.code_spec hn h2
  obtain ⟨kY, hkY, -⟩ := className_of_methodNamed hn
  have hinitY : kY.init = .initialized := Cond.initialized_spec (findClass_of_methodNamed hn) hkY h3
  have h : At U g.method c below := by rw [hg]; exact X.here
  have hlocals9 : W9 + (maxL + 11) + (headSpec ws rm).room.locals ≤ R.locals := hlocals
  have happ : (headSpec ws rm).appliesLoose y e.platform (U.calling g mk a) = true :=
    Spec.appliesLoose_calling (g := g) h hdg hn hkY hinitY
      (X.room_calling (g := g) (R' := (headSpec ws rm).room) hsize hmY hcY hframes (by rw [hlY]; omega) h4 h5) h1
  obtain ⟨mid, hmid⟩ := h.above
  have hfr : (U.setTop g).frames = (.java g :: mid) ++ below := by rw [State.frames_setTop' g h.top, hmid]; rfl
  obtain ⟨o, s₂, hsteps, -, hend, hq⟩ := Steps.callFree hM p X.admits X.cas X.clock (acts := []) hfr happ hPc trivial
  have hq' : vx_Q Qc XC mc ms free a (U.calling g mk a) o s₂ := hq
  rw [State.frames_setTop' g h.top] at hend
  obtain ⟨g₀, hg0⟩ := Option.isSome_iff_exists.mp h.top
  obtain ⟨r, hr⟩ := State.topJava?_eq_some.mp hg0
  have hr' : (({ U with heap := s₂.heap, slotsUsed := s₂.slotsUsed } : State).setVm s₂.vm).frames = .java g₀ :: r := hr
  rcases hq' with ⟨hqc, L, hfe, hL⟩ | ⟨q, rfl, E, ce, L, hx, hce, hcv, hcl, hW₂, hsm, hL⟩
  · obtain ⟨⟨v, rfl⟩, hW₂, e2, q2, q3, q4, q5, q6⟩ := id hfe
    have e3 : s₂ = ({ (U.calling g mk a).setFrames s₂.frames with heap := s₂.heap, slotsUsed := s₂.slotsUsed } : State).setVm s₂.vm := by
      have : s₂ = ({ s₂ with vm := (U.calling g mk a).vm } : State).setVm s₂.vm := rfl
      rw [e2] at this
      exact this
    obtain ⟨c₂, i₂, len₂, hc₂, hd₂, hf₂⟩ := hend
    have hW' : U.WarmedH s₂.vm := hW₂
    have hcc : c₂ = c := by
      have h1 : s₂.code? g.method = U.code? g.method := by
        rw [State.code?_eq, State.code?_eq, hW'.alike.method?]
      exact Option.some.inj (hc₂.symm.trans (h1.trans h.code))
    subst hcc
    have hlen : len₂ = len := by rw [hdg] at hd₂; cases hd₂; rfl
    subst hlen
    have hs₂ : s₂ = (({ U with heap := s₂.heap, slotsUsed := s₂.slotsUsed } : State).setVm s₂.vm).setTop { g with pc := g.pc + len₂, stack := v.toList ++ g.stack } := by
      refine e3.trans ?_
      rw [hf₂, State.calling_eq h.top, State.setFrames_setFrames, State.setTop_of_frames _ hr', hr]
      rfl
    have hsame : U.sameButNew ({ U with heap := s₂.heap, slotsUsed := s₂.slotsUsed } : State) L mc ms := by
      refine ⟨?_, q2, q3, q4, q5, q6⟩
      obtain ⟨t, ht, -⟩ := State.frames_cons hr
      show ({ U with heap := s₂.heap, slotsUsed := s₂.slotsUsed } : State) = { U.setFrames U.frames with heap := s₂.heap, slotsUsed := s₂.slotsUsed }
      rw [State.setFrames_self ht]
    subst hg
    refine Or.inl ⟨v, ⟨(({ U with heap := s₂.heap, slotsUsed := s₂.slotsUsed } : State).setVm s₂.vm), Ls ++ L, c0 + mc, s0 + ms⟩,
      ⟨X.admits, X.cas, X.clock, X.frames, X.room, X.hears, X.method, X.code, (X.here.setHeapUsed s₂.heap s₂.slotsUsed).setVm hW'.alike, X.tail, State.WarmedH.trans X.warmed hW', X.limits, X.bytes, X.same.trans (hsame.setVm s.vm)⟩,
      ⟨g, mk, s₂, L, rfl, rfl, hqc, rfl, hL, rfl, rfl⟩, ?_⟩
    show Steps p.tables e below _ ((({ U with heap := s₂.heap, slotsUsed := s₂.slotsUsed } : State).setVm s₂.vm).setTop { g with pc := g.pc + len₂, stack := v.toList ++ g.stack })
    rw [← hs₂]
    exact hsteps
  · obtain ⟨e2, q2, q3, q4, q5, q6⟩ := id hsm
    have e3 : s₂ = ({ (U.calling g mk a).setFrames s₂.frames with heap := s₂.heap, slotsUsed := s₂.slotsUsed } : State).setVm s₂.vm := by
      have : s₂ = ({ s₂ with vm := (U.calling g mk a).vm } : State).setVm s₂.vm := rfl
      rw [e2] at this
      exact this
    have hf₂ : s₂.frames = .throwing q :: .java g :: U.frames.tail := hend
    have hW' : U.WarmedH s₂.vm := hW₂
    have hs₂ : s₂ = ((({ U with heap := s₂.heap, slotsUsed := s₂.slotsUsed } : State).setVm s₂.vm).setTop g).pushFrame (.throwing q) := by
      refine e3.trans ?_
      rw [hf₂, State.calling_eq h.top, State.setFrames_setFrames, State.pushFrame, State.frames_setTop _ hr', State.setTop_of_frames _ hr', State.setFrames_setFrames, hr]
      rfl
    have hsame : U.sameButNew ({ U with heap := s₂.heap, slotsUsed := s₂.slotsUsed } : State) L mc ms := by
      refine ⟨?_, q2, q3, q4, q5, q6⟩
      obtain ⟨t, ht, -⟩ := State.frames_cons hr
      show ({ U with heap := s₂.heap, slotsUsed := s₂.slotsUsed } : State) = { U.setFrames U.frames with heap := s₂.heap, slotsUsed := s₂.slotsUsed }
      rw [State.setFrames_self ht]
    subst hg
    refine Or.inr ⟨q, ⟨(({ U with heap := s₂.heap, slotsUsed := s₂.slotsUsed } : State).setVm s₂.vm), Ls ++ L, c0 + mc, s0 + ms⟩,
      ⟨X.admits, X.cas, X.clock, X.frames, X.room, X.hears, X.method, X.code, (X.here.setHeapUsed s₂.heap s₂.slotsUsed).setVm hW'.alike, X.tail, State.WarmedH.trans X.warmed hW', X.limits, X.bytes, X.same.trans (hsame.setVm s.vm)⟩,
      ⟨g, mk, s₂, L, E, ce, rfl, rfl, hx, hce, hcv, hcl, rfl, hL, rfl, rfl⟩, ?_⟩
    show Steps p.tables e below _ (((({ U with heap := s₂.heap, slotsUsed := s₂.slotsUsed } : State).setVm s₂.vm).setTop g).pushFrame (.throwing q))
    rw [← hs₂]
    exact hsteps
end Payer
section Calls
variable {p : Program} {l : Launch} {e : Env} {R : Room} {s : State} {m : MethodId} {args : Array Value} {below : List Frame} {meth : Method} {c : Code} {T : State} {locs : List Loc} {cells slots : Nat}
theorem vx_callV (X : Stand p l e R s m args below meth c T locs cells slots) (hexec : p.tables.exec = Jvm.exec) {own C : String} {index : Nat} {y : MethodName} {bytes : ByteArray} {maxL : Nat} {ret : Option FieldType}
    (hown : s.vm.findClass own = some m.cls) (hlink : (Cond.methodLink own index y).before args s = true) (hinst : (Cond.instanceMethod y).before args s = true) (hsel : (Cond.selects C y y).before args s = true)
    (hcode : (Cond.code y bytes maxL ret).before args s = true) (hy : y.cls ≠ "java/lang/invoke/MethodHandle" ∧ y.cls ≠ "java/lang/invoke/VarHandle")
    {W9 : Nat} {Pre : Pt → Array Value → Prop} {Post : Pt → Array Value → Option Value → Pt → Prop} {PostX : Pt → Array Value → Addr → Pt → Prop} (hK : vx_Back l R p e below s args y 3 W9 Pre Post PostX)
    {b : Addr} {cellB : Cell} (hcell : T.heap[b]? = some cellB) (hobj : cellB.vm.isStatics = false) (hcls : s.vm.findClass C = some cellB.cls)
    {g : JFrame} (hg : g.method = m) (hsize : g.locals.size = c.maxLocals) {argsL rest : List Value} (hlen : ∀ sig, parseMethodDescriptor y.desc = some sig → argsL.length = sig.parameters.length)
    (hstack : g.stack = argsL.reverse ++ .ref b :: rest) (hW : 2 * g.monitorRoom + (rest.map fun v => v.category).sum ≤ W9) (hdg : decode c.code g.pc = .ok (.invokevirtual index, 3))
    (hpre : ∀ vm₁, s.WarmedH vm₁ → Pre ⟨T.setVm vm₁, locs, cells, slots⟩ (Value.ref b :: argsL).toArray) :
    (∃ (v : Option Value) (vm₁ : Vm) (B : Pt), s.WarmedH vm₁ ∧ Stand p l e R s m args below meth c B.U B.locs B.cells B.slots ∧ Post ⟨T.setVm vm₁, locs, cells, slots⟩ (Value.ref b :: argsL).toArray v B ∧
      ∀ target, Steps p.tables e below (B.U.setTop { g with pc := g.pc + 3, stack := v.toList ++ rest }) target → Steps p.tables e below (T.setTop g) target) ∨
    (∃ (q : Addr) (vm₁ : Vm) (B : Pt), s.WarmedH vm₁ ∧ Stand p l e R s m args below meth c B.U B.locs B.cells B.slots ∧ PostX ⟨T.setVm vm₁, locs, cells, slots⟩ (Value.ref b :: argsL).toArray q B ∧
      Steps p.tables e below (T.setTop g) ((B.U.setTop { g with stack := rest }).pushFrame (.throwing q))) := by
  obtain ⟨mk, methM, hnamed, hmethM, hstM, habM⟩ := Cond.instanceMethod_spec hinst
  obtain ⟨methM', cM, hmethM', -, -, -, -, -, -, hsigM⟩ := Cond.code_spec hnamed hcode
  cases hmethM.symm.trans hmethM'
  obtain ⟨c2, r2, m2, q1, q2, q3, q4, kP, hkP, hkPi⟩ := Cond.selects_spec hsel
  cases hcls.symm.trans q1
  cases (State.methodFound?_of_named hnamed hy).symm.trans q2
  cases hnamed.symm.trans q3
  have hselP : selectMethod e.platform s.vm cellB.cls mk = .method mk := by rw [Launch.admits_selectMethod X.admits]; exact q4
  obtain ⟨vm₁, X₁, hstep₁⟩ := X.invokevirtual hexec hown hlink hnamed hmethM hstM hkP hkPi hy (a := b) (cell := cellB) hcell
    (fun z h => by rw [h] at hobj; cases hobj) hselP hmethM habM hkP hkPi (g := g) hg (argsL := argsL) (rest := rest) (hlen _ hsigM) hstack hdg
  rcases hK m meth c ⟨T.setVm vm₁, locs, cells, slots⟩ { g with stack := rest } (.invokevirtual index) mk (Value.ref b :: argsL).toArray X₁ hg hsize hdg hW (X₁.named hnamed) (hpre vm₁ X₁.warmed) with ⟨v, B, X', hpost, hsteps⟩ | ⟨q, B, X', hpost, hsteps⟩
  · exact Or.inl ⟨v, vm₁, B, X₁.warmed, X', hpost, fun target h => hstep₁ _ fun acts => by rw [doInvoke_state]; exact hsteps.trans h⟩
  · exact Or.inr ⟨q, vm₁, B, X₁.warmed, X', hpost, hstep₁ _ fun acts => by rw [doInvoke_state]; exact hsteps⟩
theorem vx_callS (X : Stand p l e R s m args below meth c T locs cells slots) (hexec : p.tables.exec = Jvm.exec) {own : String} {index : Nat} {y : MethodName} {bytes : ByteArray} {maxL : Nat} {ret : Option FieldType}
    (hown : s.vm.findClass own = some m.cls) (hlink : (Cond.methodLink own index y).before args s = true) (hstat : (Cond.static y).before args s = true) (hinit : (Cond.initialized y.cls).before args s = true)
    (hcode : (Cond.code y bytes maxL ret).before args s = true) (hy : y.cls ≠ "java/lang/invoke/MethodHandle" ∧ y.cls ≠ "java/lang/invoke/VarHandle")
    {W9 : Nat} {Pre : Pt → Array Value → Prop} {Post : Pt → Array Value → Option Value → Pt → Prop} {PostX : Pt → Array Value → Addr → Pt → Prop} (hK : vx_Back l R p e below s args y 3 W9 Pre Post PostX)
    {g : JFrame} (hg : g.method = m) (hsize : g.locals.size = c.maxLocals) {argsL rest : List Value} (hlen : ∀ sig, parseMethodDescriptor y.desc = some sig → argsL.length = sig.parameters.length)
    (hstack : g.stack = argsL.reverse ++ rest) (hW : 2 * g.monitorRoom + (rest.map fun v => v.category).sum ≤ W9) (hdg : decode c.code g.pc = .ok (.invokestatic index, 3))
    (hpre : ∀ vm₁, s.WarmedH vm₁ → Pre ⟨T.setVm vm₁, locs, cells, slots⟩ argsL.toArray) :
    (∃ (v : Option Value) (vm₁ : Vm) (B : Pt), s.WarmedH vm₁ ∧ Stand p l e R s m args below meth c B.U B.locs B.cells B.slots ∧ Post ⟨T.setVm vm₁, locs, cells, slots⟩ argsL.toArray v B ∧
      ∀ target, Steps p.tables e below (B.U.setTop { g with pc := g.pc + 3, stack := v.toList ++ rest }) target → Steps p.tables e below (T.setTop g) target) ∨
    (∃ (q : Addr) (vm₁ : Vm) (B : Pt), s.WarmedH vm₁ ∧ Stand p l e R s m args below meth c B.U B.locs B.cells B.slots ∧ PostX ⟨T.setVm vm₁, locs, cells, slots⟩ argsL.toArray q B ∧
      Steps p.tables e below (T.setTop g) ((B.U.setTop { g with stack := rest }).pushFrame (.throwing q))) := by
  obtain ⟨mk, hnamed⟩ := Cond.code_named hcode
  obtain ⟨methM, cM, hmethM, -, -, -, -, -, -, hsigM⟩ := Cond.code_spec hnamed hcode
  have hstatic : methM.isStatic = true := Cond.static_spec hnamed hmethM hstat
  obtain ⟨kP, hkP, -⟩ := className_of_methodNamed hnamed
  have hinitP : kP.init = .initialized := Cond.initialized_spec (findClass_of_methodNamed hnamed) hkP hinit
  obtain ⟨vm₁, X₁, hstep₁⟩ := X.invokestatic hexec hown hlink hnamed hmethM hstatic hkP hinitP hy (g := g) hg (argsL := argsL) (rest := rest) (hlen _ hsigM) hstack hdg
  rcases hK m meth c ⟨T.setVm vm₁, locs, cells, slots⟩ { g with stack := rest } (.invokestatic index) mk argsL.toArray X₁ hg hsize hdg hW (X₁.named hnamed) (hpre vm₁ X₁.warmed) with ⟨v, B, X', hpost, hsteps⟩ | ⟨q, B, X', hpost, hsteps⟩
  · exact Or.inl ⟨v, vm₁, B, X₁.warmed, X', hpost, fun target h => hstep₁ _ fun acts => by rw [doInvoke_state]; exact hsteps.trans h⟩
  · exact Or.inr ⟨q, vm₁, B, X₁.warmed, X', hpost, hstep₁ _ fun acts => by rw [doInvoke_state]; exact hsteps⟩
end Calls
theorem vx_cls {s : State} {T : State} {vm₁ : Vm} {E : String} {k : ClassId} (hW : s.WarmedH vm₁) (h : (T.setVm vm₁).vm.findClass E = some k) : s.vm.findClass E = some k := by
  have h1 : vm₁.findClass E = some k := h
  rw [hW.alike.findClass] at h1
  exact h1
/-- the method's frame g, with q thrown over it -/
def vx_W (p : Program) (l : Launch) (e : Env) (R : Room) (s : State) (m : MethodId) (args : Array Value) (below : List Frame) (meth : Method) (c : Code) (H : Heap) (locs : List Loc) (cells slots : Nat) (Q : State → Prop) (g : JFrame) (q : Addr) : Prop :=
  ∀ T : State, T.heap = H → Stand p l e R s m args below meth c T locs cells slots → ∃ t, Steps p.tables e below ((T.setTop g).pushFrame (.throwing q)) t ∧ Q t
def vx_Run (p : Program) (l : Launch) (e : Env) (R : Room) (s : State) (m : MethodId) (args : Array Value) (below : List Frame) (meth : Method) (c : Code) (H : Heap) (locs : List Loc) (cells slots mc ms : Nat) (g : JFrame) (rest : List Value) (Qa : State → Outcome → State → Prop) (XC : String → State → State → Prop) (free : Addr → Prop) : Prop :=
  ∀ T : State, T.heap = H → Stand p l e R s m args below meth c T locs cells slots →
    (∃ (v : Option Value) (st₀ t T' : State) (L : List Loc), st₀.heap = H ∧ Stand p l e R s m args below meth c T' (locs ++ L) (cells + mc) (slots + ms) ∧ (∀ q ∈ L, free q.base) ∧ T'.heap = t.heap ∧ T'.vm = t.vm ∧ Qa st₀ (.returned v) t ∧
      Goes p e below T g T' { g with pc := g.pc + 3, stack := v.toList ++ rest }) ∨
    (∃ (q : Addr) (st₀ t T' : State) (L : List Loc) (E : String) (ce : Cell), st₀.heap = H ∧ Stand p l e R s m args below meth c T' (locs ++ L) (cells + mc) (slots + ms) ∧ (∀ z ∈ L, free z.base) ∧ T'.heap = t.heap ∧ T'.vm = t.vm ∧ XC E st₀ t ∧ t.heap[q]? = some ce ∧ ce.vm = .none ∧ s.vm.findClass E = some ce.cls ∧
      Steps p.tables e below (T.setTop g) ((T'.setTop { g with stack := rest }).pushFrame (.throwing q)))
def vx_X {S : Type} (px : S → Prop) (B : String → S → State → Prop) (A : Nat → Prop) : String → State → State → Prop := fun E st t => ∃ u : S, px u ∧ B E u t ∧ va_F A st t
section Runs
variable {p : Program} {l : Launch} {e : Env} {R : Room} {s : State} {m : MethodId} {args : Array Value} {below : List Frame} {meth : Method} {c : Code} {H : Heap} {locs : List Loc} {cells slots : Nat}
variable {y : MethodName} {bytes cc : ByteArray} {maxL nL mc ms n index : Nat} {ret : Option FieldType} {ws : List Cond} {rm : Room} {Pc : Array Value → State → Prop} {Qc : Array Value → State → Outcome → State → Prop} {XC : String → State → State → Prop} {free : Addr → Prop} {Ts : List Cond} {own C : String} {b : Addr} {As rest : List Value} {g : JFrame}
theorem vx_callBack (cb : CallB R s args own index y bytes maxL ret ws rm mc ms n) (hM : vx_Met l y ws rm Pc Qc XC mc ms free) (hbl : FrameBlind Pc) : vx_Back l R p e below s args y 3 8 (PreOf R mc ms Pc) (PostOf Qc mc ms free) (vx_Post XC mc ms free) := by
  obtain ⟨hrc, hrs, hfr, hlo, hws, hcw, -, hini, -⟩ := cb
  exact vx_back (bytes := bytes) (maxL := maxL) (ret := ret) hM hbl hrc hrs hfr hlo hws hcw (fun a' U hW => word_at hW (Or.inl (by first | rfl | simp [Cond.onTables, Cond.keeps, Cond.steady])) hini)
theorem vx_runV (S : CallFix p m c cc nL s args Ts own) (hM : vx_Met l y ws rm Pc Qc XC mc ms free) (cw : CallW R s args own C index y bytes maxL ret ws rm mc ms n) (hp : PreV s H C b Pc As)
    (hg : g.method = m) (hn : As.length = n) (hsize : g.locals.size = nL) (hstack : g.stack = As.reverse ++ .ref b :: rest) (hW : 2 * g.monitorRoom + (rest.map fun v => v.category).sum ≤ 8) (hdg : decode cc g.pc = .ok (.invokevirtual index, 3)) (hf : cells + mc ≤ R.cells ∧ slots + ms ≤ R.slots) :
    vx_Run p l e R s m args below meth c H locs cells slots mc ms g rest (Qc (Value.ref b :: As).toArray) XC free := by
  have hK : vx_Back l R p e below s args y 3 8 (PreOf R mc ms Pc) (PostOf Qc mc ms free) (vx_Post XC mc ms free) := vx_callBack cw.1 hM hp.1
  obtain ⟨⟨-, -, -, -, -, -, hcode, -, hy, hlen, hl⟩, hin, hse⟩ := cw
  obtain ⟨hx, hb, hml, ho, -⟩ := S
  obtain ⟨-, ⟨cellB, hcB, hoB, hclB⟩, hPc⟩ := hp
  intro T hT X
  rcases vx_callV X hx (C := C) (bytes := bytes) (maxL := maxL) (ret := ret) ho hl hin hse hcode hy hK (by rw [hT]; exact hcB) hoB hclB hg (hsize.trans hml.symm) (argsL := As) (rest := rest) (fun sig h => hn.trans (hlen sig h)) hstack hW (by rw [hb]; exact hdg)
    (fun vm₁ hW₁ => ⟨hf.1, hf.2, hPc (T.setVm vm₁) hT hW₁⟩) with ⟨v, vm₁, ⟨U', l2, c2, s2⟩, hW₁, X', ⟨g', mk, t, L, e1, e2, hq, h1, hL, h2, h3⟩, st⟩ | ⟨q, vm₁, ⟨U', l2, c2, s2⟩, hW₁, X', ⟨g', mk, t, L, E, ce, e1, e2, hq, hce, hcv, hcl, h1, hL, h2, h3⟩, st⟩
  · dsimp only [Pt.U, Pt.locs, Pt.cells, Pt.slots] at X' e1 e2 h1 h2 h3 st
    subst h1; subst h2; subst h3
    exact Or.inl ⟨v, (T.setVm vm₁).calling g' mk (Value.ref b :: As).toArray, t, U', L, hT, X', hL, e1, e2, hq, st⟩
  · dsimp only [Pt.U, Pt.locs, Pt.cells, Pt.slots] at X' e1 e2 h1 h2 h3 st hcl
    subst h1; subst h2; subst h3
    exact Or.inr ⟨q, (T.setVm vm₁).calling g' mk (Value.ref b :: As).toArray, t, U', L, E, ce, hT, X', hL, e1, e2, hq, hce, hcv, vx_cls hW₁ hcl, st⟩
theorem vx_runS (S : CallFix p m c cc nL s args Ts own) (hM : vx_Met l y ws rm Pc Qc XC mc ms free) (cw : CallB R s args own index y bytes maxL ret ws rm mc ms n ∧ (Cond.static y).before args s = true) (hp : PreS s H Pc As)
    (hg : g.method = m) (hn : As.length = n) (hsize : g.locals.size = nL) (hstack : g.stack = As.reverse ++ rest) (hW : 2 * g.monitorRoom + (rest.map fun v => v.category).sum ≤ 8) (hdg : decode cc g.pc = .ok (.invokestatic index, 3)) (hf : cells + mc ≤ R.cells ∧ slots + ms ≤ R.slots) :
    vx_Run p l e R s m args below meth c H locs cells slots mc ms g rest (Qc As.toArray) XC free := by
  have hK : vx_Back l R p e below s args y 3 8 (PreOf R mc ms Pc) (PostOf Qc mc ms free) (vx_Post XC mc ms free) := vx_callBack cw.1 hM hp.1
  obtain ⟨⟨-, -, -, -, -, -, hcode, hini, hy, hlen, hl⟩, hstt⟩ := cw
  obtain ⟨hx, hb, hml, ho, -⟩ := S
  intro T hT X
  rcases vx_callS X hx (bytes := bytes) (maxL := maxL) (ret := ret) ho hl hstt hini hcode hy hK hg (hsize.trans hml.symm) (argsL := As) (rest := rest) (fun sig h => hn.trans (hlen sig h)) hstack hW (by rw [hb]; exact hdg)
    (fun vm₁ hW₁ => ⟨hf.1, hf.2, hp.2 (T.setVm vm₁) hT hW₁⟩) with ⟨v, vm₁, ⟨U', l2, c2, s2⟩, hW₁, X', ⟨g', mk, t, L, e1, e2, hq, h1, hL, h2, h3⟩, st⟩ | ⟨q, vm₁, ⟨U', l2, c2, s2⟩, hW₁, X', ⟨g', mk, t, L, E, ce, e1, e2, hq, hce, hcv, hcl, h1, hL, h2, h3⟩, st⟩
  · dsimp only [Pt.U, Pt.locs, Pt.cells, Pt.slots] at X' e1 e2 h1 h2 h3 st
    subst h1; subst h2; subst h3
    exact Or.inl ⟨v, (T.setVm vm₁).calling g' mk As.toArray, t, U', L, hT, X', hL, e1, e2, hq, st⟩
  · dsimp only [Pt.U, Pt.locs, Pt.cells, Pt.slots] at X' e1 e2 h1 h2 h3 st hcl
    subst h1; subst h2; subst h3
    exact Or.inr ⟨q, (T.setVm vm₁).calling g' mk As.toArray, t, U', L, E, ce, hT, X', hL, e1, e2, hq, hce, hcv, vx_cls hW₁ hcl, st⟩
end Runs
section Rows
variable {p : Program} {l : Launch} {e : Env} {R : Room} {s : State} {m : MethodId} {args : Array Value} {below : List Frame} {meth : Method} {c : Code} {H : Heap} {locs : List Loc} {cells slots : Nat} {Q : State → Prop}
variable {mc ms : Nat} {free : Addr → Prop} {A0 A1 : Nat → Prop} {H0 : Heap} {a : Array Value} {pc : Nat} {ls : Array Slot} {st0 rest : List Value}
theorem vx_keep {st₀ t T' : State} {L : List Loc} (h0 : st₀.heap = H) (e1 : T'.heap = t.heap) (hS : va_S A0 H0 H locs) (hA : ∀ q, q < H.size → A1 q → A0 q) (hf : ∀ q, free q → A0 q) (hL : ∀ q ∈ L, free q.base) (hF : va_F A1 st₀ t) :
    H.size ≤ T'.heap.size ∧ (∀ q : Nat, q < H.size → ¬ A1 q → T'.heap[q]? = H[q]?) ∧ va_S A0 H0 T'.heap (locs ++ L) := by
  obtain ⟨hz, hk⟩ := hF
  rw [h0] at hz hk
  exact ⟨by rw [e1]; exact hz, fun q h1 h2 => by rw [e1]; exact hk q h1 h2,
    ⟨Nat.le_trans hS.1 (by rw [e1]; exact hz), fun q h1 h2 => by rw [e1, hk q (Nat.lt_of_lt_of_le h1 hS.1) (fun z => h2 (hA q (Nat.lt_of_lt_of_le h1 hS.1) z))]; exact hS.2.1 q h1 h2, fun q hq => by
      rcases List.mem_append.mp hq with h | h
      · exact hS.2.2 q h
      · exact hf _ (hL q h)⟩⟩
theorem vx_calli {S SX : Type} {post : Int32 → S → Prop} {px : SX → Prop} {B : S → State → Prop} {BX : String → SX → State → Prop} {AX : Nat → Prop} (hr : vx_Run p l e R s m args below meth c H locs cells slots mc ms (F0 m pc ls st0) rest (va_Qi post B A1 a) (vx_X px BX AX) free) (hS : va_S A0 H0 H locs) (hA : ∀ q, q < H.size → A1 q → A0 q) (hf : ∀ q, free q → A0 q) (hAX : ∀ q, q < H.size → AX q → A0 q)
    (kx : ∀ (E : String) (ce : Cell) (q9 : Addr) (u : SX) (t : State) (H1 : Heap) (locs1 : List Loc), t.heap = H1 → s.vm.Alike t.vm → px u → BX E u t → H.size ≤ H1.size → (∀ q : Nat, q < H.size → ¬ AX q → H1[q]? = H[q]?) → va_S A0 H0 H1 locs1 → H1[q9]? = some ce → ce.vm = .none → s.vm.findClass E = some ce.cls → vx_W p l e R s m args below meth c H1 locs1 (cells + mc) (slots + ms) Q (F0 m pc ls rest) q9)
    (kk : ∀ (r : Int32) (u : S) (t : State) (H1 : Heap) (locs1 : List Loc), t.heap = H1 → s.vm.Alike t.vm → post r u → B u t → H.size ≤ H1.size → (∀ q : Nat, q < H.size → ¬ A1 q → H1[q]? = H[q]?) → va_S A0 H0 H1 locs1 → W p l e R s m args below meth c H1 locs1 (cells + mc) (slots + ms) Q (F0 m (pc + 3) ls (.int r :: rest))) : W p l e R s m args below meth c H locs cells slots Q (F0 m pc ls st0) := by
  intro T hT X
  rcases hr T hT X with ⟨v, st₀, t, T', L, h0, X', hL, e1, e2, ⟨⟨r, u, hv, hp, hb⟩, hF⟩, st⟩ | ⟨q, st₀, t, T', L, E, ce, h0, X', hL, e1, e2, ⟨u, hp, hb, hF⟩, hce, hcv, hcl, st⟩
  · cases hv
    obtain ⟨k1, k2, k3⟩ := vx_keep h0 e1 hS hA hf hL hF
    obtain ⟨t2, a1, b1⟩ := kk r u t T'.heap (locs ++ L) e1.symm (by rw [← e2]; exact X'.warmed.alike) hp hb k1 k2 k3 T' rfl X'
    exact ⟨t2, st t2 a1, b1⟩
  · obtain ⟨k1, k2, k3⟩ := vx_keep h0 e1 hS hAX hf hL hF
    obtain ⟨t2, a1, b1⟩ := kx E ce q u t T'.heap (locs ++ L) e1.symm (by rw [← e2]; exact X'.warmed.alike) hp hb k1 k2 k3 (by rw [e1]; exact hce) hcv hcl T' rfl X'
    exact ⟨t2, st.trans a1, b1⟩
theorem vx_calll {S SX : Type} {post : Int64 → S → Prop} {px : SX → Prop} {B : S → State → Prop} {BX : String → SX → State → Prop} {AX : Nat → Prop} (hr : vx_Run p l e R s m args below meth c H locs cells slots mc ms (F0 m pc ls st0) rest (va_Ql post B A1 a) (vx_X px BX AX) free) (hS : va_S A0 H0 H locs) (hA : ∀ q, q < H.size → A1 q → A0 q) (hf : ∀ q, free q → A0 q) (hAX : ∀ q, q < H.size → AX q → A0 q)
    (kx : ∀ (E : String) (ce : Cell) (q9 : Addr) (u : SX) (t : State) (H1 : Heap) (locs1 : List Loc), t.heap = H1 → s.vm.Alike t.vm → px u → BX E u t → H.size ≤ H1.size → (∀ q : Nat, q < H.size → ¬ AX q → H1[q]? = H[q]?) → va_S A0 H0 H1 locs1 → H1[q9]? = some ce → ce.vm = .none → s.vm.findClass E = some ce.cls → vx_W p l e R s m args below meth c H1 locs1 (cells + mc) (slots + ms) Q (F0 m pc ls rest) q9)
    (kk : ∀ (r : Int64) (u : S) (t : State) (H1 : Heap) (locs1 : List Loc), t.heap = H1 → s.vm.Alike t.vm → post r u → B u t → H.size ≤ H1.size → (∀ q : Nat, q < H.size → ¬ A1 q → H1[q]? = H[q]?) → va_S A0 H0 H1 locs1 → W p l e R s m args below meth c H1 locs1 (cells + mc) (slots + ms) Q (F0 m (pc + 3) ls (.long r :: rest))) : W p l e R s m args below meth c H locs cells slots Q (F0 m pc ls st0) := by
  intro T hT X
  rcases hr T hT X with ⟨v, st₀, t, T', L, h0, X', hL, e1, e2, ⟨⟨r, u, hv, hp, hb⟩, hF⟩, st⟩ | ⟨q, st₀, t, T', L, E, ce, h0, X', hL, e1, e2, ⟨u, hp, hb, hF⟩, hce, hcv, hcl, st⟩
  · cases hv
    obtain ⟨k1, k2, k3⟩ := vx_keep h0 e1 hS hA hf hL hF
    obtain ⟨t2, a1, b1⟩ := kk r u t T'.heap (locs ++ L) e1.symm (by rw [← e2]; exact X'.warmed.alike) hp hb k1 k2 k3 T' rfl X'
    exact ⟨t2, st t2 a1, b1⟩
  · obtain ⟨k1, k2, k3⟩ := vx_keep h0 e1 hS hAX hf hL hF
    obtain ⟨t2, a1, b1⟩ := kx E ce q u t T'.heap (locs ++ L) e1.symm (by rw [← e2]; exact X'.warmed.alike) hp hb k1 k2 k3 (by rw [e1]; exact hce) hcv hcl T' rfl X'
    exact ⟨t2, st.trans a1, b1⟩
theorem vx_callf {S SX : Type} {post : UInt32 → S → Prop} {px : SX → Prop} {B : S → State → Prop} {BX : String → SX → State → Prop} {AX : Nat → Prop} (hr : vx_Run p l e R s m args below meth c H locs cells slots mc ms (F0 m pc ls st0) rest (va_Qf post B A1 a) (vx_X px BX AX) free) (hS : va_S A0 H0 H locs) (hA : ∀ q, q < H.size → A1 q → A0 q) (hf : ∀ q, free q → A0 q) (hAX : ∀ q, q < H.size → AX q → A0 q)
    (kx : ∀ (E : String) (ce : Cell) (q9 : Addr) (u : SX) (t : State) (H1 : Heap) (locs1 : List Loc), t.heap = H1 → s.vm.Alike t.vm → px u → BX E u t → H.size ≤ H1.size → (∀ q : Nat, q < H.size → ¬ AX q → H1[q]? = H[q]?) → va_S A0 H0 H1 locs1 → H1[q9]? = some ce → ce.vm = .none → s.vm.findClass E = some ce.cls → vx_W p l e R s m args below meth c H1 locs1 (cells + mc) (slots + ms) Q (F0 m pc ls rest) q9)
    (kk : ∀ (r : UInt32) (u : S) (t : State) (H1 : Heap) (locs1 : List Loc), t.heap = H1 → s.vm.Alike t.vm → post r u → B u t → H.size ≤ H1.size → (∀ q : Nat, q < H.size → ¬ A1 q → H1[q]? = H[q]?) → va_S A0 H0 H1 locs1 → W p l e R s m args below meth c H1 locs1 (cells + mc) (slots + ms) Q (F0 m (pc + 3) ls (.float r :: rest))) : W p l e R s m args below meth c H locs cells slots Q (F0 m pc ls st0) := by
  intro T hT X
  rcases hr T hT X with ⟨v, st₀, t, T', L, h0, X', hL, e1, e2, ⟨⟨r, u, hv, hp, hb⟩, hF⟩, st⟩ | ⟨q, st₀, t, T', L, E, ce, h0, X', hL, e1, e2, ⟨u, hp, hb, hF⟩, hce, hcv, hcl, st⟩
  · cases hv
    obtain ⟨k1, k2, k3⟩ := vx_keep h0 e1 hS hA hf hL hF
    obtain ⟨t2, a1, b1⟩ := kk r u t T'.heap (locs ++ L) e1.symm (by rw [← e2]; exact X'.warmed.alike) hp hb k1 k2 k3 T' rfl X'
    exact ⟨t2, st t2 a1, b1⟩
  · obtain ⟨k1, k2, k3⟩ := vx_keep h0 e1 hS hAX hf hL hF
    obtain ⟨t2, a1, b1⟩ := kx E ce q u t T'.heap (locs ++ L) e1.symm (by rw [← e2]; exact X'.warmed.alike) hp hb k1 k2 k3 (by rw [e1]; exact hce) hcv hcl T' rfl X'
    exact ⟨t2, st.trans a1, b1⟩
theorem vx_calld {S SX : Type} {post : UInt64 → S → Prop} {px : SX → Prop} {B : S → State → Prop} {BX : String → SX → State → Prop} {AX : Nat → Prop} (hr : vx_Run p l e R s m args below meth c H locs cells slots mc ms (F0 m pc ls st0) rest (va_Qd post B A1 a) (vx_X px BX AX) free) (hS : va_S A0 H0 H locs) (hA : ∀ q, q < H.size → A1 q → A0 q) (hf : ∀ q, free q → A0 q) (hAX : ∀ q, q < H.size → AX q → A0 q)
    (kx : ∀ (E : String) (ce : Cell) (q9 : Addr) (u : SX) (t : State) (H1 : Heap) (locs1 : List Loc), t.heap = H1 → s.vm.Alike t.vm → px u → BX E u t → H.size ≤ H1.size → (∀ q : Nat, q < H.size → ¬ AX q → H1[q]? = H[q]?) → va_S A0 H0 H1 locs1 → H1[q9]? = some ce → ce.vm = .none → s.vm.findClass E = some ce.cls → vx_W p l e R s m args below meth c H1 locs1 (cells + mc) (slots + ms) Q (F0 m pc ls rest) q9)
    (kk : ∀ (r : UInt64) (u : S) (t : State) (H1 : Heap) (locs1 : List Loc), t.heap = H1 → s.vm.Alike t.vm → post r u → B u t → H.size ≤ H1.size → (∀ q : Nat, q < H.size → ¬ A1 q → H1[q]? = H[q]?) → va_S A0 H0 H1 locs1 → W p l e R s m args below meth c H1 locs1 (cells + mc) (slots + ms) Q (F0 m (pc + 3) ls (.double r :: rest))) : W p l e R s m args below meth c H locs cells slots Q (F0 m pc ls st0) := by
  intro T hT X
  rcases hr T hT X with ⟨v, st₀, t, T', L, h0, X', hL, e1, e2, ⟨⟨r, u, hv, hp, hb⟩, hF⟩, st⟩ | ⟨q, st₀, t, T', L, E, ce, h0, X', hL, e1, e2, ⟨u, hp, hb, hF⟩, hce, hcv, hcl, st⟩
  · cases hv
    obtain ⟨k1, k2, k3⟩ := vx_keep h0 e1 hS hA hf hL hF
    obtain ⟨t2, a1, b1⟩ := kk r u t T'.heap (locs ++ L) e1.symm (by rw [← e2]; exact X'.warmed.alike) hp hb k1 k2 k3 T' rfl X'
    exact ⟨t2, st t2 a1, b1⟩
  · obtain ⟨k1, k2, k3⟩ := vx_keep h0 e1 hS hAX hf hL hF
    obtain ⟨t2, a1, b1⟩ := kx E ce q u t T'.heap (locs ++ L) e1.symm (by rw [← e2]; exact X'.warmed.alike) hp hb k1 k2 k3 (by rw [e1]; exact hce) hcv hcl T' rfl X'
    exact ⟨t2, st.trans a1, b1⟩
theorem vx_callv {S SX : Type} {post : S → Prop} {px : SX → Prop} {B : S → State → Prop} {BX : String → SX → State → Prop} {AX : Nat → Prop} (hr : vx_Run p l e R s m args below meth c H locs cells slots mc ms (F0 m pc ls st0) rest (va_Qv post B A1 a) (vx_X px BX AX) free) (hS : va_S A0 H0 H locs) (hA : ∀ q, q < H.size → A1 q → A0 q) (hf : ∀ q, free q → A0 q) (hAX : ∀ q, q < H.size → AX q → A0 q)
    (kx : ∀ (E : String) (ce : Cell) (q9 : Addr) (u : SX) (t : State) (H1 : Heap) (locs1 : List Loc), t.heap = H1 → s.vm.Alike t.vm → px u → BX E u t → H.size ≤ H1.size → (∀ q : Nat, q < H.size → ¬ AX q → H1[q]? = H[q]?) → va_S A0 H0 H1 locs1 → H1[q9]? = some ce → ce.vm = .none → s.vm.findClass E = some ce.cls → vx_W p l e R s m args below meth c H1 locs1 (cells + mc) (slots + ms) Q (F0 m pc ls rest) q9)
    (kk : ∀ (u : S) (t : State) (H1 : Heap) (locs1 : List Loc), t.heap = H1 → s.vm.Alike t.vm → post u → B u t → H.size ≤ H1.size → (∀ q : Nat, q < H.size → ¬ A1 q → H1[q]? = H[q]?) → va_S A0 H0 H1 locs1 → W p l e R s m args below meth c H1 locs1 (cells + mc) (slots + ms) Q (F0 m (pc + 3) ls (rest))) : W p l e R s m args below meth c H locs cells slots Q (F0 m pc ls st0) := by
  intro T hT X
  rcases hr T hT X with ⟨v, st₀, t, T', L, h0, X', hL, e1, e2, ⟨⟨u, hv, hp, hb⟩, hF⟩, st⟩ | ⟨q, st₀, t, T', L, E, ce, h0, X', hL, e1, e2, ⟨u, hp, hb, hF⟩, hce, hcv, hcl, st⟩
  · cases hv
    obtain ⟨k1, k2, k3⟩ := vx_keep h0 e1 hS hA hf hL hF
    obtain ⟨t2, a1, b1⟩ := kk u t T'.heap (locs ++ L) e1.symm (by rw [← e2]; exact X'.warmed.alike) hp hb k1 k2 k3 T' rfl X'
    exact ⟨t2, st t2 a1, b1⟩
  · obtain ⟨k1, k2, k3⟩ := vx_keep h0 e1 hS hAX hf hL hF
    obtain ⟨t2, a1, b1⟩ := kx E ce q u t T'.heap (locs ++ L) e1.symm (by rw [← e2]; exact X'.warmed.alike) hp hb k1 k2 k3 (by rw [e1]; exact hce) hcv hcl T' rfl X'
    exact ⟨t2, st.trans a1, b1⟩
/-- caught by the row x of this method's table; the rows ahead don't take it -/
theorem vx_catch {own name : String} {E : String} {ce : Cell} {q : Addr} (hown : s.vm.findClass own = some m.cls) (pre : List ExceptionTableEntry) (x : ExceptionTableEntry) (suf : List ExceptionTableEntry) (hsplit : c.exceptionTable.toList = pre ++ x :: suf)
    (hpass : ∀ z ∈ pre, covers z pc = false ∨ (z.catchType ≠ 0 ∧ ∃ nm : String, (Cond.classLink own z.catchType nm).before args s = true ∧ va_Nc E nm s)) (hx : covers x pc = true) (h0 : x.catchType ≠ 0)
    (hlink : (Cond.classLink own x.catchType name).before args s = true) (hcast : (Cond.castable E name).before args s = true) (hcell : H[q]? = some ce) (hv : ce.vm = .none) (hcl : s.vm.findClass E = some ce.cls)
    (kk : W p l e R s m args below meth c H locs cells slots Q (F0 m x.handlerPc ls [.ref q])) : vx_W p l e R s m args below meth c H locs cells slots Q (F0 m pc ls rest) q := by
  intro T hT X
  have hpl : e.platform.magicAccessors = ({} : Platform).magicAccessors := by rw [X.admits.platform]
  obtain ⟨c3, c4, hc3, hc4, hasg⟩ := Cond.castable_spec hcast
  cases Option.some.inj (hc3.symm.trans hcl)
  obtain ⟨c5, hc5, hcl5⟩ := Cond.classLink_spec hown hlink e.platform hpl
  cases Option.some.inj (hc4.symm.trans hc5)
  obtain ⟨vm', X', st⟩ := X.thenCaughtThrough q (g := F0 m pc ls rest) rfl (Steps.refl _) (by rw [hT]; exact hcell) (by rw [hv]; rfl) (by obtain ⟨k9, h9, -⟩ := Vm.findClass_spec hcl; exact ⟨k9, h9⟩) pre x suf hsplit
    (fun z hz => by
      rcases hpass z hz with h | ⟨hz0, nm, hl1, hn1⟩
      · exact Or.inl h
      · obtain ⟨c6, hc6, hcl6⟩ := Cond.classLink_spec hown hl1 e.platform hpl
        obtain ⟨a8, b8, h1, h2, h3⟩ := hn1
        cases Option.some.inj (h1.symm.trans hcl)
        cases Option.some.inj (h2.symm.trans hc6)
        exact Or.inr ⟨hz0, _, hcl6, h3⟩) hx (Or.inr ⟨h0, c4, hcl5, hasg⟩)
  obtain ⟨t, a1, b1⟩ := kk (T.setVm vm') hT X'
  exact ⟨t, st.trans a1, b1⟩
end Rows
section Ends
variable {p : Program} {l : Launch} {e : Env} {R : Room} {s : State} {m : MethodId} {args : Array Value} {below : List Frame} {meth : Method} {c : Code} {H : Heap} {locs : List Loc} {cells slots : Nat} {Q : State → Prop}
variable {mc ms : Nat} {free : Addr → Prop} {A0 A1 : Nat → Prop} {H0 : Heap} {a : Array Value} {ls : Array Slot} {st0 rest : List Value}
variable {Qc : Array Value → State → Outcome → State → Prop} {XC : String → State → State → Prop}
/-- what a body that may throw owes at its end -/
def vx_MQ (below : List Frame) (Qc : Array Value → State → Outcome → State → Prop) (XC : String → State → State → Prop) (a : Array Value) (s : State) (mc ms : Nat) (free : Addr → Prop) : State → Prop := fun t =>
  ∃ o, t.status = .running ∧ Ended t below o ∧ vx_Q Qc XC mc ms free a s o t
theorem vx_ret {g : JFrame} {mc ms : Nat} (k : W p l e R s m args below meth c H locs cells slots (MQ below Qc args s mc ms free) g) : W p l e R s m args below meth c H locs cells slots (vx_MQ below Qc XC args s mc ms free) g := by
  intro T hT X
  obtain ⟨t, a1, o, b1, b2, b3, b4⟩ := k T hT X
  exact ⟨t, a1, o, b1, b2, Or.inl ⟨b3, b4⟩⟩
/-- not caught here: it goes on to the caller -/
theorem vx_widen {g : JFrame} {q : Addr} {k n : Nat} (h1 : cells ≤ k) (h2 : slots ≤ n) (kk : vx_W p l e R s m args below meth c H locs k n Q g q) : vx_W p l e R s m args below meth c H locs cells slots Q g q := fun T hT X => kk T hT (stand_widen X h1 h2)
theorem vx_out {pc : Nat} {E : String} {ce : Cell} {q : Addr} {mc ms : Nat} (hout : ∀ x ∈ c.exceptionTable.toList, covers x pc = false) (hlocks : meth.locks = false) (hcell : H[q]? = some ce) (hv : ce.vm = .none) (hcl : s.vm.findClass E = some ce.cls)
    (hx : ∀ t : State, t.heap = H → s.vm.Alike t.vm → XC E s t) (hf : ∀ z ∈ locs, free z.base) (hc : cells ≤ mc) (hs : slots ≤ ms) :
    vx_W p l e R s m args below meth c H locs cells slots (vx_MQ below Qc XC args s mc ms free) (F0 m pc ls rest) q := by
  intro T hT X
  obtain ⟨st1, hrun, hend, hW, hsm⟩ := X.leaveThrown q (g := F0 m pc ls rest) rfl rfl rfl hout hlocks
  have hcell9 : (T.setFrames (.throwing q :: below)).heap[q]? = some ce := by
    show T.heap[q]? = some ce
    rw [hT]; exact hcell
  exact ⟨_, st1, .threw q, hrun, hend, Or.inr ⟨q, rfl, E, ce, locs, hx _ hT hW.alike, hcell9, hv, hcl, hW, hsm.mono hc hs, hf⟩⟩
theorem vx_frame {U : State} {k n : Nat} (h : s.sameButNew ({ U with vm := s.vm } : State) locs k n) : s.heap.size ≤ U.heap.size ∧ ∀ q : Nat, q < s.heap.size → (∀ z ∈ locs, z.base ≠ q) → U.heap[q]? = s.heap[q]? := by
  obtain ⟨-, h2, -, -, -, h6⟩ := h
  refine ⟨h2, fun q hq hz => ?_⟩
  obtain ⟨c9, e1, e2, e3, e4⟩ := h6 q _ (Array.getElem?_eq_getElem hq)
  have hs : c9.slots = (s.heap[q]).slots := Array.ext_getElem? fun i => e4 i fun hm => hz _ hm rfl
  have h9 : c9 = s.heap[q] := by
    rw [hs] at e2
    exact e2
  have e5 : U.heap[q]? = some c9 := e1
  rw [e5, h9, Array.getElem?_eq_getElem hq]
/-- the words of a throw but the four that speak of the heap -/
def vx_no (w : Cond) : Bool := decide (w ≠ .isRef (.static Bundle.tN "UNASSIGNED_STACK" Bundle.steD)) && decide (w ≠ .isRef (.static Bundle.tN "SUPPRESSED_SENTINEL" Bundle.listD)) && decide (w ≠ .laysStatic Bundle.tN "UNASSIGNED_STACK" Bundle.steD) && decide (w ≠ .laysStatic Bundle.tN "SUPPRESSED_SENTINEL" Bundle.listD)
def vx_at0 (own : String) (ic : Nat) (X : String) (names : List String) : List Cond := (Bundle.ownAtoms0 own ic X names).filter vx_no
def vx_atS (own : String) (ic : Nat) (X : String) (names : List String) : List Cond := (Bundle.ownAtoms own ic X names).filter vx_no
/-- a word that the tables alone decide, or a good one -/
def vx_ot (w : Cond) : Bool := w.onTables || goodWord w
theorem vx_ot_at {args a' : Array Value} {s U : State} {w : Cond} (hW : s.WarmedH U.vm) (hvm : s.vm = U.vm) (hg : vx_ot w = true) (h : w.before args s = true) : w.before a' U = true := by
  simp only [vx_ot, Bool.or_eq_true] at hg
  rcases hg with hg | hg
  · exact va_tabs hg hvm h
  · exact word_at hW (good_of_word hg) h
/-- a list's words: the good ones out of the method's own list, the others by premises of their own -/
theorem vx_hat {args : Array Value} {s : State} {L B : List Cond} (h1 : ∀ w ∈ L.filter goodWord, w.before args s = true) (h2 : ∀ w ∈ L.filter (fun w => !goodWord w), w ∈ B) (h3 : ∀ w ∈ B, w.before args s = true) : ∀ w ∈ L, w.before args s = true := by
  intro w hw
  by_cases g : goodWord w = true
  · exact h1 w (List.mem_filter.mpr ⟨hw, g⟩)
  · refine h3 w (h2 w (List.mem_filter.mpr ⟨hw, ?_⟩))
    show (!goodWord w) = true
    cases hgw : goodWord w
    · rfl
    · exact absurd hgw g
theorem vx_c {args : Array Value} {s : State} {w : Cond} {B : List Cond} (h : w.before args s = true) (t : ∀ w ∈ B, w.before args s = true) : ∀ w' ∈ w :: B, w'.before args s = true := fun w' h' => (List.mem_cons.mp h').elim (fun e => by rw [e]; exact h) (t w')
theorem vx_n {args : Array Value} {s : State} : ∀ w ∈ ([] : List Cond), w.before args s = true := fun _ h => nomatch h
theorem vx_own {args : Array Value} {s : State} {L : List Cond} (h1 : ∀ w ∈ L.filter vx_no, w.before args s = true)
    (hU : (Cond.isRef (.static Bundle.tN "UNASSIGNED_STACK" Bundle.steD)).before args s = true) (hN : (Cond.isRef (.static Bundle.tN "SUPPRESSED_SENTINEL" Bundle.listD)).before args s = true)
    (lU : (Cond.laysStatic Bundle.tN "UNASSIGNED_STACK" Bundle.steD).before args s = true) (lN : (Cond.laysStatic Bundle.tN "SUPPRESSED_SENTINEL" Bundle.listD).before args s = true) : ∀ w ∈ L, w.before args s = true := by
  intro w hw
  by_cases e1 : w = .isRef (.static Bundle.tN "UNASSIGNED_STACK" Bundle.steD)
  · rw [e1]; exact hU
  · by_cases e2 : w = .isRef (.static Bundle.tN "SUPPRESSED_SENTINEL" Bundle.listD)
    · rw [e2]; exact hN
    · by_cases e3 : w = .laysStatic Bundle.tN "UNASSIGNED_STACK" Bundle.steD
      · rw [e3]; exact lU
      · by_cases e4 : w = .laysStatic Bundle.tN "SUPPRESSED_SENTINEL" Bundle.listD
        · rw [e4]; exact lN
        · exact h1 w (List.mem_filter.mpr ⟨hw, by unfold vx_no; rw [decide_eq_true e1, decide_eq_true e2, decide_eq_true e3, decide_eq_true e4]; rfl⟩)
/-- where a static field lies, its class's statics cell in H -/
def vx_L (C n d : String) (A : Nat → Prop) (U : State) (H : Heap) : Prop := ∃ (c : ClassId) (k : Class) (i : Nat) (f : Field) (a : Nat) (cell : Cell), U.vm.findClass C = some c ∧ U.fieldFound? C n d = some (c, k, i, f) ∧ f.isStatic = true ∧ k.statics = some a ∧ H[a]? = some cell ∧ cell.vm.isStatics = true ∧ cell.cls = c ∧ f.slot < cell.slots.size ∧ k.staticTypes[f.slot]? = some f.type ∧ ¬ A a
theorem vx_L.moved {C n d : String} {A : Nat → Prop} {u U : State} {H : Heap} (hvm : u.vm.Alike U.vm) (h : vx_L C n d A u H) : vx_L C n d A U H := by
  obtain ⟨c, k, i, f, a, cell, h1, h2, h3, h4, h5, h6, h7, h8, h9, h10⟩ := h
  obtain ⟨k', hi', he⟩ := State.fieldFound?_setVm hvm h2
  exact ⟨c, k', i, f, a, cell, by rw [hvm.findClass]; exact h1, hi', h3, by rw [he]; exact h4, h5, h6, h7, h8, by rw [he]; exact h9, h10⟩
theorem vx_L.kept {C n d : String} {A : Nat → Prop} {U : State} {H H1 : Heap} (h : vx_L C n d A U H) (hq : ∀ a : Nat, a < H.size → ¬ A a → H1[a]? = H[a]?) : vx_L C n d A U H1 := by
  obtain ⟨c, k, i, f, a, cell, h1, h2, h3, h4, h5, h6, h7, h8, h9, h10⟩ := h
  exact ⟨c, k, i, f, a, cell, h1, h2, h3, h4, by rw [hq a (Array.getElem?_eq_some_iff.mp h5).1 h10]; exact h5, h6, h7, h8, h9, h10⟩
theorem vx_L.narrow {C n d : String} {A B : Nat → Prop} {U : State} {H : Heap} (h : vx_L C n d A U H) (hAB : ∀ q, B q → A q) : vx_L C n d B U H := by
  obtain ⟨c, k, i, f, a, cell, h1, h2, h3, h4, h5, h6, h7, h8, h9, h10⟩ := h
  exact ⟨c, k, i, f, a, cell, h1, h2, h3, h4, h5, h6, h7, h8, h9, fun z => h10 (hAB _ z)⟩
theorem vx_L.word {C n d : String} {A : Nat → Prop} {s : State} {args : Array Value} (h : vx_L C n d A s s.heap) : (Cond.laysStatic C n d).before args s = true := by
  obtain ⟨c, k, i, f, a, cell, h1, h2, h3, h4, h5, h6, h7, h8, h9, -⟩ := h
  show (Cond.laysStatic C n d).holds args s none s [] = true
  exact Cond.laysStatic_of h1 h2 h3 h4 h5 h6 h7 h8 h9
/-- .. and what it holds: null or some reference -/
def vx_Zq (C n d : String) (A : Nat → Prop) (U : State) (H : Heap) : Prop := va_Zq C n d A U H ∧ vx_L C n d A U H
theorem vx_Zq.moved {C n d : String} {A : Nat → Prop} {u U : State} {H : Heap} (hvm : u.vm.Alike U.vm) (h : vx_Zq C n d A u H) : vx_Zq C n d A U H := ⟨va_Zq.moved hvm h.1, vx_L.moved hvm h.2⟩
theorem vx_Zq.kept {C n d : String} {A : Nat → Prop} {U : State} {H H1 : Heap} (h : vx_Zq C n d A U H) (hq : ∀ a : Nat, a < H.size → ¬ A a → H1[a]? = H[a]?) : vx_Zq C n d A U H1 := ⟨va_Zq.kept h.1 hq, vx_L.kept h.2 hq⟩
theorem vx_Zq.narrow {C n d : String} {A B : Nat → Prop} {U : State} {H : Heap} (h : vx_Zq C n d A U H) (hAB : ∀ q, B q → A q) : vx_Zq C n d B U H := ⟨va_Zq.narrow h.1 hAB, vx_L.narrow h.2 hAB⟩
theorem vx_Zqof {args : Array Value} {s : State} {C n d : String} {A : Nat → Prop} (hl : (Cond.laysStatic C n d).before args s = true) (hini : (Cond.initialized C).before args s = true) (h : (Cond.isRef (.static C n d)).before args s = true) (hA : ∀ a : Nat, a < s.heap.size → ¬ A a) : vx_Zq C n d A s s.heap := by
  refine ⟨va_Zqof hl hini h hA, ?_⟩
  obtain ⟨c, k, i, f, a, cell, h1, h2, h3, h4, h5, h6, h7, h8, h9⟩ := Cond.laysStatic_spec hl
  exact ⟨c, k, i, f, a, cell, h1, h2, h3, h4, h5, h6, h7, h8, h9, hA a (Array.getElem?_eq_some_iff.mp h5).1⟩
theorem vx_isRef {C n d : String} {v : Value} {A : Nat → Prop} {s : State} {args : Array Value} (h : va_Z C n d v A s s.heap) (hv : v.isRef = true) : (Cond.isRef (.static C n d)).before args s = true := by
  obtain ⟨cf, kf, fi, f, a, cell, h1, h2, h3, h4, h5, h6, h7, -⟩ := h
  have he : (Term.static C n d).eval args s none [] s = some v := by
    simp [Term.eval, State.fieldNamed?, h1, h2, h4, h5, h6, h7]
  simp only [Cond.before, Cond.holds, Cond.value, he]
  cases v <;> simp_all [Value.isRef]
theorem vx_isRefq {C n d : String} {A : Nat → Prop} {s : State} {args : Array Value} (h : va_Zq C n d A s s.heap) : (Cond.isRef (.static C n d)).before args s = true := by
  rcases h with h | ⟨t, h⟩
  · exact vx_isRef h rfl
  · exact vx_isRef h rfl
/-- the same frame, seen from here: as if the method were called anew in this heap -/
theorem vx_rebase {T : State} (X : Stand p l e R s m args below meth c T locs cells slots) {R' : Room} (hf : R'.frames ≤ R.frames) (hl : R'.locals ≤ R.locals) (hc : cells + R'.cells ≤ R.cells) (hs : slots + R'.slots ≤ R.slots) :
    Stand p l e R' ((T.setVm s.vm).setFrames (.invoking m args :: below)) m args below meth c T [] 0 0 := by
  have htop : (T.setVm s.vm).topJava?.isSome := X.here.top
  have hF : ((T.setVm s.vm).setFrames (.invoking m args :: below)).frames = .invoking m args :: below := State.frames_setFrames _ (State.cur_lt_of_top htop)
  obtain ⟨g₀, hg0⟩ := Option.isSome_iff_exists.mp htop
  obtain ⟨r, hr⟩ := State.topJava?_eq_some.mp hg0
  have hl9 : e.platform.stackLimits (T.setVm s.vm).me = e.platform.stackLimits s.me := X.limits
  have hb9 : (T.setVm s.vm).me.stackBytes = s.me.stackBytes := X.bytes
  refine ⟨X.admits, X.cas, X.clock, hF, ?_, X.hears, X.method, X.code, X.here, X.tail, X.warmed, ?_, ?_, ?_⟩
  · have h := X.room
    have hU : ((T.setVm s.vm).setFrames (.invoking m args :: below)).localsInUse = s.localsInUse := by
      rw [State.localsInUse_invoking hF (meth := meth) (c := c) X.method X.code, State.localsInUse_invoking X.frames X.method X.code]
    simp only [State.hasRoom, Bool.and_eq_true, decide_eq_true_eq] at h ⊢
    obtain ⟨⟨⟨⟨h1, h2, h3, h4, h5, h6⟩, h7⟩, h8⟩, h9⟩ := h
    rw [X.frames, List.length_cons] at h2 h3
    have q1 := X.heapSize
    have q2 := X.used
    simp only [hF, hU, List.length_cons, State.stackLimits_setFrames, State.stackBytes_setFrames, hl9, hb9]
    refine ⟨⟨⟨⟨by omega, by omega, by omega, by omega, by omega, h6⟩, ?_⟩, ?_⟩, X.book⟩
    · show T.heap.size + R'.cells ≤ e.platform.maxCells
      omega
    · show T.slotsUsed + R'.slots ≤ e.platform.maxSlots
      omega
  · rw [State.stackLimits_setFrames]; rfl
  · rw [State.stackBytes_setFrames]; rfl
  · refine ⟨?_, Nat.le_refl _, Nat.le_refl _, ?_, ?_, fun a c9 h9 => ⟨c9, h9, rfl, rfl, fun _ _ => rfl⟩⟩
    · obtain ⟨t, ht, -⟩ := State.frames_cons hr
      show T.setVm s.vm = { ((T.setVm s.vm).setFrames (.invoking m args :: below)).setFrames (T.setVm s.vm).frames with heap := T.heap, slotsUsed := T.slotsUsed }
      rw [State.setFrames_setFrames, State.setFrames_self ht]
      rfl
    · show T.slotsUsed = T.slotsUsed + ((T.heap.toList.drop T.heap.size).map (·.slots.size)).sum
      rw [List.drop_eq_nil_of_le (Nat.le_of_eq Array.length_toList)]
      rfl
    · show ((T.heap.toList.drop T.heap.size).map (·.slots.size)).sum ≤ 0
      rw [List.drop_eq_nil_of_le (Nat.le_of_eq Array.length_toList)]
      exact Nat.le_refl _
/-- 'throw new E()': new; dup; invokespecial; athrow -/
theorem vx_throw0 {cc : ByteArray} {pc : Nat} (hexec : p.tables.exec = Jvm.exec) (hb : c.code = cc) (hl : l.stackTraces = false) {own cls : String} {names : List String} {ik ic mc ms : Nat} {A : Nat → Prop}
    (hown : s.vm.findClass own = some m.cls) (hcls : Bundle.fit cls = true) (hnames : ∀ n ∈ names, Bundle.fit n = true)
    (hk : (Cond.classLink own ik cls).before args s = true) (hini : (Cond.initialized cls).before args s = true) (hat : ∀ w ∈ vx_at0 own ic cls names, w.before args s = true)
    (hgood : ∀ w ∈ Cond.classLink own ik cls :: Cond.initialized cls :: vx_at0 own ic cls names, vx_ot w = true)
    (hU : vx_Zq Bundle.tN "UNASSIGNED_STACK" Bundle.steD A s s.heap) (hN : vx_Zq Bundle.tN "SUPPRESSED_SENTINEL" Bundle.listD A s s.heap) (hS : va_S A s.heap H locs) (hsize : ls.size = c.maxLocals)
    (d0 : decode cc pc = .ok (.new ik, 3)) (d3 : decode cc (pc + 3) = .ok (.dup, 1)) (d4 : decode cc (pc + 4) = .ok (.invokespecial ic, 3)) (d7 : decode cc (pc + 7) = .ok (.athrow, 1))
    (hout : ∀ x ∈ c.exceptionTable.toList, covers x (pc + 7) = false)
    (hRframes : names.length + 3 < R.frames) (hRlocals : (rest.map fun v => v.category).sum + (13 * (names.length + 1) + 42) ≤ R.locals) (hRcells : cells + 1 ≤ R.cells) (hRslots : slots + 6 ≤ R.slots) (hlocks : meth.locks = false)
    (hx : ∀ t : State, s.vm.Alike t.vm → H.size ≤ t.heap.size → (∀ q : Nat, q < H.size → t.heap[q]? = H[q]?) → XC cls s t)
    (hf : ∀ z ∈ locs, free z.base) (hc : cells + 1 ≤ mc) (hs : slots + 6 ≤ ms) :
    W p l e R s m args below meth c H locs cells slots (vx_MQ below Qc XC args s mc ms free) (F0 m pc ls rest) := by
  intro T hT X
  have htr : e.platform.stackTraces = false := (show e.platform.stackTraces = l.stackTraces by rw [X.admits.platform]).trans hl
  have Y := vx_rebase X (R' := { frames := R.frames, locals := R.locals, cells := 1, slots := 6 }) (Nat.le_refl _) (Nat.le_refl _) hRcells hRslots
  obtain ⟨s', hA⟩ : ∃ z, z = (T.setVm s.vm).setFrames (.invoking m args :: below) := ⟨_, rfl⟩
  rw [← hA] at Y
  have hvm : s'.vm = s.vm := by rw [hA]; rfl
  have hhp : s'.heap = H := by rw [hA]; exact hT
  have hW0 : s.WarmedH s'.vm := by rw [hvm]; exact State.WarmedH.refl s
  have hat' : ∀ w ∈ vx_at0 own ic cls names, w.before args s' = true := fun w hw => vx_ot_at hW0 hvm.symm (hgood w (List.mem_cons_of_mem _ (List.mem_cons_of_mem _ hw))) (hat w hw)
  have hk' : (Cond.classLink own ik cls).before args s' = true := vx_ot_at hW0 hvm.symm (hgood _ List.mem_cons_self) hk
  have hini' : (Cond.initialized cls).before args s' = true := vx_ot_at hW0 hvm.symm (hgood _ (List.mem_cons_of_mem _ List.mem_cons_self)) hini
  have hU' : vx_Zq Bundle.tN "UNASSIGNED_STACK" Bundle.steD A s' s'.heap := by rw [hhp]; exact vx_Zq.moved hW0.alike (hU.kept hS.2.1)
  have hN' : vx_Zq Bundle.tN "SUPPRESSED_SENTINEL" Bundle.listD A s' s'.heap := by rw [hhp]; exact vx_Zq.moved hW0.alike (hN.kept hS.2.1)
  have h : ∀ w ∈ Bundle.ownAtoms0 own ic cls names, w.before args s' = true := vx_own hat' (vx_isRefq hU'.1) (vx_isRefq hN'.1) hU'.2.word hN'.2.word
  have hown' : s'.vm.findClass own = some m.cls := by rw [hvm]; exact hown
  have hins : (Cond.instantiable cls 6).before args s' = true := h _ (by simp [Bundle.ownAtoms0])
  obtain ⟨vm₁, cX, kX, hfX, hkX, -, -, X₁, st1⟩ := Y.newCold hexec (own := own) (C := cls) (index := ik) (n := 6) hown' hk' hins hini'
    (g := F0 m pc ls rest) rfl (by rw [hb]; exact d0) (Nat.le_refl _) (Nat.le_refl _)
  generalize hT1 : (T.setVm vm₁).pushCell { cls := cX, slots := kX.instanceTypes.map defaultValue, vm := .none } = T1 at X₁ st1
  have hcat : (Value.ref T.heap.size).category = 1 := rfl
  have hcellA : T1.heap[T.heap.size]? = some (freshCell cX kX) := by rw [← hT1]; exact State.heap_pushCell_size _ _
  have d3' : decode c.code (pc + 3) = .ok (.dup, 1) := by rw [hb]; exact d3
  obtain ⟨U, hsteps, hrun, hend, hW, hsame, ce, hce, hO⟩ := X₁.ctorThrow0 hexec htr (own := own) (cls := cls) (names := names) (ic := ic) hown' hcls hnames h (fun x hx => nomatch hx) hfX hkX hcellA (by rw [hhp, hT]; exact Nat.le_refl _)
    (g := { method := m, pc := pc + 4, locals := ls, stack := .ref T.heap.size :: .ref T.heap.size :: rest, locked := none }) rfl hsize rfl rfl (rest := rest) rfl
    (by rw [hb]; exact d4) (by rw [hb]; exact d7) hout hRframes (by simp only [List.map_cons, List.sum_cons, hcat]; omega) hlocks
  obtain ⟨f1, f2⟩ := vx_frame hsame
  rw [hhp] at f1 f2
  have hWs : s.WarmedH U.vm := State.WarmedH.trans hW0 hW
  have hcl : s.vm.findClass cls = some ce.cls := by
    have h9 := hO.cls
    rw [hvm] at h9
    exact h9
  have hall : s.sameButNew ({ U with vm := s.vm } : State) locs mc ms := by
    subst hA
    obtain ⟨e1, e2⟩ := hsame
    rw [State.setFrames_setFrames] at e1
    have h2 : (T.setVm s.vm).sameButNew ({ U with vm := s.vm } : State) [] (0 + 1) (0 + 6) := ⟨e1, e2⟩
    have h3 := X.same.trans h2
    rw [List.append_nil] at h3
    exact h3.mono hc hs
  refine ⟨U, ?_, .threw T.heap.size, hrun, hend, Or.inr ⟨T.heap.size, rfl, cls, ce, locs, hx U hWs.alike f1 (fun q hq => f2 q hq (fun z hz => nomatch hz)), hce, hO.vm, hcl, hWs, hall, hf⟩⟩
  refine st1 _ ?_
  show Steps p.tables e below (T1.setTop { method := m, pc := pc + 3, locals := ls, stack := .ref T.heap.size :: rest, locked := none }) _
  jvm_step X₁.here [X₁.here.top, hexec, d3', Value.category]
  exact hsteps
/-- 'throw new E("text")': new; dup; ldc; invokespecial; athrow -/
theorem vx_throwS {cc : ByteArray} {pc : Nat} (hexec : p.tables.exec = Jvm.exec) (hb : c.code = cc) (hl : l.stackTraces = false) {own cls text : String} {names : List String} {ik is ic mc ms sa : Nat} {A : Nat → Prop}
    (hown : s.vm.findClass own = some m.cls) (hcls : Bundle.fit cls = true) (hnames : ∀ n ∈ names, Bundle.fit n = true)
    (hk : (Cond.classLink own ik cls).before args s = true) (hini : (Cond.initialized cls).before args s = true) (hstr : vk_R own is text sa s) (hat : ∀ w ∈ vx_atS own ic cls names, w.before args s = true)
    (hgood : ∀ w ∈ Cond.classLink own ik cls :: Cond.initialized cls :: vx_atS own ic cls names, vx_ot w = true)
    (hU : vx_Zq Bundle.tN "UNASSIGNED_STACK" Bundle.steD A s s.heap) (hN : vx_Zq Bundle.tN "SUPPRESSED_SENTINEL" Bundle.listD A s s.heap) (hS : va_S A s.heap H locs) (hsize : ls.size = c.maxLocals)
    (d0 : decode cc pc = .ok (.new ik, 3)) (d3 : decode cc (pc + 3) = .ok (.dup, 1)) (d4 : decode cc (pc + 4) = .ok (.ldc is, 2)) (d6 : decode cc (pc + 6) = .ok (.invokespecial ic, 3)) (d9 : decode cc (pc + 9) = .ok (.athrow, 1))
    (hout : ∀ x ∈ c.exceptionTable.toList, covers x (pc + 9) = false)
    (hRframes : names.length + 3 < R.frames) (hRlocals : (rest.map fun v => v.category).sum + (13 * (names.length + 1) + 43) ≤ R.locals) (hRcells : cells + 1 ≤ R.cells) (hRslots : slots + 6 ≤ R.slots) (hlocks : meth.locks = false)
    (hx : ∀ t : State, s.vm.Alike t.vm → H.size ≤ t.heap.size → (∀ q : Nat, q < H.size → t.heap[q]? = H[q]?) → XC cls s t)
    (hf : ∀ z ∈ locs, free z.base) (hc : cells + 1 ≤ mc) (hs : slots + 6 ≤ ms) :
    W p l e R s m args below meth c H locs cells slots (vx_MQ below Qc XC args s mc ms free) (F0 m pc ls rest) := by
  intro T hT X
  have htr : e.platform.stackTraces = false := (show e.platform.stackTraces = l.stackTraces by rw [X.admits.platform]).trans hl
  have Y := vx_rebase X (R' := { frames := R.frames, locals := R.locals, cells := 1, slots := 6 }) (Nat.le_refl _) (Nat.le_refl _) hRcells hRslots
  obtain ⟨s', hA⟩ : ∃ z, z = (T.setVm s.vm).setFrames (.invoking m args :: below) := ⟨_, rfl⟩
  rw [← hA] at Y
  have hvm : s'.vm = s.vm := by rw [hA]; rfl
  have hhp : s'.heap = H := by rw [hA]; exact hT
  have hW0 : s.WarmedH s'.vm := by rw [hvm]; exact State.WarmedH.refl s
  have hat' : ∀ w ∈ vx_atS own ic cls names, w.before args s' = true := fun w hw => vx_ot_at hW0 hvm.symm (hgood w (List.mem_cons_of_mem _ (List.mem_cons_of_mem _ hw))) (hat w hw)
  have hk' : (Cond.classLink own ik cls).before args s' = true := vx_ot_at hW0 hvm.symm (hgood _ List.mem_cons_self) hk
  have hini' : (Cond.initialized cls).before args s' = true := vx_ot_at hW0 hvm.symm (hgood _ (List.mem_cons_of_mem _ List.mem_cons_self)) hini
  have hU' : vx_Zq Bundle.tN "UNASSIGNED_STACK" Bundle.steD A s' s'.heap := by rw [hhp]; exact vx_Zq.moved hW0.alike (hU.kept hS.2.1)
  have hN' : vx_Zq Bundle.tN "SUPPRESSED_SENTINEL" Bundle.listD A s' s'.heap := by rw [hhp]; exact vx_Zq.moved hW0.alike (hN.kept hS.2.1)
  have h : ∀ w ∈ Bundle.ownAtoms own ic cls names, w.before args s' = true := vx_own hat' (vx_isRefq hU'.1) (vx_isRefq hN'.1) hU'.2.word hN'.2.word
  have hown' : s'.vm.findClass own = some m.cls := by rw [hvm]; exact hown
  have hins : (Cond.instantiable cls 6).before args s' = true := h _ (by simp [Bundle.ownAtoms])
  obtain ⟨vm₁, cX, kX, hfX, hkX, -, -, X₁, st1⟩ := Y.newCold hexec (own := own) (C := cls) (index := ik) (n := 6) hown' hk' hins hini'
    (g := F0 m pc ls rest) rfl (by rw [hb]; exact d0) (Nat.le_refl _) (Nat.le_refl _)
  generalize hT1 : (T.setVm vm₁).pushCell { cls := cX, slots := kX.instanceTypes.map defaultValue, vm := .none } = T1 at X₁ st1
  have hcat : (Value.ref T.heap.size).category = 1 := rfl
  have hcellA : T1.heap[T.heap.size]? = some (freshCell cX kX) := by rw [← hT1]; exact State.heap_pushCell_size _ _
  have d3' : decode c.code (pc + 3) = .ok (.dup, 1) := by rw [hb]; exact d3
  have d4' : decode c.code (pc + 4) = .ok (.ldc is, 2) := by rw [hb]; exact d4
  have hstr' : vk_R own is text sa s' := vk_R.warm hW0 hstr
  obtain ⟨U, hsteps, hrun, hend, hW, hsame, ce, hce, hO⟩ := X₁.ctorThrowS hexec htr (own := own) (cls := cls) (names := names) (ic := ic) hown' hcls hnames h (fun x hx => nomatch hx) hfX hkX hcellA (by rw [hhp, hT]; exact Nat.le_refl _) (msg := .ref sa) rfl
    (g := { method := m, pc := pc + 6, locals := ls, stack := .ref sa :: .ref T.heap.size :: .ref T.heap.size :: rest, locked := none }) rfl hsize rfl rfl (rest := rest) rfl
    (by rw [hb]; exact d6) (by rw [hb]; exact d9) hout hRframes (by simp only [List.map_cons, List.sum_cons, hcat]; omega) hlocks
  obtain ⟨f1, f2⟩ := vx_frame hsame
  rw [hhp] at f1 f2
  have hWs : s.WarmedH U.vm := State.WarmedH.trans hW0 hW
  have hcl : s.vm.findClass cls = some ce.cls := by
    have h9 := hO.cls
    rw [hvm] at h9
    exact h9
  have hall : s.sameButNew ({ U with vm := s.vm } : State) locs mc ms := by
    subst hA
    obtain ⟨e1, e2⟩ := hsame
    rw [State.setFrames_setFrames] at e1
    have h2 : (T.setVm s.vm).sameButNew ({ U with vm := s.vm } : State) [] (0 + 1) (0 + 6) := ⟨e1, e2⟩
    have h3 := X.same.trans h2
    rw [List.append_nil] at h3
    exact h3.mono hc hs
  refine ⟨U, ?_, .threw T.heap.size, hrun, hend, Or.inr ⟨T.heap.size, rfl, cls, ce, locs, hx U hWs.alike f1 (fun q hq => f2 q hq (fun z hz => nomatch hz)), hce, hO.vm, hcl, hWs, hall, hf⟩⟩
  refine st1 _ ?_
  show Steps p.tables e below (T1.setTop { method := m, pc := pc + 3, locals := ls, stack := .ref T.heap.size :: rest, locked := none }) _
  jvm_step X₁.here [X₁.here.top, hexec, d3', Value.category]
  exact X₁.ldcString hexec (own := own) (text := text) (index := is) (a := sa) hown' hstr'.1 hstr'.2
    (g := { method := m, pc := pc + 4, locals := ls, stack := .ref T.heap.size :: .ref T.heap.size :: rest, locked := none }) rfl d4' _ hsteps
/-- 'throw new E("text")', the text by a wide index -/
theorem vx_throwSW {cc : ByteArray} {pc : Nat} (hexec : p.tables.exec = Jvm.exec) (hb : c.code = cc) (hl : l.stackTraces = false) {own cls text : String} {names : List String} {ik is ic mc ms sa : Nat} {A : Nat → Prop}
    (hown : s.vm.findClass own = some m.cls) (hcls : Bundle.fit cls = true) (hnames : ∀ n ∈ names, Bundle.fit n = true)
    (hk : (Cond.classLink own ik cls).before args s = true) (hini : (Cond.initialized cls).before args s = true) (hstr : vk_R own is text sa s) (hat : ∀ w ∈ vx_atS own ic cls names, w.before args s = true)
    (hgood : ∀ w ∈ Cond.classLink own ik cls :: Cond.initialized cls :: vx_atS own ic cls names, vx_ot w = true)
    (hU : vx_Zq Bundle.tN "UNASSIGNED_STACK" Bundle.steD A s s.heap) (hN : vx_Zq Bundle.tN "SUPPRESSED_SENTINEL" Bundle.listD A s s.heap) (hS : va_S A s.heap H locs) (hsize : ls.size = c.maxLocals)
    (d0 : decode cc pc = .ok (.new ik, 3)) (d3 : decode cc (pc + 3) = .ok (.dup, 1)) (d4 : decode cc (pc + 4) = .ok (.ldc_w is, 3)) (d7 : decode cc (pc + 7) = .ok (.invokespecial ic, 3)) (d10 : decode cc (pc + 10) = .ok (.athrow, 1))
    (hout : ∀ x ∈ c.exceptionTable.toList, covers x (pc + 10) = false)
    (hRframes : names.length + 3 < R.frames) (hRlocals : (rest.map fun v => v.category).sum + (13 * (names.length + 1) + 43) ≤ R.locals) (hRcells : cells + 1 ≤ R.cells) (hRslots : slots + 6 ≤ R.slots) (hlocks : meth.locks = false)
    (hx : ∀ t : State, s.vm.Alike t.vm → H.size ≤ t.heap.size → (∀ q : Nat, q < H.size → t.heap[q]? = H[q]?) → XC cls s t)
    (hf : ∀ z ∈ locs, free z.base) (hc : cells + 1 ≤ mc) (hs : slots + 6 ≤ ms) :
    W p l e R s m args below meth c H locs cells slots (vx_MQ below Qc XC args s mc ms free) (F0 m pc ls rest) := by
  intro T hT X
  have htr : e.platform.stackTraces = false := (show e.platform.stackTraces = l.stackTraces by rw [X.admits.platform]).trans hl
  have Y := vx_rebase X (R' := { frames := R.frames, locals := R.locals, cells := 1, slots := 6 }) (Nat.le_refl _) (Nat.le_refl _) hRcells hRslots
  obtain ⟨s', hA⟩ : ∃ z, z = (T.setVm s.vm).setFrames (.invoking m args :: below) := ⟨_, rfl⟩
  rw [← hA] at Y
  have hvm : s'.vm = s.vm := by rw [hA]; rfl
  have hhp : s'.heap = H := by rw [hA]; exact hT
  have hW0 : s.WarmedH s'.vm := by rw [hvm]; exact State.WarmedH.refl s
  have hat' : ∀ w ∈ vx_atS own ic cls names, w.before args s' = true := fun w hw => vx_ot_at hW0 hvm.symm (hgood w (List.mem_cons_of_mem _ (List.mem_cons_of_mem _ hw))) (hat w hw)
  have hk' : (Cond.classLink own ik cls).before args s' = true := vx_ot_at hW0 hvm.symm (hgood _ List.mem_cons_self) hk
  have hini' : (Cond.initialized cls).before args s' = true := vx_ot_at hW0 hvm.symm (hgood _ (List.mem_cons_of_mem _ List.mem_cons_self)) hini
  have hU' : vx_Zq Bundle.tN "UNASSIGNED_STACK" Bundle.steD A s' s'.heap := by rw [hhp]; exact vx_Zq.moved hW0.alike (hU.kept hS.2.1)
  have hN' : vx_Zq Bundle.tN "SUPPRESSED_SENTINEL" Bundle.listD A s' s'.heap := by rw [hhp]; exact vx_Zq.moved hW0.alike (hN.kept hS.2.1)
  have h : ∀ w ∈ Bundle.ownAtoms own ic cls names, w.before args s' = true := vx_own hat' (vx_isRefq hU'.1) (vx_isRefq hN'.1) hU'.2.word hN'.2.word
  have hown' : s'.vm.findClass own = some m.cls := by rw [hvm]; exact hown
  have hins : (Cond.instantiable cls 6).before args s' = true := h _ (by simp [Bundle.ownAtoms])
  obtain ⟨vm₁, cX, kX, hfX, hkX, -, -, X₁, st1⟩ := Y.newCold hexec (own := own) (C := cls) (index := ik) (n := 6) hown' hk' hins hini'
    (g := F0 m pc ls rest) rfl (by rw [hb]; exact d0) (Nat.le_refl _) (Nat.le_refl _)
  generalize hT1 : (T.setVm vm₁).pushCell { cls := cX, slots := kX.instanceTypes.map defaultValue, vm := .none } = T1 at X₁ st1
  have hcat : (Value.ref T.heap.size).category = 1 := rfl
  have hcellA : T1.heap[T.heap.size]? = some (freshCell cX kX) := by rw [← hT1]; exact State.heap_pushCell_size _ _
  have d3' : decode c.code (pc + 3) = .ok (.dup, 1) := by rw [hb]; exact d3
  have d4' : decode c.code (pc + 4) = .ok (.ldc_w is, 3) := by rw [hb]; exact d4
  have hstr' : vk_R own is text sa s' := vk_R.warm hW0 hstr
  obtain ⟨U, hsteps, hrun, hend, hW, hsame, ce, hce, hO⟩ := X₁.ctorThrowS hexec htr (own := own) (cls := cls) (names := names) (ic := ic) hown' hcls hnames h (fun x hx => nomatch hx) hfX hkX hcellA (by rw [hhp, hT]; exact Nat.le_refl _) (msg := .ref sa) rfl
    (g := { method := m, pc := pc + 7, locals := ls, stack := .ref sa :: .ref T.heap.size :: .ref T.heap.size :: rest, locked := none }) rfl hsize rfl rfl (rest := rest) rfl
    (by rw [hb]; exact d7) (by rw [hb]; exact d10) hout hRframes (by simp only [List.map_cons, List.sum_cons, hcat]; omega) hlocks
  obtain ⟨f1, f2⟩ := vx_frame hsame
  rw [hhp] at f1 f2
  have hWs : s.WarmedH U.vm := State.WarmedH.trans hW0 hW
  have hcl : s.vm.findClass cls = some ce.cls := by
    have h9 := hO.cls
    rw [hvm] at h9
    exact h9
  have hall : s.sameButNew ({ U with vm := s.vm } : State) locs mc ms := by
    subst hA
    obtain ⟨e1, e2⟩ := hsame
    rw [State.setFrames_setFrames] at e1
    have h2 : (T.setVm s.vm).sameButNew ({ U with vm := s.vm } : State) [] (0 + 1) (0 + 6) := ⟨e1, e2⟩
    have h3 := X.same.trans h2
    rw [List.append_nil] at h3
    exact h3.mono hc hs
  refine ⟨U, ?_, .threw T.heap.size, hrun, hend, Or.inr ⟨T.heap.size, rfl, cls, ce, locs, hx U hWs.alike f1 (fun q hq => f2 q hq (fun z hz => nomatch hz)), hce, hO.vm, hcl, hWs, hall, hf⟩⟩
  refine st1 _ ?_
  show Steps p.tables e below (T1.setTop { method := m, pc := pc + 3, locals := ls, stack := .ref T.heap.size :: rest, locked := none }) _
  jvm_step X₁.here [X₁.here.top, hexec, d3', Value.category]
  exact X₁.ldcStringW hexec (own := own) (text := text) (index := is) (a := sa) hown' hstr'.1 hstr'.2
    (g := { method := m, pc := pc + 4, locals := ls, stack := .ref T.heap.size :: .ref T.heap.size :: rest, locked := none }) rfl d4' _ hsteps
end Ends
section Bodies
variable {l : Launch}
theorem vx_ofW {y : MethodName} {ws ws' : List Cond} {rm : Room} {Pc : Array Value → State → Prop} {Qc : Array Value → State → Outcome → State → Prop} {XC : String → State → State → Prop} {mc ms : Nat} {free : Addr → Prop} {cc : ByteArray} {maxL : Nat} {ret : Option FieldType}
    (hy : plainName y.cls = true) (hw : ws = Cond.code y cc maxL ret :: ws')
    (body : ∀ p e s m args below meth c s₁, BodyLoose p l y (headSpec ws rm) cc maxL ret e s m args below meth c s₁ → c.maxLocals = maxL → (∀ x ∈ c.exceptionTable.toList, False) → Pc args s →
      W p l e (headSpec ws rm).room s m args below meth c s.heap [] 0 0 (vx_MQ below Qc XC args s mc ms free) (entryFrame m args maxL)) : vx_Met l y ws rm Pc Qc XC mc ms free := by
  refine MetFree.of_bodyS (code := cc) (maxLocals := maxL) (ret := ret) hy ?_ ?_
  · intro args s m h hn
    obtain ⟨meth, c, h1, h2, h3, h4, h5, h6, -, -⟩ := Cond.code_spec hn (atoms_spec (ws := ws) h _ (by rw [hw]; exact List.mem_cons_self))
    exact ⟨meth, c, h1, h2, h3, h4, h5, h6⟩
  · intro p e s m args below meth c s₁ B hml hP _
    have hh0 : s₁.heap = s.heap := by rw [B.state]; rfl
    have ht : ∀ x ∈ c.exceptionTable.toList, False := by
      obtain ⟨meth9, c9, h1, h2, -, -, -, -, h7, -⟩ := Cond.code_spec B.named (atoms_spec (ws := ws) B.pre _ (by rw [hw]; exact List.mem_cons_self))
      cases Option.some.inj (h1.symm.trans B.method)
      cases Option.some.inj (h2.symm.trans (Stand.of_body B).code)
      intro x hx
      rw [Array.isEmpty_iff.mp h7] at hx
      cases hx
    obtain ⟨t, a1, o, b1, b2, b3⟩ := body p e s m args below meth c s₁ B hml ht hP s₁ hh0 (Stand.of_body B)
    exact ⟨t, o, a1, b1, b2, b3⟩
/-- the table of a body with handlers -/
theorem vx_table {p : Program} {x y : MethodName} {S : Spec} {cc bytes : ByteArray} {maxL maxL' : Nat} {ret ret' : Option FieldType} {e : Env} {s s₁ : State} {m : MethodId} {args : Array Value} {below : List Frame} {meth : Method} {c : Code} {hh : List (Nat × Nat × Nat × Nat)}
    (B : BodyLoose p l y S cc maxL ret e s m args below meth c s₁) (h : (Cond.codeWith y bytes maxL' ret' hh).before args s = true) : c.exceptionTable.toList = tableOf hh := by
  obtain ⟨m9, meth9, c9, hn9, h1, h2, -, -, h6, -⟩ := Cond.codeWith_spec h
  cases Option.some.inj (hn9.symm.trans B.named)
  cases Option.some.inj (h1.symm.trans B.method)
  cases Option.some.inj (h2.symm.trans (Stand.of_body B).code)
  rw [← h6, table_eq]
end Bodies
end VXA
/-! ===== END ===== -/
/-! ===== BEGIN a static call of a method with an exception table ===== -/
section VXS
variable {p : Program} {l : Launch} {e : Env} {R : Room} {s : State} {m : MethodId} {args : Array Value} {below : List Frame} {meth : Method} {c : Code} {T : State} {H : Heap} {locs : List Loc} {cells slots : Nat}
abbrev vx_CSW (R : Room) (s : State) (args : Array Value) (own : String) (index : Nat) (y : MethodName) (bytes : ByteArray) (maxL : Nat) (ret : Option FieldType) (hh : List (Nat × Nat × Nat × Nat)) (ws : List Cond) (rm : Room) (mc ms n : Nat) : Prop :=
  (rm.cells = mc ∧ rm.slots = ms ∧ rm.frames + 1 ≤ R.frames ∧ 8 + (maxL + 11) + rm.locals ≤ R.locals ∧ (∀ w ∈ ws, ∀ (a' : Array Value) (U : State), s.WarmedH U.vm → w.before a' U = true) ∧ Cond.codeWith y bytes maxL ret hh ∈ ws) ∧
  (Cond.codeWith y bytes maxL ret hh).before args s = true ∧ (Cond.initialized y.cls).before args s = true ∧ (y.cls ≠ "java/lang/invoke/MethodHandle" ∧ y.cls ≠ "java/lang/invoke/VarHandle") ∧
  (∀ sig, parseMethodDescriptor y.desc = some sig → n = sig.parameters.length) ∧ (Cond.methodLink own index y).before args s = true ∧ (Cond.static y).before args s = true
theorem vx_cwSW {own : String} {index maxL mc ms : Nat} {y : MethodName} {bytes : ByteArray} {ret : Option FieldType} {hh : List (Nat × Nat × Nat × Nat)} {Ts ws ws' : List Cond} {rm : Room} (n : Nat) (ht : ∀ w ∈ Ts, w.before args s = true) (hT : GoodIn Ts (va_wsS own index y ws)) (hw : ws = Cond.codeWith y bytes maxL ret hh :: ws') (hrc : rm.cells = mc) (hrs : rm.slots = ms)
    (hd : y.cls ≠ "java/lang/invoke/MethodHandle" ∧ y.cls ≠ "java/lang/invoke/VarHandle" ∧ (parseMethodDescriptor y.desc).map (fun d => d.parameters.length) = some n) (hR : rm.frames + 1 ≤ R.frames ∧ 8 + (maxL + 11) + rm.locals ≤ R.locals) :
    vx_CSW R s args own index y bytes maxL ret hh ws rm mc ms n := by
  have ok : ∀ w ∈ va_wsS own index y ws, w.before args s = true := fun w h => ht w (hT w h).1
  have hG : GoodIn Ts ws := fun w h => hT w (by unfold va_wsS; exact List.mem_append_right _ h)
  have hc : Cond.codeWith y bytes maxL ret hh ∈ ws := by rw [hw]; exact List.mem_cons_self
  refine ⟨⟨hrc, hrs, hR.1, hR.2, pay_in ht hG, hc⟩, ht _ (hG _ hc).1, ok _ (by simp [va_wsS]), ⟨hd.1, hd.2.1⟩, fun sig h => ?_, ok _ (by simp [va_wsS]), ok _ (by simp [va_wsS])⟩
  have h2 := hd.2.2
  rw [h] at h2
  exact (Option.some.inj h2).symm
theorem vx_callSW (X : Stand p l e R s m args below meth c T locs cells slots) (hexec : p.tables.exec = Jvm.exec) {own : String} {index : Nat} {y : MethodName} {bytes : ByteArray} {maxL : Nat} {ret : Option FieldType} {hh : List (Nat × Nat × Nat × Nat)}
    (hown : s.vm.findClass own = some m.cls) (hlink : (Cond.methodLink own index y).before args s = true) (hstat : (Cond.static y).before args s = true) (hinit : (Cond.initialized y.cls).before args s = true)
    (hcode : (Cond.codeWith y bytes maxL ret hh).before args s = true) (hy : y.cls ≠ "java/lang/invoke/MethodHandle" ∧ y.cls ≠ "java/lang/invoke/VarHandle")
    {W9 : Nat} {Pre : Pt → Array Value → Prop} {Post : Pt → Array Value → Option Value → Pt → Prop} (hK : Back l R p e below s args y 3 W9 Pre Post)
    {g : JFrame} (hg : g.method = m) (hsize : g.locals.size = c.maxLocals) {argsL rest : List Value} (hlen : ∀ sig, parseMethodDescriptor y.desc = some sig → argsL.length = sig.parameters.length)
    (hstack : g.stack = argsL.reverse ++ rest) (hW : 2 * g.monitorRoom + (rest.map fun v => v.category).sum ≤ W9) (hdg : decode c.code g.pc = .ok (.invokestatic index, 3))
    (hpre : ∀ vm₁, s.WarmedH vm₁ → Pre ⟨T.setVm vm₁, locs, cells, slots⟩ argsL.toArray) :
    ∃ (v : Option Value) (vm₁ : Vm) (B : Pt), s.WarmedH vm₁ ∧ Stand p l e R s m args below meth c B.U B.locs B.cells B.slots ∧ Post ⟨T.setVm vm₁, locs, cells, slots⟩ argsL.toArray v B ∧
      ∀ target, Steps p.tables e below (B.U.setTop { g with pc := g.pc + 3, stack := v.toList ++ rest }) target → Steps p.tables e below (T.setTop g) target := by
  obtain ⟨mk, methM, cM, hnamed, hmethM, -, -, -, -, -, -, hsigM⟩ := Cond.codeWith_spec hcode
  have hstatic : methM.isStatic = true := Cond.static_spec hnamed hmethM hstat
  obtain ⟨kP, hkP, -⟩ := className_of_methodNamed hnamed
  have hinitP : kP.init = .initialized := Cond.initialized_spec (findClass_of_methodNamed hnamed) hkP hinit
  obtain ⟨vm₁, X₁, hstep₁⟩ := X.invokestatic hexec hown hlink hnamed hmethM hstatic hkP hinitP hy (g := g) hg (argsL := argsL) (rest := rest) (hlen _ hsigM) hstack hdg
  obtain ⟨v, B, X', hpost, hsteps⟩ := hK m meth c ⟨T.setVm vm₁, locs, cells, slots⟩ { g with stack := rest } (.invokestatic index) mk argsL.toArray X₁ hg hsize hdg hW (X₁.named hnamed) (hpre vm₁ X₁.warmed)
  exact ⟨v, vm₁, B, X₁.warmed, X', hpost, fun target h => hstep₁ _ fun acts => by rw [doInvoke_state]; exact hsteps.trans h⟩
theorem vx_runSW {y : MethodName} {bytes cc : ByteArray} {maxL nL mc ms n index : Nat} {ret : Option FieldType} {hh : List (Nat × Nat × Nat × Nat)} {ws : List Cond} {rm : Room} {Pc : Array Value → State → Prop} {Qc : Array Value → State → Outcome → State → Prop} {free : Addr → Prop} {Ts : List Cond} {own : String} {As rest : List Value} {g : JFrame}
    (S : CallFix p m c cc nL s args Ts own) (hM : Met l y ws rm Pc Qc mc ms free) (cw : vx_CSW R s args own index y bytes maxL ret hh ws rm mc ms n) (hp : PreS s H Pc As)
    (hg : g.method = m) (hn : As.length = n) (hsize : g.locals.size = nL) (hstack : g.stack = As.reverse ++ rest) (hW : 2 * g.monitorRoom + (rest.map fun v => v.category).sum ≤ 8) (hdg : decode cc g.pc = .ok (.invokestatic index, 3)) (hf : cells + mc ≤ R.cells ∧ slots + ms ≤ R.slots) :
    va_Run p l e R s m args below meth c H locs cells slots mc ms g rest (Qc As.toArray) (free) := by
  obtain ⟨⟨hrc, hrs, hfr, hlo, hws, hcw⟩, hcode, hini, hy, hlen, hl, hstt⟩ := cw
  have hK : Back l R p e below s args y 3 8 (PreOf R mc ms Pc) (PostOf Qc mc ms free) := va_backW (hh := hh) (bytes := bytes) (maxL := maxL) (ret := ret) hM hp.1 hrc hrs hfr hlo hws hcw (fun a' U hW => word_at hW (Or.inl (by first | rfl | simp [Cond.onTables, Cond.keeps, Cond.steady])) hini)
  obtain ⟨hx, hb, hml, ho, -⟩ := S
  intro T hT X
  obtain ⟨v, vm₁, ⟨U', l2, c2, s2⟩, hW₁, X', ⟨g', mk, t, L, e1, e2, hq, h1, hL, h2, h3⟩, st⟩ := vx_callSW X hx (hh := hh) (bytes := bytes) (maxL := maxL) (ret := ret) ho hl hstt hini hcode hy hK hg (hsize.trans hml.symm) (argsL := As) (rest := rest) (fun sig h => hn.trans (hlen sig h)) hstack hW (by rw [hb]; exact hdg)
    (fun vm₁ hW₁ => ⟨hf.1, hf.2, hp.2 (T.setVm vm₁) hT hW₁⟩)
  dsimp only [Pt.U, Pt.locs, Pt.cells, Pt.slots] at X' e1 e2 h1 h2 h3 st
  subst h1; subst h2; subst h3
  exact ⟨v, (T.setVm vm₁).calling g' mk As.toArray, t, U', L, hT, X', hL, e1, e2, hq, st⟩
/-- not caught here, past rows that name other classes: it goes on to the caller -/
theorem vx_outP {p : Program} {l : Launch} {e : Env} {R : Room} {s : State} {m : MethodId} {args : Array Value} {below : List Frame} {meth : Method} {c : Code} {H : Heap} {locs : List Loc} {cells slots : Nat} {free : Addr → Prop} {ls : Array Slot} {rest : List Value} {Qc : Array Value → State → Outcome → State → Prop} {XC : String → State → State → Prop}
    {pc : Nat} {own E : String} {ce : Cell} {q : Addr} {mc ms : Nat} (hown : s.vm.findClass own = some m.cls) (hlocks : meth.locks = false)
    (hpass : ∀ z ∈ c.exceptionTable.toList, covers z pc = false ∨ (z.catchType ≠ 0 ∧ ∃ nm : String, (Cond.classLink own z.catchType nm).before args s = true ∧ va_Nc E nm s)) (hcell : H[q]? = some ce) (hv : ce.vm = .none) (hcl : s.vm.findClass E = some ce.cls)
    (hx : ∀ t : State, t.heap = H → s.vm.Alike t.vm → XC E s t) (hf : ∀ z ∈ locs, free z.base) (hc : cells ≤ mc) (hs : slots ≤ ms) :
    vx_W p l e R s m args below meth c H locs cells slots (vx_MQ below Qc XC args s mc ms free) (F0 m pc ls rest) q := by
  intro T hT X
  have hpl : e.platform.magicAccessors = ({} : Platform).magicAccessors := by rw [X.admits.platform]
  obtain ⟨vm', hW', X', st⟩ := X.outThrough hlocks q (g := F0 m pc ls rest) rfl rfl rfl (cell := ce) (by rw [hT]; exact hcell) (by rw [hv]; rfl)
    (by obtain ⟨k9, h9, -⟩ := Vm.findClass_spec hcl; exact ⟨k9, h9⟩) (fun z hz => by
      rcases hpass z hz with h | ⟨hz0, nm, hl1, hn1⟩
      · exact Or.inl h
      · obtain ⟨c6, hc6, hcl6⟩ := Cond.classLink_spec hown hl1 e.platform hpl
        obtain ⟨a8, b8, h1, h2, h3⟩ := hn1
        cases Option.some.inj (h1.symm.trans hcl)
        cases Option.some.inj (h2.symm.trans hc6)
        exact Or.inr ⟨hz0, _, hcl6, h3⟩)
  obtain ⟨g₀, hfr⟩ := X'.frames_eq
  have hcell9 : ((T.setVm vm').setFrames (.throwing q :: below)).heap[q]? = some ce := by
    show T.heap[q]? = some ce
    rw [hT]; exact hcell
  have hend : Ended ((T.setVm vm').setFrames (.throwing q :: below)) below (.threw q) := State.frames_setFrames _ (State.cur_lt_of_frames hfr)
  refine ⟨(T.setVm vm').setFrames (.throwing q :: below), ?_, .threw q, X'.here.running, hend, Or.inr ⟨q, rfl, E, ce, locs, hx _ hT (X'.ends _).1.alike, hcell9, hv, hcl, (X'.ends _).1, (X'.ends _).2.mono hc hs, hf⟩⟩
  rw [X.pushThrowing_eq]
  exact st
/-- a thing of a world lies in the heap -/
theorem vx_lt {D : va_G} {cl : List vw_C} {ws : va_W} {H1 : Heap} (h : va_P D cl ws H1) {k : Nat} {q : Nat × va_E} (hk : ws[k]? = some q) : q.1 < H1.size := (h k q hk).lt
end VXS
/-! ===== END ===== -/
/-! ===== BEGIN methods with a table of their own: called by a name, returning or throwing ===== -/
section VXH
/-! vx_backW, vx_callVX, vx_callSX, vx_callVW, vx_runVW, vx_runVX, vx_runSX, vx_ofWH follow the same proofs as their sisters above (Free/Laws.lean, Shelf42/LK1.lean); vx_outP calls Shelf42/NT130.lean (outThrough). -/
section
variable {l : Launch} {R : Room} {p : Program} {e : Env} {below : List Frame} {s : State} {sargs : Array Value} {y : MethodName} {len W9 : Nat}
theorem vx_backW {ws : List Cond} {rm : Room} {Pc : Array Value → State → Prop} {Qc : Array Value → State → Outcome → State → Prop} {XC : String → State → State → Prop} {mc ms : Nat} {free : Addr → Prop} {bytes : ByteArray} {maxL : Nat} {ret : Option FieldType} {hh : List (Nat × Nat × Nat × Nat)}
    (hM : vx_Met l y ws rm Pc Qc XC mc ms free) (hblind : FrameBlind Pc) (hrc : rm.cells = mc) (hrs : rm.slots = ms)
    (hframes : rm.frames + 1 ≤ R.frames) (hlocals : W9 + (maxL + 11) + rm.locals ≤ R.locals)
    (hws : ∀ w ∈ ws, ∀ a' U, s.WarmedH U.vm → w.before a' U = true) (hcode : Cond.codeWith y bytes maxL ret hh ∈ ws) (hinit : ∀ a' U, s.WarmedH U.vm → (Cond.initialized y.cls).before a' U = true) :
    vx_Back l R p e below s sargs y len W9 (PreOf R mc ms Pc) (PostOf Qc mc ms free) (vx_Post XC mc ms free) := by
  intro m meth c A g ig mk a X hg hsize hdg hW hn hp
  have h1 : (headSpec ws rm).pre.before a A.U = true := atoms_intro fun w hw => hws w hw _ _ X.warmed
  have h2 : (Cond.codeWith y bytes maxL ret hh).before a A.U = true := hws _ hcode _ _ X.warmed
  have h3 : (Cond.initialized y.cls).before a A.U = true := hinit _ _ X.warmed
  have h4 : A.cells + (headSpec ws rm).room.cells ≤ R.cells := by rw [show (headSpec ws rm).room.cells = mc from hrc]; exact hp.1
  have h5 : A.slots + (headSpec ws rm).room.slots ≤ R.slots := by rw [show (headSpec ws rm).room.slots = ms from hrs]; exact hp.2.1
  have hPc : Pc a (A.U.calling g mk a) := hblind _ _ _ _ hp.2.2
  obtain ⟨U, Ls, c0, s0⟩ := A
  dsimp only [Pt.U, Pt.locs, Pt.cells, Pt.slots] at h1 h2 h3 h4 h5 X hn hPc ⊢
  obtain ⟨m9, methY, cY, hn9, hmY, hcY, -, hlY, -⟩ := Cond.codeWith_spec h2
  cases Option.some.inj (hn9.symm.trans hn)
  obtain ⟨kY, hkY, -⟩ := className_of_methodNamed hn
  have hinitY : kY.init = .initialized := Cond.initialized_spec (findClass_of_methodNamed hn) hkY h3
  have h : At U g.method c below := by rw [hg]; exact X.here
  have hlocals9 : W9 + (maxL + 11) + (headSpec ws rm).room.locals ≤ R.locals := hlocals
  have happ : (headSpec ws rm).appliesLoose y e.platform (U.calling g mk a) = true :=
    Spec.appliesLoose_calling (g := g) h hdg hn hkY hinitY
      (X.room_calling (g := g) (R' := (headSpec ws rm).room) hsize hmY hcY hframes (by rw [hlY]; omega) h4 h5) h1
  obtain ⟨mid, hmid⟩ := h.above
  have hfr : (U.setTop g).frames = (.java g :: mid) ++ below := by rw [State.frames_setTop' g h.top, hmid]; rfl
  obtain ⟨o, s₂, hsteps, -, hend, hq⟩ := Steps.callFree hM p X.admits X.cas X.clock (acts := []) hfr happ hPc trivial
  have hq' : vx_Q Qc XC mc ms free a (U.calling g mk a) o s₂ := hq
  rw [State.frames_setTop' g h.top] at hend
  obtain ⟨g₀, hg0⟩ := Option.isSome_iff_exists.mp h.top
  obtain ⟨r, hr⟩ := State.topJava?_eq_some.mp hg0
  have hr' : (({ U with heap := s₂.heap, slotsUsed := s₂.slotsUsed } : State).setVm s₂.vm).frames = .java g₀ :: r := hr
  rcases hq' with ⟨hqc, L, hfe, hL⟩ | ⟨q, rfl, E, ce, L, hx, hce, hcv, hcl, hW₂, hsm, hL⟩
  · obtain ⟨⟨v, rfl⟩, hW₂, e2, q2, q3, q4, q5, q6⟩ := id hfe
    have e3 : s₂ = ({ (U.calling g mk a).setFrames s₂.frames with heap := s₂.heap, slotsUsed := s₂.slotsUsed } : State).setVm s₂.vm := by
      have : s₂ = ({ s₂ with vm := (U.calling g mk a).vm } : State).setVm s₂.vm := rfl
      rw [e2] at this
      exact this
    obtain ⟨c₂, i₂, len₂, hc₂, hd₂, hf₂⟩ := hend
    have hW' : U.WarmedH s₂.vm := hW₂
    have hcc : c₂ = c := by
      have h1 : s₂.code? g.method = U.code? g.method := by
        rw [State.code?_eq, State.code?_eq, hW'.alike.method?]
      exact Option.some.inj (hc₂.symm.trans (h1.trans h.code))
    subst hcc
    have hlen : len₂ = len := by rw [hdg] at hd₂; cases hd₂; rfl
    subst hlen
    have hs₂ : s₂ = (({ U with heap := s₂.heap, slotsUsed := s₂.slotsUsed } : State).setVm s₂.vm).setTop { g with pc := g.pc + len₂, stack := v.toList ++ g.stack } := by
      refine e3.trans ?_
      rw [hf₂, State.calling_eq h.top, State.setFrames_setFrames, State.setTop_of_frames _ hr', hr]
      rfl
    have hsame : U.sameButNew ({ U with heap := s₂.heap, slotsUsed := s₂.slotsUsed } : State) L mc ms := by
      refine ⟨?_, q2, q3, q4, q5, q6⟩
      obtain ⟨t, ht, -⟩ := State.frames_cons hr
      show ({ U with heap := s₂.heap, slotsUsed := s₂.slotsUsed } : State) = { U.setFrames U.frames with heap := s₂.heap, slotsUsed := s₂.slotsUsed }
      rw [State.setFrames_self ht]
    subst hg
    refine Or.inl ⟨v, ⟨(({ U with heap := s₂.heap, slotsUsed := s₂.slotsUsed } : State).setVm s₂.vm), Ls ++ L, c0 + mc, s0 + ms⟩,
      ⟨X.admits, X.cas, X.clock, X.frames, X.room, X.hears, X.method, X.code, (X.here.setHeapUsed s₂.heap s₂.slotsUsed).setVm hW'.alike, X.tail, State.WarmedH.trans X.warmed hW', X.limits, X.bytes, X.same.trans (hsame.setVm s.vm)⟩,
      ⟨g, mk, s₂, L, rfl, rfl, hqc, rfl, hL, rfl, rfl⟩, ?_⟩
    show Steps p.tables e below _ ((({ U with heap := s₂.heap, slotsUsed := s₂.slotsUsed } : State).setVm s₂.vm).setTop { g with pc := g.pc + len₂, stack := v.toList ++ g.stack })
    rw [← hs₂]
    exact hsteps
  · obtain ⟨e2, q2, q3, q4, q5, q6⟩ := id hsm
    have e3 : s₂ = ({ (U.calling g mk a).setFrames s₂.frames with heap := s₂.heap, slotsUsed := s₂.slotsUsed } : State).setVm s₂.vm := by
      have : s₂ = ({ s₂ with vm := (U.calling g mk a).vm } : State).setVm s₂.vm := rfl
      rw [e2] at this
      exact this
    have hf₂ : s₂.frames = .throwing q :: .java g :: U.frames.tail := hend
    have hW' : U.WarmedH s₂.vm := hW₂
    have hs₂ : s₂ = ((({ U with heap := s₂.heap, slotsUsed := s₂.slotsUsed } : State).setVm s₂.vm).setTop g).pushFrame (.throwing q) := by
      refine e3.trans ?_
      rw [hf₂, State.calling_eq h.top, State.setFrames_setFrames, State.pushFrame, State.frames_setTop _ hr', State.setTop_of_frames _ hr', State.setFrames_setFrames, hr]
      rfl
    have hsame : U.sameButNew ({ U with heap := s₂.heap, slotsUsed := s₂.slotsUsed } : State) L mc ms := by
      refine ⟨?_, q2, q3, q4, q5, q6⟩
      obtain ⟨t, ht, -⟩ := State.frames_cons hr
      show ({ U with heap := s₂.heap, slotsUsed := s₂.slotsUsed } : State) = { U.setFrames U.frames with heap := s₂.heap, slotsUsed := s₂.slotsUsed }
      rw [State.setFrames_self ht]
    subst hg
    refine Or.inr ⟨q, ⟨(({ U with heap := s₂.heap, slotsUsed := s₂.slotsUsed } : State).setVm s₂.vm), Ls ++ L, c0 + mc, s0 + ms⟩,
      ⟨X.admits, X.cas, X.clock, X.frames, X.room, X.hears, X.method, X.code, (X.here.setHeapUsed s₂.heap s₂.slotsUsed).setVm hW'.alike, X.tail, State.WarmedH.trans X.warmed hW', X.limits, X.bytes, X.same.trans (hsame.setVm s.vm)⟩,
      ⟨g, mk, s₂, L, E, ce, rfl, rfl, hx, hce, hcv, hcl, rfl, hL, rfl, rfl⟩, ?_⟩
    show Steps p.tables e below _ (((({ U with heap := s₂.heap, slotsUsed := s₂.slotsUsed } : State).setVm s₂.vm).setTop g).pushFrame (.throwing q))
    rw [← hs₂]
    exact hsteps
end
variable {p : Program} {l : Launch} {e : Env} {R : Room} {s : State} {m : MethodId} {args : Array Value} {below : List Frame} {meth : Method} {c : Code} {T : State} {H : Heap} {locs : List Loc} {cells slots : Nat}
theorem vx_callVX (X : Stand p l e R s m args below meth c T locs cells slots) (hexec : p.tables.exec = Jvm.exec) {own C : String} {index : Nat} {y : MethodName} {bytes : ByteArray} {maxL : Nat} {ret : Option FieldType} {hh : List (Nat × Nat × Nat × Nat)}
    (hown : s.vm.findClass own = some m.cls) (hlink : (Cond.methodLink own index y).before args s = true) (hinst : (Cond.instanceMethod y).before args s = true) (hsel : (Cond.selects C y y).before args s = true)
    (hcode : (Cond.codeWith y bytes maxL ret hh).before args s = true) (hy : y.cls ≠ "java/lang/invoke/MethodHandle" ∧ y.cls ≠ "java/lang/invoke/VarHandle")
    {W9 : Nat} {Pre : Pt → Array Value → Prop} {Post : Pt → Array Value → Option Value → Pt → Prop} {PostX : Pt → Array Value → Addr → Pt → Prop} (hK : vx_Back l R p e below s args y 3 W9 Pre Post PostX)
    {b : Addr} {cellB : Cell} (hcell : T.heap[b]? = some cellB) (hobj : cellB.vm.isStatics = false) (hcls : s.vm.findClass C = some cellB.cls)
    {g : JFrame} (hg : g.method = m) (hsize : g.locals.size = c.maxLocals) {argsL rest : List Value} (hlen : ∀ sig, parseMethodDescriptor y.desc = some sig → argsL.length = sig.parameters.length)
    (hstack : g.stack = argsL.reverse ++ .ref b :: rest) (hW : 2 * g.monitorRoom + (rest.map fun v => v.category).sum ≤ W9) (hdg : decode c.code g.pc = .ok (.invokevirtual index, 3))
    (hpre : ∀ vm₁, s.WarmedH vm₁ → Pre ⟨T.setVm vm₁, locs, cells, slots⟩ (Value.ref b :: argsL).toArray) :
    (∃ (v : Option Value) (vm₁ : Vm) (B : Pt), s.WarmedH vm₁ ∧ Stand p l e R s m args below meth c B.U B.locs B.cells B.slots ∧ Post ⟨T.setVm vm₁, locs, cells, slots⟩ (Value.ref b :: argsL).toArray v B ∧
      ∀ target, Steps p.tables e below (B.U.setTop { g with pc := g.pc + 3, stack := v.toList ++ rest }) target → Steps p.tables e below (T.setTop g) target) ∨
    (∃ (q : Addr) (vm₁ : Vm) (B : Pt), s.WarmedH vm₁ ∧ Stand p l e R s m args below meth c B.U B.locs B.cells B.slots ∧ PostX ⟨T.setVm vm₁, locs, cells, slots⟩ (Value.ref b :: argsL).toArray q B ∧
      Steps p.tables e below (T.setTop g) ((B.U.setTop { g with stack := rest }).pushFrame (.throwing q))) := by
  obtain ⟨mk, methM, hnamed, hmethM, hstM, habM⟩ := Cond.instanceMethod_spec hinst
  obtain ⟨m8, methM', cM, hn8, hmethM', -, -, -, -, -, -, hsigM⟩ := Cond.codeWith_spec hcode
  cases Option.some.inj (hn8.symm.trans hnamed)
  cases hmethM.symm.trans hmethM'
  obtain ⟨c2, r2, m2, q1, q2, q3, q4, kP, hkP, hkPi⟩ := Cond.selects_spec hsel
  cases hcls.symm.trans q1
  cases (State.methodFound?_of_named hnamed hy).symm.trans q2
  cases hnamed.symm.trans q3
  have hselP : selectMethod e.platform s.vm cellB.cls mk = .method mk := by rw [Launch.admits_selectMethod X.admits]; exact q4
  obtain ⟨vm₁, X₁, hstep₁⟩ := X.invokevirtual hexec hown hlink hnamed hmethM hstM hkP hkPi hy (a := b) (cell := cellB) hcell
    (fun z h => by rw [h] at hobj; cases hobj) hselP hmethM habM hkP hkPi (g := g) hg (argsL := argsL) (rest := rest) (hlen _ hsigM) hstack hdg
  rcases hK m meth c ⟨T.setVm vm₁, locs, cells, slots⟩ { g with stack := rest } (.invokevirtual index) mk (Value.ref b :: argsL).toArray X₁ hg hsize hdg hW (X₁.named hnamed) (hpre vm₁ X₁.warmed) with ⟨v, B, X', hpost, hsteps⟩ | ⟨q, B, X', hpost, hsteps⟩
  · exact Or.inl ⟨v, vm₁, B, X₁.warmed, X', hpost, fun target h => hstep₁ _ fun acts => by rw [doInvoke_state]; exact hsteps.trans h⟩
  · exact Or.inr ⟨q, vm₁, B, X₁.warmed, X', hpost, hstep₁ _ fun acts => by rw [doInvoke_state]; exact hsteps⟩
theorem vx_callSX (X : Stand p l e R s m args below meth c T locs cells slots) (hexec : p.tables.exec = Jvm.exec) {own : String} {index : Nat} {y : MethodName} {bytes : ByteArray} {maxL : Nat} {ret : Option FieldType} {hh : List (Nat × Nat × Nat × Nat)}
    (hown : s.vm.findClass own = some m.cls) (hlink : (Cond.methodLink own index y).before args s = true) (hstat : (Cond.static y).before args s = true) (hinit : (Cond.initialized y.cls).before args s = true)
    (hcode : (Cond.codeWith y bytes maxL ret hh).before args s = true) (hy : y.cls ≠ "java/lang/invoke/MethodHandle" ∧ y.cls ≠ "java/lang/invoke/VarHandle")
    {W9 : Nat} {Pre : Pt → Array Value → Prop} {Post : Pt → Array Value → Option Value → Pt → Prop} {PostX : Pt → Array Value → Addr → Pt → Prop} (hK : vx_Back l R p e below s args y 3 W9 Pre Post PostX)
    {g : JFrame} (hg : g.method = m) (hsize : g.locals.size = c.maxLocals) {argsL rest : List Value} (hlen : ∀ sig, parseMethodDescriptor y.desc = some sig → argsL.length = sig.parameters.length)
    (hstack : g.stack = argsL.reverse ++ rest) (hW : 2 * g.monitorRoom + (rest.map fun v => v.category).sum ≤ W9) (hdg : decode c.code g.pc = .ok (.invokestatic index, 3))
    (hpre : ∀ vm₁, s.WarmedH vm₁ → Pre ⟨T.setVm vm₁, locs, cells, slots⟩ argsL.toArray) :
    (∃ (v : Option Value) (vm₁ : Vm) (B : Pt), s.WarmedH vm₁ ∧ Stand p l e R s m args below meth c B.U B.locs B.cells B.slots ∧ Post ⟨T.setVm vm₁, locs, cells, slots⟩ argsL.toArray v B ∧
      ∀ target, Steps p.tables e below (B.U.setTop { g with pc := g.pc + 3, stack := v.toList ++ rest }) target → Steps p.tables e below (T.setTop g) target) ∨
    (∃ (q : Addr) (vm₁ : Vm) (B : Pt), s.WarmedH vm₁ ∧ Stand p l e R s m args below meth c B.U B.locs B.cells B.slots ∧ PostX ⟨T.setVm vm₁, locs, cells, slots⟩ argsL.toArray q B ∧
      Steps p.tables e below (T.setTop g) ((B.U.setTop { g with stack := rest }).pushFrame (.throwing q))) := by
  obtain ⟨mk, methM, cM, hnamed, hmethM, -, -, -, -, -, -, hsigM⟩ := Cond.codeWith_spec hcode
  have hstatic : methM.isStatic = true := Cond.static_spec hnamed hmethM hstat
  obtain ⟨kP, hkP, -⟩ := className_of_methodNamed hnamed
  have hinitP : kP.init = .initialized := Cond.initialized_spec (findClass_of_methodNamed hnamed) hkP hinit
  obtain ⟨vm₁, X₁, hstep₁⟩ := X.invokestatic hexec hown hlink hnamed hmethM hstatic hkP hinitP hy (g := g) hg (argsL := argsL) (rest := rest) (hlen _ hsigM) hstack hdg
  rcases hK m meth c ⟨T.setVm vm₁, locs, cells, slots⟩ { g with stack := rest } (.invokestatic index) mk argsL.toArray X₁ hg hsize hdg hW (X₁.named hnamed) (hpre vm₁ X₁.warmed) with ⟨v, B, X', hpost, hsteps⟩ | ⟨q, B, X', hpost, hsteps⟩
  · exact Or.inl ⟨v, vm₁, B, X₁.warmed, X', hpost, fun target h => hstep₁ _ fun acts => by rw [doInvoke_state]; exact hsteps.trans h⟩
  · exact Or.inr ⟨q, vm₁, B, X₁.warmed, X', hpost, hstep₁ _ fun acts => by rw [doInvoke_state]; exact hsteps⟩
theorem vx_callVW (X : Stand p l e R s m args below meth c T locs cells slots) (hexec : p.tables.exec = Jvm.exec) {own C : String} {index : Nat} {y : MethodName} {bytes : ByteArray} {maxL : Nat} {ret : Option FieldType} {hh : List (Nat × Nat × Nat × Nat)}
    (hown : s.vm.findClass own = some m.cls) (hlink : (Cond.methodLink own index y).before args s = true) (hinst : (Cond.instanceMethod y).before args s = true) (hsel : (Cond.selects C y y).before args s = true)
    (hcode : (Cond.codeWith y bytes maxL ret hh).before args s = true) (hy : y.cls ≠ "java/lang/invoke/MethodHandle" ∧ y.cls ≠ "java/lang/invoke/VarHandle")
    {W9 : Nat} {Pre : Pt → Array Value → Prop} {Post : Pt → Array Value → Option Value → Pt → Prop} (hK : Back l R p e below s args y 3 W9 Pre Post)
    {b : Addr} {cellB : Cell} (hcell : T.heap[b]? = some cellB) (hobj : cellB.vm.isStatics = false) (hcls : s.vm.findClass C = some cellB.cls)
    {g : JFrame} (hg : g.method = m) (hsize : g.locals.size = c.maxLocals) {argsL rest : List Value} (hlen : ∀ sig, parseMethodDescriptor y.desc = some sig → argsL.length = sig.parameters.length)
    (hstack : g.stack = argsL.reverse ++ .ref b :: rest) (hW : 2 * g.monitorRoom + (rest.map fun v => v.category).sum ≤ W9) (hdg : decode c.code g.pc = .ok (.invokevirtual index, 3))
    (hpre : ∀ vm₁, s.WarmedH vm₁ → Pre ⟨T.setVm vm₁, locs, cells, slots⟩ (Value.ref b :: argsL).toArray) :
    ∃ (v : Option Value) (vm₁ : Vm) (B : Pt), s.WarmedH vm₁ ∧ Stand p l e R s m args below meth c B.U B.locs B.cells B.slots ∧ Post ⟨T.setVm vm₁, locs, cells, slots⟩ (Value.ref b :: argsL).toArray v B ∧
      ∀ target, Steps p.tables e below (B.U.setTop { g with pc := g.pc + 3, stack := v.toList ++ rest }) target → Steps p.tables e below (T.setTop g) target := by
  obtain ⟨mk, methM, hnamed, hmethM, hstM, habM⟩ := Cond.instanceMethod_spec hinst
  obtain ⟨m8, methM', cM, hn8, hmethM', -, -, -, -, -, -, hsigM⟩ := Cond.codeWith_spec hcode
  cases Option.some.inj (hn8.symm.trans hnamed)
  cases hmethM.symm.trans hmethM'
  obtain ⟨c2, r2, m2, q1, q2, q3, q4, kP, hkP, hkPi⟩ := Cond.selects_spec hsel
  cases hcls.symm.trans q1
  cases (State.methodFound?_of_named hnamed hy).symm.trans q2
  cases hnamed.symm.trans q3
  have hselP : selectMethod e.platform s.vm cellB.cls mk = .method mk := by rw [Launch.admits_selectMethod X.admits]; exact q4
  obtain ⟨vm₁, X₁, hstep₁⟩ := X.invokevirtual hexec hown hlink hnamed hmethM hstM hkP hkPi hy (a := b) (cell := cellB) hcell
    (fun z h => by rw [h] at hobj; cases hobj) hselP hmethM habM hkP hkPi (g := g) hg (argsL := argsL) (rest := rest) (hlen _ hsigM) hstack hdg
  obtain ⟨v, B, X', hpost, hsteps⟩ := hK m meth c ⟨T.setVm vm₁, locs, cells, slots⟩ { g with stack := rest } (.invokevirtual index) mk (Value.ref b :: argsL).toArray X₁ hg hsize hdg hW (X₁.named hnamed) (hpre vm₁ X₁.warmed)
  exact ⟨v, vm₁, B, X₁.warmed, X', hpost, fun target h => hstep₁ _ fun acts => by rw [doInvoke_state]; exact hsteps.trans h⟩
abbrev vx_CVW (R : Room) (s : State) (args : Array Value) (own C : String) (index : Nat) (y : MethodName) (bytes : ByteArray) (maxL : Nat) (ret : Option FieldType) (hh : List (Nat × Nat × Nat × Nat)) (ws : List Cond) (rm : Room) (mc ms n : Nat) : Prop :=
  (rm.cells = mc ∧ rm.slots = ms ∧ rm.frames + 1 ≤ R.frames ∧ 8 + (maxL + 11) + rm.locals ≤ R.locals ∧ (∀ w ∈ ws, ∀ (a' : Array Value) (U : State), s.WarmedH U.vm → w.before a' U = true) ∧ Cond.codeWith y bytes maxL ret hh ∈ ws) ∧
  (Cond.codeWith y bytes maxL ret hh).before args s = true ∧ (Cond.initialized y.cls).before args s = true ∧ (y.cls ≠ "java/lang/invoke/MethodHandle" ∧ y.cls ≠ "java/lang/invoke/VarHandle") ∧
  (∀ sig, parseMethodDescriptor y.desc = some sig → n = sig.parameters.length) ∧ (Cond.methodLink own index y).before args s = true ∧ (Cond.instanceMethod y).before args s = true ∧ (Cond.selects C y y).before args s = true
theorem vx_cwVW {own C : String} {index maxL mc ms : Nat} {y : MethodName} {bytes : ByteArray} {ret : Option FieldType} {hh : List (Nat × Nat × Nat × Nat)} {Ts ws ws' : List Cond} {rm : Room} (n : Nat) (ht : ∀ w ∈ Ts, w.before args s = true) (hT : GoodIn Ts (wsV own index C y ws)) (hw : ws = Cond.codeWith y bytes maxL ret hh :: ws') (hrc : rm.cells = mc) (hrs : rm.slots = ms)
    (hd : y.cls = C ∧ y.cls ≠ "java/lang/invoke/MethodHandle" ∧ y.cls ≠ "java/lang/invoke/VarHandle" ∧ (parseMethodDescriptor y.desc).map (fun d => d.parameters.length) = some n) (hR : rm.frames + 1 ≤ R.frames ∧ 8 + (maxL + 11) + rm.locals ≤ R.locals) :
    vx_CVW R s args own C index y bytes maxL ret hh ws rm mc ms n := by
  obtain ⟨hC, hd⟩ := hd
  subst hC
  have ok : ∀ w ∈ wsV own index y.cls y ws, w.before args s = true := fun w h => ht w (hT w h).1
  have hG : GoodIn Ts ws := fun w h => hT w (by unfold wsV; exact List.mem_append_right _ h)
  have hc : Cond.codeWith y bytes maxL ret hh ∈ ws := by rw [hw]; exact List.mem_cons_self
  refine ⟨⟨hrc, hrs, hR.1, hR.2, pay_in ht hG, hc⟩, ht _ (hG _ hc).1, ok _ (by simp [wsV]), ⟨hd.1, hd.2.1⟩, fun sig h => ?_, ok _ (by simp [wsV]), ok _ (by simp [wsV]), ok _ (by simp [wsV])⟩
  have h2 := hd.2.2
  rw [h] at h2
  exact (Option.some.inj h2).symm
theorem vx_runVW {y : MethodName} {bytes cc : ByteArray} {maxL nL mc ms n index : Nat} {ret : Option FieldType} {hh : List (Nat × Nat × Nat × Nat)} {ws : List Cond} {rm : Room} {Pc : Array Value → State → Prop} {Qc : Array Value → State → Outcome → State → Prop} {free : Addr → Prop} {Ts : List Cond} {own C : String} {b : Addr} {As rest : List Value} {g : JFrame}
    (S : CallFix p m c cc nL s args Ts own) (hM : Met l y ws rm Pc Qc mc ms free) (cw : vx_CVW R s args own C index y bytes maxL ret hh ws rm mc ms n) (hp : PreV s H C b Pc As)
    (hg : g.method = m) (hn : As.length = n) (hsize : g.locals.size = nL) (hstack : g.stack = As.reverse ++ .ref b :: rest) (hW : 2 * g.monitorRoom + (rest.map fun v => v.category).sum ≤ 8) (hdg : decode cc g.pc = .ok (.invokevirtual index, 3)) (hf : cells + mc ≤ R.cells ∧ slots + ms ≤ R.slots) :
    va_Run p l e R s m args below meth c H locs cells slots mc ms g rest (Qc (Value.ref b :: As).toArray) free := by
  obtain ⟨⟨hrc, hrs, hfr, hlo, hws, hcw⟩, hcode, hini, hy, hlen, hl, hin, hse⟩ := cw
  have hK : Back l R p e below s args y 3 8 (PreOf R mc ms Pc) (PostOf Qc mc ms free) := va_backW (hh := hh) (bytes := bytes) (maxL := maxL) (ret := ret) hM hp.1 hrc hrs hfr hlo hws hcw (fun a' U hW => word_at hW (Or.inl (by first | rfl | simp [Cond.onTables, Cond.keeps, Cond.steady])) hini)
  obtain ⟨hx, hb, hml, ho, -⟩ := S
  obtain ⟨-, ⟨cellB, hcB, hoB, hclB⟩, hPc⟩ := hp
  intro T hT X
  obtain ⟨v, vm₁, ⟨U', l2, c2, s2⟩, hW₁, X', ⟨g', mk, t, L, e1, e2, hq, h1, hL, h2, h3⟩, st⟩ := vx_callVW X hx (C := C) (hh := hh) (bytes := bytes) (maxL := maxL) (ret := ret) ho hl hin hse hcode hy hK (by rw [hT]; exact hcB) hoB hclB hg (hsize.trans hml.symm) (argsL := As) (rest := rest) (fun sig h => hn.trans (hlen sig h)) hstack hW (by rw [hb]; exact hdg)
    (fun vm₁ hW₁ => ⟨hf.1, hf.2, hPc (T.setVm vm₁) hT hW₁⟩)
  dsimp only [Pt.U, Pt.locs, Pt.cells, Pt.slots] at X' e1 e2 h1 h2 h3 st
  subst h1; subst h2; subst h3
  exact ⟨v, (T.setVm vm₁).calling g' mk (Value.ref b :: As).toArray, t, U', L, hT, X', hL, e1, e2, hq, st⟩
section
variable {y : MethodName} {bytes cc : ByteArray} {maxL nL mc ms n index : Nat} {ret : Option FieldType} {ws : List Cond} {rm : Room} {Pc : Array Value → State → Prop} {Qc : Array Value → State → Outcome → State → Prop} {XC : String → State → State → Prop} {free : Addr → Prop} {Ts : List Cond} {own C : String} {b : Addr} {As rest : List Value} {g : JFrame}
theorem vx_runVX {hh : List (Nat × Nat × Nat × Nat)} (S : CallFix p m c cc nL s args Ts own) (hM : vx_Met l y ws rm Pc Qc XC mc ms free) (cw : vx_CVW R s args own C index y bytes maxL ret hh ws rm mc ms n) (hp : PreV s H C b Pc As)
    (hg : g.method = m) (hn : As.length = n) (hsize : g.locals.size = nL) (hstack : g.stack = As.reverse ++ .ref b :: rest) (hW : 2 * g.monitorRoom + (rest.map fun v => v.category).sum ≤ 8) (hdg : decode cc g.pc = .ok (.invokevirtual index, 3)) (hf : cells + mc ≤ R.cells ∧ slots + ms ≤ R.slots) :
    vx_Run p l e R s m args below meth c H locs cells slots mc ms g rest (Qc (Value.ref b :: As).toArray) XC free := by
  obtain ⟨⟨hrc, hrs, hfr, hlo, hws, hcw⟩, hcode, hini, hy, hlen, hl, hin, hse⟩ := cw
  have hK : vx_Back l R p e below s args y 3 8 (PreOf R mc ms Pc) (PostOf Qc mc ms free) (vx_Post XC mc ms free) := vx_backW (hh := hh) (bytes := bytes) (maxL := maxL) (ret := ret) hM hp.1 hrc hrs hfr hlo hws hcw (fun a' U hW => word_at hW (Or.inl (by first | rfl | simp [Cond.onTables, Cond.keeps, Cond.steady])) hini)
  obtain ⟨hx, hb, hml, ho, -⟩ := S
  obtain ⟨-, ⟨cellB, hcB, hoB, hclB⟩, hPc⟩ := hp
  intro T hT X
  rcases vx_callVX X hx (C := C) (hh := hh) (bytes := bytes) (maxL := maxL) (ret := ret) ho hl hin hse hcode hy hK (by rw [hT]; exact hcB) hoB hclB hg (hsize.trans hml.symm) (argsL := As) (rest := rest) (fun sig h => hn.trans (hlen sig h)) hstack hW (by rw [hb]; exact hdg)
    (fun vm₁ hW₁ => ⟨hf.1, hf.2, hPc (T.setVm vm₁) hT hW₁⟩) with ⟨v, vm₁, ⟨U', l2, c2, s2⟩, hW₁, X', ⟨g', mk, t, L, e1, e2, hq, h1, hL, h2, h3⟩, st⟩ | ⟨q, vm₁, ⟨U', l2, c2, s2⟩, hW₁, X', ⟨g', mk, t, L, E, ce, e1, e2, hq, hce, hcv, hcl, h1, hL, h2, h3⟩, st⟩
  · dsimp only [Pt.U, Pt.locs, Pt.cells, Pt.slots] at X' e1 e2 h1 h2 h3 st
    subst h1; subst h2; subst h3
    exact Or.inl ⟨v, (T.setVm vm₁).calling g' mk (Value.ref b :: As).toArray, t, U', L, hT, X', hL, e1, e2, hq, st⟩
  · dsimp only [Pt.U, Pt.locs, Pt.cells, Pt.slots] at X' e1 e2 h1 h2 h3 st hcl
    subst h1; subst h2; subst h3
    exact Or.inr ⟨q, (T.setVm vm₁).calling g' mk (Value.ref b :: As).toArray, t, U', L, E, ce, hT, X', hL, e1, e2, hq, hce, hcv, vx_cls hW₁ hcl, st⟩
theorem vx_runSX {hh : List (Nat × Nat × Nat × Nat)} (S : CallFix p m c cc nL s args Ts own) (hM : vx_Met l y ws rm Pc Qc XC mc ms free) (cw : vx_CSW R s args own index y bytes maxL ret hh ws rm mc ms n) (hp : PreS s H Pc As)
    (hg : g.method = m) (hn : As.length = n) (hsize : g.locals.size = nL) (hstack : g.stack = As.reverse ++ rest) (hW : 2 * g.monitorRoom + (rest.map fun v => v.category).sum ≤ 8) (hdg : decode cc g.pc = .ok (.invokestatic index, 3)) (hf : cells + mc ≤ R.cells ∧ slots + ms ≤ R.slots) :
    vx_Run p l e R s m args below meth c H locs cells slots mc ms g rest (Qc As.toArray) XC free := by
  obtain ⟨⟨hrc, hrs, hfr, hlo, hws, hcw⟩, hcode, hini, hy, hlen, hl, hstt⟩ := cw
  have hK : vx_Back l R p e below s args y 3 8 (PreOf R mc ms Pc) (PostOf Qc mc ms free) (vx_Post XC mc ms free) := vx_backW (hh := hh) (bytes := bytes) (maxL := maxL) (ret := ret) hM hp.1 hrc hrs hfr hlo hws hcw (fun a' U hW => word_at hW (Or.inl (by first | rfl | simp [Cond.onTables, Cond.keeps, Cond.steady])) hini)
  obtain ⟨hx, hb, hml, ho, -⟩ := S
  intro T hT X
  rcases vx_callSX X hx (hh := hh) (bytes := bytes) (maxL := maxL) (ret := ret) ho hl hstt hini hcode hy hK hg (hsize.trans hml.symm) (argsL := As) (rest := rest) (fun sig h => hn.trans (hlen sig h)) hstack hW (by rw [hb]; exact hdg)
    (fun vm₁ hW₁ => ⟨hf.1, hf.2, hp.2 (T.setVm vm₁) hT hW₁⟩) with ⟨v, vm₁, ⟨U', l2, c2, s2⟩, hW₁, X', ⟨g', mk, t, L, e1, e2, hq, h1, hL, h2, h3⟩, st⟩ | ⟨q, vm₁, ⟨U', l2, c2, s2⟩, hW₁, X', ⟨g', mk, t, L, E, ce, e1, e2, hq, hce, hcv, hcl, h1, hL, h2, h3⟩, st⟩
  · dsimp only [Pt.U, Pt.locs, Pt.cells, Pt.slots] at X' e1 e2 h1 h2 h3 st
    subst h1; subst h2; subst h3
    exact Or.inl ⟨v, (T.setVm vm₁).calling g' mk As.toArray, t, U', L, hT, X', hL, e1, e2, hq, st⟩
  · dsimp only [Pt.U, Pt.locs, Pt.cells, Pt.slots] at X' e1 e2 h1 h2 h3 st hcl
    subst h1; subst h2; subst h3
    exact Or.inr ⟨q, (T.setVm vm₁).calling g' mk As.toArray, t, U', L, E, ce, hT, X', hL, e1, e2, hq, hce, hcv, vx_cls hW₁ hcl, st⟩
end
end VXH
theorem vx_ofWH {l : Launch} {y : MethodName} {ws ws' : List Cond} {rm : Room} {Pc : Array Value → State → Prop} {Qc : Array Value → State → Outcome → State → Prop} {XC : String → State → State → Prop} {mc ms : Nat} {free : Addr → Prop} {cc : ByteArray} {maxL : Nat} {ret : Option FieldType} {hh : List (Nat × Nat × Nat × Nat)}
    (hy : plainName y.cls = true) (hw : ws = Cond.codeWith y cc maxL ret hh :: ws')
    (body : ∀ p e s m args below meth c s₁, BodyLoose p l y (headSpec ws rm) cc maxL ret e s m args below meth c s₁ → c.maxLocals = maxL → Pc args s →
      W p l e (headSpec ws rm).room s m args below meth c s.heap [] 0 0 (vx_MQ below Qc XC args s mc ms free) (entryFrame m args maxL)) : vx_Met l y ws rm Pc Qc XC mc ms free := by
  refine MetFree.of_bodyS (code := cc) (maxLocals := maxL) (ret := ret) hy ?_ ?_
  · intro args s m h hn
    obtain ⟨m9, meth, c, hn9, h1, h2, h3, h4, -, h5, h6, -⟩ := Cond.codeWith_spec (atoms_spec (ws := ws) h _ (by rw [hw]; exact List.mem_cons_self))
    cases hn.symm.trans hn9
    exact ⟨meth, c, h1, h2, h3, h4, h5, h6⟩
  · intro p e s m args below meth c s₁ B hml hP _
    have hh0 : s₁.heap = s.heap := by rw [B.state]; rfl
    obtain ⟨t, a1, o, b1, b2, b3⟩ := body p e s m args below meth c s₁ B hml hP s₁ hh0 (Stand.of_body B)
    exact ⟨t, o, a1, b1, b2, b3⟩
/-! ===== END ===== -/
end
section
def TX0 : u_T := fun k => match k with
  | _ => ("", "", "", false)
def tyX0 : Nat → FieldType := fun k => match k with
  | _ => .int
theorem nmX0 : ∀ a, a < 0 → ∀ b, b < 0 → a ≠ b → (TX0 a).2.1 ≠ (TX0 b).2.1 := by decide +kernel
theorem tyX0_ok : ∀ k, k < 0 → parseFieldDescriptor (TX0 k).2.2.1 = some (tyX0 k) := by decide +kernel
def TX1 : u_T := fun k => match k with
  | 0 => ("PermitPark$Locks", "holders", "[I", true)
  | 1 => ("PermitPark$Locks", "waiters", "[I", true)
  | _ => ("PermitPark$Locks", "waiting", "[I", true)
def tyX1 : Nat → FieldType := fun k => match k with
  | 0 => .array .int
  | 1 => .array .int
  | _ => .array .int
theorem nmX1 : ∀ a, a < 3 → ∀ b, b < 3 → a ≠ b → (TX1 a).2.1 ≠ (TX1 b).2.1 := by decide +kernel
theorem tyX1_ok : ∀ k, k < 3 → parseFieldDescriptor (TX1 k).2.2.1 = some (tyX1 k) := by decide +kernel
def TX2 : u_T := fun k => match k with
  | 0 => ("PermitPark$Log", "cells", "[I", true)
  | _ => ("PermitPark$Log", "total", "I", false)
def tyX2 : Nat → FieldType := fun k => match k with
  | 0 => .array .int
  | _ => .int
theorem nmX2 : ∀ a, a < 2 → ∀ b, b < 2 → a ≠ b → (TX2 a).2.1 ≠ (TX2 b).2.1 := by decide +kernel
theorem tyX2_ok : ∀ k, k < 2 → parseFieldDescriptor (TX2 k).2.2.1 = some (tyX2 k) := by decide +kernel
def TX3 : u_T := fun k => match k with
  | 0 => ("PermitPark$Machine", "threads", "[LPermitPark$Strand;", true)
  | 1 => ("PermitPark$Machine", "locks", "LPermitPark$Locks;", true)
  | 2 => ("PermitPark$Machine", "log", "LPermitPark$Log;", true)
  | 3 => ("PermitPark$Machine", "settings", "[I", true)
  | 4 => ("PermitPark$Machine", "threadCount", "I", false)
  | 5 => ("PermitPark$Machine", "time", "I", false)
  | 6 => ("PermitPark$Machine", "x", "I", false)
  | 7 => ("PermitPark$Machine", "idleTicks", "I", false)
  | 8 => ("PermitPark$Machine", "flags", "I", false)
  | 9 => ("PermitPark$Machine", "merged", "I", false)
  | 10 => ("PermitPark$Machine", "wasted", "I", false)
  | 11 => ("PermitPark$Machine", "stolen", "I", false)
  | 12 => ("PermitPark$Machine", "toldOn", "I", false)
  | 13 => ("PermitPark$Machine", "arePrioritiesOld", "Z", false)
  | 14 => ("PermitPark$Machine", "ending", "[I", true)
  | _ => ("PermitPark$Machine", "endingCount", "I", false)
def tyX3 : Nat → FieldType := fun k => match k with
  | 0 => .array (.object "PermitPark$Strand")
  | 1 => .object "PermitPark$Locks"
  | 2 => .object "PermitPark$Log"
  | 3 => .array .int
  | 4 => .int
  | 5 => .int
  | 6 => .int
  | 7 => .int
  | 8 => .int
  | 9 => .int
  | 10 => .int
  | 11 => .int
  | 12 => .int
  | 13 => .boolean
  | 14 => .array .int
  | _ => .int
theorem nmX3 : ∀ a, a < 16 → ∀ b, b < 16 → a ≠ b → (TX3 a).2.1 ≠ (TX3 b).2.1 := by decide +kernel
theorem tyX3_ok : ∀ k, k < 16 → parseFieldDescriptor (TX3 k).2.2.1 = some (tyX3 k) := by decide +kernel
def TX4 : u_T := fun k => match k with
  | _ => ("", "", "", false)
def tyX4 : Nat → FieldType := fun k => match k with
  | _ => .int
theorem nmX4 : ∀ a, a < 0 → ∀ b, b < 0 → a ≠ b → (TX4 a).2.1 ≠ (TX4 b).2.1 := by decide +kernel
theorem tyX4_ok : ∀ k, k < 0 → parseFieldDescriptor (TX4 k).2.2.1 = some (tyX4 k) := by decide +kernel
def TX5 : u_T := fun k => match k with
  | 0 => ("PermitPark$SetupText", "bytes", "[B", true)
  | 1 => ("PermitPark$SetupText", "length", "I", false)
  | 2 => ("PermitPark$SetupText", "errorCode", "I", false)
  | 3 => ("PermitPark$SetupText", "errorPosition", "I", false)
  | 4 => ("PermitPark$SetupText", "kind", "I", false)
  | 5 => ("PermitPark$SetupText", "value", "I", false)
  | 6 => ("PermitPark$SetupText", "first", "I", false)
  | _ => ("PermitPark$SetupText", "behind", "I", false)
def tyX5 : Nat → FieldType := fun k => match k with
  | 0 => .array .byte
  | 1 => .int
  | 2 => .int
  | 3 => .int
  | 4 => .int
  | 5 => .int
  | 6 => .int
  | _ => .int
theorem nmX5 : ∀ a, a < 8 → ∀ b, b < 8 → a ≠ b → (TX5 a).2.1 ≠ (TX5 b).2.1 := by decide +kernel
theorem tyX5_ok : ∀ k, k < 8 → parseFieldDescriptor (TX5 k).2.2.1 = some (tyX5 k) := by decide +kernel
def TX6 : u_T := fun k => match k with
  | 0 => ("PermitPark$Strand", "codes", "[I", true)
  | 1 => ("PermitPark$Strand", "numbers", "[I", true)
  | 2 => ("PermitPark$Strand", "returns", "[I", true)
  | 3 => ("PermitPark$Strand", "length", "I", false)
  | 4 => ("PermitPark$Strand", "base", "I", false)
  | 5 => ("PermitPark$Strand", "priority", "I", false)
  | 6 => ("PermitPark$Strand", "greatest", "I", false)
  | 7 => ("PermitPark$Strand", "state", "I", false)
  | 8 => ("PermitPark$Strand", "place", "I", false)
  | 9 => ("PermitPark$Strand", "worked", "I", false)
  | 10 => ("PermitPark$Strand", "hasPermit", "Z", false)
  | 11 => ("PermitPark$Strand", "hasInterrupt", "Z", false)
  | 12 => ("PermitPark$Strand", "cause", "I", false)
  | 13 => ("PermitPark$Strand", "deadline", "I", false)
  | 14 => ("PermitPark$Strand", "blockedAt", "I", false)
  | 15 => ("PermitPark$Strand", "ticksRun", "I", false)
  | 16 => ("PermitPark$Strand", "lastRun", "I", false)
  | _ => ("PermitPark$Strand", "parks", "I", false)
def tyX6 : Nat → FieldType := fun k => match k with
  | 0 => .array .int
  | 1 => .array .int
  | 2 => .array .int
  | 3 => .int
  | 4 => .int
  | 5 => .int
  | 6 => .int
  | 7 => .int
  | 8 => .int
  | 9 => .int
  | 10 => .boolean
  | 11 => .boolean
  | 12 => .int
  | 13 => .int
  | 14 => .int
  | 15 => .int
  | 16 => .int
  | _ => .int
theorem nmX6 : ∀ a, a < 18 → ∀ b, b < 18 → a ≠ b → (TX6 a).2.1 ≠ (TX6 b).2.1 := by decide +kernel
theorem tyX6_ok : ∀ k, k < 18 → parseFieldDescriptor (TX6 k).2.2.1 = some (tyX6 k) := by decide +kernel
def TX7 : u_T := fun k => match k with
  | 0 => ("PermitPark", "text", "LPermitPark$SetupText;", true)
  | 1 => ("PermitPark", "live", "LPermitPark$Machine;", true)
  | 2 => ("PermitPark", "trial", "LPermitPark$Machine;", true)
  | 3 => ("PermitPark", "saved", "[LPermitPark$Machine;", true)
  | _ => ("PermitPark", "isSaved", "[Z", true)
def tyX7 : Nat → FieldType := fun k => match k with
  | 0 => .object "PermitPark$SetupText"
  | 1 => .object "PermitPark$Machine"
  | 2 => .object "PermitPark$Machine"
  | 3 => .array (.object "PermitPark$Machine")
  | _ => .array .boolean
theorem nmX7 : ∀ a, a < 5 → ∀ b, b < 5 → a ≠ b → (TX7 a).2.1 ≠ (TX7 b).2.1 := by decide +kernel
theorem tyX7_ok : ∀ k, k < 5 → parseFieldDescriptor (TX7 k).2.2.1 = some (tyX7 k) := by decide +kernel
def TX8 : u_T := fun k => match k with
  | 0 => ("PermitParkModel", "state", "[I", true)
  | 1 => ("PermitParkModel", "backup", "[I", true)
  | 2 => ("PermitParkModel", "aside", "[I", true)
  | 3 => ("PermitParkModel", "saved", "[I", true)
  | 4 => ("PermitParkModel", "isSaved", "[Z", true)
  | 5 => ("PermitParkModel", "leastNumbers", "[I", true)
  | 6 => ("PermitParkModel", "greatestNumbers", "[I", true)
  | 7 => ("PermitParkModel", "thrown", "I", false)
  | 8 => ("PermitParkModel", "text", "[I", true)
  | 9 => ("PermitParkModel", "textLength", "I", false)
  | 10 => ("PermitParkModel", "position", "I", false)
  | 11 => ("PermitParkModel", "tokenStart", "I", false)
  | 12 => ("PermitParkModel", "token", "I", false)
  | 13 => ("PermitParkModel", "letters", "I", false)
  | 14 => ("PermitParkModel", "number", "I", false)
  | 15 => ("PermitParkModel", "errorCode", "I", false)
  | 16 => ("PermitParkModel", "errorPosition", "I", false)
  | 17 => ("PermitParkModel", "word", "J", false)
  | 18 => ("PermitParkModel", "isMet", "[Z", true)
  | 19 => ("PermitParkModel", "giver", "[I", true)
  | _ => ("PermitParkModel", "givers", "I", false)
def tyX8 : Nat → FieldType := fun k => match k with
  | 0 => .array .int
  | 1 => .array .int
  | 2 => .array .int
  | 3 => .array .int
  | 4 => .array .boolean
  | 5 => .array .int
  | 6 => .array .int
  | 7 => .int
  | 8 => .array .int
  | 9 => .int
  | 10 => .int
  | 11 => .int
  | 12 => .int
  | 13 => .int
  | 14 => .int
  | 15 => .int
  | 16 => .int
  | 17 => .long
  | 18 => .array .boolean
  | 19 => .array .int
  | _ => .int
theorem nmX8 : ∀ a, a < 21 → ∀ b, b < 21 → a ≠ b → (TX8 a).2.1 ≠ (TX8 b).2.1 := by decide +kernel
theorem tyX8_ok : ∀ k, k < 21 → parseFieldDescriptor (TX8 k).2.2.1 = some (tyX8 k) := by decide +kernel
abbrev wCl : List vw_C := [("PermitPark$Locks", TX1, 3), ("PermitPark$Log", TX2, 2), ("PermitPark$Machine", TX3, 16), ("PermitPark$SetupText", TX5, 8), ("PermitPark$Strand", TX6, 18), ("PermitPark", TX7, 5), ("PermitParkModel", TX8, 21)]
/-- the good words of the tables -/
def tblG : List Cond := lw_tbl.filter goodWord
theorem tblG_good : GoodIn tblG tblG := fun w hw => ⟨hw, good_of_word (List.mem_filter.mp hw).2⟩
theorem tblG_sub {w : Cond} (h : w ∈ tblG) : w ∈ lw_tbl := (List.mem_filter.mp h).1
theorem tblG_in {w : Cond} (h : w ∈ lw_tbl) (g : goodWord w = true) : w ∈ tblG := List.mem_filter.mpr ⟨h, g⟩
theorem tblG_t {w : Cond} (h : w ∈ tables_1) (g : goodWord w = true) : w ∈ tblG := tblG_in (List.mem_append_right _ h) g
theorem tblG_s {q : MethodName × Nat} (h : q ∈ lw_privs) (g : goodWord (Cond.selects q.1.cls q.1 q.1) = true) : Cond.selects q.1.cls q.1 q.1 ∈ tblG := tblG_in (List.mem_append_left _ (List.mem_map.mpr ⟨q, h, rfl⟩)) g
set_option maxRecDepth 100000 in
theorem wIn_1 : ∀ w ∈ u_ws "PermitPark$Locks" TX1 3, w ∈ tblG := by
  intro w hw
  obtain ⟨k, hk, rfl⟩ := List.mem_map.mp hw
  have hk := List.mem_range.mp hk
  match k, hk with
  | 0, _ => exact tblG_t (List.mem_of_getElem? (i := 85) (by decide +kernel)) (by decide +kernel)
  | 1, _ => exact tblG_t (List.mem_of_getElem? (i := 87) (by decide +kernel)) (by decide +kernel)
  | 2, _ => exact tblG_t (List.mem_of_getElem? (i := 89) (by decide +kernel)) (by decide +kernel)
  | n + 3, h => exact absurd h (by omega)
set_option maxRecDepth 100000 in
theorem wIn_2 : ∀ w ∈ u_ws "PermitPark$Log" TX2 2, w ∈ tblG := by
  intro w hw
  obtain ⟨k, hk, rfl⟩ := List.mem_map.mp hw
  have hk := List.mem_range.mp hk
  match k, hk with
  | 0, _ => exact tblG_t (List.mem_of_getElem? (i := 103) (by decide +kernel)) (by decide +kernel)
  | 1, _ => exact tblG_t (List.mem_of_getElem? (i := 105) (by decide +kernel)) (by decide +kernel)
  | n + 2, h => exact absurd h (by omega)
set_option maxRecDepth 100000 in
theorem wIn_3 : ∀ w ∈ u_ws "PermitPark$Machine" TX3 16, w ∈ tblG := by
  intro w hw
  obtain ⟨k, hk, rfl⟩ := List.mem_map.mp hw
  have hk := List.mem_range.mp hk
  match k, hk with
  | 0, _ => exact tblG_t (List.mem_of_getElem? (i := 226) (by decide +kernel)) (by decide +kernel)
  | 1, _ => exact tblG_t (List.mem_of_getElem? (i := 228) (by decide +kernel)) (by decide +kernel)
  | 2, _ => exact tblG_t (List.mem_of_getElem? (i := 230) (by decide +kernel)) (by decide +kernel)
  | 3, _ => exact tblG_t (List.mem_of_getElem? (i := 232) (by decide +kernel)) (by decide +kernel)
  | 4, _ => exact tblG_t (List.mem_of_getElem? (i := 234) (by decide +kernel)) (by decide +kernel)
  | 5, _ => exact tblG_t (List.mem_of_getElem? (i := 236) (by decide +kernel)) (by decide +kernel)
  | 6, _ => exact tblG_t (List.mem_of_getElem? (i := 238) (by decide +kernel)) (by decide +kernel)
  | 7, _ => exact tblG_t (List.mem_of_getElem? (i := 240) (by decide +kernel)) (by decide +kernel)
  | 8, _ => exact tblG_t (List.mem_of_getElem? (i := 242) (by decide +kernel)) (by decide +kernel)
  | 9, _ => exact tblG_t (List.mem_of_getElem? (i := 244) (by decide +kernel)) (by decide +kernel)
  | 10, _ => exact tblG_t (List.mem_of_getElem? (i := 246) (by decide +kernel)) (by decide +kernel)
  | 11, _ => exact tblG_t (List.mem_of_getElem? (i := 248) (by decide +kernel)) (by decide +kernel)
  | 12, _ => exact tblG_t (List.mem_of_getElem? (i := 250) (by decide +kernel)) (by decide +kernel)
  | 13, _ => exact tblG_t (List.mem_of_getElem? (i := 252) (by decide +kernel)) (by decide +kernel)
  | 14, _ => exact tblG_t (List.mem_of_getElem? (i := 254) (by decide +kernel)) (by decide +kernel)
  | 15, _ => exact tblG_t (List.mem_of_getElem? (i := 256) (by decide +kernel)) (by decide +kernel)
  | n + 16, h => exact absurd h (by omega)
set_option maxRecDepth 100000 in
theorem wIn_5 : ∀ w ∈ u_ws "PermitPark$SetupText" TX5 8, w ∈ tblG := by
  intro w hw
  obtain ⟨k, hk, rfl⟩ := List.mem_map.mp hw
  have hk := List.mem_range.mp hk
  match k, hk with
  | 0, _ => exact tblG_t (List.mem_of_getElem? (i := 48) (by decide +kernel)) (by decide +kernel)
  | 1, _ => exact tblG_t (List.mem_of_getElem? (i := 50) (by decide +kernel)) (by decide +kernel)
  | 2, _ => exact tblG_t (List.mem_of_getElem? (i := 52) (by decide +kernel)) (by decide +kernel)
  | 3, _ => exact tblG_t (List.mem_of_getElem? (i := 54) (by decide +kernel)) (by decide +kernel)
  | 4, _ => exact tblG_t (List.mem_of_getElem? (i := 56) (by decide +kernel)) (by decide +kernel)
  | 5, _ => exact tblG_t (List.mem_of_getElem? (i := 58) (by decide +kernel)) (by decide +kernel)
  | 6, _ => exact tblG_t (List.mem_of_getElem? (i := 60) (by decide +kernel)) (by decide +kernel)
  | 7, _ => exact tblG_t (List.mem_of_getElem? (i := 62) (by decide +kernel)) (by decide +kernel)
  | n + 8, h => exact absurd h (by omega)
set_option maxRecDepth 100000 in
theorem wIn_6 : ∀ w ∈ u_ws "PermitPark$Strand" TX6 18, w ∈ tblG := by
  intro w hw
  obtain ⟨k, hk, rfl⟩ := List.mem_map.mp hw
  have hk := List.mem_range.mp hk
  match k, hk with
  | 0, _ => exact tblG_t (List.mem_of_getElem? (i := 156) (by decide +kernel)) (by decide +kernel)
  | 1, _ => exact tblG_t (List.mem_of_getElem? (i := 158) (by decide +kernel)) (by decide +kernel)
  | 2, _ => exact tblG_t (List.mem_of_getElem? (i := 160) (by decide +kernel)) (by decide +kernel)
  | 3, _ => exact tblG_t (List.mem_of_getElem? (i := 162) (by decide +kernel)) (by decide +kernel)
  | 4, _ => exact tblG_t (List.mem_of_getElem? (i := 164) (by decide +kernel)) (by decide +kernel)
  | 5, _ => exact tblG_t (List.mem_of_getElem? (i := 166) (by decide +kernel)) (by decide +kernel)
  | 6, _ => exact tblG_t (List.mem_of_getElem? (i := 168) (by decide +kernel)) (by decide +kernel)
  | 7, _ => exact tblG_t (List.mem_of_getElem? (i := 170) (by decide +kernel)) (by decide +kernel)
  | 8, _ => exact tblG_t (List.mem_of_getElem? (i := 172) (by decide +kernel)) (by decide +kernel)
  | 9, _ => exact tblG_t (List.mem_of_getElem? (i := 174) (by decide +kernel)) (by decide +kernel)
  | 10, _ => exact tblG_t (List.mem_of_getElem? (i := 176) (by decide +kernel)) (by decide +kernel)
  | 11, _ => exact tblG_t (List.mem_of_getElem? (i := 178) (by decide +kernel)) (by decide +kernel)
  | 12, _ => exact tblG_t (List.mem_of_getElem? (i := 180) (by decide +kernel)) (by decide +kernel)
  | 13, _ => exact tblG_t (List.mem_of_getElem? (i := 182) (by decide +kernel)) (by decide +kernel)
  | 14, _ => exact tblG_t (List.mem_of_getElem? (i := 184) (by decide +kernel)) (by decide +kernel)
  | 15, _ => exact tblG_t (List.mem_of_getElem? (i := 186) (by decide +kernel)) (by decide +kernel)
  | 16, _ => exact tblG_t (List.mem_of_getElem? (i := 188) (by decide +kernel)) (by decide +kernel)
  | 17, _ => exact tblG_t (List.mem_of_getElem? (i := 190) (by decide +kernel)) (by decide +kernel)
  | n + 18, h => exact absurd h (by omega)
set_option maxRecDepth 100000 in
theorem wIn_7 : ∀ w ∈ u_ws "PermitPark" TX7 5, w ∈ tblG := by
  intro w hw
  obtain ⟨k, hk, rfl⟩ := List.mem_map.mp hw
  have hk := List.mem_range.mp hk
  match k, hk with
  | 0, _ => exact tblG_t (List.mem_of_getElem? (i := 265) (by decide +kernel)) (by decide +kernel)
  | 1, _ => exact tblG_t (List.mem_of_getElem? (i := 267) (by decide +kernel)) (by decide +kernel)
  | 2, _ => exact tblG_t (List.mem_of_getElem? (i := 269) (by decide +kernel)) (by decide +kernel)
  | 3, _ => exact tblG_t (List.mem_of_getElem? (i := 271) (by decide +kernel)) (by decide +kernel)
  | 4, _ => exact tblG_t (List.mem_of_getElem? (i := 273) (by decide +kernel)) (by decide +kernel)
  | n + 5, h => exact absurd h (by omega)
set_option maxRecDepth 100000 in
theorem wIn_8 : ∀ w ∈ u_ws "PermitParkModel" TX8 21, w ∈ tblG := by
  intro w hw
  obtain ⟨k, hk, rfl⟩ := List.mem_map.mp hw
  have hk := List.mem_range.mp hk
  match k, hk with
  | 0, _ => exact tblG_t (List.mem_of_getElem? (i := 1028) (by decide +kernel)) (by decide +kernel)
  | 1, _ => exact tblG_t (List.mem_of_getElem? (i := 1030) (by decide +kernel)) (by decide +kernel)
  | 2, _ => exact tblG_t (List.mem_of_getElem? (i := 1032) (by decide +kernel)) (by decide +kernel)
  | 3, _ => exact tblG_t (List.mem_of_getElem? (i := 1034) (by decide +kernel)) (by decide +kernel)
  | 4, _ => exact tblG_t (List.mem_of_getElem? (i := 1036) (by decide +kernel)) (by decide +kernel)
  | 5, _ => exact tblG_t (List.mem_of_getElem? (i := 1038) (by decide +kernel)) (by decide +kernel)
  | 6, _ => exact tblG_t (List.mem_of_getElem? (i := 1040) (by decide +kernel)) (by decide +kernel)
  | 7, _ => exact tblG_t (List.mem_of_getElem? (i := 1042) (by decide +kernel)) (by decide +kernel)
  | 8, _ => exact tblG_t (List.mem_of_getElem? (i := 1044) (by decide +kernel)) (by decide +kernel)
  | 9, _ => exact tblG_t (List.mem_of_getElem? (i := 1046) (by decide +kernel)) (by decide +kernel)
  | 10, _ => exact tblG_t (List.mem_of_getElem? (i := 1048) (by decide +kernel)) (by decide +kernel)
  | 11, _ => exact tblG_t (List.mem_of_getElem? (i := 1050) (by decide +kernel)) (by decide +kernel)
  | 12, _ => exact tblG_t (List.mem_of_getElem? (i := 1052) (by decide +kernel)) (by decide +kernel)
  | 13, _ => exact tblG_t (List.mem_of_getElem? (i := 1054) (by decide +kernel)) (by decide +kernel)
  | 14, _ => exact tblG_t (List.mem_of_getElem? (i := 1056) (by decide +kernel)) (by decide +kernel)
  | 15, _ => exact tblG_t (List.mem_of_getElem? (i := 1058) (by decide +kernel)) (by decide +kernel)
  | 16, _ => exact tblG_t (List.mem_of_getElem? (i := 1060) (by decide +kernel)) (by decide +kernel)
  | 17, _ => exact tblG_t (List.mem_of_getElem? (i := 1062) (by decide +kernel)) (by decide +kernel)
  | 18, _ => exact tblG_t (List.mem_of_getElem? (i := 1064) (by decide +kernel)) (by decide +kernel)
  | 19, _ => exact tblG_t (List.mem_of_getElem? (i := 1066) (by decide +kernel)) (by decide +kernel)
  | 20, _ => exact tblG_t (List.mem_of_getElem? (i := 1068) (by decide +kernel)) (by decide +kernel)
  | n + 21, h => exact absurd h (by omega)
end
section
/-! ===== the world: cells by kind (kd), machine (k), thread (i); what they hold is a memory =====
kinds: 0 PermitPark, 1 SetupText, 2 its bytes, 3 Machine k, 4 its threads' row, 5 Strand k i, 6 codes, 7 numbers, 8 returns, 9 Locks k, 10 holders, 11 waiters, 12 waiting, 13 Log k, 14 its cells,
15 settings, 16 ending, 17 saved machines' row, 18 isSaved, 19 the reference, 20 its state, 21 backup, 22 aside, 23 saved, 24 isSaved, 25 leastNumbers, 26 greatestNumbers, 27 text, 28 isMet, 29 giver, 30 the law's long row, 31 its double row -/
abbrev Mem : Type := (Nat → Nat → Nat → Nat → Int32) × Int64 × Int64 × UInt64
def up4 (f : Nat → Nat → Nat → Nat → Int32) (a b c d : Nat) (v : Int32) : Nat → Nat → Nat → Nat → Int32 := fun a' b' c' d' => if a' = a ∧ b' = b ∧ c' = c ∧ d' = d then v else f a' b' c' d'
def wI (M : Mem) (a b c d : Nat) (v : Int32) : Mem := (up4 M.1 a b c d v, M.2)
def wW (M : Mem) (v : Int64) : Mem := (M.1, v, M.2.2)
def wO (M : Mem) (v : Int64) : Mem := (M.1, M.2.1, v, M.2.2.2)
def wD (M : Mem) (v : UInt64) : Mem := (M.1, M.2.1, M.2.2.1, v)
/-- addresses; classes and slots; array classes; which cells are there; which may be written; addresses of constants, strings, their bytes -/
abbrev WT : Type := (Nat → Nat → Nat → Nat) × va_G × (Nat → ClassId) × (Nat → Nat → Nat → Prop) × (Nat → Prop) × (Nat → Nat) × (Nat → Nat) × (Nat → Nat)
abbrev tysOf (cy : Nat → ClassId) : List (ClassId × FieldType) := [(cy 0, .int), (cy 1, .byte), (cy 2, .boolean), (cy 3, .long), (cy 4, .double), (cy 5, .object "PermitPark$Strand"), (cy 6, .object "PermitPark$Machine")]
/-- objects: class, number of fields -/
def kc (kd : Nat) : Option (Nat × Nat) := match kd with
  | 0 => some (5, 5)
  | 1 => some (3, 8)
  | 3 => some (2, 16)
  | 5 => some (4, 18)
  | 9 => some (0, 3)
  | 13 => some (1, 2)
  | 19 => some (6, 21)
  | _ => none
/-- arrays: type, length -/
def ka (kd : Nat) : Option (Nat × Nat) := match kd with
  | 2 => some (1, 800)
  | 4 => some (5, 10)
  | 6 => some (0, 16)
  | 7 => some (0, 16)
  | 8 => some (0, 5)
  | 10 => some (0, 6)
  | 11 => some (0, 60)
  | 12 => some (0, 6)
  | 14 => some (0, 160)
  | 15 => some (0, 2)
  | 16 => some (0, 10)
  | 17 => some (6, 2)
  | 18 => some (2, 2)
  | 20 => some (0, 700)
  | 21 => some (0, 700)
  | 22 => some (0, 700)
  | 23 => some (0, 1400)
  | 24 => some (2, 2)
  | 25 => some (0, 11)
  | 26 => some (0, 11)
  | 27 => some (0, 800)
  | 28 => some (2, 10)
  | 29 => some (0, 12)
  | 30 => some (3, 1)
  | 31 => some (4, 1)
  | _ => none
/-- the cell to which a slot refers -/
def ft (kd k i j : Nat) : Option (Nat × Nat × Nat) := match kd with
  | 0 => (match j with
    | 0 => some (1, 0, 0)
    | 1 => some (3, 0, 0)
    | 2 => some (3, 1, 0)
    | 3 => some (17, 0, 0)
    | 4 => some (18, 0, 0)
    | _ => none)
  | 1 => (match j with
    | 0 => some (2, 0, 0)
    | _ => none)
  | 3 => (match j with
    | 0 => some (4, k, 0)
    | 1 => some (9, k, 0)
    | 2 => some (13, k, 0)
    | 3 => some (15, k, 0)
    | 14 => some (16, k, 0)
    | _ => none)
  | 4 => some (5, k, j)
  | 5 => (match j with
    | 0 => some (6, k, i)
    | 1 => some (7, k, i)
    | 2 => some (8, k, i)
    | _ => none)
  | 9 => (match j with
    | 0 => some (10, k, 0)
    | 1 => some (11, k, 0)
    | 2 => some (12, k, 0)
    | _ => none)
  | 13 => (match j with
    | 0 => some (14, k, 0)
    | _ => none)
  | 17 => some (3, j + 2, 0)
  | 19 => (match j with
    | 0 => some (20, 0, 0)
    | 1 => some (21, 0, 0)
    | 2 => some (22, 0, 0)
    | 3 => some (23, 0, 0)
    | 4 => some (24, 0, 0)
    | 5 => some (25, 0, 0)
    | 6 => some (26, 0, 0)
    | 8 => some (27, 0, 0)
    | 18 => some (28, 0, 0)
    | 19 => some (29, 0, 0)
    | _ => none)
  | _ => none
/-- what a slot that is no reference holds: 0 an int, 1 the word, 2 the law's long, 3 its double -/
def ks (kd j : Nat) : Nat := match kd with
  | 19 => (match j with
    | 17 => 1
    | _ => 0)
  | 30 => 2
  | 31 => 3
  | _ => 0
def fs (M : Mem) (s kd k i j : Nat) : Value := match s with
  | 0 => .int (M.1 kd k i j)
  | 1 => .long M.2.1
  | 2 => .long M.2.2.1
  | _ => .double M.2.2.2
def fv (G : WT) (M : Mem) (kd k i j : Nat) : Value := match ft kd k i j with
  | some c => .ref (G.1 c.1 c.2.1 c.2.2)
  | none => fs M (ks kd j) kd k i j
def Wc (G : WT) (M : Mem) (H : Heap) (kd k i : Nat) : Prop :=
  (∀ ci N, kc kd = some (ci, N) → t_OB (G.1 kd k i) (G.2.1.1 ci) N (G.2.1.2 ci) H (fun j => fv G M kd k i j)) ∧
  (∀ ti n, ka kd = some (ti, n) → H[G.1 kd k i]? = some (arrV (G.2.2.1 ti) n (fun j => fv G M kd k i j)))
/-- the heap holds the memory -/
def Wd (G : WT) (M : Mem) (H : Heap) : Prop := ∀ kd k i, G.2.2.2.1 kd k i → Wc G M H kd k i
/-- what never changes: the addresses are apart and may be written; what a cell refers to is there; an object's slots end -/
def Wa (G : WT) : Prop :=
  (∀ kd k i kd' k' i', G.2.2.2.1 kd k i → G.2.2.2.1 kd' k' i' → G.1 kd k i = G.1 kd' k' i' → kd = kd' ∧ k = k' ∧ i = i') ∧
  (∀ kd k i, G.2.2.2.1 kd k i → G.2.2.2.2.1 (G.1 kd k i)) ∧
  (∀ kd k i j c, G.2.2.2.1 kd k i → ((∃ ci N, kc kd = some (ci, N) ∧ j < N) ∨ (∃ ti n, ka kd = some (ti, n) ∧ j < n)) → ft kd k i j = some c → G.2.2.2.1 c.1 c.2.1 c.2.2)
theorem up4_same (f : Nat → Nat → Nat → Nat → Int32) (a b c d : Nat) (v : Int32) : up4 f a b c d v a b c d = v := by simp [up4]
theorem up4_ne {f : Nat → Nat → Nat → Nat → Int32} {a b c d a' b' c' d' : Nat} {v : Int32} (h : ¬ (a' = a ∧ b' = b ∧ c' = c ∧ d' = d)) : up4 f a b c d v a' b' c' d' = f a' b' c' d' := by simp [up4, h]
theorem fv_int {G : WT} {kd k i j : Nat} (h1 : ft kd k i j = none) (h2 : ks kd j = 0) (M : Mem) : fv G M kd k i j = .int (M.1 kd k i j) := by simp [fv, h1, h2, fs]
theorem fv_ref {G : WT} {kd k i j : Nat} {c : Nat × Nat × Nat} (h1 : ft kd k i j = some c) (M : Mem) : fv G M kd k i j = .ref (G.1 c.1 c.2.1 c.2.2) := by simp [fv, h1]
/-- two memories alike in a cell -/
def alikeAt (M M' : Mem) (kd k i : Nat) : Prop := (∀ j, M'.1 kd k i j = M.1 kd k i j) ∧ (∀ j, ks kd j = 1 → M'.2.1 = M.2.1) ∧ (∀ j, ks kd j = 2 → M'.2.2.1 = M.2.2.1) ∧ (∀ j, 3 ≤ ks kd j → M'.2.2.2 = M.2.2.2)
theorem fv_alike {G : WT} {M M' : Mem} {kd k i : Nat} (h : alikeAt M M' kd k i) (j : Nat) : fv G M' kd k i j = fv G M kd k i j := by
  obtain ⟨h0, h1, h2, h3⟩ := h
  unfold fv
  cases ft kd k i j with
  | some c => rfl
  | none =>
    show fs M' (ks kd j) kd k i j = fs M (ks kd j) kd k i j
    match e : ks kd j with
    | 0 => simp [fs, h0]
    | 1 => simp [fs, h1 j e]
    | 2 => simp [fs, h2 j e]
    | n + 3 => simp [fs, h3 j (by omega)]
theorem wI_alike {M : Mem} {kd k i j : Nat} {v : Int32} {kd' k' i' : Nat} (h : ¬ (kd' = kd ∧ k' = k ∧ i' = i)) : alikeAt M (wI M kd k i j v) kd' k' i' :=
  ⟨fun j' => up4_ne (fun q => h ⟨q.1, q.2.1, q.2.2.1⟩), fun _ _ => rfl, fun _ _ => rfl, fun _ _ => rfl⟩
theorem Wc.kept {G : WT} {M M' : Mem} {H H1 : Heap} {kd k i : Nat} (h : Wc G M H kd k i) (hM : alikeAt M M' kd k i) (hH : H1[G.1 kd k i]? = H[G.1 kd k i]?) : Wc G M' H1 kd k i :=
  ⟨fun ci N hk => ((h.1 ci N hk).kept hH).to (fun j _ => (fv_alike hM j).symm), fun ti n hk => by
    rw [hH, h.2 ti n hk]
    congr 2
    funext j
    exact (fv_alike hM j).symm⟩
theorem Wd.kept {G : WT} {M : Mem} {H H1 : Heap} (h : Wd G M H) (hq : ∀ kd k i, G.2.2.2.1 kd k i → H1[G.1 kd k i]? = H[G.1 kd k i]?) : Wd G M H1 :=
  fun kd k i hd => (h kd k i hd).kept ⟨fun _ => rfl, fun _ _ => rfl, fun _ _ => rfl, fun _ _ => rfl⟩ (hq kd k i hd)
/-- one cell is written, all others stay -/
theorem Wd.set {G : WT} {M M' : Mem} {H H1 : Heap} {kd k i : Nat} (hA : Wa G) (h : Wd G M H) (hd : G.2.2.2.1 kd k i) (hM : ∀ kd' k' i', ¬ (kd' = kd ∧ k' = k ∧ i' = i) → alikeAt M M' kd' k' i') (hH : ∀ q, q ≠ G.1 kd k i → H1[q]? = H[q]?) (hc : Wc G M' H1 kd k i) : Wd G M' H1 := by
  intro kd' k' i' hd'
  by_cases e : kd' = kd ∧ k' = k ∧ i' = i
  · obtain ⟨rfl, rfl, rfl⟩ := e
    exact hc
  · exact (h kd' k' i' hd').kept (hM kd' k' i' e) (hH _ (fun q => e (hA.1 _ _ _ _ _ _ hd' hd q)))
theorem kc_ka {kd ci N : Nat} (h : kc kd = some (ci, N)) : ka kd = none := by
  unfold kc at h
  split at h <;> first | rfl | cases h
theorem ka_kc {kd ti n : Nat} (h : ka kd = some (ti, n)) : kc kd = none := by
  unfold ka at h
  split at h <;> first | rfl | cases h
theorem Wc.obj {G : WT} {M : Mem} {H : Heap} {kd k i ci N : Nat} (hk : kc kd = some (ci, N)) (h : t_OB (G.1 kd k i) (G.2.1.1 ci) N (G.2.1.2 ci) H (fun j => fv G M kd k i j)) : Wc G M H kd k i :=
  ⟨fun ci' N' hk' => by rw [hk] at hk'; cases hk'; exact h, fun ti n hk' => (nomatch ((kc_ka hk).symm.trans hk'))⟩
theorem Wc.arr {G : WT} {M : Mem} {H : Heap} {kd k i ti n : Nat} (hk : ka kd = some (ti, n)) (h : H[G.1 kd k i]? = some (arrV (G.2.2.1 ti) n (fun j => fv G M kd k i j))) : Wc G M H kd k i :=
  ⟨fun ci' N' hk' => (nomatch ((ka_kc hk).symm.trans hk')), fun ti' n' hk' => by rw [hk] at hk'; cases hk'; exact h⟩
/-- markers of the pictures: a value named, a check -/
def nm {α β : Type} (x : α) (f : α → β) : β := f x
def chk {α : Type} (b : Bool) (r : Option α) : Option α := if b then r else none
def inB (j : Int32) (n : Nat) : Bool := decide (0 ≤ j.toInt ∧ j.toInt < n)
theorem inB_in {j : Int32} {n : Nat} (h : inB j n = true) : vp_in j n := vp_in_iff.mpr (by simpa [inB] using h)
theorem chk_some {α : Type} {b : Bool} {r : Option α} {x : α} (h : chk b r = some x) : b = true ∧ r = some x := by
  unfold chk at h
  split at h
  · exact ⟨by assumption, h⟩
  · cases h
/-! the constants of the classes: what never changes in any heap of this claim (xo: Op's constants, 100 their row, 101 the switch's row; xs: strings; xv: their bytes) -/
def xLen : List Nat := [3, 4, 3, 5, 3, 5, 4, 4, 5, 4, 6, 6, 4, 4]
def xByt : List (List Int32) := [[114, 117, 110], [112, 97, 114, 107], [110, 97, 112], [97, 119, 97, 105, 116], [115, 101, 116], [99, 108, 101, 97, 114], [119, 97, 107, 101], [116, 101, 108, 108], [115, 116, 101, 97, 108], [108, 111, 99, 107], [117, 110, 108, 111, 99, 107], [116, 104, 114, 101, 97, 100], [102, 108, 97, 103], [115, 101, 101, 100]]
def xLeast : List Int32 := [1, 0, 1, 0, 0, 0, 0, 0, 0, 0, 0]
def xMost : List Int32 := [20, 0, 200, 7, 7, 7, 9, 9, 9, 5, 5]
end
section
/-! ===== what never changes in the heap, and pictures of runs ===== -/
def Ext (G : WT) (U : State) (H : Heap) : Prop :=
  va_Z "PermitPark" "OPS" "[LPermitPark$Op;" (.ref (G.2.2.2.2.2.1 100)) G.2.2.2.2.1 U H ∧
  va_T (.object "PermitPark$Op") (G.2.2.2.2.2.1 100) 11 (fun j => .ref (G.2.2.2.2.2.1 j)) G.2.2.2.2.1 U H ∧
  (∀ i, i < 11 → va_O "PermitPark$Op" (G.2.2.2.2.2.1 i) G.2.2.2.2.1 U H ∧ va_OF "java/lang/Enum" "ordinal" "I" (.int (nI i)) (G.2.2.2.2.2.1 i) G.2.2.2.2.1 U H ∧
    va_OF "PermitPark$Op" "word" "Ljava/lang/String;" (.ref (G.2.2.2.2.2.2.1 i)) (G.2.2.2.2.2.1 i) G.2.2.2.2.1 U H ∧
    va_OF "PermitPark$Op" "least" "I" (.int (xLeast.getD i 0)) (G.2.2.2.2.2.1 i) G.2.2.2.2.1 U H ∧ va_OF "PermitPark$Op" "most" "I" (.int (xMost.getD i 0)) (G.2.2.2.2.2.1 i) G.2.2.2.2.1 U H) ∧
  (∀ i j, i < 11 → j < 11 → G.2.2.2.2.2.1 i = G.2.2.2.2.2.1 j → i = j) ∧
  va_Z "PermitPark$Op" "PARK" "LPermitPark$Op;" (.ref (G.2.2.2.2.2.1 1)) G.2.2.2.2.1 U H ∧
  va_Z "PermitPark$1" "$SwitchMap$PermitPark$Op" "[I" (.ref (G.2.2.2.2.2.1 101)) G.2.2.2.2.1 U H ∧
  va_T .int (G.2.2.2.2.2.1 101) 11 (fun j => .int (nI (if j < 10 then j + 1 else 0))) G.2.2.2.2.1 U H ∧
  vk_S 14 xLen xByt G.2.2.2.2.2.2.1 G.2.2.2.2.2.2.2 G.2.2.2.2.1 U H ∧
  va_Z "java/lang/String" "COMPACT_STRINGS" "Z" (.int 1) G.2.2.2.2.1 U H ∧
  va_Zq "jdk/internal/util/Preconditions" "SIOOBE_FORMATTER" "Ljava/util/function/BiFunction;" G.2.2.2.2.1 U H ∧
  vx_Zq Bundle.tN "UNASSIGNED_STACK" Bundle.steD G.2.2.2.2.1 U H ∧ vx_Zq Bundle.tN "SUPPRESSED_SENTINEL" Bundle.listD G.2.2.2.2.1 U H
theorem Ext.moved {G : WT} {u U : State} {H : Heap} (hvm : u.vm.Alike U.vm) (h : Ext G u H) : Ext G U H := by
  obtain ⟨h1, h2, h3, h4, h5, h6, h7, h8, h9, h10, h11, h12⟩ := h
  exact ⟨h1.moved hvm, h2.moved hvm, fun i hi => ⟨(h3 i hi).1.moved hvm, (h3 i hi).2.1.moved hvm, (h3 i hi).2.2.1.moved hvm, (h3 i hi).2.2.2.1.moved hvm, (h3 i hi).2.2.2.2.moved hvm⟩, h4, h5.moved hvm, h6.moved hvm, h7.moved hvm, h8.moved hvm, h9.moved hvm, h10.moved hvm, h11.moved hvm, h12.moved hvm⟩
theorem Ext.kept {G : WT} {U : State} {H H1 : Heap} (h : Ext G U H) (hq : ∀ a : Nat, a < H.size → ¬ G.2.2.2.2.1 a → H1[a]? = H[a]?) : Ext G U H1 := by
  obtain ⟨h1, h2, h3, h4, h5, h6, h7, h8, h9, h10, h11, h12⟩ := h
  exact ⟨h1.kept hq, h2.kept hq, fun i hi => ⟨(h3 i hi).1.kept hq, (h3 i hi).2.1.kept hq, (h3 i hi).2.2.1.kept hq, (h3 i hi).2.2.2.1.kept hq, (h3 i hi).2.2.2.2.kept hq⟩, h4, h5.kept hq, h6.kept hq, h7.kept hq, h8.kept hq, h9.kept hq, h10.kept hq, h11.kept hq, h12.kept hq⟩
/-- words that no list carries -/
def NwL : List Cond := [(Jvm.Cond.methodLinkNest "PermitPark" (9 : Nat) ({ cls := "PermitPark$SetupText", name := "<init>", desc := "()V" } : Jvm.MethodName) "PermitPark"), (Jvm.Cond.methodLinkNest "PermitPark$Machine" (19 : Nat) ({ cls := "PermitPark$Locks", name := "<init>", desc := "()V" } : Jvm.MethodName) "PermitPark"), (Jvm.Cond.methodLinkNest "PermitPark$Machine" (26 : Nat) ({ cls := "PermitPark$Log", name := "<init>", desc := "()V" } : Jvm.MethodName) "PermitPark"), (Jvm.Cond.methodLinkNest "PermitPark$Machine" (38 : Nat) ({ cls := "PermitPark$Strand", name := "<init>", desc := "()V" } : Jvm.MethodName) "PermitPark"), (Jvm.Cond.fieldLinkNest "PermitPark$SetupText" (95 : Nat) "PermitPark" "OPS" "[LPermitPark$Op;" "PermitPark"), (Jvm.Cond.methodLinkNest "PermitPark$SetupText" (125 : Nat) ({ cls := "PermitPark", name := "settingMost", desc := "(I)I" } : Jvm.MethodName) "PermitPark"), (Jvm.Cond.fieldLinkNest "PermitPark$Machine" (203 : Nat) "PermitPark" "OPS" "[LPermitPark$Op;" "PermitPark"), (Jvm.Cond.castable "java/lang/IllegalStateException" "java/lang/IllegalStateException"), (Jvm.Cond.castable "java/lang/IllegalArgumentException" "java/lang/IllegalArgumentException"), (Jvm.Cond.castable "java/lang/IndexOutOfBoundsException" "java/lang/IndexOutOfBoundsException"), (Jvm.Cond.declares ({ cls := "java/lang/Enum", name := "ordinal", desc := "()I" } : Jvm.MethodName))]
def NwS : List (String × Nat × String × Nat) := [("PermitPark$SetupText", 34, "thread", 11), ("PermitPark$SetupText", 44, "flag", 12), ("PermitPark$SetupText", 49, "set", 4), ("PermitPark$SetupText", 54, "seed", 13), ("PermitPark", 40, "the text would be too long", 14), ("PermitPark", 244, "a value is out of range", 15), ("PermitPark", 86, "there are 10 threads", 16), ("PermitPark", 237, "there is no such thing", 17), ("PermitPark", 108, "the program is full or at its end", 18), ("PermitPark", 240, "an index is negative", 19), ("PermitPark", 233, "nothing is saved there", 20), ("PermitParkModel", 192, "thread", 11), ("PermitParkModel", 133, "run", 0), ("PermitParkModel", 139, "park", 1), ("PermitParkModel", 141, "nap", 2), ("PermitParkModel", 143, "await", 3), ("PermitParkModel", 145, "set", 4), ("PermitParkModel", 147, "clear", 5), ("PermitParkModel", 151, "wake", 6), ("PermitParkModel", 153, "tell", 7), ("PermitParkModel", 155, "steal", 8), ("PermitParkModel", 157, "lock", 9), ("PermitParkModel", 159, "unlock", 10), ("PermitParkModel", 197, "flag", 12), ("PermitParkModel", 189, "seed", 13)]
def NwC : List (String × String) := [("java/lang/IllegalStateException", "java/lang/IllegalArgumentException"), ("java/lang/IllegalStateException", "java/lang/IndexOutOfBoundsException"), ("java/lang/IllegalArgumentException", "java/lang/IllegalStateException"), ("java/lang/IllegalArgumentException", "java/lang/IndexOutOfBoundsException"), ("java/lang/IndexOutOfBoundsException", "java/lang/IllegalStateException"), ("java/lang/IndexOutOfBoundsException", "java/lang/IllegalArgumentException")]
def Nw (G : WT) (U : State) : Prop := (∀ w ∈ NwL, va_Nw w U) ∧ (∀ q ∈ NwC, va_Nc q.1 q.2 U) ∧ (∀ q ∈ NwS, vk_R q.1 q.2.1 q.2.2.1 (G.2.2.2.2.2.2.1 q.2.2.2) U)
theorem Nw.warm {G : WT} {s U : State} (hW : s.WarmedH U.vm) (h : Nw G s) : Nw G U := by
  refine ⟨fun w hw => ?_, fun q hq => (h.2.1 q hq).moved hW.alike, fun q hq => (h.2.2 q hq).warm hW⟩
  have hz := h.1 w hw
  simp only [NwL, List.mem_cons, List.not_mem_nil, or_false] at hw
  rcases hw with rfl | rfl | rfl | rfl | rfl | rfl | rfl | rfl | rfl | rfl | rfl
  · exact hz.warmM hW
  · exact hz.warmM hW
  · exact hz.warmM hW
  · exact hz.warmM hW
  · exact hz.warmF hW
  · exact hz.warmM hW
  · exact hz.warmF hW
  · exact hz.warmC hW
  · exact hz.warmC hW
  · exact hz.warmC hW
  · exact hz.warmD hW
def Ws (G : WT) (U : State) : Prop := va_K G.2.1 wCl (tysOf G.2.2.1) U ∧ Wa G ∧ Ext G U U.heap ∧ Nw G U
abbrev KT : Type := Program × Launch × Env × Room × State × MethodId × Array Value × List Frame × Method × Code
abbrev KT.s (K : KT) : State := K.2.2.2.2.1
def Cx (K : KT) (G : WT) (own : String) (cc : ByteArray) (nL : Nat) (ret : Option FieldType) : Prop :=
  K.1.tables.exec = Jvm.exec ∧ K.2.2.2.2.2.2.2.2.2.code = cc ∧ K.2.2.2.2.2.2.2.2.2.maxLocals = nL ∧ K.2.2.2.2.1.vm.findClass own = some K.2.2.2.2.2.1.cls ∧ (∀ w ∈ tblG, w.before K.2.2.2.2.2.2.1 K.2.2.2.2.1 = true) ∧ Ws G K.2.2.2.2.1 ∧ K.2.2.2.2.2.2.2.2.1.locks = false ∧ K.2.2.2.2.2.2.2.2.1.sig.returnType = ret
def Run {ρ : Type} (K : KT) (G : WT) (nL cs sl : Nat) (Fn : ρ → Mem → Prop × (State → Prop)) (pc : Nat) (L : List (Nat × Value)) (st : List Value) (M : Mem) (r : Option (ρ × Mem)) : Prop :=
  ∀ (o : ρ) (M' : Mem), r = some (o, M') → (Fn o M').1 → ∀ (H : Heap) (locs : List Loc) (ls : Array Slot), lv_has ls nL L → Wd G M H → va_S G.2.2.2.2.1 K.2.2.2.2.1.heap H locs →
    W K.1 K.2.1 K.2.2.1 K.2.2.2.1 K.2.2.2.2.1 K.2.2.2.2.2.1 K.2.2.2.2.2.2.1 K.2.2.2.2.2.2.2.1 K.2.2.2.2.2.2.2.2.1 K.2.2.2.2.2.2.2.2.2 H locs cs sl (Fn o M').2 (F0 K.2.2.2.2.2.1 pc ls st)
section RROWS
variable {ρ : Type} {K : KT} {G : WT} {own : String} {cc : ByteArray} {nL cs sl : Nat} {ret : Option FieldType} {Fn : ρ → Mem → Prop × (State → Prop)} {pc : Nat} {L L' : List (Nat × Value)} {st : List Value} {M : Mem} {r r1 r2 : Option (ρ × Mem)}
theorem Cx.w (C : Cx K G own cc nL ret) {w : Cond} (h : w ∈ tblG) : w.before K.2.2.2.2.2.2.1 K.2.2.2.2.1 = true := C.2.2.2.2.1 w h
theorem r_none : Run K G nL cs sl Fn pc L st M none := fun o M' h => by cases h
/-- a value named -/
theorem r_nmi {x : Int32} {f : Int32 → Option (ρ × Mem)} (k : ∀ y : Int32, Run K G nL cs sl Fn pc L (.int y :: st) M (f y)) : Run K G nL cs sl Fn pc L (.int x :: st) M (nm x f) := k x
theorem r_nml {x : Int64} {f : Int64 → Option (ρ × Mem)} (k : ∀ y : Int64, Run K G nL cs sl Fn pc L (.long y :: st) M (f y)) : Run K G nL cs sl Fn pc L (.long x :: st) M (nm x f) := k x
theorem r_sub (ks : List Nat) (hl : lv_pick L ks = L') (k : Run K G nL cs sl Fn pc L' st M r) : Run K G nL cs sl Fn pc L st M r := fun o M' h hg H locs ls h1 => k o M' h hg H locs ls (lv_sub h1 ks hl)
theorem r_ite {c : Prop} [Decidable c] (h1 : c → Run K G nL cs sl Fn pc L st M r1) (h2 : ¬ c → Run K G nL cs sl Fn pc L st M r2) : Run K G nL cs sl Fn pc L st M (if c then r1 else r2) := by
  by_cases h : c
  · rw [if_pos h]; exact h1 h
  · rw [if_neg h]; exact h2 h
theorem r_chk {b : Bool} (h1 : b = true → Run K G nL cs sl Fn pc L st M r) : Run K G nL cs sl Fn pc L st M (chk b r) := fun o M' h => h1 (chk_some h).1 o M' (chk_some h).2
theorem r_iconst (C : Cx K G own cc nL ret) {n : Int} {v : Int32} (d : decode cc pc = .ok (.iconst n, 1)) (hv : Int32.ofInt n = v) (k : Run K G nL cs sl Fn (pc + 1) L (.int v :: st) M r) : Run K G nL cs sl Fn pc L (st) M r := fun o M' h hg H locs ls hl hW hS => lv_iconst C.1 C.2.1 d hv (k o M' h hg H locs ls hl hW hS)
theorem r_bipush (C : Cx K G own cc nL ret) {n : Int} {v : Int32} (d : decode cc pc = .ok (.bipush n, 2)) (hv : (Int8.ofInt n).toInt32 = v) (k : Run K G nL cs sl Fn (pc + 2) L (.int v :: st) M r) : Run K G nL cs sl Fn pc L (st) M r := fun o M' h hg H locs ls hl hW hS => lv_bipush C.1 C.2.1 d hv (k o M' h hg H locs ls hl hW hS)
theorem r_sipush (C : Cx K G own cc nL ret) {n : Int} {v : Int32} (d : decode cc pc = .ok (.sipush n, 3)) (hv : (Int16.ofInt n).toInt32 = v) (k : Run K G nL cs sl Fn (pc + 3) L (.int v :: st) M r) : Run K G nL cs sl Fn pc L (st) M r := fun o M' h hg H locs ls hl hW hS => lv_sipush C.1 C.2.1 d hv (k o M' h hg H locs ls hl hW hS)
theorem r_lconst (C : Cx K G own cc nL ret) {n : Fin 2} {v : Int64} (d : decode cc pc = .ok (.lconst n, 1)) (hv : Int64.ofNat (n : Nat) = v) (k : Run K G nL cs sl Fn (pc + 1) L (.long v :: st) M r) : Run K G nL cs sl Fn pc L (st) M r := fun o M' h hg H locs ls hl hW hS => lv_lconst C.1 C.2.1 d hv (k o M' h hg H locs ls hl hW hS)
theorem r_fconst0 (C : Cx K G own cc nL ret) (d : decode cc pc = .ok (.fconst 0, 1)) (k : Run K G nL cs sl Fn (pc + 1) L (.float FP.fconst0 :: st) M r) : Run K G nL cs sl Fn pc L (st) M r := fun o M' h hg H locs ls hl hW hS => lv_fconst0 C.1 C.2.1 d (k o M' h hg H locs ls hl hW hS)
theorem r_dconst0 (C : Cx K G own cc nL ret) (d : decode cc pc = .ok (.dconst 0, 1)) (k : Run K G nL cs sl Fn (pc + 1) L (.double FP.dconst0 :: st) M r) : Run K G nL cs sl Fn pc L (st) M r := fun o M' h hg H locs ls hl hW hS => lv_dconst0 C.1 C.2.1 d (k o M' h hg H locs ls hl hW hS)
theorem r_iload_n (C : Cx K G own cc nL ret) {kk : Fin 4} {i : Nat} {x : Int32} (p : Nat) (hp : L[p]? = some (i, .int x)) (hi : (kk : Nat) = i) (d : decode cc pc = .ok (.iload_n kk, 1)) (k : Run K G nL cs sl Fn (pc + 1) L (.int x :: st) M r) : Run K G nL cs sl Fn pc L (st) M r := fun o M' h hg H locs ls hl hW hS => lv_iload_n C.1 C.2.1 d hi (lv_at hl p hp) (k o M' h hg H locs ls hl hW hS)
theorem r_iload (C : Cx K G own cc nL ret) {i : Nat} {x : Int32} (p : Nat) (hp : L[p]? = some (i, .int x)) (d : decode cc pc = .ok (.iload i, 2)) (k : Run K G nL cs sl Fn (pc + 2) L (.int x :: st) M r) : Run K G nL cs sl Fn pc L (st) M r := fun o M' h hg H locs ls hl hW hS => lv_iload C.1 C.2.1 d (lv_at hl p hp) (k o M' h hg H locs ls hl hW hS)
theorem r_lload_n (C : Cx K G own cc nL ret) {kk : Fin 4} {i : Nat} {x : Int64} (p : Nat) (hp : L[p]? = some (i, .long x)) (hi : (kk : Nat) = i) (d : decode cc pc = .ok (.lload_n kk, 1)) (k : Run K G nL cs sl Fn (pc + 1) L (.long x :: st) M r) : Run K G nL cs sl Fn pc L (st) M r := fun o M' h hg H locs ls hl hW hS => lv_lload_n C.1 C.2.1 d hi (lv_at hl p hp) (k o M' h hg H locs ls hl hW hS)
theorem r_lload (C : Cx K G own cc nL ret) {i : Nat} {x : Int64} (p : Nat) (hp : L[p]? = some (i, .long x)) (d : decode cc pc = .ok (.lload i, 2)) (k : Run K G nL cs sl Fn (pc + 2) L (.long x :: st) M r) : Run K G nL cs sl Fn pc L (st) M r := fun o M' h hg H locs ls hl hW hS => lv_lload C.1 C.2.1 d (lv_at hl p hp) (k o M' h hg H locs ls hl hW hS)
theorem r_fload_n (C : Cx K G own cc nL ret) {kk : Fin 4} {i : Nat} {x : UInt32} (p : Nat) (hp : L[p]? = some (i, .float x)) (hi : (kk : Nat) = i) (d : decode cc pc = .ok (.fload_n kk, 1)) (k : Run K G nL cs sl Fn (pc + 1) L (.float x :: st) M r) : Run K G nL cs sl Fn pc L (st) M r := fun o M' h hg H locs ls hl hW hS => lv_fload_n C.1 C.2.1 d hi (lv_at hl p hp) (k o M' h hg H locs ls hl hW hS)
theorem r_fload (C : Cx K G own cc nL ret) {i : Nat} {x : UInt32} (p : Nat) (hp : L[p]? = some (i, .float x)) (d : decode cc pc = .ok (.fload i, 2)) (k : Run K G nL cs sl Fn (pc + 2) L (.float x :: st) M r) : Run K G nL cs sl Fn pc L (st) M r := fun o M' h hg H locs ls hl hW hS => lv_fload C.1 C.2.1 d (lv_at hl p hp) (k o M' h hg H locs ls hl hW hS)
theorem r_dload_n (C : Cx K G own cc nL ret) {kk : Fin 4} {i : Nat} {x : UInt64} (p : Nat) (hp : L[p]? = some (i, .double x)) (hi : (kk : Nat) = i) (d : decode cc pc = .ok (.dload_n kk, 1)) (k : Run K G nL cs sl Fn (pc + 1) L (.double x :: st) M r) : Run K G nL cs sl Fn pc L (st) M r := fun o M' h hg H locs ls hl hW hS => lv_dload_n C.1 C.2.1 d hi (lv_at hl p hp) (k o M' h hg H locs ls hl hW hS)
theorem r_dload (C : Cx K G own cc nL ret) {i : Nat} {x : UInt64} (p : Nat) (hp : L[p]? = some (i, .double x)) (d : decode cc pc = .ok (.dload i, 2)) (k : Run K G nL cs sl Fn (pc + 2) L (.double x :: st) M r) : Run K G nL cs sl Fn pc L (st) M r := fun o M' h hg H locs ls hl hW hS => lv_dload C.1 C.2.1 d (lv_at hl p hp) (k o M' h hg H locs ls hl hW hS)
theorem r_aload_n (C : Cx K G own cc nL ret) {kk : Fin 4} {i : Nat} {x : Nat} (p : Nat) (hp : L[p]? = some (i, .ref x)) (hi : (kk : Nat) = i) (d : decode cc pc = .ok (.aload_n kk, 1)) (k : Run K G nL cs sl Fn (pc + 1) L (.ref x :: st) M r) : Run K G nL cs sl Fn pc L (st) M r := fun o M' h hg H locs ls hl hW hS => lv_aload_n C.1 C.2.1 d hi (lv_at hl p hp) (k o M' h hg H locs ls hl hW hS)
theorem r_aload (C : Cx K G own cc nL ret) {i : Nat} {x : Nat} (p : Nat) (hp : L[p]? = some (i, .ref x)) (d : decode cc pc = .ok (.aload i, 2)) (k : Run K G nL cs sl Fn (pc + 2) L (.ref x :: st) M r) : Run K G nL cs sl Fn pc L (st) M r := fun o M' h hg H locs ls hl hW hS => lv_aload C.1 C.2.1 d (lv_at hl p hp) (k o M' h hg H locs ls hl hW hS)
theorem r_istore_n (C : Cx K G own cc nL ret) {kk : Fin 4} {i : Nat} {x : Int32} (L' : List (Nat × Value)) (d : decode cc pc = .ok (.istore_n kk, 1)) (hi : (kk : Nat) = i) (hn : i < nL) (hf : (i, Value.int x) :: L.filter (fun q => !(q.1 == i) && !(q.1 + 1 == i && q.2.category == 2)) = L') (k : Run K G nL cs sl Fn (pc + 1) L' st M r) : Run K G nL cs sl Fn pc L (.int x :: st) M r := fun o M' h hg H locs ls hl hW hS => lv_istore_n C.1 C.2.1 d hi hl hn hf (fun ls' hl' => k o M' h hg H locs ls' hl' hW hS)
theorem r_istore (C : Cx K G own cc nL ret) {i : Nat} {x : Int32} (L' : List (Nat × Value)) (d : decode cc pc = .ok (.istore i, 2)) (hn : i < nL) (hf : (i, Value.int x) :: L.filter (fun q => !(q.1 == i) && !(q.1 + 1 == i && q.2.category == 2)) = L') (k : Run K G nL cs sl Fn (pc + 2) L' st M r) : Run K G nL cs sl Fn pc L (.int x :: st) M r := fun o M' h hg H locs ls hl hW hS => lv_istore C.1 C.2.1 d hl hn hf (fun ls' hl' => k o M' h hg H locs ls' hl' hW hS)
theorem r_lstore_n (C : Cx K G own cc nL ret) {kk : Fin 4} {i : Nat} {x : Int64} (L' : List (Nat × Value)) (d : decode cc pc = .ok (.lstore_n kk, 1)) (hi : (kk : Nat) = i) (hn : i + 1 < nL) (hf : (i, Value.long x) :: L.filter (fun q => !(q.1 == i) && (!(q.1 == i + 1) && !(q.1 + 1 == i && q.2.category == 2))) = L') (k : Run K G nL cs sl Fn (pc + 1) L' st M r) : Run K G nL cs sl Fn pc L (.long x :: st) M r := fun o M' h hg H locs ls hl hW hS => lv_lstore_n C.1 C.2.1 d hi hl hn hf (fun ls' hl' => k o M' h hg H locs ls' hl' hW hS)
theorem r_lstore (C : Cx K G own cc nL ret) {i : Nat} {x : Int64} (L' : List (Nat × Value)) (d : decode cc pc = .ok (.lstore i, 2)) (hn : i + 1 < nL) (hf : (i, Value.long x) :: L.filter (fun q => !(q.1 == i) && (!(q.1 == i + 1) && !(q.1 + 1 == i && q.2.category == 2))) = L') (k : Run K G nL cs sl Fn (pc + 2) L' st M r) : Run K G nL cs sl Fn pc L (.long x :: st) M r := fun o M' h hg H locs ls hl hW hS => lv_lstore C.1 C.2.1 d hl hn hf (fun ls' hl' => k o M' h hg H locs ls' hl' hW hS)
theorem r_fstore_n (C : Cx K G own cc nL ret) {kk : Fin 4} {i : Nat} {x : UInt32} (L' : List (Nat × Value)) (d : decode cc pc = .ok (.fstore_n kk, 1)) (hi : (kk : Nat) = i) (hn : i < nL) (hf : (i, Value.float x) :: L.filter (fun q => !(q.1 == i) && !(q.1 + 1 == i && q.2.category == 2)) = L') (k : Run K G nL cs sl Fn (pc + 1) L' st M r) : Run K G nL cs sl Fn pc L (.float x :: st) M r := fun o M' h hg H locs ls hl hW hS => lv_fstore_n C.1 C.2.1 d hi hl hn hf (fun ls' hl' => k o M' h hg H locs ls' hl' hW hS)
theorem r_fstore (C : Cx K G own cc nL ret) {i : Nat} {x : UInt32} (L' : List (Nat × Value)) (d : decode cc pc = .ok (.fstore i, 2)) (hn : i < nL) (hf : (i, Value.float x) :: L.filter (fun q => !(q.1 == i) && !(q.1 + 1 == i && q.2.category == 2)) = L') (k : Run K G nL cs sl Fn (pc + 2) L' st M r) : Run K G nL cs sl Fn pc L (.float x :: st) M r := fun o M' h hg H locs ls hl hW hS => lv_fstore C.1 C.2.1 d hl hn hf (fun ls' hl' => k o M' h hg H locs ls' hl' hW hS)
theorem r_dstore_n (C : Cx K G own cc nL ret) {kk : Fin 4} {i : Nat} {x : UInt64} (L' : List (Nat × Value)) (d : decode cc pc = .ok (.dstore_n kk, 1)) (hi : (kk : Nat) = i) (hn : i + 1 < nL) (hf : (i, Value.double x) :: L.filter (fun q => !(q.1 == i) && (!(q.1 == i + 1) && !(q.1 + 1 == i && q.2.category == 2))) = L') (k : Run K G nL cs sl Fn (pc + 1) L' st M r) : Run K G nL cs sl Fn pc L (.double x :: st) M r := fun o M' h hg H locs ls hl hW hS => lv_dstore_n C.1 C.2.1 d hi hl hn hf (fun ls' hl' => k o M' h hg H locs ls' hl' hW hS)
theorem r_dstore (C : Cx K G own cc nL ret) {i : Nat} {x : UInt64} (L' : List (Nat × Value)) (d : decode cc pc = .ok (.dstore i, 2)) (hn : i + 1 < nL) (hf : (i, Value.double x) :: L.filter (fun q => !(q.1 == i) && (!(q.1 == i + 1) && !(q.1 + 1 == i && q.2.category == 2))) = L') (k : Run K G nL cs sl Fn (pc + 2) L' st M r) : Run K G nL cs sl Fn pc L (.double x :: st) M r := fun o M' h hg H locs ls hl hW hS => lv_dstore C.1 C.2.1 d hl hn hf (fun ls' hl' => k o M' h hg H locs ls' hl' hW hS)
theorem r_astore_n (C : Cx K G own cc nL ret) {kk : Fin 4} {i : Nat} {x : Nat} (L' : List (Nat × Value)) (d : decode cc pc = .ok (.astore_n kk, 1)) (hi : (kk : Nat) = i) (hn : i < nL) (hf : (i, Value.ref x) :: L.filter (fun q => !(q.1 == i) && !(q.1 + 1 == i && q.2.category == 2)) = L') (k : Run K G nL cs sl Fn (pc + 1) L' st M r) : Run K G nL cs sl Fn pc L (.ref x :: st) M r := fun o M' h hg H locs ls hl hW hS => lv_astore_n C.1 C.2.1 d hi hl hn hf (fun ls' hl' => k o M' h hg H locs ls' hl' hW hS)
theorem r_astore (C : Cx K G own cc nL ret) {i : Nat} {x : Nat} (L' : List (Nat × Value)) (d : decode cc pc = .ok (.astore i, 2)) (hn : i < nL) (hf : (i, Value.ref x) :: L.filter (fun q => !(q.1 == i) && !(q.1 + 1 == i && q.2.category == 2)) = L') (k : Run K G nL cs sl Fn (pc + 2) L' st M r) : Run K G nL cs sl Fn pc L (.ref x :: st) M r := fun o M' h hg H locs ls hl hW hS => lv_astore C.1 C.2.1 d hl hn hf (fun ls' hl' => k o M' h hg H locs ls' hl' hW hS)
theorem r_iinc (C : Cx K G own cc nL ret) {i p : Nat} {n : Int} {x v : Int32} (L' : List (Nat × Value)) (d : decode cc pc = .ok (.iinc i n, 3)) (hk : L[p]? = some (i, .int x)) (hv : x + Int32.ofInt n = v) (hn : i < nL) (hf : (i, Value.int v) :: L.filter (fun q => !(q.1 == i) && !(q.1 + 1 == i && q.2.category == 2)) = L') (k : Run K G nL cs sl Fn (pc + 3) L' st M r) : Run K G nL cs sl Fn pc L st M r := fun o M' h hg H locs ls hl hW hS => lv_iinc C.1 C.2.1 d hl hk hv hn hf (fun ls' hl' => k o M' h hg H locs ls' hl' hW hS)
theorem r_iadd (C : Cx K G own cc nL ret) {x y : Int32} (d : decode cc pc = .ok (.iadd, 1)) (k : Run K G nL cs sl Fn (pc + 1) L (.int (x + y) :: st) M r) : Run K G nL cs sl Fn pc L (.int y :: .int x :: st) M r := fun o M' h hg H locs ls hl hW hS => lv_iadd C.1 C.2.1 d (k o M' h hg H locs ls hl hW hS)
theorem r_isub (C : Cx K G own cc nL ret) {x y : Int32} (d : decode cc pc = .ok (.isub, 1)) (k : Run K G nL cs sl Fn (pc + 1) L (.int (x - y) :: st) M r) : Run K G nL cs sl Fn pc L (.int y :: .int x :: st) M r := fun o M' h hg H locs ls hl hW hS => lv_isub C.1 C.2.1 d (k o M' h hg H locs ls hl hW hS)
theorem r_imul (C : Cx K G own cc nL ret) {x y : Int32} (d : decode cc pc = .ok (.imul, 1)) (k : Run K G nL cs sl Fn (pc + 1) L (.int (x * y) :: st) M r) : Run K G nL cs sl Fn pc L (.int y :: .int x :: st) M r := fun o M' h hg H locs ls hl hW hS => lv_imul C.1 C.2.1 d (k o M' h hg H locs ls hl hW hS)
theorem r_iand (C : Cx K G own cc nL ret) {x y : Int32} (d : decode cc pc = .ok (.iand, 1)) (k : Run K G nL cs sl Fn (pc + 1) L (.int (x &&& y) :: st) M r) : Run K G nL cs sl Fn pc L (.int y :: .int x :: st) M r := fun o M' h hg H locs ls hl hW hS => lv_iand C.1 C.2.1 d (k o M' h hg H locs ls hl hW hS)
theorem r_ior (C : Cx K G own cc nL ret) {x y : Int32} (d : decode cc pc = .ok (.ior, 1)) (k : Run K G nL cs sl Fn (pc + 1) L (.int (x ||| y) :: st) M r) : Run K G nL cs sl Fn pc L (.int y :: .int x :: st) M r := fun o M' h hg H locs ls hl hW hS => lv_ior C.1 C.2.1 d (k o M' h hg H locs ls hl hW hS)
theorem r_ixor (C : Cx K G own cc nL ret) {x y : Int32} (d : decode cc pc = .ok (.ixor, 1)) (k : Run K G nL cs sl Fn (pc + 1) L (.int (x ^^^ y) :: st) M r) : Run K G nL cs sl Fn pc L (.int y :: .int x :: st) M r := fun o M' h hg H locs ls hl hW hS => lv_ixor C.1 C.2.1 d (k o M' h hg H locs ls hl hW hS)
theorem r_ishl (C : Cx K G own cc nL ret) {x y : Int32} (d : decode cc pc = .ok (.ishl, 1)) (k : Run K G nL cs sl Fn (pc + 1) L (.int (x <<< (y &&& 31)) :: st) M r) : Run K G nL cs sl Fn pc L (.int y :: .int x :: st) M r := fun o M' h hg H locs ls hl hW hS => lv_ishl C.1 C.2.1 d (k o M' h hg H locs ls hl hW hS)
theorem r_ishr (C : Cx K G own cc nL ret) {x y : Int32} (d : decode cc pc = .ok (.ishr, 1)) (k : Run K G nL cs sl Fn (pc + 1) L (.int (x >>> (y &&& 31)) :: st) M r) : Run K G nL cs sl Fn pc L (.int y :: .int x :: st) M r := fun o M' h hg H locs ls hl hW hS => lv_ishr C.1 C.2.1 d (k o M' h hg H locs ls hl hW hS)
theorem r_ladd (C : Cx K G own cc nL ret) {x y : Int64} (d : decode cc pc = .ok (.ladd, 1)) (k : Run K G nL cs sl Fn (pc + 1) L (.long (x + y) :: st) M r) : Run K G nL cs sl Fn pc L (.long y :: .long x :: st) M r := fun o M' h hg H locs ls hl hW hS => lv_ladd C.1 C.2.1 d (k o M' h hg H locs ls hl hW hS)
theorem r_lsub (C : Cx K G own cc nL ret) {x y : Int64} (d : decode cc pc = .ok (.lsub, 1)) (k : Run K G nL cs sl Fn (pc + 1) L (.long (x - y) :: st) M r) : Run K G nL cs sl Fn pc L (.long y :: .long x :: st) M r := fun o M' h hg H locs ls hl hW hS => lv_lsub C.1 C.2.1 d (k o M' h hg H locs ls hl hW hS)
theorem r_lmul (C : Cx K G own cc nL ret) {x y : Int64} (d : decode cc pc = .ok (.lmul, 1)) (k : Run K G nL cs sl Fn (pc + 1) L (.long (x * y) :: st) M r) : Run K G nL cs sl Fn pc L (.long y :: .long x :: st) M r := fun o M' h hg H locs ls hl hW hS => lv_lmul C.1 C.2.1 d (k o M' h hg H locs ls hl hW hS)
theorem r_irem (C : Cx K G own cc nL ret) {x y : Int32} (d : decode cc pc = .ok (.irem, 1)) (hne : ¬ y = 0) (k : Run K G nL cs sl Fn (pc + 1) L (.int (x - x / y * y) :: st) M r) : Run K G nL cs sl Fn pc L (.int y :: .int x :: st) M r := fun o M' h hg H locs ls hl hW hS => lv_irem C.1 C.2.1 d hne (k o M' h hg H locs ls hl hW hS)
theorem r_lrem (C : Cx K G own cc nL ret) {x y : Int64} (d : decode cc pc = .ok (.lrem, 1)) (hne : ¬ y = 0) (k : Run K G nL cs sl Fn (pc + 1) L (.long (x - x / y * y) :: st) M r) : Run K G nL cs sl Fn pc L (.long y :: .long x :: st) M r := fun o M' h hg H locs ls hl hW hS => lv_lrem C.1 C.2.1 d hne (k o M' h hg H locs ls hl hW hS)
theorem r_ineg (C : Cx K G own cc nL ret) {x : Int32} (d : decode cc pc = .ok (.ineg, 1)) (k : Run K G nL cs sl Fn (pc + 1) L (.int (-x) :: st) M r) : Run K G nL cs sl Fn pc L (.int x :: st) M r := fun o M' h hg H locs ls hl hW hS => lv_ineg C.1 C.2.1 d (k o M' h hg H locs ls hl hW hS)
theorem r_i2l (C : Cx K G own cc nL ret) {x : Int32} (d : decode cc pc = .ok (.i2l, 1)) (k : Run K G nL cs sl Fn (pc + 1) L (.long x.toInt64 :: st) M r) : Run K G nL cs sl Fn pc L (.int x :: st) M r := fun o M' h hg H locs ls hl hW hS => lv_i2l C.1 C.2.1 d rfl (k o M' h hg H locs ls hl hW hS)
theorem r_l2i (C : Cx K G own cc nL ret) {x : Int64} (d : decode cc pc = .ok (.l2i, 1)) (k : Run K G nL cs sl Fn (pc + 1) L (.int x.toInt32 :: st) M r) : Run K G nL cs sl Fn pc L (.long x :: st) M r := fun o M' h hg H locs ls hl hW hS => lv_l2i C.1 C.2.1 d rfl (k o M' h hg H locs ls hl hW hS)
theorem r_i2b (C : Cx K G own cc nL ret) {x : Int32} (d : decode cc pc = .ok (.i2b, 1)) (k : Run K G nL cs sl Fn (pc + 1) L (.int x.toInt8.toInt32 :: st) M r) : Run K G nL cs sl Fn pc L (.int x :: st) M r := fun o M' h hg H locs ls hl hW hS => lv_i2b C.1 C.2.1 d rfl (k o M' h hg H locs ls hl hW hS)
theorem r_i2f (C : Cx K G own cc nL ret) {x : Int32} (d : decode cc pc = .ok (.i2f, 1)) (k : Run K G nL cs sl Fn (pc + 1) L (.float (FP.i2f x) :: st) M r) : Run K G nL cs sl Fn pc L (.int x :: st) M r := fun o M' h hg H locs ls hl hW hS => lv_i2f C.1 C.2.1 d (k o M' h hg H locs ls hl hW hS)
theorem r_i2d (C : Cx K G own cc nL ret) {x : Int32} (d : decode cc pc = .ok (.i2d, 1)) (k : Run K G nL cs sl Fn (pc + 1) L (.double (FP.i2d x) :: st) M r) : Run K G nL cs sl Fn pc L (.int x :: st) M r := fun o M' h hg H locs ls hl hW hS => lv_i2d C.1 C.2.1 d (k o M' h hg H locs ls hl hW hS)
theorem r_fcmp (C : Cx K G own cc nL ret) {x y : UInt32} {op : CmpOp} (d : decode cc pc = .ok (.fcmp op, 1)) (k : Run K G nL cs sl Fn (pc + 1) L (.int (Op.cmpValue (FP.fcmp x y) op) :: st) M r) : Run K G nL cs sl Fn pc L (.float y :: .float x :: st) M r := fun o M' h hg H locs ls hl hW hS => lv_fcmp C.1 C.2.1 d (k o M' h hg H locs ls hl hW hS)
theorem r_dcmp (C : Cx K G own cc nL ret) {x y : UInt64} {op : CmpOp} (d : decode cc pc = .ok (.dcmp op, 1)) (k : Run K G nL cs sl Fn (pc + 1) L (.int (Op.cmpValue (FP.dcmp x y) op) :: st) M r) : Run K G nL cs sl Fn pc L (.double y :: .double x :: st) M r := fun o M' h hg H locs ls hl hW hS => lv_dcmp C.1 C.2.1 d (k o M' h hg H locs ls hl hW hS)
theorem r_lcmp (C : Cx K G own cc nL ret) {x y : Int64} (d : decode cc pc = .ok (.lcmp, 1)) (k : Run K G nL cs sl Fn (pc + 1) L (.int (lg_cmp x y) :: st) M r) : Run K G nL cs sl Fn pc L (.long y :: .long x :: st) M r := fun o M' h hg H locs ls hl hW hS => W.lcmp C.1 C.2.1 d (k o M' h hg H locs ls hl hW hS)
theorem r_dup (C : Cx K G own cc nL ret) {v : Value} (d : decode cc pc = .ok (.dup, 1)) (hc : v.category = 1) (k : Run K G nL cs sl Fn (pc + 1) L (v :: v :: st) M r) : Run K G nL cs sl Fn pc L (v :: st) M r := fun o M' h hg H locs ls hl hW hS => lv_dup C.1 C.2.1 d hc (k o M' h hg H locs ls hl hW hS)
theorem r_pop (C : Cx K G own cc nL ret) {v : Value} (d : decode cc pc = .ok (.pop, 1)) (hc : v.category = 1) (k : Run K G nL cs sl Fn (pc + 1) L (st) M r) : Run K G nL cs sl Fn pc L (v :: st) M r := fun o M' h hg H locs ls hl hW hS => lv_pop C.1 C.2.1 d hc (k o M' h hg H locs ls hl hW hS)
theorem r_dup2_11 (C : Cx K G own cc nL ret) {v w : Value} (d : decode cc pc = .ok (.dup2, 1)) (hc : v.category = 1) (hc2 : w.category = 1) (k : Run K G nL cs sl Fn (pc + 1) L (v :: w :: v :: w :: st) M r) : Run K G nL cs sl Fn pc L (v :: w :: st) M r := fun o M' h hg H locs ls hl hW hS => lv_dup2_11 C.1 C.2.1 d hc hc2 (k o M' h hg H locs ls hl hW hS)
theorem r_fdiv (C : Cx K G own cc nL ret) {x y : UInt32} (d : decode cc pc = .ok (.fdiv, 1)) (k : Run K G nL cs sl Fn (pc + 1) L (.float (FP.fdiv x y) :: st) M r) : Run K G nL cs sl Fn pc L (.float y :: .float x :: st) M (chk (decide ((FP.fdiv x y) &&& 0x7fffffff ≤ 0x7f800000)) r) := fun o M' h hg H locs ls hl hW hS => lv_fdiv C.1 C.2.1 d (by have hh := of_decide_eq_true (chk_some h).1; exact hh) (k o M' (chk_some h).2 hg H locs ls hl hW hS)
theorem r_ddiv (C : Cx K G own cc nL ret) {x y : UInt64} (d : decode cc pc = .ok (.ddiv, 1)) (k : Run K G nL cs sl Fn (pc + 1) L (.double (FP.ddiv x y) :: st) M r) : Run K G nL cs sl Fn pc L (.double y :: .double x :: st) M (chk (decide ((FP.ddiv x y) &&& 0x7fffffffffffffff ≤ 0x7ff0000000000000)) r) := fun o M' h hg H locs ls hl hW hS => lv_ddiv C.1 C.2.1 d (by have hh := of_decide_eq_true (chk_some h).1; exact hh) (k o M' (chk_some h).2 hg H locs ls hl hW hS)
theorem r_f2d (C : Cx K G own cc nL ret) {x : UInt32} (d : decode cc pc = .ok (.f2d, 1)) (k : Run K G nL cs sl Fn (pc + 1) L (.double (FP.f2d x) :: st) M r) : Run K G nL cs sl Fn pc L (.float x :: st) M (chk (decide ((FP.f2d x) &&& 0x7fffffffffffffff ≤ 0x7ff0000000000000)) r) := fun o M' h hg H locs ls hl hW hS => lv_f2d C.1 C.2.1 d (by have hh := of_decide_eq_true (chk_some h).1; exact hh) (k o M' (chk_some h).2 hg H locs ls hl hW hS)
theorem r_if_eq (C : Cx K G own cc nL ret) {x : Int32} {off : Int} {tgt : Nat} (d : decode cc pc = .ok (.ifCond .eq off, 3)) (ht : (pc : Int) + off = (tgt : Int)) (k1 : Run K G nL cs sl Fn tgt L st M r1) (k2 : Run K G nL cs sl Fn (pc + 3) L st M r2) : Run K G nL cs sl Fn pc L (.int x :: st) M (if x = 0 then r1 else r2) := by
  intro o M' h hg H locs ls hl hW hS
  refine lv_if_eq C.1 C.2.1 d ht (fun hc => ?_) (fun hc => ?_)
  · rw [if_pos hc] at h; exact k1 o M' h hg H locs ls hl hW hS
  · rw [if_neg hc] at h; exact k2 o M' h hg H locs ls hl hW hS
theorem r_icmp_eq (C : Cx K G own cc nL ret) {x y : Int32} {off : Int} {tgt : Nat} (d : decode cc pc = .ok (.if_icmp .eq off, 3)) (ht : (pc : Int) + off = (tgt : Int)) (k1 : Run K G nL cs sl Fn tgt L st M r1) (k2 : Run K G nL cs sl Fn (pc + 3) L st M r2) : Run K G nL cs sl Fn pc L (.int y :: .int x :: st) M (if x = y then r1 else r2) := by
  intro o M' h hg H locs ls hl hW hS
  refine lv_icmp_eq C.1 C.2.1 d ht (fun hc => ?_) (fun hc => ?_)
  · rw [if_pos hc] at h; exact k1 o M' h hg H locs ls hl hW hS
  · rw [if_neg hc] at h; exact k2 o M' h hg H locs ls hl hW hS
theorem r_if_ne (C : Cx K G own cc nL ret) {x : Int32} {off : Int} {tgt : Nat} (d : decode cc pc = .ok (.ifCond .ne off, 3)) (ht : (pc : Int) + off = (tgt : Int)) (k1 : Run K G nL cs sl Fn tgt L st M r1) (k2 : Run K G nL cs sl Fn (pc + 3) L st M r2) : Run K G nL cs sl Fn pc L (.int x :: st) M (if ¬ x = 0 then r1 else r2) := by
  intro o M' h hg H locs ls hl hW hS
  refine lv_if_ne C.1 C.2.1 d ht (fun hc => ?_) (fun hc => ?_)
  · rw [if_pos hc] at h; exact k1 o M' h hg H locs ls hl hW hS
  · rw [if_neg (fun z => z hc)] at h; exact k2 o M' h hg H locs ls hl hW hS
theorem r_icmp_ne (C : Cx K G own cc nL ret) {x y : Int32} {off : Int} {tgt : Nat} (d : decode cc pc = .ok (.if_icmp .ne off, 3)) (ht : (pc : Int) + off = (tgt : Int)) (k1 : Run K G nL cs sl Fn tgt L st M r1) (k2 : Run K G nL cs sl Fn (pc + 3) L st M r2) : Run K G nL cs sl Fn pc L (.int y :: .int x :: st) M (if ¬ x = y then r1 else r2) := by
  intro o M' h hg H locs ls hl hW hS
  refine lv_icmp_ne C.1 C.2.1 d ht (fun hc => ?_) (fun hc => ?_)
  · rw [if_pos hc] at h; exact k1 o M' h hg H locs ls hl hW hS
  · rw [if_neg (fun z => z hc)] at h; exact k2 o M' h hg H locs ls hl hW hS
theorem r_if_lt (C : Cx K G own cc nL ret) {x : Int32} {off : Int} {tgt : Nat} (d : decode cc pc = .ok (.ifCond .lt off, 3)) (ht : (pc : Int) + off = (tgt : Int)) (k1 : Run K G nL cs sl Fn tgt L st M r1) (k2 : Run K G nL cs sl Fn (pc + 3) L st M r2) : Run K G nL cs sl Fn pc L (.int x :: st) M (if x < 0 then r1 else r2) := by
  intro o M' h hg H locs ls hl hW hS
  refine lv_if_lt C.1 C.2.1 d ht (fun hc => ?_) (fun hc => ?_)
  · rw [if_pos hc] at h; exact k1 o M' h hg H locs ls hl hW hS
  · rw [if_neg hc] at h; exact k2 o M' h hg H locs ls hl hW hS
theorem r_icmp_lt (C : Cx K G own cc nL ret) {x y : Int32} {off : Int} {tgt : Nat} (d : decode cc pc = .ok (.if_icmp .lt off, 3)) (ht : (pc : Int) + off = (tgt : Int)) (k1 : Run K G nL cs sl Fn tgt L st M r1) (k2 : Run K G nL cs sl Fn (pc + 3) L st M r2) : Run K G nL cs sl Fn pc L (.int y :: .int x :: st) M (if x < y then r1 else r2) := by
  intro o M' h hg H locs ls hl hW hS
  refine lv_icmp_lt C.1 C.2.1 d ht (fun hc => ?_) (fun hc => ?_)
  · rw [if_pos hc] at h; exact k1 o M' h hg H locs ls hl hW hS
  · rw [if_neg hc] at h; exact k2 o M' h hg H locs ls hl hW hS
theorem r_if_ge (C : Cx K G own cc nL ret) {x : Int32} {off : Int} {tgt : Nat} (d : decode cc pc = .ok (.ifCond .ge off, 3)) (ht : (pc : Int) + off = (tgt : Int)) (k1 : Run K G nL cs sl Fn tgt L st M r1) (k2 : Run K G nL cs sl Fn (pc + 3) L st M r2) : Run K G nL cs sl Fn pc L (.int x :: st) M (if 0 ≤ x then r1 else r2) := by
  intro o M' h hg H locs ls hl hW hS
  refine lv_if_ge C.1 C.2.1 d ht (fun hc => ?_) (fun hc => ?_)
  · rw [if_pos hc] at h; exact k1 o M' h hg H locs ls hl hW hS
  · rw [if_neg hc] at h; exact k2 o M' h hg H locs ls hl hW hS
theorem r_icmp_ge (C : Cx K G own cc nL ret) {x y : Int32} {off : Int} {tgt : Nat} (d : decode cc pc = .ok (.if_icmp .ge off, 3)) (ht : (pc : Int) + off = (tgt : Int)) (k1 : Run K G nL cs sl Fn tgt L st M r1) (k2 : Run K G nL cs sl Fn (pc + 3) L st M r2) : Run K G nL cs sl Fn pc L (.int y :: .int x :: st) M (if y ≤ x then r1 else r2) := by
  intro o M' h hg H locs ls hl hW hS
  refine lv_icmp_ge C.1 C.2.1 d ht (fun hc => ?_) (fun hc => ?_)
  · rw [if_pos hc] at h; exact k1 o M' h hg H locs ls hl hW hS
  · rw [if_neg hc] at h; exact k2 o M' h hg H locs ls hl hW hS
theorem r_if_gt (C : Cx K G own cc nL ret) {x : Int32} {off : Int} {tgt : Nat} (d : decode cc pc = .ok (.ifCond .gt off, 3)) (ht : (pc : Int) + off = (tgt : Int)) (k1 : Run K G nL cs sl Fn tgt L st M r1) (k2 : Run K G nL cs sl Fn (pc + 3) L st M r2) : Run K G nL cs sl Fn pc L (.int x :: st) M (if 0 < x then r1 else r2) := by
  intro o M' h hg H locs ls hl hW hS
  refine lv_if_gt C.1 C.2.1 d ht (fun hc => ?_) (fun hc => ?_)
  · rw [if_pos hc] at h; exact k1 o M' h hg H locs ls hl hW hS
  · rw [if_neg hc] at h; exact k2 o M' h hg H locs ls hl hW hS
theorem r_icmp_gt (C : Cx K G own cc nL ret) {x y : Int32} {off : Int} {tgt : Nat} (d : decode cc pc = .ok (.if_icmp .gt off, 3)) (ht : (pc : Int) + off = (tgt : Int)) (k1 : Run K G nL cs sl Fn tgt L st M r1) (k2 : Run K G nL cs sl Fn (pc + 3) L st M r2) : Run K G nL cs sl Fn pc L (.int y :: .int x :: st) M (if y < x then r1 else r2) := by
  intro o M' h hg H locs ls hl hW hS
  refine lv_icmp_gt C.1 C.2.1 d ht (fun hc => ?_) (fun hc => ?_)
  · rw [if_pos hc] at h; exact k1 o M' h hg H locs ls hl hW hS
  · rw [if_neg hc] at h; exact k2 o M' h hg H locs ls hl hW hS
theorem r_if_le (C : Cx K G own cc nL ret) {x : Int32} {off : Int} {tgt : Nat} (d : decode cc pc = .ok (.ifCond .le off, 3)) (ht : (pc : Int) + off = (tgt : Int)) (k1 : Run K G nL cs sl Fn tgt L st M r1) (k2 : Run K G nL cs sl Fn (pc + 3) L st M r2) : Run K G nL cs sl Fn pc L (.int x :: st) M (if x ≤ 0 then r1 else r2) := by
  intro o M' h hg H locs ls hl hW hS
  refine lv_if_le C.1 C.2.1 d ht (fun hc => ?_) (fun hc => ?_)
  · rw [if_pos hc] at h; exact k1 o M' h hg H locs ls hl hW hS
  · rw [if_neg hc] at h; exact k2 o M' h hg H locs ls hl hW hS
theorem r_icmp_le (C : Cx K G own cc nL ret) {x y : Int32} {off : Int} {tgt : Nat} (d : decode cc pc = .ok (.if_icmp .le off, 3)) (ht : (pc : Int) + off = (tgt : Int)) (k1 : Run K G nL cs sl Fn tgt L st M r1) (k2 : Run K G nL cs sl Fn (pc + 3) L st M r2) : Run K G nL cs sl Fn pc L (.int y :: .int x :: st) M (if x ≤ y then r1 else r2) := by
  intro o M' h hg H locs ls hl hW hS
  refine lv_icmp_le C.1 C.2.1 d ht (fun hc => ?_) (fun hc => ?_)
  · rw [if_pos hc] at h; exact k1 o M' h hg H locs ls hl hW hS
  · rw [if_neg hc] at h; exact k2 o M' h hg H locs ls hl hW hS
theorem r_goto (C : Cx K G own cc nL ret) {off : Int} {tgt : Nat} (d : decode cc pc = .ok (.goto off, 3)) (ht : (pc : Int) + off = (tgt : Int)) (k : Run K G nL cs sl Fn tgt L st M r) : Run K G nL cs sl Fn pc L st M r := fun o M' h hg H locs ls hl hW hS => lv_goto C.1 C.2.1 d ht (k o M' h hg H locs ls hl hW hS)
theorem r_tabIn (C : Cx K G own cc nL ret) {dflt lo hi : Int} {offs : Array Int} {len : Nat} {x : Int32} {off : Int} {tgt : Nat} (d : decode cc pc = .ok (.tableswitch dflt lo hi offs, len)) (h1 : ¬ x.toInt < lo) (h2 : ¬ hi < x.toInt) (ho : offs[(x.toInt - lo).toNat]? = some off) (ht : (pc : Int) + off = (tgt : Int)) (k : Run K G nL cs sl Fn tgt L st M r) : Run K G nL cs sl Fn pc L (.int x :: st) M r := fun o M' h hg H locs ls hl hW hS => lv_tableIn C.1 C.2.1 d h1 h2 ho ht (k o M' h hg H locs ls hl hW hS)
theorem r_tabOut (C : Cx K G own cc nL ret) {dflt lo hi : Int} {offs : Array Int} {len : Nat} {x : Int32} {tgt : Nat} (d : decode cc pc = .ok (.tableswitch dflt lo hi offs, len)) (h1 : x.toInt < lo ∨ hi < x.toInt) (ht : (pc : Int) + dflt = (tgt : Int)) (k : Run K G nL cs sl Fn tgt L st M r) : Run K G nL cs sl Fn pc L (.int x :: st) M r := fun o M' h hg H locs ls hl hW hS => lv_tableOut C.1 C.2.1 d h1 ht (k o M' h hg H locs ls hl hW hS)
theorem r_ldc (C : Cx K G own cc nL ret) {index : Nat} {v : Int32} (hc : Cond.constant own index v ∈ tblG) (d : decode cc pc = .ok (.ldc index, 2)) (k : Run K G nL cs sl Fn (pc + 2) L (.int v :: st) M r) : Run K G nL cs sl Fn pc L st M r := fun o M' h hg H locs ls hl hW hS => lv_ldc C.1 C.2.1 C.2.2.2.1 (C.w hc) d (k o M' h hg H locs ls hl hW hS)
theorem r_ldc2 (C : Cx K G own cc nL ret) {index : Nat} {v : Int64} (hc : Cond.constantLong own index v ∈ tblG) (d : decode cc pc = .ok (.ldc2_w index, 3)) (k : Run K G nL cs sl Fn (pc + 3) L (.long v :: st) M r) : Run K G nL cs sl Fn pc L st M r := fun o M' h hg H locs ls hl hW hS => lv_ldc2 C.1 C.2.1 C.2.2.2.1 (C.w hc) d (k o M' h hg H locs ls hl hW hS)

/-- a field of a kind: its class's table -/
def FF (kd j : Nat) (nm ds : String) (ci N : Nat) (Cn : String) (T : u_T) (fin : Bool) : Prop := kc kd = some (ci, N) ∧ wCl[ci]? = some (Cn, T, N) ∧ j < N ∧ T j = (Cn, nm, ds, fin) ∧ ∀ w ∈ u_ws Cn T N, w ∈ tblG
theorem r_get {kd k i j ci N : Nat} {nm ds Cn : String} {T : u_T} {fin : Bool} {index : Nat} {v : Value} (C : Cx K G own cc nL ret) (F : FF kd j nm ds ci N Cn T fin) (hl : Cond.fieldLink own index Cn nm ds ∈ tblG) (hd : G.2.2.2.1 kd k i) (d : decode cc pc = .ok (.getfield index, 3)) (hv : fv G M kd k i j = v)
    (kk : Run K G nL cs sl Fn (pc + 3) L (v :: st) M r) : Run K G nL cs sl Fn pc L (.ref (G.1 kd k i) :: st) M r := by
  intro o M' h hg H locs ls hls hW hS
  obtain ⟨f1, f2, f3, f4, f5⟩ := F
  have hts : ∀ w ∈ tblG, w.before K.2.2.2.2.2.2.1 K.2.2.2.2.1 = true := C.2.2.2.2.1
  have hK := C.2.2.2.2.2.1.1
  obtain ⟨cell, q1, q2, q3, q4⟩ := (hW kd k i hd).1 ci N f1
  obtain ⟨hSl, hfc, kC, hkC, hkind⟩ := hK.1 ci _ f2
  obtain ⟨cf, kf, fi, f, hi, hsl⟩ := hSl j f3
  have hst := (u_facts hfc hkC (u_lays hts f5 f3) hi).1
  dsimp only at hi hsl
  rw [f4] at hi
  dsimp only at hi
  have hq := q4 j f3
  dsimp only at hq
  rw [hv, ← hsl] at hq
  exact W.getf C.1 C.2.1 C.2.2.2.1 (C.w hl) hi hst q1 (by rw [q3]; exact fun h => by cases h) hq rfl rfl d (kk o M' h hg H locs ls hls hW hS)
theorem fv_wI {G : WT} {kd k i j : Nat} (h1 : ft kd k i j = none) (h2 : ks kd j = 0) (M : Mem) (v : Int32) (j' : Nat) : updV (fun j => fv G M kd k i j) j (.int v) j' = fv G (wI M kd k i j v) kd k i j' := by
  by_cases e : j' = j
  · subst e
    rw [fv_int h1 h2]
    show (if j' = j' then _ else _) = _
    rw [if_pos rfl]
    show _ = Value.int (up4 M.1 kd k i j' v kd k i j')
    rw [up4_same]
  · show (if j' = j then _ else _) = _
    rw [if_neg e]
    show fv G M kd k i j' = _
    unfold fv
    cases ft kd k i j' with
    | some c => rfl
    | none =>
      show fs M (ks kd j') kd k i j' = fs (wI M kd k i j v) (ks kd j') kd k i j'
      match ks kd j' with
      | 0 =>
        show Value.int (M.1 kd k i j') = Value.int (up4 M.1 kd k i j v kd k i j')
        rw [up4_ne (fun q => e q.2.2.2)]
      | 1 => rfl
      | 2 => rfl
      | n + 3 => rfl
theorem r_putv {kd k i j ci N : Nat} {nm ds Cn : String} {T : u_T} {index : Nat} {v : Value} {M1 : Mem} {ty : FieldType} (C : Cx K G own cc nL ret) (F : FF kd j nm ds ci N Cn T false) (hl : Cond.fieldLink own index Cn nm ds ∈ tblG) (hd : G.2.2.2.1 kd k i) (d : decode cc pc = .ok (.putfield index, 3))
    (ty0 : Nat → FieldType) (hty : ∀ k, k < N → parseFieldDescriptor (T k).2.2.1 = some (ty0 k)) (hnm : ∀ a, a < N → ∀ b, b < N → a ≠ b → (T a).2.1 ≠ (T b).2.1) (hds : parseFieldDescriptor ds = some ty) (hn : narrow ty v = v) (hfit : fits ty v = true)
    (hM : ∀ kd' k' i', ¬ (kd' = kd ∧ k' = k ∧ i' = i) → alikeAt M M1 kd' k' i') (hv : ∀ j', updV (fun j => fv G M kd k i j) j v j' = fv G M1 kd k i j')
    (kk : Run K G nL cs sl Fn (pc + 3) L st M1 r) : Run K G nL cs sl Fn pc L (v :: .ref (G.1 kd k i) :: st) M r := by
  intro o M' h hg H locs ls hls hW hS
  obtain ⟨f1, f2, f3, f4, f5⟩ := F
  have hts : ∀ w ∈ tblG, w.before K.2.2.2.2.2.2.1 K.2.2.2.2.1 = true := C.2.2.2.2.1
  have hK := C.2.2.2.2.2.1.1
  have hA := C.2.2.2.2.2.1.2.1
  have hap := va_apart (own := own) hts f5 ty0 hty hnm hK f2
  obtain ⟨cell, q1, q2, q3, q4⟩ := (hW kd k i hd).1 ci N f1
  obtain ⟨hSl, hfc, kC, hkC, hkind⟩ := hK.1 ci _ f2
  obtain ⟨cf, kf, fi, f, hi, hsl⟩ := hSl j f3
  have hlay := hts _ (f5 _ (u_in_lay f3))
  unfold u_lay at hlay
  rw [if_neg (by rw [f4]; exact Bool.false_ne_true)] at hlay
  have hst := (u_facts hfc hkC (u_lays hts f5 f3) hi).1
  have h6 := u_store hfc hkC hkind hlay hi (by rw [f4]; exact hds) hn hfit
  dsimp only at hi hsl
  rw [f4] at hi
  dsimp only at hi
  refine W.putK C.1 C.2.1 (f := f) ⟨C.2.2.2.1, C.w hl, ⟨_, _, _, hi⟩, hst⟩ (by rw [q2]; exact h6) q1 q3 (by rw [hsl]; exact k2_hasslot (q4 j f3)) rfl rfl d fun H' e1 e2 e3 => ?_
  rw [hsl] at e1 ⊢
  refine kk o M' h hg H' _ ls hls (hW.set hA hd hM e3 (Wc.obj f1 ?_)) (hS.put e2 e3 (hA.2.1 kd k i hd))
  exact t_OB.to (V := updV (fun j => fv G M kd k i j) j v) ⟨_, e1, q2, q3, t_set q4 hap f3 v⟩ (fun j' _ => hv j')
/-- an int field written -/
theorem r_putI {kd k i j ci N : Nat} {nm0 Cn : String} {T : u_T} {index : Nat} {v : Int32} {g : Mem → Option (ρ × Mem)} (C : Cx K G own cc nL ret) (F : FF kd j nm0 "I" ci N Cn T false) (hl : Cond.fieldLink own index Cn nm0 "I" ∈ tblG) (hd : G.2.2.2.1 kd k i) (ty0 : Nat → FieldType) (hty : ∀ k, k < N → parseFieldDescriptor (T k).2.2.1 = some (ty0 k)) (hnm : ∀ a, a < N → ∀ b, b < N → a ≠ b → (T a).2.1 ≠ (T b).2.1) (h1 : ∀ k i, ft kd k i j = none) (h2 : ks kd j = 0) (d : decode cc pc = .ok (.putfield index, 3))
    (kk : ∀ M1 : Mem, Run K G nL cs sl Fn (pc + 3) L st M1 (g M1)) : Run K G nL cs sl Fn pc L (.int v :: .ref (G.1 kd k i) :: st) M (nm (wI M kd k i j v) g) :=
  r_putv C F hl hd d ty0 hty hnm (ty := .int) (by decide +kernel) rfl rfl (fun _ _ _ h => wI_alike h) (fun j' => fv_wI (h1 k i) h2 M v j') (kk _)
/-- a boolean field written: only with 0 or 1 -/
theorem r_putZ {kd k i j ci N : Nat} {nm0 Cn : String} {T : u_T} {index : Nat} {v : Int32} {g : Mem → Option (ρ × Mem)} (C : Cx K G own cc nL ret) (F : FF kd j nm0 "Z" ci N Cn T false) (hl : Cond.fieldLink own index Cn nm0 "Z" ∈ tblG) (hd : G.2.2.2.1 kd k i) (ty0 : Nat → FieldType) (hty : ∀ k, k < N → parseFieldDescriptor (T k).2.2.1 = some (ty0 k)) (hnm : ∀ a, a < N → ∀ b, b < N → a ≠ b → (T a).2.1 ≠ (T b).2.1) (h1 : ∀ k i, ft kd k i j = none) (h2 : ks kd j = 0) (d : decode cc pc = .ok (.putfield index, 3))
    (kk : ∀ M1 : Mem, Run K G nL cs sl Fn (pc + 3) L st M1 (g M1)) : Run K G nL cs sl Fn pc L (.int v :: .ref (G.1 kd k i) :: st) M (chk (decide (v = 0 ∨ v = 1)) (nm (wI M kd k i j v) g)) :=
  r_chk (fun hb => r_putv C F hl hd d ty0 hty hnm (ty := .boolean) (by decide +kernel) (by rcases of_decide_eq_true hb with rfl | rfl <;> rfl) (by rcases of_decide_eq_true hb with rfl | rfl <;> rfl) (fun _ _ _ h => wI_alike h) (fun j' => fv_wI (h1 k i) h2 M v j') (kk _))

theorem Cx.to {kd k i j ci N a1 a2 a3 : Nat} {nm ds Cn : String} {T : u_T} {fin : Bool} (C : Cx K G own cc nL ret) (F : FF kd j nm ds ci N Cn T fin) (hd : G.2.2.2.1 kd k i) (hf : ft kd k i j = some (a1, a2, a3)) : G.2.2.2.1 a1 a2 a3 :=
  C.2.2.2.2.2.1.2.1.2.2 kd k i j (a1, a2, a3) hd (Or.inl ⟨ci, N, F.1, F.2.2.1⟩) hf
theorem r_getR {kd k i j ci N a1 a2 a3 : Nat} {nm ds Cn : String} {T : u_T} {fin : Bool} {index : Nat} (C : Cx K G own cc nL ret) (F : FF kd j nm ds ci N Cn T fin) (hl : Cond.fieldLink own index Cn nm ds ∈ tblG) (hd : G.2.2.2.1 kd k i) (hf : ft kd k i j = some (a1, a2, a3)) (d : decode cc pc = .ok (.getfield index, 3))
    (kk : G.2.2.2.1 a1 a2 a3 → Run K G nL cs sl Fn (pc + 3) L (.ref (G.1 a1 a2 a3) :: st) M r) : Run K G nL cs sl Fn pc L (.ref (G.1 kd k i) :: st) M r :=
  r_get C F hl hd d (fv_ref hf M) (kk (C.to F hd hf))
theorem r_getI {kd k i j ci N : Nat} {nm ds Cn : String} {T : u_T} {fin : Bool} {index : Nat} (C : Cx K G own cc nL ret) (F : FF kd j nm ds ci N Cn T fin) (hl : Cond.fieldLink own index Cn nm ds ∈ tblG) (hd : G.2.2.2.1 kd k i) (h1 : ft kd k i j = none) (h2 : ks kd j = 0) (d : decode cc pc = .ok (.getfield index, 3))
    (kk : Run K G nL cs sl Fn (pc + 3) L (.int (M.1 kd k i j) :: st) M r) : Run K G nL cs sl Fn pc L (.ref (G.1 kd k i) :: st) M r :=
  r_get C F hl hd d (fv_int h1 h2 M) kk
theorem inB_lt {x : Int32} {n : Nat} (h : inB x n = true) : x.toNatClampNeg < n := Nat.not_le.mp fun q => inB_in h (Or.inr q)
/-- an element of a row of the world is read -/
theorem r_aldv {kd k i ti n : Nat} {x : Int32} {v : Value} {ty : FieldType} (C : Cx K G own cc nL ret) (hk : ka kd = some (ti, n)) (hd : G.2.2.2.1 kd k i) (hty : (tysOf G.2.2.1)[ti]? = some (G.2.2.1 ti, ty)) (hv : fv G M kd k i x.toNatClampNeg = v) (hb : inB x n = true)
    (row : ∀ {cell : Cell}, ∀ {H : Heap} {locs : List Loc} {ls : Array Slot} {Q : State → Prop}, H[G.1 kd k i]? = some cell → K.2.2.2.2.1.isArrayOf cell ty → cell.vm ≠ .unknown → ¬ (x < 0 ∨ cell.slots.size ≤ x.toNatClampNeg) → cell.slots[x.toNatClampNeg]? = some v →
      W K.1 K.2.1 K.2.2.1 K.2.2.2.1 K.2.2.2.2.1 K.2.2.2.2.2.1 K.2.2.2.2.2.2.1 K.2.2.2.2.2.2.2.1 K.2.2.2.2.2.2.2.2.1 K.2.2.2.2.2.2.2.2.2 H locs cs sl Q (F0 K.2.2.2.2.2.1 (pc + 1) ls (v :: st)) →
      W K.1 K.2.1 K.2.2.1 K.2.2.2.1 K.2.2.2.2.1 K.2.2.2.2.2.1 K.2.2.2.2.2.2.1 K.2.2.2.2.2.2.2.1 K.2.2.2.2.2.2.2.2.1 K.2.2.2.2.2.2.2.2.2 H locs cs sl Q (F0 K.2.2.2.2.2.1 pc ls (.int x :: .ref (G.1 kd k i) :: st)))
    (kk : Run K G nL cs sl Fn (pc + 1) L (v :: st) M r) : Run K G nL cs sl Fn pc L (.int x :: .ref (G.1 kd k i) :: st) M r := by
  intro o M' h hg H locs ls hl hW hS
  have hK := C.2.2.2.2.2.1.1
  have hc := (hW kd k i hd).2 ti n hk
  have hlt := inB_lt hb
  exact row hc ((hK.2 ti _ hty).1 n _) (fun q => by cases q) (by rw [arrV_size]; exact inB_in hb) (by rw [arrV_read _ _ hlt]; exact congrArg some hv) (kk o M' h hg H locs ls hl hW hS)
theorem r_iald {kd k i n : Nat} {x : Int32} (C : Cx K G own cc nL ret) (hk : ka kd = some (0, n)) (hd : G.2.2.2.1 kd k i) (h1 : ∀ j, ft kd k i j = none) (h2 : ∀ j, ks kd j = 0) (d : decode cc pc = .ok (.iaload, 1))
    (kk : Run K G nL cs sl Fn (pc + 1) L (.int (M.1 kd k i x.toNatClampNeg) :: st) M r) : Run K G nL cs sl Fn pc L (.int x :: .ref (G.1 kd k i) :: st) M (chk (inB x n) r) :=
  r_chk (fun hb => r_aldv C hk hd rfl (fv_int (h1 _) (h2 _) M) hb (fun a1 a2 a3 a4 a5 a6 => W.iald C.1 C.2.1 a1 a2 a3 a4 a5 rfl rfl d a6) kk)
theorem r_bald {kd k i n : Nat} {x : Int32} (C : Cx K G own cc nL ret) (hk : ka kd = some (1, n)) (hd : G.2.2.2.1 kd k i) (h1 : ∀ j, ft kd k i j = none) (h2 : ∀ j, ks kd j = 0) (d : decode cc pc = .ok (.baload, 1))
    (kk : Run K G nL cs sl Fn (pc + 1) L (.int (M.1 kd k i x.toNatClampNeg) :: st) M r) : Run K G nL cs sl Fn pc L (.int x :: .ref (G.1 kd k i) :: st) M (chk (inB x n) r) :=
  r_chk (fun hb => r_aldv C hk hd rfl (fv_int (h1 _) (h2 _) M) hb (fun a1 a2 a3 a4 a5 a6 => W.bald C.1 C.2.1 a1 a2 a3 a4 a5 rfl rfl d a6) kk)
theorem r_zald {kd k i n : Nat} {x : Int32} (C : Cx K G own cc nL ret) (hk : ka kd = some (2, n)) (hd : G.2.2.2.1 kd k i) (h1 : ∀ j, ft kd k i j = none) (h2 : ∀ j, ks kd j = 0) (d : decode cc pc = .ok (.baload, 1))
    (kk : Run K G nL cs sl Fn (pc + 1) L (.int (M.1 kd k i x.toNatClampNeg) :: st) M r) : Run K G nL cs sl Fn pc L (.int x :: .ref (G.1 kd k i) :: st) M (chk (inB x n) r) :=
  r_chk (fun hb => r_aldv C hk hd rfl (fv_int (h1 _) (h2 _) M) hb (fun a1 a2 a3 a4 a5 a6 => W.zald C.1 C.2.1 a1 a2 a3 a4 a5 rfl rfl d a6) kk)
theorem r_lald {k i : Nat} {x : Int32} (C : Cx K G own cc nL ret) (hd : G.2.2.2.1 30 k i) (d : decode cc pc = .ok (.laload, 1))
    (kk : Run K G nL cs sl Fn (pc + 1) L (.long M.2.2.1 :: st) M r) : Run K G nL cs sl Fn pc L (.int x :: .ref (G.1 30 k i) :: st) M (chk (inB x 1) r) :=
  r_chk (fun hb => r_aldv C (kd := 30) (ti := 3) rfl hd rfl rfl hb (fun a1 a2 a3 a4 a5 a6 => W.lald C.1 C.2.1 a1 a2 a3 a4 a5 rfl rfl d a6) kk)
theorem r_dald {k i : Nat} {x : Int32} (C : Cx K G own cc nL ret) (hd : G.2.2.2.1 31 k i) (d : decode cc pc = .ok (.daload, 1))
    (kk : Run K G nL cs sl Fn (pc + 1) L (.double M.2.2.2 :: st) M r) : Run K G nL cs sl Fn pc L (.int x :: .ref (G.1 31 k i) :: st) M (chk (inB x 1) r) :=
  r_chk (fun hb => r_aldv C (kd := 31) (ti := 4) rfl hd rfl rfl hb (fun a1 a2 a3 a4 a5 a6 => W.dald C.1 C.2.1 a1 a2 a3 a4 a5 rfl rfl d a6) kk)
theorem r_aald {kd k i ti n a1 a2 a3 : Nat} {Cn : String} {x : Int32} (C : Cx K G own cc nL ret) (hk : ka kd = some (ti, n)) (hty : (tysOf G.2.2.1)[ti]? = some (G.2.2.1 ti, .object Cn)) (hd : G.2.2.2.1 kd k i) (hf : ft kd k i x.toNatClampNeg = some (a1, a2, a3)) (d : decode cc pc = .ok (.aaload, 1))
    (kk : G.2.2.2.1 a1 a2 a3 → Run K G nL cs sl Fn (pc + 1) L (.ref (G.1 a1 a2 a3) :: st) M r) : Run K G nL cs sl Fn pc L (.int x :: .ref (G.1 kd k i) :: st) M (chk (inB x n) r) :=
  r_chk (fun hb => r_aldv C hk hd hty (fv_ref hf M) hb (fun b1 b2 b3 b4 b5 b6 => W.aald C.1 C.2.1 b1 b2 rfl b3 b4 b5 rfl rfl d b6) (kk (C.2.2.2.2.2.1.2.1.2.2 kd k i _ (a1, a2, a3) hd (Or.inr ⟨ti, n, hk, inB_lt hb⟩) hf)))
theorem arrV_congr {cA : ClassId} {n : Nat} {f g : Nat → Value} (h : ∀ j, j < n → f j = g j) : arrV cA n f = arrV cA n g := by
  unfold arrV
  congr 1
  apply Array.ext_getElem?
  intro j
  by_cases hj : j < n
  · simp [hj, h j hj]
  · simp [hj]
/-- an element of a row of the world is written -/
theorem r_astv {kd k i ti n : Nat} {x : Int32} {v w : Value} {ty : FieldType} {M1 : Mem} (C : Cx K G own cc nL ret) (hk : ka kd = some (ti, n)) (hd : G.2.2.2.1 kd k i) (hty : (tysOf G.2.2.1)[ti]? = some (G.2.2.1 ti, ty)) (hb : inB x n = true)
    (hM : ∀ kd' k' i', ¬ (kd' = kd ∧ k' = k ∧ i' = i) → alikeAt M M1 kd' k' i') (hv : ∀ j', j' < n → updV (fun j => fv G M kd k i j) x.toNatClampNeg w j' = fv G M1 kd k i j')
    (row : ∀ {cell : Cell}, ∀ {H : Heap} {locs : List Loc} {ls : Array Slot} {Q : State → Prop}, H[G.1 kd k i]? = some cell → K.2.2.2.2.1.isArrayOf cell ty → cell.vm ≠ .unknown → ¬ (x < 0 ∨ cell.slots.size ≤ x.toNatClampNeg) →
      (∀ H' : Heap, H'[G.1 kd k i]? = some (cell.setSlot x.toNatClampNeg w) → H'.size = H.size → (∀ q, q ≠ G.1 kd k i → H'[q]? = H[q]?) → W K.1 K.2.1 K.2.2.1 K.2.2.2.1 K.2.2.2.2.1 K.2.2.2.2.2.1 K.2.2.2.2.2.2.1 K.2.2.2.2.2.2.2.1 K.2.2.2.2.2.2.2.2.1 K.2.2.2.2.2.2.2.2.2 H' (locs ++ [⟨G.1 kd k i, x.toNatClampNeg⟩]) cs sl Q (F0 K.2.2.2.2.2.1 (pc + 1) ls st)) →
      W K.1 K.2.1 K.2.2.1 K.2.2.2.1 K.2.2.2.2.1 K.2.2.2.2.2.1 K.2.2.2.2.2.2.1 K.2.2.2.2.2.2.2.1 K.2.2.2.2.2.2.2.2.1 K.2.2.2.2.2.2.2.2.2 H locs cs sl Q (F0 K.2.2.2.2.2.1 pc ls (v :: .int x :: .ref (G.1 kd k i) :: st)))
    (kk : Run K G nL cs sl Fn (pc + 1) L st M1 r) : Run K G nL cs sl Fn pc L (v :: .int x :: .ref (G.1 kd k i) :: st) M r := by
  intro o M' h hg H locs ls hl hW hS
  have hK := C.2.2.2.2.2.1.1
  have hA := C.2.2.2.2.2.1.2.1
  have hc := (hW kd k i hd).2 ti n hk
  refine row hc ((hK.2 ti _ hty).1 n _) (fun q => by cases q) (by rw [arrV_size]; exact inB_in hb) (fun H' e1 e2 e3 => ?_)
  refine kk o M' h hg H' _ ls hl (hW.set hA hd hM e3 (Wc.arr hk ?_)) (hS.put e2 e3 (hA.2.1 kd k i hd))
  rw [e1, arrV_store]
  exact congrArg some (arrV_congr hv)
theorem r_iast {kd k i n : Nat} {x v : Int32} {g : Mem → Option (ρ × Mem)} (C : Cx K G own cc nL ret) (hk : ka kd = some (0, n)) (hd : G.2.2.2.1 kd k i) (h1 : ∀ j, ft kd k i j = none) (h2 : ∀ j, ks kd j = 0) (d : decode cc pc = .ok (.iastore, 1))
    (kk : ∀ M1 : Mem, Run K G nL cs sl Fn (pc + 1) L st M1 (g M1)) : Run K G nL cs sl Fn pc L (.int v :: .int x :: .ref (G.1 kd k i) :: st) M (chk (inB x n) (nm (wI M kd k i x.toNatClampNeg v) g)) :=
  r_chk (fun hb => r_astv (w := .int v) C hk hd rfl hb (fun _ _ _ h => wI_alike h) (fun j' _ => fv_wI (h1 _) (h2 _) M v j') (fun a1 a2 a3 a4 a5 => W.iast C.1 C.2.1 a1 a2 a3 a4 rfl rfl d a5) (kk _))
theorem r_bast {kd k i n : Nat} {x v : Int32} {g : Mem → Option (ρ × Mem)} (C : Cx K G own cc nL ret) (hk : ka kd = some (1, n)) (hd : G.2.2.2.1 kd k i) (h1 : ∀ j, ft kd k i j = none) (h2 : ∀ j, ks kd j = 0) (d : decode cc pc = .ok (.bastore, 1))
    (kk : ∀ M1 : Mem, Run K G nL cs sl Fn (pc + 1) L st M1 (g M1)) : Run K G nL cs sl Fn pc L (.int v :: .int x :: .ref (G.1 kd k i) :: st) M (chk (inB x n) (nm (wI M kd k i x.toNatClampNeg v.toInt8.toInt32) g)) :=
  r_chk (fun hb => r_astv (w := .int v.toInt8.toInt32) C hk hd rfl hb (fun _ _ _ h => wI_alike h) (fun j' _ => fv_wI (h1 _) (h2 _) M _ j') (fun a1 a2 a3 a4 a5 => W.bast C.1 C.2.1 a1 a2 a3 a4 rfl rfl d a5) (kk _))
theorem r_zast {kd k i n : Nat} {x v : Int32} {g : Mem → Option (ρ × Mem)} (C : Cx K G own cc nL ret) (hk : ka kd = some (2, n)) (hd : G.2.2.2.1 kd k i) (h1 : ∀ j, ft kd k i j = none) (h2 : ∀ j, ks kd j = 0) (d : decode cc pc = .ok (.bastore, 1))
    (kk : ∀ M1 : Mem, Run K G nL cs sl Fn (pc + 1) L st M1 (g M1)) : Run K G nL cs sl Fn pc L (.int v :: .int x :: .ref (G.1 kd k i) :: st) M (chk (inB x n) (nm (wI M kd k i x.toNatClampNeg (v &&& 1)) g)) :=
  r_chk (fun hb => r_astv (w := .int (v &&& 1)) C hk hd rfl hb (fun _ _ _ h => wI_alike h) (fun j' _ => fv_wI (h1 _) (h2 _) M _ j') (fun a1 a2 a3 a4 a5 => W.zast C.1 C.2.1 a1 a2 a3 a4 rfl rfl d a5) (kk _))
theorem inB_1 {x : Int32} (h : inB x 1 = true) : x.toNatClampNeg = 0 := by have := inB_lt h; omega
theorem fv_30 (G : WT) (M : Mem) (k i j : Nat) : fv G M 30 k i j = .long M.2.2.1 := rfl
theorem fv_31 (G : WT) (M : Mem) (k i j : Nat) : fv G M 31 k i j = .double M.2.2.2 := rfl

/-! ===== ends, contracts, calls ===== -/
def QcR {σ : Type} (G : WT) (vo : σ → Option Value) (o : σ) (M' : Mem) : Array Value → State → Outcome → State → Prop := fun _ st oc t => oc = .returned (vo o) ∧ Wd G M' t.heap ∧ va_F G.2.2.2.2.1 st t
def FinM {σ : Type} (K : KT) (G : WT) (vo : σ → Option Value) (cs sl : Nat) : σ → Mem → Prop × (State → Prop) := fun o M' => (True, MQ K.2.2.2.2.2.2.2.1 (QcR G vo o M') K.2.2.2.2.2.2.1 K.2.2.2.2.1 cs sl G.2.2.2.2.1)
abbrev voI : Int32 → Option Value := fun o => some (.int o)
abbrev voL : Int64 → Option Value := fun o => some (.long o)
abbrev voF : UInt32 → Option Value := fun o => some (.float o)
abbrev voD : UInt64 → Option Value := fun o => some (.double o)
abbrev voV : Unit → Option Value := fun _ => none
abbrev voR (G : WT) (kd : Nat) : Nat × Nat → Option Value := fun o => some (.ref (G.1 kd o.1 o.2))
theorem r_iret {v : Int32} {ty : FieldType} (C : Cx K G own cc nL (some ty)) (hn : narrow ty (.int v) = .int v) (d : decode cc pc = .ok (.ireturn, 1)) : Run K G nL cs sl (FinM K G voI cs sl) pc L [.int v] M (some (v, M)) := by
  intro o M' h hg H locs ls hl hW hS
  cases h
  exact W.zret C.1 C.2.1 C.2.2.2.2.2.2.2 hn (fun t ht _ => ⟨rfl, by rw [ht]; exact hW, hS.F ht⟩) hS.2.2 d (hlocks := C.2.2.2.2.2.2.1)
theorem r_zret {v : Int32} (C : Cx K G own cc nL (some .boolean)) (d : decode cc pc = .ok (.ireturn, 1)) : Run K G nL cs sl (FinM K G voI cs sl) pc L [.int v] M (chk (decide (v = 0 ∨ v = 1)) (some (v, M))) :=
  r_chk (fun hb => r_iret C (by rcases of_decide_eq_true hb with rfl | rfl <;> rfl) d)
theorem r_vret (C : Cx K G own cc nL none) (d : decode cc pc = .ok (.return_, 1)) : Run K G nL cs sl (FinM K G voV cs sl) pc L [] M (some ((), M)) := by
  intro o M' h hg H locs ls hl hW hS
  cases h
  exact W.vret C.1 C.2.1 C.2.2.2.2.2.2.2 (fun t ht _ => ⟨rfl, by rw [ht]; exact hW, hS.F ht⟩) hS.2.2 d (hlocks := C.2.2.2.2.2.2.1)
theorem r_lret {v : Int64} (C : Cx K G own cc nL (some .long)) (d : decode cc pc = .ok (.lreturn, 1)) : Run K G nL cs sl (FinM K G voL cs sl) pc L [.long v] M (some (v, M)) := by
  intro o M' h hg H locs ls hl hW hS
  cases h
  exact W.lret C.1 C.2.1 C.2.2.2.2.2.2.2 (fun t ht _ => ⟨rfl, by rw [ht]; exact hW, hS.F ht⟩) hS.2.2 d (hlocks := C.2.2.2.2.2.2.1)
theorem r_fret {v : UInt32} (C : Cx K G own cc nL (some .float)) (d : decode cc pc = .ok (.freturn, 1)) : Run K G nL cs sl (FinM K G voF cs sl) pc L [.float v] M (some (v, M)) := by
  intro o M' h hg H locs ls hl hW hS
  cases h
  exact W.fret C.1 C.2.1 C.2.2.2.2.2.2.2 (fun t ht _ => ⟨rfl, by rw [ht]; exact hW, hS.F ht⟩) hS.2.2 d (hlocks := C.2.2.2.2.2.2.1)
theorem r_dret {v : UInt64} (C : Cx K G own cc nL (some .double)) (d : decode cc pc = .ok (.dreturn, 1)) : Run K G nL cs sl (FinM K G voD cs sl) pc L [.double v] M (some (v, M)) := by
  intro o M' h hg H locs ls hl hW hS
  cases h
  exact W.dret C.1 C.2.1 C.2.2.2.2.2.2.2 (fun t ht _ => ⟨rfl, by rw [ht]; exact hW, hS.F ht⟩) hS.2.2 d (hlocks := C.2.2.2.2.2.2.1)
theorem r_aret {kd k i : Nat} {cn : String} (C : Cx K G own cc nL (some (.object cn))) (d : decode cc pc = .ok (.areturn, 1)) : Run K G nL cs sl (FinM K G (voR G kd) cs sl) pc L [.ref (G.1 kd k i)] M (some ((k, i), M)) := by
  intro o M' h hg H locs ls hl hW hS
  cases h
  exact W.aret C.1 C.2.1 C.2.2.2.2.2.2.2 (Or.inl ⟨_, rfl⟩) (Or.inr ⟨_, rfl⟩) (fun t ht _ => ⟨rfl, by rw [ht]; exact hW, hS.F ht⟩) hS.2.2 d (hlocks := C.2.2.2.2.2.2.1)
def Pcw (G : WT) (As : List Value) (M : Mem) : Array Value → State → Prop := fun v U => v = As.toArray ∧ Wd G M U.heap ∧ Ws G U
theorem Pcw.blind {G : WT} {As : List Value} {M : Mem} : FrameBlind (Pcw G As M) := fun a U g mk q => by
  obtain ⟨h1, h2, h3, h4, h5, h6⟩ := q
  exact ⟨h1, h2, va_K.moved (u := U) (U := U.calling g mk a) (Vm.Alike.refl U.vm) h3, h4, Ext.moved (u := U) (U := U.calling g mk a) (Vm.Alike.refl U.vm) h5, Nw.warm (s := U) (U := U.calling g mk a) (State.WarmedH.refl U) h6⟩
abbrev rmM (fr lo : Nat) : Room := { frames := fr, cells := 0, slots := 0, locals := lo }
/-- a method's contract: what its picture answers, it answers -/
def Okm {σ : Type} (l : Launch) (G : WT) (y : MethodName) (cc : ByteArray) (maxL : Nat) (ret : Option FieldType) (fr lo : Nat) (As : List Value) (vo : σ → Option Value) (M : Mem) (res : Option (σ × Mem)) : Prop :=
  ∀ (o : σ) (M' : Mem), res = some (o, M') → Met l y (Cond.code y cc maxL ret :: tblG) (rmM fr lo) (Pcw G As M) (QcR G vo o M') 0 0 G.2.2.2.2.1
theorem Okm.of {σ : Type} {l : Launch} {G : WT} {y : MethodName} {cc : ByteArray} {maxL : Nat} {ret : Option FieldType} {fr lo : Nat} {As : List Value} {vo : σ → Option Value} {M : Mem} {res : Option (σ × Mem)} {L : List (Nat × Value)} (own : String) (hown : y.cls = own) (hy : plainName y.cls = true) (hn : (lg_sl As).length ≤ maxL) (hL : lv_args 0 As = L)
    (body : ∀ K : KT, K.2.1 = l → K.2.2.2.1 = rmM fr lo → Cx K G own cc maxL ret → Run K G maxL 0 0 (FinM K G vo 0 0) 0 L [] M res) : Okm l G y cc maxL ret fr lo As vo M res := by
  intro o M' hr
  refine Met.ofW (cc := cc) (maxL := maxL) (ret := ret) hy rfl ?_
  intro p e s m args below meth c s₁ B hml hv
  obtain ⟨rfl, hW, hWs⟩ := hv
  have hts := atoms_spec (ws := Cond.code y cc maxL ret :: tblG) B.pre
  have hl := lv_entry As (n := maxL) hn
  rw [lg_entry_eq]
  rw [hL] at hl
  subst hown
  exact body (p, l, e, rmM fr lo, s, m, As.toArray, below, meth, c) rfl rfl ⟨B.exec, B.bytes, hml, findClass_of_methodNamed B.named, fun w hw => hts w (List.mem_cons_of_mem _ hw), hWs, B.notSynchronized, B.returns⟩ o M' hr trivial s.heap [] _ hl hW va_S.rf
/-- the words of a callee -/
def Cw (y : MethodName) (cc : ByteArray) (maxL : Nat) (ret : Option FieldType) : Prop := Cond.initialized y.cls ∈ tblG ∧ Cond.code y cc maxL ret ∈ tblG
theorem gw_cons {y : MethodName} {cc : ByteArray} {maxL : Nat} {ret : Option FieldType} (h : Cond.code y cc maxL ret ∈ tblG) : GoodIn tblG (Cond.code y cc maxL ret :: tblG) := fun w hw => (List.mem_cons.mp hw).elim (fun e => by rw [e]; exact tblG_good _ h) (tblG_good w)
theorem r_go {σ : Type} {y : MethodName} {stk : List Value} {vo : σ → Option Value} {res : Option (σ × Mem)} {f : σ → Mem → Option (ρ × Mem)} {av : Array Value}
    (run : ∀ (o : σ) (M1 : Mem), res = some (o, M1) → ∀ (H : Heap) (locs : List Loc) (ls : Array Slot), lv_has ls nL L → Wd G M H → va_S G.2.2.2.2.1 K.2.2.2.2.1.heap H locs →
      va_Run K.1 K.2.1 K.2.2.1 K.2.2.2.1 K.2.2.2.2.1 K.2.2.2.2.2.1 K.2.2.2.2.2.2.1 K.2.2.2.2.2.2.2.1 K.2.2.2.2.2.2.2.2.1 K.2.2.2.2.2.2.2.2.2 H locs cs sl 0 0 (F0 K.2.2.2.2.2.1 pc ls stk) st (QcR G vo o M1 av) G.2.2.2.2.1)
    (kk : ∀ (o : σ) (M1 : Mem), Run K G nL cs sl Fn (pc + 3) L ((vo o).toList ++ st) M1 (f o M1)) : Run K G nL cs sl Fn pc L stk M (res.bind (fun x => f x.1 x.2)) := by
  intro o2 M2 h hg H locs ls hl hW hS T hT X
  cases hres : res with
  | none => rw [hres] at h; cases h
  | some x =>
    obtain ⟨o, M1⟩ := x
    rw [hres] at h
    have h : f o M1 = some (o2, M2) := h
    obtain ⟨v, st₀, t, T', L9, h0, X', hL, e1, e2, ⟨hv, hw, hz, hk⟩, stp⟩ := run o M1 hres H locs ls hl hW hS T hT X
    cases hv
    rw [h0] at hz hk
    obtain ⟨t2, a1, b1⟩ := kk o M1 o2 M2 h hg T'.heap (locs ++ L9) ls hl (by rw [e1]; exact hw)
      ⟨Nat.le_trans hS.1 (by rw [e1]; exact hz), fun q h1 h2 => by rw [e1, hk q (Nat.lt_of_lt_of_le h1 hS.1) h2]; exact hS.2.1 q h1 h2, fun q hq => by
        rcases List.mem_append.mp hq with h | h
        · exact hS.2.2 q h
        · exact hL q h⟩ T' rfl X'
    exact ⟨t2, stp t2 a1, b1⟩
theorem Ws.next {U : State} {H : Heap} {locs : List Loc} {s : State} (h : Ws G s) (hS : va_S G.2.2.2.2.1 s.heap H locs) (hU : U.heap = H) (hW : s.WarmedH U.vm) : Ws G U :=
  ⟨va_K.moved hW.alike h.1, h.2.1, Ext.moved hW.alike (by rw [hU]; exact h.2.2.1.kept hS.2.1), h.2.2.2.warm hW⟩
/-- the receiver is an object of the class C -/
def Rc (K : KT) (G : WT) (C : String) (b : Addr) : Prop := ∀ (M : Mem) (H : Heap) (locs : List Loc), Wd G M H → va_S G.2.2.2.2.1 K.2.2.2.2.1.heap H locs → ∃ cellB : Cell, H[b]? = some cellB ∧ cellB.vm.isStatics = false ∧ K.2.2.2.2.1.vm.findClass C = some cellB.cls
theorem Rc.of {kd k i ci N : Nat} {Cn : String} {T : u_T} (C : Cx K G own cc nL ret) (hk : kc kd = some (ci, N)) (hc : wCl[ci]? = some (Cn, T, N)) (hd : G.2.2.2.1 kd k i) : Rc K G Cn (G.1 kd k i) := fun M H locs hW hS => by
  obtain ⟨cell, q1, q2, q3, q4⟩ := (hW kd k i hd).1 ci N hk
  obtain ⟨-, hfc, -⟩ := C.2.2.2.2.2.1.1.1 ci _ hc
  exact ⟨cell, q1, by rw [q3]; rfl, by rw [q2]; exact hfc⟩
theorem r_callV {σ : Type} {y : MethodName} {bytes : ByteArray} {maxL fr lo fr0 lo0 index n : Nat} {ret' : Option FieldType} {b : Addr} {As : List Value} {stk : List Value} {vo : σ → Option Value} {res : Option (σ × Mem)} {f : σ → Mem → Option (ρ × Mem)} (C : Cx K G own cc nL ret) (hRm : K.2.2.2.1.frames = fr0 ∧ K.2.2.2.1.locals = lo0) (hM : Okm K.2.1 G y bytes maxL ret' fr lo (.ref b :: As) vo M res) (hrc : Rc K G y.cls b)
    (hl : Cond.methodLink own index y ∈ tblG) (hi : Cond.instanceMethod y ∈ tblG) (hs : Cond.selects y.cls y y ∈ tblG) (hcw : Cw y bytes maxL ret') (hy : y.cls ≠ "java/lang/invoke/MethodHandle" ∧ y.cls ≠ "java/lang/invoke/VarHandle" ∧ (parseMethodDescriptor y.desc).map (fun d => d.parameters.length) = some n) (hn : As.length = n) (hR : fr + 1 ≤ fr0 ∧ 8 + (maxL + 11) + lo ≤ lo0)
    (hst : stk = As.reverse ++ .ref b :: st) (h8 : (st.map fun v => v.category).sum ≤ 8) (d : decode cc pc = .ok (.invokevirtual index, 3)) (kk : ∀ (o : σ) (M1 : Mem), Run K G nL 0 0 Fn (pc + 3) L ((vo o).toList ++ st) M1 (f o M1)) : Run K G nL 0 0 Fn pc L stk M (res.bind (fun x => f x.1 x.2)) := by
  refine r_go (y := y) (av := (Value.ref b :: As).toArray) (fun o M1 hres H locs ls hls hW hS => ?_) kk
  have hts := C.2.2.2.2.1
  refine va_runV (n := n) ⟨C.1, C.2.1, C.2.2.1, C.2.2.2.1, hts⟩ (hM o M1 hres) (cwV n hts (fun w hw => ?_) rfl rfl rfl ⟨rfl, hy⟩ (by rw [hRm.1, hRm.2]; exact hR)) ⟨Pcw.blind, hrc M H locs hW hS, fun U hU hWm => ⟨rfl, by rw [hU]; exact hW, C.2.2.2.2.2.1.next hS hU hWm⟩⟩ rfl hn hls.1 hst (lv_room h8) d ⟨Nat.zero_le _, Nat.zero_le _⟩
  unfold wsV at hw
  rcases List.mem_append.mp hw with hw | hw
  · simp only [List.mem_cons, List.not_mem_nil, or_false] at hw
    rcases hw with rfl | rfl | rfl | rfl
    · exact tblG_good _ hl
    · exact tblG_good _ hi
    · exact tblG_good _ hs
    · exact tblG_good _ hcw.1
  · exact gw_cons hcw.2 w hw
theorem r_callS {σ : Type} {y : MethodName} {bytes : ByteArray} {maxL fr lo fr0 lo0 index n : Nat} {ret' : Option FieldType} {As : List Value} {stk : List Value} {vo : σ → Option Value} {res : Option (σ × Mem)} {f : σ → Mem → Option (ρ × Mem)} (C : Cx K G own cc nL ret) (hRm : K.2.2.2.1.frames = fr0 ∧ K.2.2.2.1.locals = lo0) (hM : Okm K.2.1 G y bytes maxL ret' fr lo As vo M res)
    (hl : Cond.methodLink own index y ∈ tblG) (hi : Cond.static y ∈ tblG) (hcw : Cw y bytes maxL ret') (hy : y.cls ≠ "java/lang/invoke/MethodHandle" ∧ y.cls ≠ "java/lang/invoke/VarHandle" ∧ (parseMethodDescriptor y.desc).map (fun d => d.parameters.length) = some n) (hn : As.length = n) (hR : fr + 1 ≤ fr0 ∧ 8 + (maxL + 11) + lo ≤ lo0)
    (hst : stk = As.reverse ++ st) (h8 : (st.map fun v => v.category).sum ≤ 8) (d : decode cc pc = .ok (.invokestatic index, 3)) (kk : ∀ (o : σ) (M1 : Mem), Run K G nL 0 0 Fn (pc + 3) L ((vo o).toList ++ st) M1 (f o M1)) : Run K G nL 0 0 Fn pc L stk M (res.bind (fun x => f x.1 x.2)) := by
  refine r_go (y := y) (av := As.toArray) (fun o M1 hres H locs ls hls hW hS => ?_) kk
  have hts := C.2.2.2.2.1
  refine va_runS (n := n) ⟨C.1, C.2.1, C.2.2.1, C.2.2.2.1, hts⟩ (hM o M1 hres) (va_cwS n hts (fun w hw => ?_) rfl rfl rfl hy (by rw [hRm.1, hRm.2]; exact hR)) ⟨Pcw.blind, fun U hU hWm => ⟨rfl, by rw [hU]; exact hW, C.2.2.2.2.2.1.next hS hU hWm⟩⟩ rfl hn hls.1 hst (lv_room h8) d ⟨Nat.zero_le _, Nat.zero_le _⟩
  unfold va_wsS at hw
  rcases List.mem_append.mp hw with hw | hw
  · simp only [List.mem_cons, List.not_mem_nil, or_false] at hw
    rcases hw with rfl | rfl | rfl
    · exact tblG_good _ hl
    · exact tblG_good _ hi
    · exact tblG_good _ hcw.1
  · exact gw_cons hcw.2 w hw

theorem r_i2c (C : Cx K G own cc nL ret) {x : Int32} (d : decode cc pc = .ok (.i2c, 1)) (k : Run K G nL cs sl Fn (pc + 1) L (.int (x.toUInt32 % 65536).toInt32 :: st) M r) : Run K G nL cs sl Fn pc L (.int x :: st) M r := fun o M' h hg H locs ls hl hW hS => lv_i2c C.1 C.2.1 d rfl (k o M' h hg H locs ls hl hW hS)
theorem wO_alike {M : Mem} {v : Int64} {k i kd' k' i' : Nat} (hks : ∀ j, ks kd' j ≠ 2) : alikeAt M (wO M v) kd' k' i' := ⟨fun _ => rfl, fun _ _ => rfl, fun j h => absurd h (hks j), fun _ _ => rfl⟩
theorem ks_30 {kd j : Nat} (h : ks kd j = 2) : kd = 30 := by
  unfold ks at h
  split at h
  · split at h <;> cases h
  · rfl
  · cases h
  · cases h
theorem ks_31 {kd j : Nat} (h : 3 ≤ ks kd j) : kd = 31 := by
  unfold ks at h
  split at h
  · split at h <;> omega
  · omega
  · rfl
  · omega
theorem ks_19 {kd j : Nat} (h : ks kd j = 1) : kd = 19 ∧ j = 17 := by
  unfold ks at h
  split at h
  · split at h
    · exact ⟨rfl, rfl⟩
    · cases h
  · cases h
  · cases h
  · cases h
def W0 (G : WT) : Prop := ∀ kd k i, G.2.2.2.1 kd k i → 19 ≤ kd → k = 0 ∧ i = 0
/-- the law's long row written -/
theorem r_lastO {x : Int32} {v : Int64} {g : Mem → Option (ρ × Mem)} (C : Cx K G own cc nL ret) (h0 : W0 G) (hd : G.2.2.2.1 30 0 0) (d : decode cc pc = .ok (.lastore, 1))
    (kk : ∀ M1 : Mem, Run K G nL cs sl Fn (pc + 1) L st M1 (g M1)) : Run K G nL cs sl Fn pc L (.long v :: .int x :: .ref (G.1 30 0 0) :: st) M (chk (inB x 1) (nm (wO M v) g)) := by
  refine r_chk (fun hb => ?_)
  intro o M' h hg H locs ls hl hW hS
  have hK := C.2.2.2.2.2.1.1
  have hA := C.2.2.2.2.2.1.2.1
  have hc := (hW 30 0 0 hd).2 3 1 rfl
  refine W.last C.1 C.2.1 hc ((hK.2 3 _ rfl).1 1 _) (fun q => by cases q) (by rw [arrV_size]; exact inB_in hb) rfl rfl d (fun H' e1 e2 e3 => ?_)
  refine kk (wO M v) o M' h hg H' _ ls hl (fun kd' k' i' hd' => ?_) (hS.put e2 e3 (hA.2.1 30 0 0 hd))
  by_cases e : kd' = 30
  · subst e
    obtain ⟨rfl, rfl⟩ := h0 30 k' i' hd' (by decide)
    refine Wc.arr (ti := 3) (n := 1) rfl ?_
    rw [e1, arrV_store]
    refine congrArg some (arrV_congr fun j' hj => ?_)
    have h1 := inB_1 hb
    show (if j' = x.toNatClampNeg then _ else _) = _
    rw [if_pos (by omega)]
    rfl
  · exact (hW kd' k' i' hd').kept ⟨fun _ => rfl, fun _ _ => rfl, fun j hj => absurd (ks_30 hj) e, fun _ _ => rfl⟩ (e3 _ (fun q => e (hA.1 _ _ _ _ _ _ hd' hd q).1))
theorem r_dastD {x : Int32} {v : UInt64} {g : Mem → Option (ρ × Mem)} (C : Cx K G own cc nL ret) (h0 : W0 G) (hd : G.2.2.2.1 31 0 0) (d : decode cc pc = .ok (.dastore, 1))
    (kk : ∀ M1 : Mem, Run K G nL cs sl Fn (pc + 1) L st M1 (g M1)) : Run K G nL cs sl Fn pc L (.double v :: .int x :: .ref (G.1 31 0 0) :: st) M (chk (inB x 1) (nm (wD M v) g)) := by
  refine r_chk (fun hb => ?_)
  intro o M' h hg H locs ls hl hW hS
  have hK := C.2.2.2.2.2.1.1
  have hA := C.2.2.2.2.2.1.2.1
  have hc := (hW 31 0 0 hd).2 4 1 rfl
  refine W.dast C.1 C.2.1 hc ((hK.2 4 _ rfl).1 1 _) (fun q => by cases q) (by rw [arrV_size]; exact inB_in hb) rfl rfl d (fun H' e1 e2 e3 => ?_)
  refine kk (wD M v) o M' h hg H' _ ls hl (fun kd' k' i' hd' => ?_) (hS.put e2 e3 (hA.2.1 31 0 0 hd))
  by_cases e : kd' = 31
  · subst e
    obtain ⟨rfl, rfl⟩ := h0 31 k' i' hd' (by decide)
    refine Wc.arr (ti := 4) (n := 1) rfl ?_
    rw [e1, arrV_store]
    refine congrArg some (arrV_congr fun j' hj => ?_)
    have h1 := inB_1 hb
    show (if j' = x.toNatClampNeg then _ else _) = _
    rw [if_pos (by omega)]
    rfl
  · exact (hW kd' k' i' hd').kept ⟨fun _ => rfl, fun _ _ => rfl, fun _ _ => rfl, fun j hj => absurd (ks_31 hj) e⟩ (e3 _ (fun q => e (hA.1 _ _ _ _ _ _ hd' hd q).1))
theorem r_getW {index ci N : Nat} {nm0 ds Cn : String} {T : u_T} {fin : Bool} (C : Cx K G own cc nL ret) (F : FF 19 17 nm0 ds ci N Cn T fin) (hl : Cond.fieldLink own index Cn nm0 ds ∈ tblG) {k i : Nat} (hd : G.2.2.2.1 19 k i) (d : decode cc pc = .ok (.getfield index, 3))
    (kk : Run K G nL cs sl Fn (pc + 3) L (.long M.2.1 :: st) M r) : Run K G nL cs sl Fn pc L (.ref (G.1 19 k i) :: st) M r := r_get C F hl hd d rfl kk
theorem r_putW {ci N : Nat} {nm0 Cn : String} {T : u_T} {index : Nat} {v : Int64} {g : Mem → Option (ρ × Mem)} (C : Cx K G own cc nL ret) (h0 : W0 G) (F : FF 19 17 nm0 "J" ci N Cn T false) (hl : Cond.fieldLink own index Cn nm0 "J" ∈ tblG) (hd : G.2.2.2.1 19 0 0) (ty0 : Nat → FieldType) (hty : ∀ k, k < N → parseFieldDescriptor (T k).2.2.1 = some (ty0 k)) (hnm : ∀ a, a < N → ∀ b, b < N → a ≠ b → (T a).2.1 ≠ (T b).2.1) (d : decode cc pc = .ok (.putfield index, 3))
    (kk : ∀ M1 : Mem, Run K G nL cs sl Fn (pc + 3) L st M1 (g M1)) : Run K G nL cs sl Fn pc L (.long v :: .ref (G.1 19 0 0) :: st) M (nm (wW M v) g) := by
  intro o M' h hg H locs ls hls hW hS
  obtain ⟨f1, f2, f3, f4, f5⟩ := F
  have hts : ∀ w ∈ tblG, w.before K.2.2.2.2.2.2.1 K.2.2.2.2.1 = true := C.2.2.2.2.1
  have hK := C.2.2.2.2.2.1.1
  have hA := C.2.2.2.2.2.1.2.1
  have hap := va_apart (own := own) hts f5 ty0 hty hnm hK f2
  obtain ⟨cell, q1, q2, q3, q4⟩ := (hW 19 0 0 hd).1 ci N f1
  obtain ⟨hSl, hfc, kC, hkC, hkind⟩ := hK.1 ci _ f2
  obtain ⟨cf, kf, fi, f, hi, hsl⟩ := hSl 17 f3
  have hlay := hts _ (f5 _ (u_in_lay f3))
  unfold u_lay at hlay
  rw [if_neg (by rw [f4]; exact Bool.false_ne_true)] at hlay
  have hst := (u_facts hfc hkC (u_lays hts f5 f3) hi).1
  have h6 := u_store (v := .long v) (ty := .long) hfc hkC hkind hlay hi (by rw [f4]; show parseFieldDescriptor "J" = some .long; decide +kernel) rfl rfl
  dsimp only at hi hsl
  rw [f4] at hi
  dsimp only at hi
  refine W.putK C.1 C.2.1 (f := f) ⟨C.2.2.2.1, C.w hl, ⟨_, _, _, hi⟩, hst⟩ (by rw [q2]; exact h6) q1 q3 (by rw [hsl]; exact k2_hasslot (q4 17 f3)) rfl rfl d fun H' e1 e2 e3 => ?_
  rw [hsl] at e1 ⊢
  refine kk (wW M v) o M' h hg H' _ ls hls (fun kd' k' i' hd' => ?_) (hS.put e2 e3 (hA.2.1 19 0 0 hd))
  by_cases e : kd' = 19
  · subst e
    obtain ⟨rfl, rfl⟩ := h0 19 k' i' hd' (by decide)
    refine Wc.obj f1 (t_OB.to (V := updV (fun j => fv G M 19 0 0 j) 17 (.long v)) ⟨_, e1, q2, q3, t_set q4 hap f3 _⟩ (fun j' _ => ?_))
    by_cases e : j' = 17
    · subst e
      rfl
    · show (if j' = 17 then _ else _) = _
      rw [if_neg e]
      show fv G M 19 0 0 j' = _
      unfold fv
      cases ft 19 0 0 j' with
      | some c => rfl
      | none =>
        show fs M (ks 19 j') 19 0 0 j' = fs (wW M v) (ks 19 j') 19 0 0 j'
        match e2 : ks 19 j' with
        | 0 => rfl
        | 1 => exact absurd (ks_19 e2).2 e
        | 2 => rfl
        | n + 3 => rfl
  · exact (hW kd' k' i' hd').kept ⟨fun _ => rfl, fun j hj => absurd (ks_19 hj).1 e, fun _ _ => rfl, fun _ _ => rfl⟩ (e3 _ (fun q => e (hA.1 _ _ _ _ _ _ hd' hd q).1))
/-! constants of the classes -/
theorem Cx.ext (C : Cx K G own cc nL ret) : Ext G K.2.2.2.2.1 K.2.2.2.2.1.heap := C.2.2.2.2.2.1.2.2.1
theorem Cx.nw (C : Cx K G own cc nL ret) : Nw G K.2.2.2.2.1 := C.2.2.2.2.2.1.2.2.2
theorem r_gets {Cn n ds : String} {v : Value} {index : Nat} (C : Cx K G own cc nL ret) (hZ : va_Z Cn n ds v G.2.2.2.2.1 K.2.2.2.2.1 K.2.2.2.2.1.heap) (hl : Cond.fieldLink own index Cn n ds ∈ tblG) (d : decode cc pc = .ok (.getstatic index, 3))
    (kk : Run K G nL cs sl Fn (pc + 3) L (v :: st) M r) : Run K G nL cs sl Fn pc L st M r := fun o M' h hg H locs ls hls hW hS =>
  va_gets C.1 C.2.1 hZ hS C.2.2.2.1 (C.w hl) (fun _ q => q) d (kk o M' h hg H locs ls hls hW hS)
theorem r_getsN {Cn n ds host : String} {v : Value} {index : Nat} (C : Cx K G own cc nL ret) (hZ : va_Z Cn n ds v G.2.2.2.2.1 K.2.2.2.2.1 K.2.2.2.2.1.heap) (hl : va_Nw (.fieldLinkNest own index Cn n ds host) K.2.2.2.2.1) (d : decode cc pc = .ok (.getstatic index, 3))
    (kk : Run K G nL cs sl Fn (pc + 3) L (v :: st) M r) : Run K G nL cs sl Fn pc L st M r := fun o M' h hg H locs ls hls hW hS =>
  va_getsN C.1 C.2.1 hZ hS C.2.2.2.1 (va_Nw.use rfl hl) (fun _ q => q) d (kk o M' h hg H locs ls hls hW hS)
theorem r_getx {o0 n ds : String} {v : Value} {index q : Nat} (C : Cx K G own cc nL ret) (hZ : va_OF o0 n ds v q G.2.2.2.2.1 K.2.2.2.2.1 K.2.2.2.2.1.heap) (hl : Cond.fieldLink own index o0 n ds ∈ tblG) (d : decode cc pc = .ok (.getfield index, 3))
    (kk : Run K G nL cs sl Fn (pc + 3) L (v :: st) M r) : Run K G nL cs sl Fn pc L (.ref q :: st) M r := fun o M' h hg H locs ls hls hW hS =>
  vk_getf C.1 C.2.1 hZ hS C.2.2.2.1 (C.w hl) (fun _ q => q) d (kk o M' h hg H locs ls hls hW hS)
theorem r_tlen {ty : FieldType} {t N : Nat} {f : Nat → Value} (C : Cx K G own cc nL ret) (hT : va_T ty t N f G.2.2.2.2.1 K.2.2.2.2.1 K.2.2.2.2.1.heap) (d : decode cc pc = .ok (.arraylength, 1))
    (kk : Run K G nL cs sl Fn (pc + 1) L (.int (Int32.ofNat N) :: st) M r) : Run K G nL cs sl Fn pc L (.ref t :: st) M r := fun o M' h hg H locs ls hls hW hS =>
  va_tlen C.1 C.2.1 hT hS rfl d (kk o M' h hg H locs ls hls hW hS)
theorem r_tq {cn : String} {t N : Nat} {f : Nat → Value} {x : Int32} (C : Cx K G own cc nL ret) (hT : va_T (.object cn) t N f G.2.2.2.2.1 K.2.2.2.2.1 K.2.2.2.2.1.heap) (d : decode cc pc = .ok (.aaload, 1))
    (kk : x.toNatClampNeg < N → Run K G nL cs sl Fn (pc + 1) L (f x.toNatClampNeg :: st) M r) : Run K G nL cs sl Fn pc L (.int x :: .ref t :: st) M (chk (inB x N) r) :=
  r_chk (fun hb o M' h hg H locs ls hls hW hS => vb_tq C.1 C.2.1 hT hS (inB_in hb) rfl d (kk (inB_lt hb) o M' h hg H locs ls hls hW hS))
theorem r_ti {t N : Nat} {f : Nat → Value} {x : Int32} (C : Cx K G own cc nL ret) (hT : va_T .int t N f G.2.2.2.2.1 K.2.2.2.2.1 K.2.2.2.2.1.heap) (d : decode cc pc = .ok (.iaload, 1))
    (kk : Run K G nL cs sl Fn (pc + 1) L (f x.toNatClampNeg :: st) M r) : Run K G nL cs sl Fn pc L (.int x :: .ref t :: st) M (chk (inB x N) r) :=
  r_chk (fun hb o M' h hg H locs ls hls hW hS => va_ti C.1 C.2.1 hT hS (inB_in hb) rfl d (kk o M' h hg H locs ls hls hW hS))
theorem r_tb {t N : Nat} {f : Nat → Value} {x : Int32} (C : Cx K G own cc nL ret) (hT : va_T .byte t N f G.2.2.2.2.1 K.2.2.2.2.1 K.2.2.2.2.1.heap) (d : decode cc pc = .ok (.baload, 1))
    (kk : Run K G nL cs sl Fn (pc + 1) L (f x.toNatClampNeg :: st) M r) : Run K G nL cs sl Fn pc L (.int x :: .ref t :: st) M (chk (inB x N) r) :=
  r_chk (fun hb o M' h hg H locs ls hls hW hS => va_tb C.1 C.2.1 hT hS (inB_in hb) rfl d (kk o M' h hg H locs ls hls hW hS))
theorem r_acmpE {a1 a2 : Nat} {off : Int} {tgt : Nat} (C : Cx K G own cc nL ret) (h1 : a1 < 11) (h2 : a2 < 11) (d : decode cc pc = .ok (.if_acmp .eq off, 3)) (ht : (pc : Int) + off = (tgt : Int)) (k1 : Run K G nL cs sl Fn tgt L st M r1) (k2 : Run K G nL cs sl Fn (pc + 3) L st M r2) :
    Run K G nL cs sl Fn pc L (.ref (G.2.2.2.2.2.1 a2) :: .ref (G.2.2.2.2.2.1 a1) :: st) M (if a1 = a2 then r1 else r2) := by
  intro o M' h hg H locs ls hls hW hS
  refine lv_acmp_eq (rx := some (G.2.2.2.2.2.1 a1)) (ry := some (G.2.2.2.2.2.1 a2)) C.1 C.2.1 d ht (fun hc => ?_) (fun hc => ?_)
  · rw [if_pos (C.ext.2.2.2.1 a1 a2 h1 h2 (Option.some.inj hc))] at h
    exact k1 o M' h hg H locs ls hls hW hS
  · rw [if_neg (fun e => hc (by rw [e]))] at h
    exact k2 o M' h hg H locs ls hls hW hS
theorem r_max {x y : Int32} {index : Nat} (C : Cx K G own cc nL ret) (hl : Cond.methodLink own index Lib.Math.max.name ∈ tblG) (hs : Cond.static Lib.Math.max.name ∈ tblG) (hi : Cond.initialized "java/lang/Math" ∈ tblG) (hc : Cond.code Lib.Math.max.name Lib.Math.max.code 2 (some .int) ∈ tblG) {fr0 lo0 : Nat} (hRm : K.2.2.2.1.frames = fr0 ∧ K.2.2.2.1.locals = lo0) (hR : 1 ≤ fr0 ∧ (st.map fun v => v.category).sum + 13 ≤ lo0) (d : decode cc pc = .ok (.invokestatic index, 3))
    (kk : Run K G nL 0 0 Fn (pc + 3) L (.int (if x < y then y else x) :: st) M r) : Run K G nL 0 0 Fn pc L (.int y :: .int x :: st) M r := fun o M' h hg H locs ls hls hW hS =>
  va_mmax C.1 C.2.1 (C.2.2.1.trans hls.1.symm) C.2.2.2.1 (C.w hl) (C.w hs) (C.w hi) (C.w hc) (by rw [hRm.1]; exact hR.1) (by rw [hRm.2]; exact hR.2) (Nat.zero_le _) (Nat.zero_le _) d (kk o M' h hg H locs ls hls hW hS)
/-- one row of ints copied whole over another -/
def cpI (M : Mem) (kd' k' i' kd k i : Nat) : Mem := (fun a b c d => if a = kd ∧ b = k ∧ c = i then M.1 kd' k' i' d else M.1 a b c d, M.2)
theorem cpI_alike {M : Mem} {kd' k' i' kd k i a b c : Nat} (h : ¬ (a = kd ∧ b = k ∧ c = i)) : alikeAt M (cpI M kd' k' i' kd k i) a b c := ⟨fun j => by simp [cpI, h], fun _ _ => rfl, fun _ _ => rfl, fun _ _ => rfl⟩
theorem i32_nn {z : Int32} (hz : ¬ z < 0) : z.toInt = (z.toNatClampNeg : Int) := by
  have hz0 : (0 : Int) ≤ z.toInt := by
    have := Int32.not_lt.mp hz
    simpa using Int32.le_iff_toInt_le.mp this
  show z.toInt = ((z.toInt.toNat : Nat) : Int)
  omega
theorem r_copy {kd' k' i' kd k i n index : Nat} {z : Int32} {g : Mem → Option (ρ × Mem)} (C : Cx K G own cc nL ret) (hk' : ka kd' = some (0, n)) (hk : ka kd = some (0, n)) (hd' : G.2.2.2.1 kd' k' i') (hd : G.2.2.2.1 kd k i) (h1 : ∀ j, ft kd' k' i' j = none) (h2 : ∀ j, ks kd' j = 0) (h3 : ∀ j, ft kd k i j = none) (h4 : ∀ j, ks kd j = 0) (hz : z.toNatClampNeg = n) (hz0 : ¬ z < 0)
    (hl : Cond.methodLink own index arraycopyName ∈ tblG) (hn : Cond.native arraycopyName ∈ tblG) (hs : Cond.static arraycopyName ∈ tblG) (hi : Cond.initialized "java/lang/System" ∈ tblG) {fr0 lo0 : Nat} (hRm : K.2.2.2.1.frames = fr0 ∧ K.2.2.2.1.locals = lo0) (hR : 1 ≤ fr0 ∧ (st.map fun v => v.category).sum + (nativeFrameWords "java/lang/System" "arraycopy" 5 + 11) ≤ lo0) (d : decode cc pc = .ok (.invokestatic index, 3))
    (kk : ∀ M1 : Mem, Run K G nL 0 0 Fn (pc + 3) L st M1 (g M1)) : Run K G nL 0 0 Fn pc L (.int z :: .int 0 :: .ref (G.1 kd k i) :: .int 0 :: .ref (G.1 kd' k' i') :: st) M (nm (cpI M kd' k' i' kd k i) g) := by
  intro o M' h hg H locs ls hls hW hS T hT X
  have hK := C.2.2.2.2.2.1.1
  have hA := C.2.2.2.2.2.1.2.1
  have c0 := (hW kd' k' i' hd').2 0 n hk'
  have c1 := (hW kd k i hd).2 0 n hk
  have g0 : (fun j => fv G M kd' k' i' j) = (fun j => Value.int (M.1 kd' k' i' j)) := funext fun j => fv_int (h1 j) (h2 j) M
  have g1 : (fun j => fv G M kd k i j) = (fun j => Value.int (M.1 kd k i j)) := funext fun j => fv_int (h3 j) (h4 j) M
  rw [g0] at c0
  rw [g1] at c1
  obtain ⟨-, k0, hk0, cm0, hkk0⟩ := (hK.2 0 _ rfl).1 n (fun j => Value.int (M.1 kd' k' i' j))
  obtain ⟨-, k1, hk1, cm1, hkk1⟩ := (hK.2 0 _ rfl).1 n (fun j => Value.int (M.1 kd k i j))
  obtain ⟨vm', X', step⟩ := X.arraycopy C.1 C.2.2.2.1 (C.w hl) (C.w hn) (C.w hs) (C.w hi) (src := G.1 kd' k' i') (dst := G.1 kd k i) (srcPos := 0) (destPos := 0) (n := z) (by rw [hT]; exact c0) (by rw [hT]; exact c1)
    (fun _ h => by cases h) (fun _ h => by cases h) (fun h => by cases h) (fun h => by cases h) hk0 hk1 hkk0 hkk1 (by rfl) (by decide) (by decide) hz0
    (by rw [i32_nn hz0, hz, arrV_size]; show ¬ (0 : Int) + n > n; omega) (by rw [i32_nn hz0, hz, arrV_size]; show ¬ (0 : Int) + n > n; omega)
    (fun vm₁ _ q hq => by
      have hq' : q < n := by rw [← hz]; exact hq
      have e : (arrV (G.2.2.1 0) n (fun j => Value.int (M.1 kd' k' i' j))).slots.getD ((0 : Int32).toNatClampNeg + q) .null = .int (M.1 kd' k' i' q) := by
        show (arrV _ _ _).slots.getD (0 + q) _ = _
        rw [Nat.zero_add, Array.getD_eq_getD_getElem?, arrV_read _ _ hq']
        rfl
      rw [e]
      exact ⟨rfl, trivial⟩)
    (g := F0 K.2.2.2.2.2.1 pc ls (.int z :: .int 0 :: .ref (G.1 kd k i) :: .int 0 :: .ref (G.1 kd' k' i') :: st)) rfl (hls.1.trans C.2.2.1.symm) (rest := st) rfl (by rw [C.2.1]; exact d) (by rw [hRm.1]; exact hR.1) (by rw [hRm.2]; show 2 * 0 + _ + _ ≤ _; have := hR.2; omega)
  have e1 : copied (arrV (G.2.2.1 0) n (fun j => Value.int (M.1 kd' k' i' j))) (arrV (G.2.2.1 0) n (fun j => Value.int (M.1 kd k i j))) 0 0 z = arrV (G.2.2.1 0) n (fun j => fv G (cpI M kd' k' i' kd k i) kd k i j) := by
    have := va_copied (fun q => Value.int q) (G.2.2.1 0) (G.2.2.1 0) (n1 := n) (sp := 0) (dp := 0) (n := n) (n0 := n) (M.1 kd' k' i') (M.1 kd k i) (by omega)
    have e2 : copied (arrV (G.2.2.1 0) n (fun j => Value.int (M.1 kd' k' i' j))) (arrV (G.2.2.1 0) n (fun j => Value.int (M.1 kd k i j))) 0 0 z = (arrV (G.2.2.1 0) n (fun j => Value.int (M.1 kd k i j))).storeRun 0 ((arrV (G.2.2.1 0) n (fun j => Value.int (M.1 kd' k' i' j))).stretch 0 n) := by
      rw [← hz]; rfl
    rw [e2, this]
    refine arrV_congr fun j hj => ?_
    rw [fv_int (h3 j) (h4 j)]
    show Value.int (va_cpy _ _ 0 0 n j) = Value.int ((cpI M kd' k' i' kd k i).1 kd k i j)
    have e3 : (cpI M kd' k' i' kd k i).1 kd k i j = M.1 kd' k' i' j := by simp [cpI]
    have e4 : va_cpy (M.1 kd' k' i') (M.1 kd k i) 0 0 n j = M.1 kd' k' i' j := by simp [va_cpy, hj]
    rw [e3, e4]
  rw [e1] at X' step
  have hl2 : G.1 kd k i < H.size := (Array.getElem?_eq_some_iff.mp c1).1
  have hH : ((T.setVm vm').setCell (G.1 kd k i) (arrV (G.2.2.1 0) n (fun j => fv G (cpI M kd' k' i' kd k i) kd k i j))).heap = H.setIfInBounds (G.1 kd k i) (arrV (G.2.2.1 0) n (fun j => fv G (cpI M kd' k' i' kd k i) kd k i j)) := by rw [← hT]; rfl
  have oq : ∀ q : Nat, q ≠ G.1 kd k i → (H.setIfInBounds (G.1 kd k i) (arrV (G.2.2.1 0) n (fun j => fv G (cpI M kd' k' i' kd k i) kd k i j)))[q]? = H[q]? := fun q hq => by simp [Array.getElem?_setIfInBounds, Ne.symm hq]
  obtain ⟨t, a1, b1⟩ := kk (cpI M kd' k' i' kd k i) o M' h hg _ _ ls hls (hW.set hA hd (fun _ _ _ hh => cpI_alike hh) oq (Wc.arr hk (by simp [Array.getElem?_setIfInBounds, hl2]))) ⟨by simp; exact hS.1, fun q g1 g2 => by
      rw [oq q (fun e => g2 (by rw [e]; exact hA.2.1 kd k i hd))]
      exact hS.2.1 q g1 g2, fun q hq => by
      rcases List.mem_append.mp hq with h | h
      · exact hS.2.2 q h
      · obtain ⟨w, -, hw⟩ := List.mem_map.mp h
        rw [← hw]
        exact hA.2.1 kd k i hd⟩ _ hH X'
  exact ⟨t, step t a1, b1⟩

end RROWS
end
section
theorem tst1 : ∀ w ∈ (vx_atS "PermitPark" 246 "java/lang/IllegalArgumentException" ["java/lang/RuntimeException", "java/lang/Exception"]).filter (fun w => !goodWord w), w ∈ [Cond.castable "java/lang/IllegalArgumentException" "java/lang/IllegalArgumentException", Cond.superclass "java/lang/Throwable" "java/lang/Object", Cond.superclass "java/lang/Exception" "java/lang/Throwable", Cond.superclass "java/lang/RuntimeException" "java/lang/Exception", Cond.superclass "java/lang/IllegalArgumentException" "java/lang/RuntimeException"] := by decide +kernel
end
