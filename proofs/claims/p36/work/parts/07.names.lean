/-! ===== names and codes of the methods, fields, constants (printed of the program) ===== -/
abbrev yX1_init : MethodName := { cls := "PermitPark$Locks", name := "<init>", desc := "()V" }
abbrev cX1_init : ByteArray := prog_3_method_1_code
abbrev yX1_clear : MethodName := { cls := "PermitPark$Locks", name := "clear", desc := "()V" }
abbrev cX1_clear : ByteArray := prog_3_method_2_code
abbrev yX1_copyFrom : MethodName := { cls := "PermitPark$Locks", name := "copyFrom", desc := "(LPermitPark$Locks;)V" }
abbrev cX1_copyFrom : ByteArray := prog_3_method_3_code
abbrev yX1_heldOnes : MethodName := { cls := "PermitPark$Locks", name := "heldOnes", desc := "()I" }
abbrev cX1_heldOnes : ByteArray := prog_3_method_4_code
abbrev yX1_heldBy : MethodName := { cls := "PermitPark$Locks", name := "heldBy", desc := "(I)I" }
abbrev cX1_heldBy : ByteArray := prog_3_method_5_code
abbrev yX1_lowestHeldBy : MethodName := { cls := "PermitPark$Locks", name := "lowestHeldBy", desc := "(I)I" }
abbrev cX1_lowestHeldBy : ByteArray := prog_3_method_6_code
abbrev yX1_waiter : MethodName := { cls := "PermitPark$Locks", name := "waiter", desc := "(II)I" }
abbrev cX1_waiter : ByteArray := prog_3_method_7_code
abbrev yX1_addWaiter : MethodName := { cls := "PermitPark$Locks", name := "addWaiter", desc := "(II)V" }
abbrev cX1_addWaiter : ByteArray := prog_3_method_8_code
abbrev yX1_removeWaiter : MethodName := { cls := "PermitPark$Locks", name := "removeWaiter", desc := "(II)V" }
abbrev cX1_removeWaiter : ByteArray := prog_3_method_9_code
abbrev yX2_init : MethodName := { cls := "PermitPark$Log", name := "<init>", desc := "()V" }
abbrev cX2_init : ByteArray := prog_4_method_1_code
abbrev yX2_clear : MethodName := { cls := "PermitPark$Log", name := "clear", desc := "()V" }
abbrev cX2_clear : ByteArray := prog_4_method_2_code
abbrev yX2_copyFrom : MethodName := { cls := "PermitPark$Log", name := "copyFrom", desc := "(LPermitPark$Log;)V" }
abbrev cX2_copyFrom : ByteArray := prog_4_method_3_code
abbrev yX2_add : MethodName := { cls := "PermitPark$Log", name := "add", desc := "(IIII)V" }
abbrev cX2_add : ByteArray := prog_4_method_4_code
abbrev yX2_cell : MethodName := { cls := "PermitPark$Log", name := "cell", desc := "(II)I" }
abbrev cX2_cell : ByteArray := prog_4_method_5_code
abbrev yX2_countOf : MethodName := { cls := "PermitPark$Log", name := "countOf", desc := "(II)I" }
abbrev cX2_countOf : ByteArray := prog_4_method_6_code
abbrev yX3_init : MethodName := { cls := "PermitPark$Machine", name := "<init>", desc := "()V" }
abbrev cX3_init : ByteArray := prog_5_method_1_code
abbrev yX3_clear : MethodName := { cls := "PermitPark$Machine", name := "clear", desc := "()V" }
abbrev cX3_clear : ByteArray := prog_5_method_2_code
abbrev yX3_copyFrom : MethodName := { cls := "PermitPark$Machine", name := "copyFrom", desc := "(LPermitPark$Machine;)V" }
abbrev cX3_copyFrom : ByteArray := prog_5_method_3_code
abbrev yX3_isFull : MethodName := { cls := "PermitPark$Machine", name := "isFull", desc := "()Z" }
abbrev cX3_isFull : ByteArray := prog_5_method_4_code
abbrev yX3_newThread : MethodName := { cls := "PermitPark$Machine", name := "newThread", desc := "(I)LPermitPark$Strand;" }
abbrev cX3_newThread : ByteArray := prog_5_method_5_code
abbrev yX3_changeBase : MethodName := { cls := "PermitPark$Machine", name := "changeBase", desc := "(II)V" }
abbrev cX3_changeBase : ByteArray := prog_5_method_6_code
abbrev yX3_changeSetting : MethodName := { cls := "PermitPark$Machine", name := "changeSetting", desc := "(II)V" }
abbrev cX3_changeSetting : ByteArray := prog_5_method_7_code
abbrev yX3_isFlagOn : MethodName := { cls := "PermitPark$Machine", name := "isFlagOn", desc := "(I)Z" }
abbrev cX3_isFlagOn : ByteArray := prog_5_method_8_code
abbrev yX3_turnFlag : MethodName := { cls := "PermitPark$Machine", name := "turnFlag", desc := "(IZ)V" }
abbrev cX3_turnFlag : ByteArray := prog_5_method_9_code
abbrev yX3_threadsIn : MethodName := { cls := "PermitPark$Machine", name := "threadsIn", desc := "(I)I" }
abbrev cX3_threadsIn : ByteArray := prog_5_method_10_code
abbrev yX3_allReturns : MethodName := { cls := "PermitPark$Machine", name := "allReturns", desc := "()I" }
abbrev cX3_allReturns : ByteArray := prog_5_method_11_code
abbrev yX3_number : MethodName := { cls := "PermitPark$Machine", name := "number", desc := "(I)I" }
abbrev cX3_number : ByteArray := prog_5_method_12_code
abbrev yX3_blockerOf : MethodName := { cls := "PermitPark$Machine", name := "blockerOf", desc := "(I)I" }
abbrev cX3_blockerOf : ByteArray := prog_5_method_13_code
abbrev yX3_blockerInChain : MethodName := { cls := "PermitPark$Machine", name := "blockerInChain", desc := "(II)I" }
abbrev cX3_blockerInChain : ByteArray := prog_5_method_14_code
abbrev yX3_isStuck : MethodName := { cls := "PermitPark$Machine", name := "isStuck", desc := "(I)Z" }
abbrev cX3_isStuck : ByteArray := prog_5_method_15_code
abbrev yX3_refreshPriorities : MethodName := { cls := "PermitPark$Machine", name := "refreshPriorities", desc := "()V" }
abbrev cX3_refreshPriorities : ByteArray := prog_5_method_16_code
abbrev yX3_tick : MethodName := { cls := "PermitPark$Machine", name := "tick", desc := "()I" }
abbrev cX3_tick : ByteArray := prog_5_method_17_code
abbrev yX3_noteGreatestPriorities : MethodName := { cls := "PermitPark$Machine", name := "noteGreatestPriorities", desc := "()V" }
abbrev cX3_noteGreatestPriorities : ByteArray := prog_5_method_18_code
abbrev yX3_firstLate : MethodName := { cls := "PermitPark$Machine", name := "firstLate", desc := "()I" }
abbrev cX3_firstLate : ByteArray := prog_5_method_19_code
abbrev yX3_drawOfThousand : MethodName := { cls := "PermitPark$Machine", name := "drawOfThousand", desc := "()I" }
abbrev cX3_drawOfThousand : ByteArray := prog_5_method_20_code
abbrev yX3_firstReady : MethodName := { cls := "PermitPark$Machine", name := "firstReady", desc := "()I" }
abbrev cX3_firstReady : ByteArray := prog_5_method_21_code
abbrev yX3_isAheadOf : MethodName := { cls := "PermitPark$Machine", name := "isAheadOf", desc := "(LPermitPark$Strand;LPermitPark$Strand;)Z" }
abbrev cX3_isAheadOf : ByteArray := prog_5_method_22_code
abbrev yX3_perform : MethodName := { cls := "PermitPark$Machine", name := "perform", desc := "(I)Z" }
abbrev cX3_perform : ByteArray := prog_5_method_23_code
abbrev yX3_park : MethodName := { cls := "PermitPark$Machine", name := "park", desc := "(II)V" }
abbrev cX3_park : ByteArray := prog_5_method_24_code
abbrev yX3_comeBack : MethodName := { cls := "PermitPark$Machine", name := "comeBack", desc := "(II)V" }
abbrev cX3_comeBack : ByteArray := prog_5_method_25_code
abbrev yX3_wakeUp : MethodName := { cls := "PermitPark$Machine", name := "wakeUp", desc := "(II)I" }
abbrev cX3_wakeUp : ByteArray := prog_5_method_26_code
abbrev yX3_disturb : MethodName := { cls := "PermitPark$Machine", name := "disturb", desc := "(I)I" }
abbrev cX3_disturb : ByteArray := prog_5_method_27_code
abbrev yX3_tellOn : MethodName := { cls := "PermitPark$Machine", name := "tellOn", desc := "(II)V" }
abbrev cX3_tellOn : ByteArray := prog_5_method_28_code
abbrev yX3_stealPermit : MethodName := { cls := "PermitPark$Machine", name := "stealPermit", desc := "(II)V" }
abbrev cX3_stealPermit : ByteArray := prog_5_method_29_code
abbrev yX3_takeLock : MethodName := { cls := "PermitPark$Machine", name := "takeLock", desc := "(II)Z" }
abbrev cX3_takeLock : ByteArray := prog_5_method_30_code
abbrev yX3_unlock : MethodName := { cls := "PermitPark$Machine", name := "unlock", desc := "(II)Z" }
abbrev cX3_unlock : ByteArray := prog_5_method_31_code
abbrev yX3_fail : MethodName := { cls := "PermitPark$Machine", name := "fail", desc := "(I)V" }
abbrev cX3_fail : ByteArray := prog_5_method_32_code
abbrev yX3_giveUp : MethodName := { cls := "PermitPark$Machine", name := "giveUp", desc := "(I)V" }
abbrev cX3_giveUp : ByteArray := prog_5_method_33_code
abbrev yX3_firstWaiter : MethodName := { cls := "PermitPark$Machine", name := "firstWaiter", desc := "(I)I" }
abbrev cX3_firstWaiter : ByteArray := prog_5_method_34_code
abbrev yX3_advance : MethodName := { cls := "PermitPark$Machine", name := "advance", desc := "(I)V" }
abbrev cX3_advance : ByteArray := prog_5_method_35_code
abbrev yX3_endIfThrough : MethodName := { cls := "PermitPark$Machine", name := "endIfThrough", desc := "(I)V" }
abbrev cX3_endIfThrough : ByteArray := prog_5_method_36_code
abbrev yX3_settle : MethodName := { cls := "PermitPark$Machine", name := "settle", desc := "()V" }
abbrev cX3_settle : ByteArray := prog_5_method_37_code
abbrev yX5_init : MethodName := { cls := "PermitPark$SetupText", name := "<init>", desc := "()V" }
abbrev cX5_init : ByteArray := prog_7_method_1_code
abbrev yX6_init : MethodName := { cls := "PermitPark$Strand", name := "<init>", desc := "()V" }
abbrev cX6_init : ByteArray := prog_8_method_1_code
abbrev yX6_start : MethodName := { cls := "PermitPark$Strand", name := "start", desc := "(I)V" }
abbrev cX6_start : ByteArray := prog_8_method_2_code
abbrev yX6_copyFrom : MethodName := { cls := "PermitPark$Strand", name := "copyFrom", desc := "(LPermitPark$Strand;)V" }
abbrev cX6_copyFrom : ByteArray := prog_8_method_3_code
abbrev yX6_addStep : MethodName := { cls := "PermitPark$Strand", name := "addStep", desc := "(II)V" }
abbrev cX6_addStep : ByteArray := prog_8_method_4_code
abbrev yX6_isOver : MethodName := { cls := "PermitPark$Strand", name := "isOver", desc := "()Z" }
abbrev cX6_isOver : ByteArray := prog_8_method_5_code
abbrev yX6_allReturns : MethodName := { cls := "PermitPark$Strand", name := "allReturns", desc := "()I" }
abbrev cX6_allReturns : ByteArray := prog_8_method_6_code
abbrev yX6_number : MethodName := { cls := "PermitPark$Strand", name := "number", desc := "(I)I" }
abbrev cX6_number : ByteArray := prog_8_method_7_code
abbrev yX7_init : MethodName := { cls := "PermitPark", name := "<init>", desc := "()V" }
abbrev cX7_init : ByteArray := prog_1_method_1_code
abbrev yX7_addThread : MethodName := { cls := "PermitPark", name := "addThread", desc := "(III)I" }
abbrev cX7_addThread : ByteArray := prog_1_method_7_code
abbrev yX7_addInstruction : MethodName := { cls := "PermitPark", name := "addInstruction", desc := "(III)I" }
abbrev cX7_addInstruction : ByteArray := prog_1_method_8_code
abbrev yX7_setBase : MethodName := { cls := "PermitPark", name := "setBase", desc := "(II)I" }
abbrev cX7_setBase : ByteArray := prog_1_method_9_code
abbrev yX7_set : MethodName := { cls := "PermitPark", name := "set", desc := "(II)I" }
abbrev cX7_set : ByteArray := prog_1_method_10_code
abbrev yX7_seed : MethodName := { cls := "PermitPark", name := "seed", desc := "(I)V" }
abbrev cX7_seed : ByteArray := prog_1_method_11_code
abbrev yX7_setFlag : MethodName := { cls := "PermitPark", name := "setFlag", desc := "(IZ)Z" }
abbrev cX7_setFlag : ByteArray := prog_1_method_12_code
abbrev yX7_count : MethodName := { cls := "PermitPark", name := "count", desc := "(I)I" }
abbrev cX7_count : ByteArray := prog_1_method_13_code
abbrev yX7_thread : MethodName := { cls := "PermitPark", name := "thread", desc := "(II)I" }
abbrev cX7_thread : ByteArray := prog_1_method_14_code
abbrev yX7_lock : MethodName := { cls := "PermitPark", name := "lock", desc := "(II)I" }
abbrev cX7_lock : ByteArray := prog_1_method_16_code
abbrev yX7_flag : MethodName := { cls := "PermitPark", name := "flag", desc := "(I)Z" }
abbrev cX7_flag : ByteArray := prog_1_method_17_code
abbrev yX7_event : MethodName := { cls := "PermitPark", name := "event", desc := "(II)I" }
abbrev cX7_event : ByteArray := prog_1_method_18_code
abbrev yX7_events : MethodName := { cls := "PermitPark", name := "events", desc := "(II)I" }
abbrev cX7_events : ByteArray := prog_1_method_19_code
abbrev yX7_wake : MethodName := { cls := "PermitPark", name := "wake", desc := "(I)I" }
abbrev cX7_wake : ByteArray := prog_1_method_20_code
abbrev yX7_interrupt : MethodName := { cls := "PermitPark", name := "interrupt", desc := "(I)I" }
abbrev cX7_interrupt : ByteArray := prog_1_method_21_code
abbrev yX7_rouse : MethodName := { cls := "PermitPark", name := "rouse", desc := "(I)Z" }
abbrev cX7_rouse : ByteArray := prog_1_method_22_code
abbrev yX7_run : MethodName := { cls := "PermitPark", name := "run", desc := "(I)I" }
abbrev cX7_run : ByteArray := prog_1_method_23_code
abbrev yX7_next : MethodName := { cls := "PermitPark", name := "next", desc := "()I" }
abbrev cX7_next : ByteArray := prog_1_method_24_code
abbrev yX7_chain : MethodName := { cls := "PermitPark", name := "chain", desc := "(II)I" }
abbrev cX7_chain : ByteArray := prog_1_method_25_code
abbrev yX7_stuck : MethodName := { cls := "PermitPark", name := "stuck", desc := "()I" }
abbrev cX7_stuck : ByteArray := prog_1_method_26_code
abbrev yX7_lent : MethodName := { cls := "PermitPark", name := "lent", desc := "(I)F" }
abbrev cX7_lent : ByteArray := prog_1_method_27_code
abbrev yX7_doneIn : MethodName := { cls := "PermitPark", name := "doneIn", desc := "(II)I" }
abbrev cX7_doneIn : ByteArray := prog_1_method_29_code
abbrev yX7_returnsIn : MethodName := { cls := "PermitPark", name := "returnsIn", desc := "(II)I" }
abbrev cX7_returnsIn : ByteArray := prog_1_method_30_code
abbrev yX7_ahead : MethodName := { cls := "PermitPark", name := "ahead", desc := "(II)I" }
abbrev cX7_ahead : ByteArray := prog_1_method_31_code
abbrev yX7_bestBase : MethodName := { cls := "PermitPark", name := "bestBase", desc := "(II)I" }
abbrev cX7_bestBase : ByteArray := prog_1_method_32_code
abbrev yX7_save : MethodName := { cls := "PermitPark", name := "save", desc := "(I)V" }
abbrev cX7_save : ByteArray := prog_1_method_33_code
abbrev yX7_restore : MethodName := { cls := "PermitPark", name := "restore", desc := "(I)V" }
abbrev cX7_restore : ByteArray := prog_1_method_34_code
abbrev yX7_needThread : MethodName := { cls := "PermitPark", name := "needThread", desc := "(I)V" }
abbrev cX7_needThread : ByteArray := prog_1_method_35_code
abbrev yX7_needIndex : MethodName := { cls := "PermitPark", name := "needIndex", desc := "(II)V" }
abbrev cX7_needIndex : ByteArray := prog_1_method_36_code
abbrev yX7_needNotNegative : MethodName := { cls := "PermitPark", name := "needNotNegative", desc := "(I)V" }
abbrev cX7_needNotNegative : ByteArray := prog_1_method_37_code
abbrev yX7_needInRange : MethodName := { cls := "PermitPark", name := "needInRange", desc := "(III)V" }
abbrev cX7_needInRange : ByteArray := prog_1_method_38_code
abbrev yX7_needInstruction : MethodName := { cls := "PermitPark", name := "needInstruction", desc := "(II)V" }
abbrev cX7_needInstruction : ByteArray := prog_1_method_39_code
abbrev yX7_settingMost : MethodName := { cls := "PermitPark", name := "settingMost", desc := "(I)I" }
abbrev cX7_settingMost : ByteArray := prog_1_method_40_code
abbrev yJx29ce0_ordinal_8abf5 : MethodName := { cls := "java/lang/Enum", name := "ordinal", desc := "()I" }
abbrev cJx29ce0_ordinal_8abf5 : ByteArray := prog_11_method_2_code
abbrev yJ9_max_7cf53 : MethodName := { cls := "java/lang/Math", name := "max", desc := "(II)I" }
abbrev cJ9_max_7cf53 : ByteArray := prog_16_method_65_code
abbrev yL_init : MethodName := { cls := "PermitParkLaw", name := "<init>", desc := "()V" }
abbrev cL_init : ByteArray := method_1_code
abbrev yL_at : MethodName := { cls := "PermitParkLaw", name := "at", desc := "([II)I" }
abbrev cL_at : ByteArray := method_2_code
abbrev yL_draw : MethodName := { cls := "PermitParkLaw", name := "draw", desc := "(I)I" }
abbrev cL_draw : ByteArray := method_3_code
abbrev yL_addThread : MethodName := { cls := "PermitParkLaw", name := "addThread", desc := "(LPermitPark;III)I" }
abbrev cL_addThread : ByteArray := method_4_code
abbrev yL_addInstruction : MethodName := { cls := "PermitParkLaw", name := "addInstruction", desc := "(LPermitPark;III)I" }
abbrev cL_addInstruction : ByteArray := method_5_code
abbrev yL_setBase : MethodName := { cls := "PermitParkLaw", name := "setBase", desc := "(LPermitPark;II)I" }
abbrev cL_setBase : ByteArray := method_6_code
abbrev yL_set : MethodName := { cls := "PermitParkLaw", name := "set", desc := "(LPermitPark;II)I" }
abbrev cL_set : ByteArray := method_7_code
abbrev yL_seed : MethodName := { cls := "PermitParkLaw", name := "seed", desc := "(LPermitPark;I)I" }
abbrev cL_seed : ByteArray := method_8_code
abbrev yL_setFlag : MethodName := { cls := "PermitParkLaw", name := "setFlag", desc := "(LPermitPark;IZ)I" }
abbrev cL_setFlag : ByteArray := method_9_code
abbrev yL_count : MethodName := { cls := "PermitParkLaw", name := "count", desc := "(LPermitPark;I)I" }
abbrev cL_count : ByteArray := method_10_code
abbrev yL_thread : MethodName := { cls := "PermitParkLaw", name := "thread", desc := "(LPermitPark;II)I" }
abbrev cL_thread : ByteArray := method_11_code
abbrev yL_lock : MethodName := { cls := "PermitParkLaw", name := "lock", desc := "(LPermitPark;II)I" }
abbrev cL_lock : ByteArray := method_13_code
abbrev yL_flag : MethodName := { cls := "PermitParkLaw", name := "flag", desc := "(LPermitPark;I)I" }
abbrev cL_flag : ByteArray := method_14_code
abbrev yL_event : MethodName := { cls := "PermitParkLaw", name := "event", desc := "(LPermitPark;II)I" }
abbrev cL_event : ByteArray := method_15_code
abbrev yL_events : MethodName := { cls := "PermitParkLaw", name := "events", desc := "(LPermitPark;II)I" }
abbrev cL_events : ByteArray := method_16_code
abbrev yL_wake : MethodName := { cls := "PermitParkLaw", name := "wake", desc := "(LPermitPark;I)I" }
abbrev cL_wake : ByteArray := method_17_code
abbrev yL_interrupt : MethodName := { cls := "PermitParkLaw", name := "interrupt", desc := "(LPermitPark;I)I" }
abbrev cL_interrupt : ByteArray := method_18_code
abbrev yL_rouse : MethodName := { cls := "PermitParkLaw", name := "rouse", desc := "(LPermitPark;I)I" }
abbrev cL_rouse : ByteArray := method_19_code
abbrev yL_run : MethodName := { cls := "PermitParkLaw", name := "run", desc := "(LPermitPark;I)I" }
abbrev cL_run : ByteArray := method_20_code
abbrev yL_chain : MethodName := { cls := "PermitParkLaw", name := "chain", desc := "(LPermitPark;II)I" }
abbrev cL_chain : ByteArray := method_21_code
abbrev yL_lent : MethodName := { cls := "PermitParkLaw", name := "lent", desc := "(LPermitPark;I)F" }
abbrev cL_lent : ByteArray := method_22_code
abbrev yL_doneIn : MethodName := { cls := "PermitParkLaw", name := "doneIn", desc := "(LPermitPark;II)I" }
abbrev cL_doneIn : ByteArray := method_23_code
abbrev yL_returnsIn : MethodName := { cls := "PermitParkLaw", name := "returnsIn", desc := "(LPermitPark;II)I" }
abbrev cL_returnsIn : ByteArray := method_24_code
abbrev yL_ahead : MethodName := { cls := "PermitParkLaw", name := "ahead", desc := "(LPermitPark;II)I" }
abbrev cL_ahead : ByteArray := method_25_code
abbrev yL_bestBase : MethodName := { cls := "PermitParkLaw", name := "bestBase", desc := "(LPermitPark;II)I" }
abbrev cL_bestBase : ByteArray := method_26_code
abbrev yL_save : MethodName := { cls := "PermitParkLaw", name := "save", desc := "(LPermitPark;I)I" }
abbrev cL_save : ByteArray := method_27_code
abbrev yL_restore : MethodName := { cls := "PermitParkLaw", name := "restore", desc := "(LPermitPark;I)I" }
abbrev cL_restore : ByteArray := method_28_code
abbrev yL_builds : MethodName := { cls := "PermitParkLaw", name := "builds", desc := "()Z" }
abbrev cL_builds : ByteArray := method_29_code
abbrev yL_statesAreSo : MethodName := { cls := "PermitParkLaw", name := "statesAreSo", desc := "()Z" }
abbrev cL_statesAreSo : ByteArray := method_30_code
abbrev yL_ticks : MethodName := { cls := "PermitParkLaw", name := "ticks", desc := "()Z" }
abbrev cL_ticks : ByteArray := method_31_code
abbrev yL_nobodyAhead : MethodName := { cls := "PermitParkLaw", name := "nobodyAhead", desc := "()Z" }
abbrev cL_nobodyAhead : ByteArray := method_32_code
abbrev yL_calls : MethodName := { cls := "PermitParkLaw", name := "calls", desc := "()Z" }
abbrev cL_calls : ByteArray := method_33_code
abbrev yL_eventsAreSo : MethodName := { cls := "PermitParkLaw", name := "eventsAreSo", desc := "()Z" }
abbrev cL_eventsAreSo : ByteArray := method_34_code
abbrev yL_foretells : MethodName := { cls := "PermitParkLaw", name := "foretells", desc := "()Z" }
abbrev cL_foretells : ByteArray := method_35_code
abbrev yL_mine : MethodName := { cls := "PermitParkLaw", name := "mine", desc := "(I)I" }
abbrev cL_mine : ByteArray := method_36_code
abbrev yL_returns : MethodName := { cls := "PermitParkLaw", name := "returns", desc := "()I" }
abbrev cL_returns : ByteArray := method_37_code
abbrev yL_law : MethodName := { cls := "PermitParkLaw", name := "law", desc := "([I)Z" }
abbrev cL_law : ByteArray := code
abbrev yL_holds : MethodName := { cls := "PermitParkLaw", name := "holds", desc := "([I)Z" }
abbrev cL_holds : ByteArray := method_39_code
theorem kb_m103 : (Int8.ofInt (-103)).toInt32 = (-103 : Int32) := by decide
theorem kb_m102 : (Int8.ofInt (-102)).toInt32 = (-102 : Int32) := by decide
theorem kb_m101 : (Int8.ofInt (-101)).toInt32 = (-101 : Int32) := by decide
theorem kb_m2 : (Int8.ofInt (-2)).toInt32 = (-2 : Int32) := by decide
theorem kb_6 : (Int8.ofInt 6).toInt32 = (6 : Int32) := by decide
theorem kb_7 : (Int8.ofInt 7).toInt32 = (7 : Int32) := by decide
theorem kb_8 : (Int8.ofInt 8).toInt32 = (8 : Int32) := by decide
theorem kb_9 : (Int8.ofInt 9).toInt32 = (9 : Int32) := by decide
theorem kb_10 : (Int8.ofInt 10).toInt32 = (10 : Int32) := by decide
theorem kb_11 : (Int8.ofInt 11).toInt32 = (11 : Int32) := by decide
theorem kb_12 : (Int8.ofInt 12).toInt32 = (12 : Int32) := by decide
theorem kb_13 : (Int8.ofInt 13).toInt32 = (13 : Int32) := by decide
theorem kb_14 : (Int8.ofInt 14).toInt32 = (14 : Int32) := by decide
theorem kb_15 : (Int8.ofInt 15).toInt32 = (15 : Int32) := by decide
theorem kb_16 : (Int8.ofInt 16).toInt32 = (16 : Int32) := by decide
theorem kb_17 : (Int8.ofInt 17).toInt32 = (17 : Int32) := by decide
theorem kb_18 : (Int8.ofInt 18).toInt32 = (18 : Int32) := by decide
theorem kb_20 : (Int8.ofInt 20).toInt32 = (20 : Int32) := by decide
theorem kb_40 : (Int8.ofInt 40).toInt32 = (40 : Int32) := by decide
theorem kb_50 : (Int8.ofInt 50).toInt32 = (50 : Int32) := by decide
theorem kb_60 : (Int8.ofInt 60).toInt32 = (60 : Int32) := by decide
theorem kb_70 : (Int8.ofInt 70).toInt32 = (70 : Int32) := by decide
theorem kb_80 : (Int8.ofInt 80).toInt32 = (80 : Int32) := by decide
theorem kc_m1 : Int32.ofInt (-1) = (-1 : Int32) := by decide
theorem kc_0 : Int32.ofInt 0 = (0 : Int32) := by decide
theorem kc_1 : Int32.ofInt 1 = (1 : Int32) := by decide
theorem kc_2 : Int32.ofInt 2 = (2 : Int32) := by decide
theorem kc_3 : Int32.ofInt 3 = (3 : Int32) := by decide
theorem kc_4 : Int32.ofInt 4 = (4 : Int32) := by decide
theorem kc_5 : Int32.ofInt 5 = (5 : Int32) := by decide
theorem ki_m1 (x : Int32) : x + Int32.ofInt (-1) = (x + (-1 : Int32)) := congrArg (x + ·) (by decide)
theorem ki_1 (x : Int32) : x + Int32.ofInt 1 = (x + (1 : Int32)) := congrArg (x + ·) (by decide)
theorem ks_160 : (Int16.ofInt 160).toInt32 = (160 : Int32) := by decide
theorem ks_200 : (Int16.ofInt 200).toInt32 = (200 : Int32) := by decide
theorem ks_500 : (Int16.ofInt 500).toInt32 = (500 : Int32) := by decide
theorem ks_501 : (Int16.ofInt 501).toInt32 = (501 : Int32) := by decide
theorem ks_512 : (Int16.ofInt 512).toInt32 = (512 : Int32) := by decide
theorem ks_800 : (Int16.ofInt 800).toInt32 = (800 : Int32) := by decide
theorem ks_1000 : (Int16.ofInt 1000).toInt32 = (1000 : Int32) := by decide
theorem ks_1103 : (Int16.ofInt 1103).toInt32 = (1103 : Int32) := by decide
theorem ks_12345 : (Int16.ofInt 12345).toInt32 = (12345 : Int32) := by decide
theorem FX1_holders : FF 9 0 "holders" "[I" 0 3 "PermitPark$Locks" TX1 true := ⟨rfl, rfl, by decide, rfl, wIn_1⟩
theorem FX1_waiters : FF 9 1 "waiters" "[I" 0 3 "PermitPark$Locks" TX1 true := ⟨rfl, rfl, by decide, rfl, wIn_1⟩
theorem FX1_waiting : FF 9 2 "waiting" "[I" 0 3 "PermitPark$Locks" TX1 true := ⟨rfl, rfl, by decide, rfl, wIn_1⟩
theorem FX2_cells : FF 13 0 "cells" "[I" 1 4 "PermitPark$Log" TX2 true := ⟨rfl, rfl, by decide, rfl, wIn_2⟩
theorem FX2_nextRow : FF 13 1 "nextRow" "I" 1 4 "PermitPark$Log" TX2 false := ⟨rfl, rfl, by decide, rfl, wIn_2⟩
theorem FX2_kept : FF 13 2 "kept" "I" 1 4 "PermitPark$Log" TX2 false := ⟨rfl, rfl, by decide, rfl, wIn_2⟩
theorem FX2_total : FF 13 3 "total" "I" 1 4 "PermitPark$Log" TX2 false := ⟨rfl, rfl, by decide, rfl, wIn_2⟩
theorem FX3_threads : FF 3 0 "threads" "[LPermitPark$Strand;" 2 16 "PermitPark$Machine" TX3 true := ⟨rfl, rfl, by decide, rfl, wIn_3⟩
theorem FX3_locks : FF 3 1 "locks" "LPermitPark$Locks;" 2 16 "PermitPark$Machine" TX3 true := ⟨rfl, rfl, by decide, rfl, wIn_3⟩
theorem FX3_log : FF 3 2 "log" "LPermitPark$Log;" 2 16 "PermitPark$Machine" TX3 true := ⟨rfl, rfl, by decide, rfl, wIn_3⟩
theorem FX3_settings : FF 3 3 "settings" "[I" 2 16 "PermitPark$Machine" TX3 true := ⟨rfl, rfl, by decide, rfl, wIn_3⟩
theorem FX3_threadCount : FF 3 4 "threadCount" "I" 2 16 "PermitPark$Machine" TX3 false := ⟨rfl, rfl, by decide, rfl, wIn_3⟩
theorem FX3_time : FF 3 5 "time" "I" 2 16 "PermitPark$Machine" TX3 false := ⟨rfl, rfl, by decide, rfl, wIn_3⟩
theorem FX3_x : FF 3 6 "x" "I" 2 16 "PermitPark$Machine" TX3 false := ⟨rfl, rfl, by decide, rfl, wIn_3⟩
theorem FX3_idleTicks : FF 3 7 "idleTicks" "I" 2 16 "PermitPark$Machine" TX3 false := ⟨rfl, rfl, by decide, rfl, wIn_3⟩
theorem FX3_flags : FF 3 8 "flags" "I" 2 16 "PermitPark$Machine" TX3 false := ⟨rfl, rfl, by decide, rfl, wIn_3⟩
theorem FX3_merged : FF 3 9 "merged" "I" 2 16 "PermitPark$Machine" TX3 false := ⟨rfl, rfl, by decide, rfl, wIn_3⟩
theorem FX3_wasted : FF 3 10 "wasted" "I" 2 16 "PermitPark$Machine" TX3 false := ⟨rfl, rfl, by decide, rfl, wIn_3⟩
theorem FX3_stolen : FF 3 11 "stolen" "I" 2 16 "PermitPark$Machine" TX3 false := ⟨rfl, rfl, by decide, rfl, wIn_3⟩
theorem FX3_toldOn : FF 3 12 "toldOn" "I" 2 16 "PermitPark$Machine" TX3 false := ⟨rfl, rfl, by decide, rfl, wIn_3⟩
theorem FX3_arePrioritiesOld : FF 3 13 "arePrioritiesOld" "Z" 2 16 "PermitPark$Machine" TX3 false := ⟨rfl, rfl, by decide, rfl, wIn_3⟩
theorem FX3_ending : FF 3 14 "ending" "[I" 2 16 "PermitPark$Machine" TX3 true := ⟨rfl, rfl, by decide, rfl, wIn_3⟩
theorem FX3_endingCount : FF 3 15 "endingCount" "I" 2 16 "PermitPark$Machine" TX3 false := ⟨rfl, rfl, by decide, rfl, wIn_3⟩
theorem FX5_bytes : FF 1 0 "bytes" "[B" 3 8 "PermitPark$SetupText" TX5 true := ⟨rfl, rfl, by decide, rfl, wIn_5⟩
theorem FX5_length : FF 1 1 "length" "I" 3 8 "PermitPark$SetupText" TX5 false := ⟨rfl, rfl, by decide, rfl, wIn_5⟩
theorem FX5_errorCode : FF 1 2 "errorCode" "I" 3 8 "PermitPark$SetupText" TX5 false := ⟨rfl, rfl, by decide, rfl, wIn_5⟩
theorem FX5_errorPosition : FF 1 3 "errorPosition" "I" 3 8 "PermitPark$SetupText" TX5 false := ⟨rfl, rfl, by decide, rfl, wIn_5⟩
theorem FX5_kind : FF 1 4 "kind" "I" 3 8 "PermitPark$SetupText" TX5 false := ⟨rfl, rfl, by decide, rfl, wIn_5⟩
theorem FX5_value : FF 1 5 "value" "I" 3 8 "PermitPark$SetupText" TX5 false := ⟨rfl, rfl, by decide, rfl, wIn_5⟩
theorem FX5_first : FF 1 6 "first" "I" 3 8 "PermitPark$SetupText" TX5 false := ⟨rfl, rfl, by decide, rfl, wIn_5⟩
theorem FX5_behind : FF 1 7 "behind" "I" 3 8 "PermitPark$SetupText" TX5 false := ⟨rfl, rfl, by decide, rfl, wIn_5⟩
theorem FX6_codes : FF 5 0 "codes" "[I" 4 18 "PermitPark$Strand" TX6 true := ⟨rfl, rfl, by decide, rfl, wIn_6⟩
theorem FX6_numbers : FF 5 1 "numbers" "[I" 4 18 "PermitPark$Strand" TX6 true := ⟨rfl, rfl, by decide, rfl, wIn_6⟩
theorem FX6_returns : FF 5 2 "returns" "[I" 4 18 "PermitPark$Strand" TX6 true := ⟨rfl, rfl, by decide, rfl, wIn_6⟩
theorem FX6_length : FF 5 3 "length" "I" 4 18 "PermitPark$Strand" TX6 false := ⟨rfl, rfl, by decide, rfl, wIn_6⟩
theorem FX6_base : FF 5 4 "base" "I" 4 18 "PermitPark$Strand" TX6 false := ⟨rfl, rfl, by decide, rfl, wIn_6⟩
theorem FX6_priority : FF 5 5 "priority" "I" 4 18 "PermitPark$Strand" TX6 false := ⟨rfl, rfl, by decide, rfl, wIn_6⟩
theorem FX6_greatest : FF 5 6 "greatest" "I" 4 18 "PermitPark$Strand" TX6 false := ⟨rfl, rfl, by decide, rfl, wIn_6⟩
theorem FX6_state : FF 5 7 "state" "I" 4 18 "PermitPark$Strand" TX6 false := ⟨rfl, rfl, by decide, rfl, wIn_6⟩
theorem FX6_place : FF 5 8 "place" "I" 4 18 "PermitPark$Strand" TX6 false := ⟨rfl, rfl, by decide, rfl, wIn_6⟩
theorem FX6_worked : FF 5 9 "worked" "I" 4 18 "PermitPark$Strand" TX6 false := ⟨rfl, rfl, by decide, rfl, wIn_6⟩
theorem FX6_hasPermit : FF 5 10 "hasPermit" "Z" 4 18 "PermitPark$Strand" TX6 false := ⟨rfl, rfl, by decide, rfl, wIn_6⟩
theorem FX6_hasInterrupt : FF 5 11 "hasInterrupt" "Z" 4 18 "PermitPark$Strand" TX6 false := ⟨rfl, rfl, by decide, rfl, wIn_6⟩
theorem FX6_cause : FF 5 12 "cause" "I" 4 18 "PermitPark$Strand" TX6 false := ⟨rfl, rfl, by decide, rfl, wIn_6⟩
theorem FX6_deadline : FF 5 13 "deadline" "I" 4 18 "PermitPark$Strand" TX6 false := ⟨rfl, rfl, by decide, rfl, wIn_6⟩
theorem FX6_blockedAt : FF 5 14 "blockedAt" "I" 4 18 "PermitPark$Strand" TX6 false := ⟨rfl, rfl, by decide, rfl, wIn_6⟩
theorem FX6_ticksRun : FF 5 15 "ticksRun" "I" 4 18 "PermitPark$Strand" TX6 false := ⟨rfl, rfl, by decide, rfl, wIn_6⟩
theorem FX6_lastRun : FF 5 16 "lastRun" "I" 4 18 "PermitPark$Strand" TX6 false := ⟨rfl, rfl, by decide, rfl, wIn_6⟩
theorem FX6_parks : FF 5 17 "parks" "I" 4 18 "PermitPark$Strand" TX6 false := ⟨rfl, rfl, by decide, rfl, wIn_6⟩
theorem FX7_text : FF 0 0 "text" "LPermitPark$SetupText;" 5 5 "PermitPark" TX7 true := ⟨rfl, rfl, by decide, rfl, wIn_7⟩
theorem FX7_live : FF 0 1 "live" "LPermitPark$Machine;" 5 5 "PermitPark" TX7 true := ⟨rfl, rfl, by decide, rfl, wIn_7⟩
theorem FX7_trial : FF 0 2 "trial" "LPermitPark$Machine;" 5 5 "PermitPark" TX7 true := ⟨rfl, rfl, by decide, rfl, wIn_7⟩
theorem FX7_saved : FF 0 3 "saved" "[LPermitPark$Machine;" 5 5 "PermitPark" TX7 true := ⟨rfl, rfl, by decide, rfl, wIn_7⟩
theorem FX7_isSaved : FF 0 4 "isSaved" "[Z" 5 5 "PermitPark" TX7 true := ⟨rfl, rfl, by decide, rfl, wIn_7⟩
theorem FL_x : FF 19 0 "x" "LPermitPark;" 6 3 "PermitParkLaw" TX9 true := ⟨rfl, rfl, by decide, rfl, wIn_9⟩
theorem FL_ints : FF 19 1 "ints" "[I" 6 3 "PermitParkLaw" TX9 false := ⟨rfl, rfl, by decide, rfl, wIn_9⟩
theorem FL_next : FF 19 2 "next" "I" 6 3 "PermitParkLaw" TX9 false := ⟨rfl, rfl, by decide, rfl, wIn_9⟩
