/-! ===== names and codes of the methods, fields, constants (printed of the program) ===== -/
abbrev yX1_init : MethodName := { cls := "PermitPark$Locks", name := "<init>", desc := "()V" }
abbrev cX1_init : ByteArray := prog_3_method_1_code
abbrev yX1_clear : MethodName := { cls := "PermitPark$Locks", name := "clear", desc := "()V" }
abbrev cX1_clear : ByteArray := prog_3_method_2_code
abbrev yX1_copyFrom : MethodName := { cls := "PermitPark$Locks", name := "copyFrom", desc := "(LPermitPark$Locks;)V" }
abbrev cX1_copyFrom : ByteArray := prog_3_method_3_code
abbrev yX1_heldOnes : MethodName := { cls := "PermitPark$Locks", name := "heldOnes", desc := "()I" }
abbrev cX1_heldOnes : ByteArray := prog_3_method_4_code
abbrev yX1_heldBy : MethodName := { cls := "PermitPark$Locks", name := "heldBy", desc := "(I)I" }
abbrev cX1_heldBy : ByteArray := prog_3_method_5_code
abbrev yX1_lowestHeldBy : MethodName := { cls := "PermitPark$Locks", name := "lowestHeldBy", desc := "(I)I" }
abbrev cX1_lowestHeldBy : ByteArray := prog_3_method_6_code
abbrev yX1_waiter : MethodName := { cls := "PermitPark$Locks", name := "waiter", desc := "(II)I" }
abbrev cX1_waiter : ByteArray := prog_3_method_7_code
abbrev yX1_addWaiter : MethodName := { cls := "PermitPark$Locks", name := "addWaiter", desc := "(II)V" }
abbrev cX1_addWaiter : ByteArray := prog_3_method_8_code
abbrev yX1_removeWaiter : MethodName := { cls := "PermitPark$Locks", name := "removeWaiter", desc := "(II)V" }
abbrev cX1_removeWaiter : ByteArray := prog_3_method_9_code
abbrev yX2_init : MethodName := { cls := "PermitPark$Log", name := "<init>", desc := "()V" }
abbrev cX2_init : ByteArray := prog_4_method_1_code
abbrev yX2_clear : MethodName := { cls := "PermitPark$Log", name := "clear", desc := "()V" }
abbrev cX2_clear : ByteArray := prog_4_method_2_code
abbrev yX2_copyFrom : MethodName := { cls := "PermitPark$Log", name := "copyFrom", desc := "(LPermitPark$Log;)V" }
abbrev cX2_copyFrom : ByteArray := prog_4_method_3_code
abbrev yX2_add : MethodName := { cls := "PermitPark$Log", name := "add", desc := "(IIII)V" }
abbrev cX2_add : ByteArray := prog_4_method_4_code
abbrev yX2_cell : MethodName := { cls := "PermitPark$Log", name := "cell", desc := "(II)I" }
abbrev cX2_cell : ByteArray := prog_4_method_5_code
abbrev yX2_countOf : MethodName := { cls := "PermitPark$Log", name := "countOf", desc := "(II)I" }
abbrev cX2_countOf : ByteArray := prog_4_method_6_code
abbrev yX3_init : MethodName := { cls := "PermitPark$Machine", name := "<init>", desc := "()V" }
abbrev cX3_init : ByteArray := prog_5_method_1_code
abbrev yX3_clear : MethodName := { cls := "PermitPark$Machine", name := "clear", desc := "()V" }
abbrev cX3_clear : ByteArray := prog_5_method_2_code
abbrev yX3_copyFrom : MethodName := { cls := "PermitPark$Machine", name := "copyFrom", desc := "(LPermitPark$Machine;)V" }
abbrev cX3_copyFrom : ByteArray := prog_5_method_3_code
abbrev yX3_isFull : MethodName := { cls := "PermitPark$Machine", name := "isFull", desc := "()Z" }
abbrev cX3_isFull : ByteArray := prog_5_method_4_code
abbrev yX3_newThread : MethodName := { cls := "PermitPark$Machine", name := "newThread", desc := "(I)LPermitPark$Strand;" }
abbrev cX3_newThread : ByteArray := prog_5_method_5_code
abbrev yX3_changeBase : MethodName := { cls := "PermitPark$Machine", name := "changeBase", desc := "(II)V" }
abbrev cX3_changeBase : ByteArray := prog_5_method_6_code
abbrev yX3_changeSetting : MethodName := { cls := "PermitPark$Machine", name := "changeSetting", desc := "(II)V" }
abbrev cX3_changeSetting : ByteArray := prog_5_method_7_code
abbrev yX3_isFlagOn : MethodName := { cls := "PermitPark$Machine", name := "isFlagOn", desc := "(I)Z" }
abbrev cX3_isFlagOn : ByteArray := prog_5_method_8_code
abbrev yX3_turnFlag : MethodName := { cls := "PermitPark$Machine", name := "turnFlag", desc := "(IZ)V" }
abbrev cX3_turnFlag : ByteArray := prog_5_method_9_code
abbrev yX3_threadsIn : MethodName := { cls := "PermitPark$Machine", name := "threadsIn", desc := "(I)I" }
abbrev cX3_threadsIn : ByteArray := prog_5_method_10_code
abbrev yX3_allReturns : MethodName := { cls := "PermitPark$Machine", name := "allReturns", desc := "()I" }
abbrev cX3_allReturns : ByteArray := prog_5_method_11_code
abbrev yX3_number : MethodName := { cls := "PermitPark$Machine", name := "number", desc := "(I)I" }
abbrev cX3_number : ByteArray := prog_5_method_12_code
abbrev yX3_blockerOf : MethodName := { cls := "PermitPark$Machine", name := "blockerOf", desc := "(I)I" }
abbrev cX3_blockerOf : ByteArray := prog_5_method_13_code
abbrev yX3_blockerInChain : MethodName := { cls := "PermitPark$Machine", name := "blockerInChain", desc := "(II)I" }
abbrev cX3_blockerInChain : ByteArray := prog_5_method_14_code
abbrev yX3_isStuck : MethodName := { cls := "PermitPark$Machine", name := "isStuck", desc := "(I)Z" }
abbrev cX3_isStuck : ByteArray := prog_5_method_15_code
abbrev yX3_refreshPriorities : MethodName := { cls := "PermitPark$Machine", name := "refreshPriorities", desc := "()V" }
abbrev cX3_refreshPriorities : ByteArray := prog_5_method_16_code
abbrev yX3_tick : MethodName := { cls := "PermitPark$Machine", name := "tick", desc := "()I" }
abbrev cX3_tick : ByteArray := prog_5_method_17_code
abbrev yX3_noteGreatestPriorities : MethodName := { cls := "PermitPark$Machine", name := "noteGreatestPriorities", desc := "()V" }
abbrev cX3_noteGreatestPriorities : ByteArray := prog_5_method_18_code
abbrev yX3_firstLate : MethodName := { cls := "PermitPark$Machine", name := "firstLate", desc := "()I" }
abbrev cX3_firstLate : ByteArray := prog_5_method_19_code
abbrev yX3_drawOfThousand : MethodName := { cls := "PermitPark$Machine", name := "drawOfThousand", desc := "()I" }
abbrev cX3_drawOfThousand : ByteArray := prog_5_method_20_code
abbrev yX3_firstReady : MethodName := { cls := "PermitPark$Machine", name := "firstReady", desc := "()I" }
abbrev cX3_firstReady : ByteArray := prog_5_method_21_code
abbrev yX3_isAheadOf : MethodName := { cls := "PermitPark$Machine", name := "isAheadOf", desc := "(LPermitPark$Strand;LPermitPark$Strand;)Z" }
abbrev cX3_isAheadOf : ByteArray := prog_5_method_22_code
abbrev yX3_perform : MethodName := { cls := "PermitPark$Machine", name := "perform", desc := "(I)Z" }
abbrev cX3_perform : ByteArray := prog_5_method_23_code
abbrev yX3_park : MethodName := { cls := "PermitPark$Machine", name := "park", desc := "(II)V" }
abbrev cX3_park : ByteArray := prog_5_method_24_code
abbrev yX3_comeBack : MethodName := { cls := "PermitPark$Machine", name := "comeBack", desc := "(II)V" }
abbrev cX3_comeBack : ByteArray := prog_5_method_25_code
abbrev yX3_wakeUp : MethodName := { cls := "PermitPark$Machine", name := "wakeUp", desc := "(II)I" }
abbrev cX3_wakeUp : ByteArray := prog_5_method_26_code
abbrev yX3_disturb : MethodName := { cls := "PermitPark$Machine", name := "disturb", desc := "(I)I" }
abbrev cX3_disturb : ByteArray := prog_5_method_27_code
abbrev yX3_tellOn : MethodName := { cls := "PermitPark$Machine", name := "tellOn", desc := "(II)V" }
abbrev cX3_tellOn : ByteArray := prog_5_method_28_code
abbrev yX3_stealPermit : MethodName := { cls := "PermitPark$Machine", name := "stealPermit", desc := "(II)V" }
abbrev cX3_stealPermit : ByteArray := prog_5_method_29_code
abbrev yX3_takeLock : MethodName := { cls := "PermitPark$Machine", name := "takeLock", desc := "(II)Z" }
abbrev cX3_takeLock : ByteArray := prog_5_method_30_code
abbrev yX3_unlock : MethodName := { cls := "PermitPark$Machine", name := "unlock", desc := "(II)Z" }
abbrev cX3_unlock : ByteArray := prog_5_method_31_code
abbrev yX3_fail : MethodName := { cls := "PermitPark$Machine", name := "fail", desc := "(I)V" }
abbrev cX3_fail : ByteArray := prog_5_method_32_code
abbrev yX3_giveUp : MethodName := { cls := "PermitPark$Machine", name := "giveUp", desc := "(I)V" }
abbrev cX3_giveUp : ByteArray := prog_5_method_33_code
abbrev yX3_firstWaiter : MethodName := { cls := "PermitPark$Machine", name := "firstWaiter", desc := "(I)I" }
abbrev cX3_firstWaiter : ByteArray := prog_5_method_34_code
abbrev yX3_advance : MethodName := { cls := "PermitPark$Machine", name := "advance", desc := "(I)V" }
abbrev cX3_advance : ByteArray := prog_5_method_35_code
abbrev yX3_endIfThrough : MethodName := { cls := "PermitPark$Machine", name := "endIfThrough", desc := "(I)V" }
abbrev cX3_endIfThrough : ByteArray := prog_5_method_36_code
abbrev yX3_settle : MethodName := { cls := "PermitPark$Machine", name := "settle", desc := "()V" }
abbrev cX3_settle : ByteArray := prog_5_method_37_code
abbrev yX5_init : MethodName := { cls := "PermitPark$SetupText", name := "<init>", desc := "()V" }
abbrev cX5_init : ByteArray := prog_7_method_1_code
abbrev yX5_append : MethodName := { cls := "PermitPark$SetupText", name := "append", desc := "(I)V" }
abbrev cX5_append : ByteArray := prog_7_method_2_code
abbrev yX5_startReading : MethodName := { cls := "PermitPark$SetupText", name := "startReading", desc := "()V" }
abbrev cX5_startReading : ByteArray := prog_7_method_3_code
abbrev yX5_hasStatement : MethodName := { cls := "PermitPark$SetupText", name := "hasStatement", desc := "()Z" }
abbrev cX5_hasStatement : ByteArray := prog_7_method_4_code
abbrev yX5_readStatement : MethodName := { cls := "PermitPark$SetupText", name := "readStatement", desc := "(LPermitPark$Machine;)V" }
abbrev cX5_readStatement : ByteArray := prog_7_method_5_code
abbrev yX5_readThread : MethodName := { cls := "PermitPark$SetupText", name := "readThread", desc := "(LPermitPark$Machine;)Z" }
abbrev cX5_readThread : ByteArray := prog_7_method_6_code
abbrev yX5_readInstruction : MethodName := { cls := "PermitPark$SetupText", name := "readInstruction", desc := "(LPermitPark$Strand;)Z" }
abbrev cX5_readInstruction : ByteArray := prog_7_method_7_code
abbrev yX5_readFlag : MethodName := { cls := "PermitPark$SetupText", name := "readFlag", desc := "(LPermitPark$Machine;)Z" }
abbrev cX5_readFlag : ByteArray := prog_7_method_8_code
abbrev yX5_readSetting : MethodName := { cls := "PermitPark$SetupText", name := "readSetting", desc := "(LPermitPark$Machine;)Z" }
abbrev cX5_readSetting : ByteArray := prog_7_method_9_code
abbrev yX5_readSeed : MethodName := { cls := "PermitPark$SetupText", name := "readSeed", desc := "(LPermitPark$Machine;)Z" }
abbrev cX5_readSeed : ByteArray := prog_7_method_10_code
abbrev yX5_readNumber : MethodName := { cls := "PermitPark$SetupText", name := "readNumber", desc := "(II)Z" }
abbrev cX5_readNumber : ByteArray := prog_7_method_11_code
abbrev yX5_needNumber : MethodName := { cls := "PermitPark$SetupText", name := "needNumber", desc := "(II)Z" }
abbrev cX5_needNumber : ByteArray := prog_7_method_12_code
abbrev yX5_readSymbol : MethodName := { cls := "PermitPark$SetupText", name := "readSymbol", desc := "(C)Z" }
abbrev cX5_readSymbol : ByteArray := prog_7_method_13_code
abbrev yX5_refuse : MethodName := { cls := "PermitPark$SetupText", name := "refuse", desc := "(I)Z" }
abbrev cX5_refuse : ByteArray := prog_7_method_14_code
abbrev yX5_isWord : MethodName := { cls := "PermitPark$SetupText", name := "isWord", desc := "(Ljava/lang/String;)Z" }
abbrev cX5_isWord : ByteArray := prog_7_method_15_code
abbrev yX5_instructionCode : MethodName := { cls := "PermitPark$SetupText", name := "instructionCode", desc := "()I" }
abbrev cX5_instructionCode : ByteArray := prog_7_method_16_code
abbrev yX5_readToken : MethodName := { cls := "PermitPark$SetupText", name := "readToken", desc := "()V" }
abbrev cX5_readToken : ByteArray := prog_7_method_17_code
abbrev yX5_kindOf : MethodName := { cls := "PermitPark$SetupText", name := "kindOf", desc := "(B)I" }
abbrev cX5_kindOf : ByteArray := prog_7_method_18_code
abbrev yX5_valueOfToken : MethodName := { cls := "PermitPark$SetupText", name := "valueOfToken", desc := "()I" }
abbrev cX5_valueOfToken : ByteArray := prog_7_method_19_code
abbrev yX6_init : MethodName := { cls := "PermitPark$Strand", name := "<init>", desc := "()V" }
abbrev cX6_init : ByteArray := prog_8_method_1_code
abbrev yX6_start : MethodName := { cls := "PermitPark$Strand", name := "start", desc := "(I)V" }
abbrev cX6_start : ByteArray := prog_8_method_2_code
abbrev yX6_copyFrom : MethodName := { cls := "PermitPark$Strand", name := "copyFrom", desc := "(LPermitPark$Strand;)V" }
abbrev cX6_copyFrom : ByteArray := prog_8_method_3_code
abbrev yX6_addStep : MethodName := { cls := "PermitPark$Strand", name := "addStep", desc := "(II)V" }
abbrev cX6_addStep : ByteArray := prog_8_method_4_code
abbrev yX6_isOver : MethodName := { cls := "PermitPark$Strand", name := "isOver", desc := "()Z" }
abbrev cX6_isOver : ByteArray := prog_8_method_5_code
abbrev yX6_allReturns : MethodName := { cls := "PermitPark$Strand", name := "allReturns", desc := "()I" }
abbrev cX6_allReturns : ByteArray := prog_8_method_6_code
abbrev yX6_number : MethodName := { cls := "PermitPark$Strand", name := "number", desc := "(I)I" }
abbrev cX6_number : ByteArray := prog_8_method_7_code
abbrev yX7_init : MethodName := { cls := "PermitPark", name := "<init>", desc := "()V" }
abbrev cX7_init : ByteArray := prog_1_method_1_code
abbrev yX7_appendText : MethodName := { cls := "PermitPark", name := "appendText", desc := "(I)I" }
abbrev cX7_appendText : ByteArray := prog_1_method_2_code
abbrev yX7_truncateText : MethodName := { cls := "PermitPark", name := "truncateText", desc := "(I)I" }
abbrev cX7_truncateText : ByteArray := prog_1_method_3_code
abbrev yX7_load : MethodName := { cls := "PermitPark", name := "load", desc := "()I" }
abbrev cX7_load : ByteArray := prog_1_method_4_code
abbrev yX7_errorCode : MethodName := { cls := "PermitPark", name := "errorCode", desc := "()I" }
abbrev cX7_errorCode : ByteArray := prog_1_method_5_code
abbrev yX7_errorPosition : MethodName := { cls := "PermitPark", name := "errorPosition", desc := "()I" }
abbrev cX7_errorPosition : ByteArray := prog_1_method_6_code
abbrev yX7_addThread : MethodName := { cls := "PermitPark", name := "addThread", desc := "(III)I" }
abbrev cX7_addThread : ByteArray := prog_1_method_7_code
abbrev yX7_addInstruction : MethodName := { cls := "PermitPark", name := "addInstruction", desc := "(III)I" }
abbrev cX7_addInstruction : ByteArray := prog_1_method_8_code
abbrev yX7_setBase : MethodName := { cls := "PermitPark", name := "setBase", desc := "(II)I" }
abbrev cX7_setBase : ByteArray := prog_1_method_9_code
abbrev yX7_set : MethodName := { cls := "PermitPark", name := "set", desc := "(II)I" }
abbrev cX7_set : ByteArray := prog_1_method_10_code
abbrev yX7_seed : MethodName := { cls := "PermitPark", name := "seed", desc := "(I)V" }
abbrev cX7_seed : ByteArray := prog_1_method_11_code
abbrev yX7_setFlag : MethodName := { cls := "PermitPark", name := "setFlag", desc := "(IZ)Z" }
abbrev cX7_setFlag : ByteArray := prog_1_method_12_code
abbrev yX7_count : MethodName := { cls := "PermitPark", name := "count", desc := "(I)I" }
abbrev cX7_count : ByteArray := prog_1_method_13_code
abbrev yX7_thread : MethodName := { cls := "PermitPark", name := "thread", desc := "(II)I" }
abbrev cX7_thread : ByteArray := prog_1_method_14_code
abbrev yX7_instruction : MethodName := { cls := "PermitPark", name := "instruction", desc := "(III)I" }
abbrev cX7_instruction : ByteArray := prog_1_method_15_code
abbrev yX7_lock : MethodName := { cls := "PermitPark", name := "lock", desc := "(II)I" }
abbrev cX7_lock : ByteArray := prog_1_method_16_code
abbrev yX7_flag : MethodName := { cls := "PermitPark", name := "flag", desc := "(I)Z" }
abbrev cX7_flag : ByteArray := prog_1_method_17_code
abbrev yX7_event : MethodName := { cls := "PermitPark", name := "event", desc := "(II)I" }
abbrev cX7_event : ByteArray := prog_1_method_18_code
abbrev yX7_events : MethodName := { cls := "PermitPark", name := "events", desc := "(II)I" }
abbrev cX7_events : ByteArray := prog_1_method_19_code
abbrev yX7_wake : MethodName := { cls := "PermitPark", name := "wake", desc := "(I)I" }
abbrev cX7_wake : ByteArray := prog_1_method_20_code
abbrev yX7_interrupt : MethodName := { cls := "PermitPark", name := "interrupt", desc := "(I)I" }
abbrev cX7_interrupt : ByteArray := prog_1_method_21_code
abbrev yX7_rouse : MethodName := { cls := "PermitPark", name := "rouse", desc := "(I)Z" }
abbrev cX7_rouse : ByteArray := prog_1_method_22_code
abbrev yX7_run : MethodName := { cls := "PermitPark", name := "run", desc := "(I)I" }
abbrev cX7_run : ByteArray := prog_1_method_23_code
abbrev yX7_next : MethodName := { cls := "PermitPark", name := "next", desc := "()I" }
abbrev cX7_next : ByteArray := prog_1_method_24_code
abbrev yX7_chain : MethodName := { cls := "PermitPark", name := "chain", desc := "(II)I" }
abbrev cX7_chain : ByteArray := prog_1_method_25_code
abbrev yX7_stuck : MethodName := { cls := "PermitPark", name := "stuck", desc := "()I" }
abbrev cX7_stuck : ByteArray := prog_1_method_26_code
abbrev yX7_lent : MethodName := { cls := "PermitPark", name := "lent", desc := "(I)F" }
abbrev cX7_lent : ByteArray := prog_1_method_27_code
abbrev yX7_busy : MethodName := { cls := "PermitPark", name := "busy", desc := "()D" }
abbrev cX7_busy : ByteArray := prog_1_method_28_code
abbrev yX7_doneIn : MethodName := { cls := "PermitPark", name := "doneIn", desc := "(II)I" }
abbrev cX7_doneIn : ByteArray := prog_1_method_29_code
abbrev yX7_returnsIn : MethodName := { cls := "PermitPark", name := "returnsIn", desc := "(II)I" }
abbrev cX7_returnsIn : ByteArray := prog_1_method_30_code
abbrev yX7_ahead : MethodName := { cls := "PermitPark", name := "ahead", desc := "(II)I" }
abbrev cX7_ahead : ByteArray := prog_1_method_31_code
abbrev yX7_bestBase : MethodName := { cls := "PermitPark", name := "bestBase", desc := "(II)I" }
abbrev cX7_bestBase : ByteArray := prog_1_method_32_code
abbrev yX7_save : MethodName := { cls := "PermitPark", name := "save", desc := "(I)V" }
abbrev cX7_save : ByteArray := prog_1_method_33_code
abbrev yX7_restore : MethodName := { cls := "PermitPark", name := "restore", desc := "(I)V" }
abbrev cX7_restore : ByteArray := prog_1_method_34_code
abbrev yX7_needThread : MethodName := { cls := "PermitPark", name := "needThread", desc := "(I)V" }
abbrev cX7_needThread : ByteArray := prog_1_method_35_code
abbrev yX7_needIndex : MethodName := { cls := "PermitPark", name := "needIndex", desc := "(II)V" }
abbrev cX7_needIndex : ByteArray := prog_1_method_36_code
abbrev yX7_needNotNegative : MethodName := { cls := "PermitPark", name := "needNotNegative", desc := "(I)V" }
abbrev cX7_needNotNegative : ByteArray := prog_1_method_37_code
abbrev yX7_needInRange : MethodName := { cls := "PermitPark", name := "needInRange", desc := "(III)V" }
abbrev cX7_needInRange : ByteArray := prog_1_method_38_code
abbrev yX7_needInstruction : MethodName := { cls := "PermitPark", name := "needInstruction", desc := "(II)V" }
abbrev cX7_needInstruction : ByteArray := prog_1_method_39_code
abbrev yX7_settingMost : MethodName := { cls := "PermitPark", name := "settingMost", desc := "(I)I" }
abbrev cX7_settingMost : ByteArray := prog_1_method_40_code
abbrev yX8_init : MethodName := { cls := "PermitParkModel", name := "<init>", desc := "()V" }
abbrev cX8_init : ByteArray := prog_10_method_1_code
abbrev yX8_thrown : MethodName := { cls := "PermitParkModel", name := "thrown", desc := "()I" }
abbrev cX8_thrown : ByteArray := prog_10_method_2_code
abbrev yX8_fail : MethodName := { cls := "PermitParkModel", name := "fail", desc := "(I)I" }
abbrev cX8_fail : ByteArray := prog_10_method_3_code
abbrev yX8_isBetween : MethodName := { cls := "PermitParkModel", name := "isBetween", desc := "(III)Z" }
abbrev cX8_isBetween : ByteArray := prog_10_method_4_code
abbrev yX8_clear : MethodName := { cls := "PermitParkModel", name := "clear", desc := "()V" }
abbrev cX8_clear : ByteArray := prog_10_method_5_code
abbrev yX8_copy : MethodName := { cls := "PermitParkModel", name := "copy", desc := "([II[II)V" }
abbrev cX8_copy : ByteArray := prog_10_method_6_code
abbrev yX8_isThread : MethodName := { cls := "PermitParkModel", name := "isThread", desc := "(I)Z" }
abbrev cX8_isThread : ByteArray := prog_10_method_7_code
abbrev yX8_of : MethodName := { cls := "PermitParkModel", name := "of", desc := "(II)I" }
abbrev cX8_of : ByteArray := prog_10_method_8_code
abbrev yX8_put : MethodName := { cls := "PermitParkModel", name := "put", desc := "(III)V" }
abbrev cX8_put : ByteArray := prog_10_method_9_code
abbrev yX8_grow : MethodName := { cls := "PermitParkModel", name := "grow", desc := "(II)V" }
abbrev cX8_grow : ByteArray := prog_10_method_10_code
abbrev yX8_codePlace : MethodName := { cls := "PermitParkModel", name := "codePlace", desc := "(II)I" }
abbrev cX8_codePlace : ByteArray := prog_10_method_11_code
abbrev yX8_isInstruction : MethodName := { cls := "PermitParkModel", name := "isInstruction", desc := "(II)Z" }
abbrev cX8_isInstruction : ByteArray := prog_10_method_12_code
abbrev yX8_isOn : MethodName := { cls := "PermitParkModel", name := "isOn", desc := "(I)Z" }
abbrev cX8_isOn : ByteArray := prog_10_method_13_code
abbrev yX8_turnFlag : MethodName := { cls := "PermitParkModel", name := "turnFlag", desc := "(IZ)V" }
abbrev cX8_turnFlag : ByteArray := prog_10_method_14_code
abbrev yX8_appendText : MethodName := { cls := "PermitParkModel", name := "appendText", desc := "(I)I" }
abbrev cX8_appendText : ByteArray := prog_10_method_15_code
abbrev yX8_truncateText : MethodName := { cls := "PermitParkModel", name := "truncateText", desc := "(I)I" }
abbrev cX8_truncateText : ByteArray := prog_10_method_16_code
abbrev yX8_byteAt : MethodName := { cls := "PermitParkModel", name := "byteAt", desc := "(I)I" }
abbrev cX8_byteAt : ByteArray := prog_10_method_17_code
abbrev yX8_isLetter : MethodName := { cls := "PermitParkModel", name := "isLetter", desc := "(I)Z" }
abbrev cX8_isLetter : ByteArray := prog_10_method_18_code
abbrev yX8_isDigit : MethodName := { cls := "PermitParkModel", name := "isDigit", desc := "(I)Z" }
abbrev cX8_isDigit : ByteArray := prog_10_method_19_code
abbrev yX8_nextToken : MethodName := { cls := "PermitParkModel", name := "nextToken", desc := "()V" }
abbrev cX8_nextToken : ByteArray := prog_10_method_20_code
abbrev yX8_isWord : MethodName := { cls := "PermitParkModel", name := "isWord", desc := "(Ljava/lang/String;)Z" }
abbrev cX8_isWord : ByteArray := prog_10_method_21_code
abbrev yX8_isSymbol : MethodName := { cls := "PermitParkModel", name := "isSymbol", desc := "(I)Z" }
abbrev cX8_isSymbol : ByteArray := prog_10_method_22_code
abbrev yX8_require : MethodName := { cls := "PermitParkModel", name := "require", desc := "(ZI)V" }
abbrev cX8_require : ByteArray := prog_10_method_23_code
abbrev yX8_isFine : MethodName := { cls := "PermitParkModel", name := "isFine", desc := "()Z" }
abbrev cX8_isFine : ByteArray := prog_10_method_24_code
abbrev yX8_advance : MethodName := { cls := "PermitParkModel", name := "advance", desc := "()V" }
abbrev cX8_advance : ByteArray := prog_10_method_25_code
abbrev yX8_look : MethodName := { cls := "PermitParkModel", name := "look", desc := "(II)V" }
abbrev cX8_look : ByteArray := prog_10_method_26_code
abbrev yX8_parseNumber : MethodName := { cls := "PermitParkModel", name := "parseNumber", desc := "(II)I" }
abbrev cX8_parseNumber : ByteArray := prog_10_method_27_code
abbrev yX8_parseSymbol : MethodName := { cls := "PermitParkModel", name := "parseSymbol", desc := "(I)V" }
abbrev cX8_parseSymbol : ByteArray := prog_10_method_28_code
abbrev yX8_codeHere : MethodName := { cls := "PermitParkModel", name := "codeHere", desc := "()I" }
abbrev cX8_codeHere : ByteArray := prog_10_method_29_code
abbrev yX8_laterCodeHere : MethodName := { cls := "PermitParkModel", name := "laterCodeHere", desc := "()I" }
abbrev cX8_laterCodeHere : ByteArray := prog_10_method_30_code
abbrev yX8_parseInstruction : MethodName := { cls := "PermitParkModel", name := "parseInstruction", desc := "(I)V" }
abbrev cX8_parseInstruction : ByteArray := prog_10_method_31_code
abbrev yX8_parseThread : MethodName := { cls := "PermitParkModel", name := "parseThread", desc := "()V" }
abbrev cX8_parseThread : ByteArray := prog_10_method_32_code
abbrev yX8_parseFlag : MethodName := { cls := "PermitParkModel", name := "parseFlag", desc := "()V" }
abbrev cX8_parseFlag : ByteArray := prog_10_method_33_code
abbrev yX8_parseSet : MethodName := { cls := "PermitParkModel", name := "parseSet", desc := "()V" }
abbrev cX8_parseSet : ByteArray := prog_10_method_34_code
abbrev yX8_parseSeed : MethodName := { cls := "PermitParkModel", name := "parseSeed", desc := "()V" }
abbrev cX8_parseSeed : ByteArray := prog_10_method_35_code
abbrev yX8_parseStatement : MethodName := { cls := "PermitParkModel", name := "parseStatement", desc := "()V" }
abbrev cX8_parseStatement : ByteArray := prog_10_method_36_code
abbrev yX8_load : MethodName := { cls := "PermitParkModel", name := "load", desc := "()I" }
abbrev cX8_load : ByteArray := prog_10_method_37_code
abbrev yX8_errorCode : MethodName := { cls := "PermitParkModel", name := "errorCode", desc := "()I" }
abbrev cX8_errorCode : ByteArray := prog_10_method_38_code
abbrev yX8_errorPosition : MethodName := { cls := "PermitParkModel", name := "errorPosition", desc := "()I" }
abbrev cX8_errorPosition : ByteArray := prog_10_method_39_code
abbrev yX8_appendThread : MethodName := { cls := "PermitParkModel", name := "appendThread", desc := "(I)I" }
abbrev cX8_appendThread : ByteArray := prog_10_method_40_code
abbrev yX8_appendInstruction : MethodName := { cls := "PermitParkModel", name := "appendInstruction", desc := "(III)V" }
abbrev cX8_appendInstruction : ByteArray := prog_10_method_41_code
abbrev yX8_addThread : MethodName := { cls := "PermitParkModel", name := "addThread", desc := "(III)I" }
abbrev cX8_addThread : ByteArray := prog_10_method_42_code
abbrev yX8_addInstruction : MethodName := { cls := "PermitParkModel", name := "addInstruction", desc := "(III)I" }
abbrev cX8_addInstruction : ByteArray := prog_10_method_43_code
abbrev yX8_setBase : MethodName := { cls := "PermitParkModel", name := "setBase", desc := "(II)I" }
abbrev cX8_setBase : ByteArray := prog_10_method_44_code
abbrev yX8_set : MethodName := { cls := "PermitParkModel", name := "set", desc := "(II)I" }
abbrev cX8_set : ByteArray := prog_10_method_45_code
abbrev yX8_seed : MethodName := { cls := "PermitParkModel", name := "seed", desc := "(I)V" }
abbrev cX8_seed : ByteArray := prog_10_method_46_code
abbrev yX8_setFlag : MethodName := { cls := "PermitParkModel", name := "setFlag", desc := "(IZ)Z" }
abbrev cX8_setFlag : ByteArray := prog_10_method_47_code
abbrev yX8_inState : MethodName := { cls := "PermitParkModel", name := "inState", desc := "(I)I" }
abbrev cX8_inState : ByteArray := prog_10_method_48_code
abbrev yX8_locksOf : MethodName := { cls := "PermitParkModel", name := "locksOf", desc := "(I)I" }
abbrev cX8_locksOf : ByteArray := prog_10_method_49_code
abbrev yX8_heldLocks : MethodName := { cls := "PermitParkModel", name := "heldLocks", desc := "()I" }
abbrev cX8_heldLocks : ByteArray := prog_10_method_50_code
abbrev yX8_count : MethodName := { cls := "PermitParkModel", name := "count", desc := "(I)I" }
abbrev cX8_count : ByteArray := prog_10_method_51_code
abbrev yX8_priorityOf : MethodName := { cls := "PermitParkModel", name := "priorityOf", desc := "(I)I" }
abbrev cX8_priorityOf : ByteArray := prog_10_method_52_code
abbrev yX8_thread : MethodName := { cls := "PermitParkModel", name := "thread", desc := "(II)I" }
abbrev cX8_thread : ByteArray := prog_10_method_53_code
abbrev yX8_instruction : MethodName := { cls := "PermitParkModel", name := "instruction", desc := "(III)I" }
abbrev cX8_instruction : ByteArray := prog_10_method_54_code
abbrev yX8_waiter : MethodName := { cls := "PermitParkModel", name := "waiter", desc := "(II)I" }
abbrev cX8_waiter : ByteArray := prog_10_method_55_code
abbrev yX8_lock : MethodName := { cls := "PermitParkModel", name := "lock", desc := "(II)I" }
abbrev cX8_lock : ByteArray := prog_10_method_56_code
abbrev yX8_flag : MethodName := { cls := "PermitParkModel", name := "flag", desc := "(I)Z" }
abbrev cX8_flag : ByteArray := prog_10_method_57_code
abbrev yX8_note : MethodName := { cls := "PermitParkModel", name := "note", desc := "(III)V" }
abbrev cX8_note : ByteArray := prog_10_method_58_code
abbrev yX8_event : MethodName := { cls := "PermitParkModel", name := "event", desc := "(II)I" }
abbrev cX8_event : ByteArray := prog_10_method_59_code
abbrev yX8_events : MethodName := { cls := "PermitParkModel", name := "events", desc := "(II)I" }
abbrev cX8_events : ByteArray := prog_10_method_60_code
abbrev yX8_comeBack : MethodName := { cls := "PermitParkModel", name := "comeBack", desc := "(II)V" }
abbrev cX8_comeBack : ByteArray := prog_10_method_61_code
abbrev yX8_park : MethodName := { cls := "PermitParkModel", name := "park", desc := "(II)V" }
abbrev cX8_park : ByteArray := prog_10_method_62_code
abbrev yX8_wakeUp : MethodName := { cls := "PermitParkModel", name := "wakeUp", desc := "(II)I" }
abbrev cX8_wakeUp : ByteArray := prog_10_method_63_code
abbrev yX8_wake : MethodName := { cls := "PermitParkModel", name := "wake", desc := "(I)I" }
abbrev cX8_wake : ByteArray := prog_10_method_64_code
abbrev yX8_interrupt : MethodName := { cls := "PermitParkModel", name := "interrupt", desc := "(I)I" }
abbrev cX8_interrupt : ByteArray := prog_10_method_65_code
abbrev yX8_rouse : MethodName := { cls := "PermitParkModel", name := "rouse", desc := "(I)Z" }
abbrev cX8_rouse : ByteArray := prog_10_method_66_code
abbrev yX8_goOn : MethodName := { cls := "PermitParkModel", name := "goOn", desc := "(I)V" }
abbrev cX8_goOn : ByteArray := prog_10_method_67_code
abbrev yX8_endIfBehind : MethodName := { cls := "PermitParkModel", name := "endIfBehind", desc := "(I)V" }
abbrev cX8_endIfBehind : ByteArray := prog_10_method_68_code
abbrev yX8_successor : MethodName := { cls := "PermitParkModel", name := "successor", desc := "(I)I" }
abbrev cX8_successor : ByteArray := prog_10_method_69_code
abbrev yX8_giveUp : MethodName := { cls := "PermitParkModel", name := "giveUp", desc := "(II)V" }
abbrev cX8_giveUp : ByteArray := prog_10_method_70_code
abbrev yX8_lowestLock : MethodName := { cls := "PermitParkModel", name := "lowestLock", desc := "(I)I" }
abbrev cX8_lowestLock : ByteArray := prog_10_method_71_code
abbrev yX8_settle : MethodName := { cls := "PermitParkModel", name := "settle", desc := "()V" }
abbrev cX8_settle : ByteArray := prog_10_method_72_code
abbrev yX8_finish : MethodName := { cls := "PermitParkModel", name := "finish", desc := "(I)V" }
abbrev cX8_finish : ByteArray := prog_10_method_73_code
abbrev yX8_fault : MethodName := { cls := "PermitParkModel", name := "fault", desc := "(I)V" }
abbrev cX8_fault : ByteArray := prog_10_method_74_code
abbrev yX8_doRun : MethodName := { cls := "PermitParkModel", name := "doRun", desc := "(II)V" }
abbrev cX8_doRun : ByteArray := prog_10_method_75_code
abbrev yX8_doAwait : MethodName := { cls := "PermitParkModel", name := "doAwait", desc := "(II)V" }
abbrev cX8_doAwait : ByteArray := prog_10_method_76_code
abbrev yX8_doTell : MethodName := { cls := "PermitParkModel", name := "doTell", desc := "(II)V" }
abbrev cX8_doTell : ByteArray := prog_10_method_77_code
abbrev yX8_doSteal : MethodName := { cls := "PermitParkModel", name := "doSteal", desc := "(II)V" }
abbrev cX8_doSteal : ByteArray := prog_10_method_78_code
abbrev yX8_doLock : MethodName := { cls := "PermitParkModel", name := "doLock", desc := "(II)V" }
abbrev cX8_doLock : ByteArray := prog_10_method_79_code
abbrev yX8_doUnlock : MethodName := { cls := "PermitParkModel", name := "doUnlock", desc := "(II)V" }
abbrev cX8_doUnlock : ByteArray := prog_10_method_80_code
abbrev yX8_perform : MethodName := { cls := "PermitParkModel", name := "perform", desc := "(I)V" }
abbrev cX8_perform : ByteArray := prog_10_method_81_code
abbrev yX8_doWake : MethodName := { cls := "PermitParkModel", name := "doWake", desc := "(II)V" }
abbrev cX8_doWake : ByteArray := prog_10_method_82_code
abbrev yX8_goBehind : MethodName := { cls := "PermitParkModel", name := "goBehind", desc := "(I)V" }
abbrev cX8_goBehind : ByteArray := prog_10_method_83_code
abbrev yX8_draw : MethodName := { cls := "PermitParkModel", name := "draw", desc := "(I)I" }
abbrev cX8_draw : ByteArray := prog_10_method_84_code
abbrev yX8_nextDue : MethodName := { cls := "PermitParkModel", name := "nextDue", desc := "()I" }
abbrev cX8_nextDue : ByteArray := prog_10_method_85_code
abbrev yX8_wakeByTime : MethodName := { cls := "PermitParkModel", name := "wakeByTime", desc := "()V" }
abbrev cX8_wakeByTime : ByteArray := prog_10_method_86_code
abbrev yX8_chosen : MethodName := { cls := "PermitParkModel", name := "chosen", desc := "()I" }
abbrev cX8_chosen : ByteArray := prog_10_method_87_code
abbrev yX8_passTick : MethodName := { cls := "PermitParkModel", name := "passTick", desc := "()V" }
abbrev cX8_passTick : ByteArray := prog_10_method_88_code
abbrev yX8_passTicks : MethodName := { cls := "PermitParkModel", name := "passTicks", desc := "(I)V" }
abbrev cX8_passTicks : ByteArray := prog_10_method_89_code
abbrev yX8_run : MethodName := { cls := "PermitParkModel", name := "run", desc := "(I)I" }
abbrev cX8_run : ByteArray := prog_10_method_90_code
abbrev yX8_next : MethodName := { cls := "PermitParkModel", name := "next", desc := "()I" }
abbrev cX8_next : ByteArray := prog_10_method_91_code
abbrev yX8_holderFor : MethodName := { cls := "PermitParkModel", name := "holderFor", desc := "(I)I" }
abbrev cX8_holderFor : ByteArray := prog_10_method_92_code
abbrev yX8_chain : MethodName := { cls := "PermitParkModel", name := "chain", desc := "(II)I" }
abbrev cX8_chain : ByteArray := prog_10_method_93_code
abbrev yX8_stuck : MethodName := { cls := "PermitParkModel", name := "stuck", desc := "()I" }
abbrev cX8_stuck : ByteArray := prog_10_method_94_code
abbrev yX8_lent : MethodName := { cls := "PermitParkModel", name := "lent", desc := "(I)F" }
abbrev cX8_lent : ByteArray := prog_10_method_95_code
abbrev yX8_busy : MethodName := { cls := "PermitParkModel", name := "busy", desc := "()D" }
abbrev cX8_busy : ByteArray := prog_10_method_96_code
abbrev yX8_ticksToDone : MethodName := { cls := "PermitParkModel", name := "ticksToDone", desc := "(II)I" }
abbrev cX8_ticksToDone : ByteArray := prog_10_method_97_code
abbrev yX8_doneIn : MethodName := { cls := "PermitParkModel", name := "doneIn", desc := "(II)I" }
abbrev cX8_doneIn : ByteArray := prog_10_method_98_code
abbrev yX8_returnsOf : MethodName := { cls := "PermitParkModel", name := "returnsOf", desc := "(I)I" }
abbrev cX8_returnsOf : ByteArray := prog_10_method_99_code
abbrev yX8_allReturns : MethodName := { cls := "PermitParkModel", name := "allReturns", desc := "()I" }
abbrev cX8_allReturns : ByteArray := prog_10_method_100_code
abbrev yX8_returnsIn : MethodName := { cls := "PermitParkModel", name := "returnsIn", desc := "(II)I" }
abbrev cX8_returnsIn : ByteArray := prog_10_method_101_code
abbrev yX8_ahead : MethodName := { cls := "PermitParkModel", name := "ahead", desc := "(II)I" }
abbrev cX8_ahead : ByteArray := prog_10_method_102_code
abbrev yX8_bestBase : MethodName := { cls := "PermitParkModel", name := "bestBase", desc := "(II)I" }
abbrev cX8_bestBase : ByteArray := prog_10_method_103_code
abbrev yX8_save : MethodName := { cls := "PermitParkModel", name := "save", desc := "(I)V" }
abbrev cX8_save : ByteArray := prog_10_method_104_code
abbrev yX8_restore : MethodName := { cls := "PermitParkModel", name := "restore", desc := "(I)V" }
abbrev cX8_restore : ByteArray := prog_10_method_105_code
abbrev yJx29ce0_ordinal_8abf5 : MethodName := { cls := "java/lang/Enum", name := "ordinal", desc := "()I" }
abbrev cJx29ce0_ordinal_8abf5 : ByteArray := prog_11_method_2_code
abbrev yJ9_max_7cf53 : MethodName := { cls := "java/lang/Math", name := "max", desc := "(II)I" }
abbrev cJ9_max_7cf53 : ByteArray := prog_16_method_65_code
abbrev yJ0_length_8abf5 : MethodName := { cls := "java/lang/String", name := "length", desc := "()I" }
abbrev cJ0_length_8abf5 : ByteArray := prog_18_method_54_code
abbrev yJ0_charAt_5068e : MethodName := { cls := "java/lang/String", name := "charAt", desc := "(I)C" }
abbrev cJ0_charAt_5068e : ByteArray := prog_18_method_56_code
abbrev yJ0_coder_7d493 : MethodName := { cls := "java/lang/String", name := "coder", desc := "()B" }
abbrev cJ0_coder_7d493 : ByteArray := prog_18_method_152_code
abbrev yJ0_isLatin1_aae02 : MethodName := { cls := "java/lang/String", name := "isLatin1", desc := "()Z" }
abbrev cJ0_isLatin1_aae02 : ByteArray := prog_18_method_154_code
abbrev yJ0_checkIndex_df160 : MethodName := { cls := "java/lang/String", name := "checkIndex", desc := "(II)V" }
abbrev cJ0_checkIndex_df160 : ByteArray := prog_18_method_155_code
abbrev yJ1_charAt_3b067 : MethodName := { cls := "java/lang/StringLatin1", name := "charAt", desc := "([BI)C" }
abbrev cJ1_charAt_3b067 : ByteArray := prog_19_method_2_code
abbrev yJ3_checkIndex_8e157 : MethodName := { cls := "jdk/internal/util/Preconditions", name := "checkIndex", desc := "(IILjava/util/function/BiFunction;)I" }
abbrev cJ3_checkIndex_8e157 : ByteArray := prog_23_method_11_code
abbrev yL_appendText : MethodName := { cls := "PermitParkLaw", name := "appendText", desc := "(LPermitPark;I[J)I" }
abbrev cL_appendText : ByteArray := method_3_code
abbrev yL_truncateText : MethodName := { cls := "PermitParkLaw", name := "truncateText", desc := "(LPermitPark;I[J)I" }
abbrev cL_truncateText : ByteArray := method_4_code
abbrev yL_addThread : MethodName := { cls := "PermitParkLaw", name := "addThread", desc := "(LPermitPark;III[J)I" }
abbrev cL_addThread : ByteArray := method_5_code
abbrev yL_addInstruction : MethodName := { cls := "PermitParkLaw", name := "addInstruction", desc := "(LPermitPark;III[J)I" }
abbrev cL_addInstruction : ByteArray := method_6_code
abbrev yL_setBase : MethodName := { cls := "PermitParkLaw", name := "setBase", desc := "(LPermitPark;II[J)I" }
abbrev cL_setBase : ByteArray := method_7_code
abbrev yL_set : MethodName := { cls := "PermitParkLaw", name := "set", desc := "(LPermitPark;II[J)I" }
abbrev cL_set : ByteArray := method_8_code
abbrev yL_seed : MethodName := { cls := "PermitParkLaw", name := "seed", desc := "(LPermitPark;I)I" }
abbrev cL_seed : ByteArray := method_9_code
abbrev yL_setFlag : MethodName := { cls := "PermitParkLaw", name := "setFlag", desc := "(LPermitPark;IZ[J)I" }
abbrev cL_setFlag : ByteArray := method_10_code
abbrev yL_count : MethodName := { cls := "PermitParkLaw", name := "count", desc := "(LPermitPark;I[J)I" }
abbrev cL_count : ByteArray := method_11_code
abbrev yL_thread : MethodName := { cls := "PermitParkLaw", name := "thread", desc := "(LPermitPark;II[J)I" }
abbrev cL_thread : ByteArray := method_12_code
abbrev yL_instruction : MethodName := { cls := "PermitParkLaw", name := "instruction", desc := "(LPermitPark;III[J)I" }
abbrev cL_instruction : ByteArray := method_13_code
abbrev yL_lock : MethodName := { cls := "PermitParkLaw", name := "lock", desc := "(LPermitPark;II[J)I" }
abbrev cL_lock : ByteArray := method_14_code
abbrev yL_flag : MethodName := { cls := "PermitParkLaw", name := "flag", desc := "(LPermitPark;I[J)I" }
abbrev cL_flag : ByteArray := method_15_code
abbrev yL_event : MethodName := { cls := "PermitParkLaw", name := "event", desc := "(LPermitPark;II[J)I" }
abbrev cL_event : ByteArray := method_16_code
abbrev yL_events : MethodName := { cls := "PermitParkLaw", name := "events", desc := "(LPermitPark;II[J)I" }
abbrev cL_events : ByteArray := method_17_code
abbrev yL_wake : MethodName := { cls := "PermitParkLaw", name := "wake", desc := "(LPermitPark;I[J)I" }
abbrev cL_wake : ByteArray := method_18_code
abbrev yL_interrupt : MethodName := { cls := "PermitParkLaw", name := "interrupt", desc := "(LPermitPark;I[J)I" }
abbrev cL_interrupt : ByteArray := method_19_code
abbrev yL_rouse : MethodName := { cls := "PermitParkLaw", name := "rouse", desc := "(LPermitPark;I[J)I" }
abbrev cL_rouse : ByteArray := method_20_code
abbrev yL_run : MethodName := { cls := "PermitParkLaw", name := "run", desc := "(LPermitPark;I[J)I" }
abbrev cL_run : ByteArray := method_21_code
abbrev yL_chain : MethodName := { cls := "PermitParkLaw", name := "chain", desc := "(LPermitPark;II[J)I" }
abbrev cL_chain : ByteArray := method_22_code
abbrev yL_lent : MethodName := { cls := "PermitParkLaw", name := "lent", desc := "(LPermitPark;I[D)I" }
abbrev cL_lent : ByteArray := method_23_code
abbrev yL_doneIn : MethodName := { cls := "PermitParkLaw", name := "doneIn", desc := "(LPermitPark;II[J)I" }
abbrev cL_doneIn : ByteArray := method_24_code
abbrev yL_returnsIn : MethodName := { cls := "PermitParkLaw", name := "returnsIn", desc := "(LPermitPark;II[J)I" }
abbrev cL_returnsIn : ByteArray := method_25_code
abbrev yL_ahead : MethodName := { cls := "PermitParkLaw", name := "ahead", desc := "(LPermitPark;II[J)I" }
abbrev cL_ahead : ByteArray := method_26_code
abbrev yL_bestBase : MethodName := { cls := "PermitParkLaw", name := "bestBase", desc := "(LPermitPark;II[J)I" }
abbrev cL_bestBase : ByteArray := method_27_code
abbrev yL_save : MethodName := { cls := "PermitParkLaw", name := "save", desc := "(LPermitPark;I)I" }
abbrev cL_save : ByteArray := method_28_code
abbrev yL_restore : MethodName := { cls := "PermitParkLaw", name := "restore", desc := "(LPermitPark;I)I" }
abbrev cL_restore : ByteArray := method_29_code
abbrev yL_law : MethodName := { cls := "PermitParkLaw", name := "law", desc := "([I)Z" }
abbrev cL_law : ByteArray := code
theorem kb_6 : (Int8.ofInt 6).toInt32 = (6 : Int32) := by decide
theorem kb_7 : (Int8.ofInt 7).toInt32 = (7 : Int32) := by decide
theorem kb_8 : (Int8.ofInt 8).toInt32 = (8 : Int32) := by decide
theorem kb_9 : (Int8.ofInt 9).toInt32 = (9 : Int32) := by decide
theorem kb_10 : (Int8.ofInt 10).toInt32 = (10 : Int32) := by decide
theorem kb_11 : (Int8.ofInt 11).toInt32 = (11 : Int32) := by decide
theorem kb_12 : (Int8.ofInt 12).toInt32 = (12 : Int32) := by decide
theorem kb_13 : (Int8.ofInt 13).toInt32 = (13 : Int32) := by decide
theorem kb_14 : (Int8.ofInt 14).toInt32 = (14 : Int32) := by decide
theorem kb_16 : (Int8.ofInt 16).toInt32 = (16 : Int32) := by decide
theorem kb_17 : (Int8.ofInt 17).toInt32 = (17 : Int32) := by decide
theorem kb_18 : (Int8.ofInt 18).toInt32 = (18 : Int32) := by decide
theorem kb_20 : (Int8.ofInt 20).toInt32 = (20 : Int32) := by decide
theorem kb_24 : (Int8.ofInt 24).toInt32 = (24 : Int32) := by decide
theorem kb_32 : (Int8.ofInt 32).toInt32 = (32 : Int32) := by decide
theorem kb_40 : (Int8.ofInt 40).toInt32 = (40 : Int32) := by decide
theorem kb_44 : (Int8.ofInt 44).toInt32 = (44 : Int32) := by decide
theorem kb_48 : (Int8.ofInt 48).toInt32 = (48 : Int32) := by decide
theorem kb_57 : (Int8.ofInt 57).toInt32 = (57 : Int32) := by decide
theorem kb_58 : (Int8.ofInt 58).toInt32 = (58 : Int32) := by decide
theorem kb_59 : (Int8.ofInt 59).toInt32 = (59 : Int32) := by decide
theorem kb_60 : (Int8.ofInt 60).toInt32 = (60 : Int32) := by decide
theorem kb_63 : (Int8.ofInt 63).toInt32 = (63 : Int32) := by decide
theorem kb_97 : (Int8.ofInt 97).toInt32 = (97 : Int32) := by decide
theorem kb_122 : (Int8.ofInt 122).toInt32 = (122 : Int32) := by decide
theorem kc_m1 : Int32.ofInt (-1) = (-1 : Int32) := by decide
theorem kc_0 : Int32.ofInt 0 = (0 : Int32) := by decide
theorem kc_1 : Int32.ofInt 1 = (1 : Int32) := by decide
theorem kc_2 : Int32.ofInt 2 = (2 : Int32) := by decide
theorem kc_3 : Int32.ofInt 3 = (3 : Int32) := by decide
theorem kc_4 : Int32.ofInt 4 = (4 : Int32) := by decide
theorem kc_5 : Int32.ofInt 5 = (5 : Int32) := by decide
theorem ki_m8 (x : Int32) : x + Int32.ofInt (-8) = (x + (-8 : Int32)) := congrArg (x + ·) (by decide)
theorem ki_1 (x : Int32) : x + Int32.ofInt 1 = (x + (1 : Int32)) := congrArg (x + ·) (by decide)
theorem ki_4 (x : Int32) : x + Int32.ofInt 4 = (x + (4 : Int32)) := congrArg (x + ·) (by decide)
theorem ks_156 : (Int16.ofInt 156).toInt32 = (156 : Int32) := by decide
theorem ks_160 : (Int16.ofInt 160).toInt32 = (160 : Int32) := by decide
theorem ks_200 : (Int16.ofInt 200).toInt32 = (200 : Int32) := by decide
theorem ks_220 : (Int16.ofInt 220).toInt32 = (220 : Int32) := by decide
theorem ks_255 : (Int16.ofInt 255).toInt32 = (255 : Int32) := by decide
theorem ks_500 : (Int16.ofInt 500).toInt32 = (500 : Int32) := by decide
theorem ks_540 : (Int16.ofInt 540).toInt32 = (540 : Int32) := by decide
theorem ks_700 : (Int16.ofInt 700).toInt32 = (700 : Int32) := by decide
theorem ks_800 : (Int16.ofInt 800).toInt32 = (800 : Int32) := by decide
theorem ks_1000 : (Int16.ofInt 1000).toInt32 = (1000 : Int32) := by decide
theorem ks_1103 : (Int16.ofInt 1103).toInt32 = (1103 : Int32) := by decide
theorem ks_1400 : (Int16.ofInt 1400).toInt32 = (1400 : Int32) := by decide
theorem ks_12345 : (Int16.ofInt 12345).toInt32 = (12345 : Int32) := by decide
theorem FX1_holders : FF 9 0 "holders" "[I" 0 3 "PermitPark$Locks" TX1 true := ⟨rfl, rfl, by decide, rfl, wIn_1⟩
theorem FX1_waiters : FF 9 1 "waiters" "[I" 0 3 "PermitPark$Locks" TX1 true := ⟨rfl, rfl, by decide, rfl, wIn_1⟩
theorem FX1_waiting : FF 9 2 "waiting" "[I" 0 3 "PermitPark$Locks" TX1 true := ⟨rfl, rfl, by decide, rfl, wIn_1⟩
theorem FX2_cells : FF 13 0 "cells" "[I" 1 4 "PermitPark$Log" TX2 true := ⟨rfl, rfl, by decide, rfl, wIn_2⟩
theorem FX2_nextRow : FF 13 1 "nextRow" "I" 1 4 "PermitPark$Log" TX2 false := ⟨rfl, rfl, by decide, rfl, wIn_2⟩
theorem FX2_kept : FF 13 2 "kept" "I" 1 4 "PermitPark$Log" TX2 false := ⟨rfl, rfl, by decide, rfl, wIn_2⟩
theorem FX2_total : FF 13 3 "total" "I" 1 4 "PermitPark$Log" TX2 false := ⟨rfl, rfl, by decide, rfl, wIn_2⟩
theorem FX3_threads : FF 3 0 "threads" "[LPermitPark$Strand;" 2 16 "PermitPark$Machine" TX3 true := ⟨rfl, rfl, by decide, rfl, wIn_3⟩
theorem FX3_locks : FF 3 1 "locks" "LPermitPark$Locks;" 2 16 "PermitPark$Machine" TX3 true := ⟨rfl, rfl, by decide, rfl, wIn_3⟩
theorem FX3_log : FF 3 2 "log" "LPermitPark$Log;" 2 16 "PermitPark$Machine" TX3 true := ⟨rfl, rfl, by decide, rfl, wIn_3⟩
theorem FX3_settings : FF 3 3 "settings" "[I" 2 16 "PermitPark$Machine" TX3 true := ⟨rfl, rfl, by decide, rfl, wIn_3⟩
theorem FX3_threadCount : FF 3 4 "threadCount" "I" 2 16 "PermitPark$Machine" TX3 false := ⟨rfl, rfl, by decide, rfl, wIn_3⟩
theorem FX3_time : FF 3 5 "time" "I" 2 16 "PermitPark$Machine" TX3 false := ⟨rfl, rfl, by decide, rfl, wIn_3⟩
theorem FX3_x : FF 3 6 "x" "I" 2 16 "PermitPark$Machine" TX3 false := ⟨rfl, rfl, by decide, rfl, wIn_3⟩
theorem FX3_idleTicks : FF 3 7 "idleTicks" "I" 2 16 "PermitPark$Machine" TX3 false := ⟨rfl, rfl, by decide, rfl, wIn_3⟩
theorem FX3_flags : FF 3 8 "flags" "I" 2 16 "PermitPark$Machine" TX3 false := ⟨rfl, rfl, by decide, rfl, wIn_3⟩
theorem FX3_merged : FF 3 9 "merged" "I" 2 16 "PermitPark$Machine" TX3 false := ⟨rfl, rfl, by decide, rfl, wIn_3⟩
theorem FX3_wasted : FF 3 10 "wasted" "I" 2 16 "PermitPark$Machine" TX3 false := ⟨rfl, rfl, by decide, rfl, wIn_3⟩
theorem FX3_stolen : FF 3 11 "stolen" "I" 2 16 "PermitPark$Machine" TX3 false := ⟨rfl, rfl, by decide, rfl, wIn_3⟩
theorem FX3_toldOn : FF 3 12 "toldOn" "I" 2 16 "PermitPark$Machine" TX3 false := ⟨rfl, rfl, by decide, rfl, wIn_3⟩
theorem FX3_arePrioritiesOld : FF 3 13 "arePrioritiesOld" "Z" 2 16 "PermitPark$Machine" TX3 false := ⟨rfl, rfl, by decide, rfl, wIn_3⟩
theorem FX3_ending : FF 3 14 "ending" "[I" 2 16 "PermitPark$Machine" TX3 true := ⟨rfl, rfl, by decide, rfl, wIn_3⟩
theorem FX3_endingCount : FF 3 15 "endingCount" "I" 2 16 "PermitPark$Machine" TX3 false := ⟨rfl, rfl, by decide, rfl, wIn_3⟩
theorem FX5_bytes : FF 1 0 "bytes" "[B" 3 8 "PermitPark$SetupText" TX5 true := ⟨rfl, rfl, by decide, rfl, wIn_5⟩
theorem FX5_length : FF 1 1 "length" "I" 3 8 "PermitPark$SetupText" TX5 false := ⟨rfl, rfl, by decide, rfl, wIn_5⟩
theorem FX5_errorCode : FF 1 2 "errorCode" "I" 3 8 "PermitPark$SetupText" TX5 false := ⟨rfl, rfl, by decide, rfl, wIn_5⟩
theorem FX5_errorPosition : FF 1 3 "errorPosition" "I" 3 8 "PermitPark$SetupText" TX5 false := ⟨rfl, rfl, by decide, rfl, wIn_5⟩
theorem FX5_kind : FF 1 4 "kind" "I" 3 8 "PermitPark$SetupText" TX5 false := ⟨rfl, rfl, by decide, rfl, wIn_5⟩
theorem FX5_value : FF 1 5 "value" "I" 3 8 "PermitPark$SetupText" TX5 false := ⟨rfl, rfl, by decide, rfl, wIn_5⟩
theorem FX5_first : FF 1 6 "first" "I" 3 8 "PermitPark$SetupText" TX5 false := ⟨rfl, rfl, by decide, rfl, wIn_5⟩
theorem FX5_behind : FF 1 7 "behind" "I" 3 8 "PermitPark$SetupText" TX5 false := ⟨rfl, rfl, by decide, rfl, wIn_5⟩
theorem FX6_codes : FF 5 0 "codes" "[I" 4 18 "PermitPark$Strand" TX6 true := ⟨rfl, rfl, by decide, rfl, wIn_6⟩
theorem FX6_numbers : FF 5 1 "numbers" "[I" 4 18 "PermitPark$Strand" TX6 true := ⟨rfl, rfl, by decide, rfl, wIn_6⟩
theorem FX6_returns : FF 5 2 "returns" "[I" 4 18 "PermitPark$Strand" TX6 true := ⟨rfl, rfl, by decide, rfl, wIn_6⟩
theorem FX6_length : FF 5 3 "length" "I" 4 18 "PermitPark$Strand" TX6 false := ⟨rfl, rfl, by decide, rfl, wIn_6⟩
theorem FX6_base : FF 5 4 "base" "I" 4 18 "PermitPark$Strand" TX6 false := ⟨rfl, rfl, by decide, rfl, wIn_6⟩
theorem FX6_priority : FF 5 5 "priority" "I" 4 18 "PermitPark$Strand" TX6 false := ⟨rfl, rfl, by decide, rfl, wIn_6⟩
theorem FX6_greatest : FF 5 6 "greatest" "I" 4 18 "PermitPark$Strand" TX6 false := ⟨rfl, rfl, by decide, rfl, wIn_6⟩
theorem FX6_state : FF 5 7 "state" "I" 4 18 "PermitPark$Strand" TX6 false := ⟨rfl, rfl, by decide, rfl, wIn_6⟩
theorem FX6_place : FF 5 8 "place" "I" 4 18 "PermitPark$Strand" TX6 false := ⟨rfl, rfl, by decide, rfl, wIn_6⟩
theorem FX6_worked : FF 5 9 "worked" "I" 4 18 "PermitPark$Strand" TX6 false := ⟨rfl, rfl, by decide, rfl, wIn_6⟩
theorem FX6_hasPermit : FF 5 10 "hasPermit" "Z" 4 18 "PermitPark$Strand" TX6 false := ⟨rfl, rfl, by decide, rfl, wIn_6⟩
theorem FX6_hasInterrupt : FF 5 11 "hasInterrupt" "Z" 4 18 "PermitPark$Strand" TX6 false := ⟨rfl, rfl, by decide, rfl, wIn_6⟩
theorem FX6_cause : FF 5 12 "cause" "I" 4 18 "PermitPark$Strand" TX6 false := ⟨rfl, rfl, by decide, rfl, wIn_6⟩
theorem FX6_deadline : FF 5 13 "deadline" "I" 4 18 "PermitPark$Strand" TX6 false := ⟨rfl, rfl, by decide, rfl, wIn_6⟩
theorem FX6_blockedAt : FF 5 14 "blockedAt" "I" 4 18 "PermitPark$Strand" TX6 false := ⟨rfl, rfl, by decide, rfl, wIn_6⟩
theorem FX6_ticksRun : FF 5 15 "ticksRun" "I" 4 18 "PermitPark$Strand" TX6 false := ⟨rfl, rfl, by decide, rfl, wIn_6⟩
theorem FX6_lastRun : FF 5 16 "lastRun" "I" 4 18 "PermitPark$Strand" TX6 false := ⟨rfl, rfl, by decide, rfl, wIn_6⟩
theorem FX6_parks : FF 5 17 "parks" "I" 4 18 "PermitPark$Strand" TX6 false := ⟨rfl, rfl, by decide, rfl, wIn_6⟩
theorem FX7_text : FF 0 0 "text" "LPermitPark$SetupText;" 5 5 "PermitPark" TX7 true := ⟨rfl, rfl, by decide, rfl, wIn_7⟩
theorem FX7_live : FF 0 1 "live" "LPermitPark$Machine;" 5 5 "PermitPark" TX7 true := ⟨rfl, rfl, by decide, rfl, wIn_7⟩
theorem FX7_trial : FF 0 2 "trial" "LPermitPark$Machine;" 5 5 "PermitPark" TX7 true := ⟨rfl, rfl, by decide, rfl, wIn_7⟩
theorem FX7_saved : FF 0 3 "saved" "[LPermitPark$Machine;" 5 5 "PermitPark" TX7 true := ⟨rfl, rfl, by decide, rfl, wIn_7⟩
theorem FX7_isSaved : FF 0 4 "isSaved" "[Z" 5 5 "PermitPark" TX7 true := ⟨rfl, rfl, by decide, rfl, wIn_7⟩
theorem FX8_state : FF 19 0 "state" "[I" 6 21 "PermitParkModel" TX8 true := ⟨rfl, rfl, by decide, rfl, wIn_8⟩
theorem FX8_backup : FF 19 1 "backup" "[I" 6 21 "PermitParkModel" TX8 true := ⟨rfl, rfl, by decide, rfl, wIn_8⟩
theorem FX8_aside : FF 19 2 "aside" "[I" 6 21 "PermitParkModel" TX8 true := ⟨rfl, rfl, by decide, rfl, wIn_8⟩
theorem FX8_saved : FF 19 3 "saved" "[I" 6 21 "PermitParkModel" TX8 true := ⟨rfl, rfl, by decide, rfl, wIn_8⟩
theorem FX8_isSaved : FF 19 4 "isSaved" "[Z" 6 21 "PermitParkModel" TX8 true := ⟨rfl, rfl, by decide, rfl, wIn_8⟩
theorem FX8_leastNumbers : FF 19 5 "leastNumbers" "[I" 6 21 "PermitParkModel" TX8 true := ⟨rfl, rfl, by decide, rfl, wIn_8⟩
theorem FX8_greatestNumbers : FF 19 6 "greatestNumbers" "[I" 6 21 "PermitParkModel" TX8 true := ⟨rfl, rfl, by decide, rfl, wIn_8⟩
theorem FX8_thrown : FF 19 7 "thrown" "I" 6 21 "PermitParkModel" TX8 false := ⟨rfl, rfl, by decide, rfl, wIn_8⟩
theorem FX8_text : FF 19 8 "text" "[I" 6 21 "PermitParkModel" TX8 true := ⟨rfl, rfl, by decide, rfl, wIn_8⟩
theorem FX8_textLength : FF 19 9 "textLength" "I" 6 21 "PermitParkModel" TX8 false := ⟨rfl, rfl, by decide, rfl, wIn_8⟩
theorem FX8_position : FF 19 10 "position" "I" 6 21 "PermitParkModel" TX8 false := ⟨rfl, rfl, by decide, rfl, wIn_8⟩
theorem FX8_tokenStart : FF 19 11 "tokenStart" "I" 6 21 "PermitParkModel" TX8 false := ⟨rfl, rfl, by decide, rfl, wIn_8⟩
theorem FX8_token : FF 19 12 "token" "I" 6 21 "PermitParkModel" TX8 false := ⟨rfl, rfl, by decide, rfl, wIn_8⟩
theorem FX8_letters : FF 19 13 "letters" "I" 6 21 "PermitParkModel" TX8 false := ⟨rfl, rfl, by decide, rfl, wIn_8⟩
theorem FX8_number : FF 19 14 "number" "I" 6 21 "PermitParkModel" TX8 false := ⟨rfl, rfl, by decide, rfl, wIn_8⟩
theorem FX8_errorCode : FF 19 15 "errorCode" "I" 6 21 "PermitParkModel" TX8 false := ⟨rfl, rfl, by decide, rfl, wIn_8⟩
theorem FX8_errorPosition : FF 19 16 "errorPosition" "I" 6 21 "PermitParkModel" TX8 false := ⟨rfl, rfl, by decide, rfl, wIn_8⟩
theorem FX8_word : FF 19 17 "word" "J" 6 21 "PermitParkModel" TX8 false := ⟨rfl, rfl, by decide, rfl, wIn_8⟩
theorem FX8_isMet : FF 19 18 "isMet" "[Z" 6 21 "PermitParkModel" TX8 true := ⟨rfl, rfl, by decide, rfl, wIn_8⟩
theorem FX8_giver : FF 19 19 "giver" "[I" 6 21 "PermitParkModel" TX8 true := ⟨rfl, rfl, by decide, rfl, wIn_8⟩
theorem FX8_givers : FF 19 20 "givers" "I" 6 21 "PermitParkModel" TX8 false := ⟨rfl, rfl, by decide, rfl, wIn_8⟩
