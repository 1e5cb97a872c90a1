theorem dX8_parseSeed_4 : decode cX8_parseSeed 4 = .ok (.invokevirtual 135, 3) := by decide +kernel
theorem dX8_parseSeed_7 : decode cX8_parseSeed 7 = .ok (.iconst 1, 1) := by decide +kernel
theorem dX8_parseSeed_8 : decode cX8_parseSeed 8 = .ok (.invokevirtual 119, 3) := by decide +kernel
theorem dX8_parseSeed_11 : decode cX8_parseSeed 11 = .ok (.aload_n 0, 1) := by decide +kernel
theorem dX8_parseSeed_12 : decode cX8_parseSeed 12 = .ok (.invokevirtual 127, 3) := by decide +kernel
theorem dX8_parseSeed_15 : decode cX8_parseSeed 15 = .ok (.aload_n 0, 1) := by decide +kernel
theorem dX8_parseSeed_16 : decode cX8_parseSeed 16 = .ok (.iconst 0, 1) := by decide +kernel
theorem dX8_parseSeed_17 : decode cX8_parseSeed 17 = .ok (.ldc 191, 2) := by decide +kernel
theorem dX8_parseSeed_19 : decode cX8_parseSeed 19 = .ok (.invokevirtual 168, 3) := by decide +kernel
theorem dX8_parseSeed_22 : decode cX8_parseSeed 22 = .ok (.istore_n 1, 1) := by decide +kernel
theorem dX8_parseSeed_23 : decode cX8_parseSeed 23 = .ok (.aload_n 0, 1) := by decide +kernel
theorem dX8_parseSeed_24 : decode cX8_parseSeed 24 = .ok (.invokevirtual 112, 3) := by decide +kernel
theorem dX8_parseSeed_27 : decode cX8_parseSeed 27 = .ok (.ifCond .eq 10, 3) := by decide +kernel
theorem dX8_parseSeed_30 : decode cX8_parseSeed 30 = .ok (.aload_n 0, 1) := by decide +kernel
theorem dX8_parseSeed_31 : decode cX8_parseSeed 31 = .ok (.getfield 7, 3) := by decide +kernel
theorem dX8_parseSeed_34 : decode cX8_parseSeed 34 = .ok (.iconst 4, 1) := by decide +kernel
theorem dX8_parseSeed_35 : decode cX8_parseSeed 35 = .ok (.iload_n 1, 1) := by decide +kernel
theorem dX8_parseSeed_36 : decode cX8_parseSeed 36 = .ok (.iastore, 1) := by decide +kernel
theorem dX8_parseSeed_37 : decode cX8_parseSeed 37 = .ok (.return_, 1) := by decide +kernel
theorem dX8_parseStatement_0 : decode cX8_parseStatement 0 = .ok (.aload_n 0, 1) := by decide +kernel
theorem dX8_parseStatement_1 : decode cX8_parseStatement 1 = .ok (.ldc 192, 2) := by decide +kernel
theorem dX8_parseStatement_3 : decode cX8_parseStatement 3 = .ok (.invokevirtual 135, 3) := by decide +kernel
theorem dX8_parseStatement_6 : decode cX8_parseStatement 6 = .ok (.ifCond .eq 10, 3) := by decide +kernel
theorem dX8_parseStatement_9 : decode cX8_parseStatement 9 = .ok (.aload_n 0, 1) := by decide +kernel
theorem dX8_parseStatement_10 : decode cX8_parseStatement 10 = .ok (.invokevirtual 194, 3) := by decide +kernel
theorem dX8_parseStatement_13 : decode cX8_parseStatement 13 = .ok (.goto 39, 3) := by decide +kernel
theorem dX8_parseStatement_16 : decode cX8_parseStatement 16 = .ok (.aload_n 0, 1) := by decide +kernel
theorem dX8_parseStatement_17 : decode cX8_parseStatement 17 = .ok (.ldc 197, 2) := by decide +kernel
theorem dX8_parseStatement_19 : decode cX8_parseStatement 19 = .ok (.invokevirtual 135, 3) := by decide +kernel
theorem dX8_parseStatement_22 : decode cX8_parseStatement 22 = .ok (.ifCond .eq 10, 3) := by decide +kernel
theorem dX8_parseStatement_25 : decode cX8_parseStatement 25 = .ok (.aload_n 0, 1) := by decide +kernel
theorem dX8_parseStatement_26 : decode cX8_parseStatement 26 = .ok (.invokevirtual 199, 3) := by decide +kernel
theorem dX8_parseStatement_29 : decode cX8_parseStatement 29 = .ok (.goto 23, 3) := by decide +kernel
theorem dX8_parseStatement_32 : decode cX8_parseStatement 32 = .ok (.aload_n 0, 1) := by decide +kernel
theorem dX8_parseStatement_33 : decode cX8_parseStatement 33 = .ok (.ldc 145, 2) := by decide +kernel
theorem dX8_parseStatement_35 : decode cX8_parseStatement 35 = .ok (.invokevirtual 135, 3) := by decide +kernel
theorem dX8_parseStatement_38 : decode cX8_parseStatement 38 = .ok (.ifCond .eq 10, 3) := by decide +kernel
theorem dX8_parseStatement_41 : decode cX8_parseStatement 41 = .ok (.aload_n 0, 1) := by decide +kernel
theorem dX8_parseStatement_42 : decode cX8_parseStatement 42 = .ok (.invokevirtual 202, 3) := by decide +kernel
theorem dX8_parseStatement_45 : decode cX8_parseStatement 45 = .ok (.goto 7, 3) := by decide +kernel
theorem dX8_parseStatement_48 : decode cX8_parseStatement 48 = .ok (.aload_n 0, 1) := by decide +kernel
theorem dX8_parseStatement_49 : decode cX8_parseStatement 49 = .ok (.invokevirtual 205, 3) := by decide +kernel
theorem dX8_parseStatement_52 : decode cX8_parseStatement 52 = .ok (.aload_n 0, 1) := by decide +kernel
theorem dX8_parseStatement_53 : decode cX8_parseStatement 53 = .ok (.bipush 59, 2) := by decide +kernel
theorem dX8_parseStatement_55 : decode cX8_parseStatement 55 = .ok (.invokevirtual 175, 3) := by decide +kernel
theorem dX8_parseStatement_58 : decode cX8_parseStatement 58 = .ok (.return_, 1) := by decide +kernel
theorem dX8_load_0 : decode cX8_load 0 = .ok (.aload_n 0, 1) := by decide +kernel
theorem dX8_load_1 : decode cX8_load 1 = .ok (.iconst 0, 1) := by decide +kernel
theorem dX8_load_2 : decode cX8_load 2 = .ok (.putfield 48, 3) := by decide +kernel
theorem dX8_load_5 : decode cX8_load 5 = .ok (.aload_n 0, 1) := by decide +kernel
theorem dX8_load_6 : decode cX8_load 6 = .ok (.getfield 7, 3) := by decide +kernel
theorem dX8_load_9 : decode cX8_load 9 = .ok (.iconst 0, 1) := by decide +kernel
theorem dX8_load_10 : decode cX8_load 10 = .ok (.aload_n 0, 1) := by decide +kernel
theorem dX8_load_11 : decode cX8_load 11 = .ok (.getfield 13, 3) := by decide +kernel
theorem dX8_load_14 : decode cX8_load 14 = .ok (.iconst 0, 1) := by decide +kernel
theorem dX8_load_15 : decode cX8_load 15 = .ok (.invokestatic 208, 3) := by decide +kernel
theorem dX8_load_18 : decode cX8_load 18 = .ok (.aload_n 0, 1) := by decide +kernel
theorem dX8_load_19 : decode cX8_load 19 = .ok (.invokevirtual 45, 3) := by decide +kernel
theorem dX8_load_22 : decode cX8_load 22 = .ok (.aload_n 0, 1) := by decide +kernel
theorem dX8_load_23 : decode cX8_load 23 = .ok (.iconst 0, 1) := by decide +kernel
theorem dX8_load_24 : decode cX8_load 24 = .ok (.putfield 109, 3) := by decide +kernel
theorem dX8_load_27 : decode cX8_load 27 = .ok (.aload_n 0, 1) := by decide +kernel
theorem dX8_load_28 : decode cX8_load 28 = .ok (.iconst (-1), 1) := by decide +kernel
theorem dX8_load_29 : decode cX8_load 29 = .ok (.putfield 35, 3) := by decide +kernel
theorem dX8_load_32 : decode cX8_load 32 = .ok (.aload_n 0, 1) := by decide +kernel
theorem dX8_load_33 : decode cX8_load 33 = .ok (.iconst 0, 1) := by decide +kernel
theorem dX8_load_34 : decode cX8_load 34 = .ok (.putfield 66, 3) := by decide +kernel
theorem dX8_load_37 : decode cX8_load 37 = .ok (.aload_n 0, 1) := by decide +kernel
theorem dX8_load_38 : decode cX8_load 38 = .ok (.invokevirtual 116, 3) := by decide +kernel
theorem dX8_load_41 : decode cX8_load 41 = .ok (.aload_n 0, 1) := by decide +kernel
theorem dX8_load_42 : decode cX8_load 42 = .ok (.invokevirtual 112, 3) := by decide +kernel
theorem dX8_load_45 : decode cX8_load 45 = .ok (.ifCond .eq 17, 3) := by decide +kernel
theorem dX8_load_48 : decode cX8_load 48 = .ok (.aload_n 0, 1) := by decide +kernel
theorem dX8_load_49 : decode cX8_load 49 = .ok (.getfield 85, 3) := by decide +kernel
theorem dX8_load_52 : decode cX8_load 52 = .ok (.ifCond .eq 10, 3) := by decide +kernel
theorem dX8_load_55 : decode cX8_load 55 = .ok (.aload_n 0, 1) := by decide +kernel
theorem dX8_load_56 : decode cX8_load 56 = .ok (.invokevirtual 212, 3) := by decide +kernel
theorem dX8_load_59 : decode cX8_load 59 = .ok (.goto (-18), 3) := by decide +kernel
theorem dX8_load_62 : decode cX8_load 62 = .ok (.aload_n 0, 1) := by decide +kernel
theorem dX8_load_63 : decode cX8_load 63 = .ok (.iconst 0, 1) := by decide +kernel
theorem dX8_load_64 : decode cX8_load 64 = .ok (.putfield 59, 3) := by decide +kernel
theorem dX8_load_67 : decode cX8_load 67 = .ok (.aload_n 0, 1) := by decide +kernel
theorem dX8_load_68 : decode cX8_load 68 = .ok (.invokevirtual 112, 3) := by decide +kernel
theorem dX8_load_71 : decode cX8_load 71 = .ok (.ifCond .ne 18, 3) := by decide +kernel
theorem dX8_load_74 : decode cX8_load 74 = .ok (.aload_n 0, 1) := by decide +kernel
theorem dX8_load_75 : decode cX8_load 75 = .ok (.getfield 13, 3) := by decide +kernel
theorem dX8_load_78 : decode cX8_load 78 = .ok (.iconst 0, 1) := by decide +kernel
theorem dX8_load_79 : decode cX8_load 79 = .ok (.aload_n 0, 1) := by decide +kernel
theorem dX8_load_80 : decode cX8_load 80 = .ok (.getfield 7, 3) := by decide +kernel
theorem dX8_load_83 : decode cX8_load 83 = .ok (.iconst 0, 1) := by decide +kernel
theorem dX8_load_84 : decode cX8_load 84 = .ok (.invokestatic 208, 3) := by decide +kernel
theorem dX8_load_87 : decode cX8_load 87 = .ok (.iconst (-1), 1) := by decide +kernel
theorem dX8_load_88 : decode cX8_load 88 = .ok (.ireturn, 1) := by decide +kernel
theorem dX8_load_89 : decode cX8_load 89 = .ok (.aload_n 0, 1) := by decide +kernel
theorem dX8_load_90 : decode cX8_load 90 = .ok (.getfield 7, 3) := by decide +kernel
theorem dX8_load_93 : decode cX8_load 93 = .ok (.iconst 2, 1) := by decide +kernel
theorem dX8_load_94 : decode cX8_load 94 = .ok (.iaload, 1) := by decide +kernel
theorem dX8_load_95 : decode cX8_load 95 = .ok (.ireturn, 1) := by decide +kernel
theorem dX8_errorCode_0 : decode cX8_errorCode 0 = .ok (.aload_n 0, 1) := by decide +kernel
theorem dX8_errorCode_1 : decode cX8_errorCode 1 = .ok (.iconst 0, 1) := by decide +kernel
theorem dX8_errorCode_2 : decode cX8_errorCode 2 = .ok (.putfield 48, 3) := by decide +kernel
theorem dX8_errorCode_5 : decode cX8_errorCode 5 = .ok (.aload_n 0, 1) := by decide +kernel
theorem dX8_errorCode_6 : decode cX8_errorCode 6 = .ok (.getfield 109, 3) := by decide +kernel
theorem dX8_errorCode_9 : decode cX8_errorCode 9 = .ok (.ireturn, 1) := by decide +kernel
theorem dX8_errorPosition_0 : decode cX8_errorPosition 0 = .ok (.aload_n 0, 1) := by decide +kernel
theorem dX8_errorPosition_1 : decode cX8_errorPosition 1 = .ok (.iconst 0, 1) := by decide +kernel
theorem dX8_errorPosition_2 : decode cX8_errorPosition 2 = .ok (.putfield 48, 3) := by decide +kernel
theorem dX8_errorPosition_5 : decode cX8_errorPosition 5 = .ok (.aload_n 0, 1) := by decide +kernel
theorem dX8_errorPosition_6 : decode cX8_errorPosition 6 = .ok (.getfield 35, 3) := by decide +kernel
theorem dX8_errorPosition_9 : decode cX8_errorPosition 9 = .ok (.ireturn, 1) := by decide +kernel
theorem dX8_appendThread_0 : decode cX8_appendThread 0 = .ok (.aload_n 0, 1) := by decide +kernel
theorem dX8_appendThread_1 : decode cX8_appendThread 1 = .ok (.getfield 7, 3) := by decide +kernel
theorem dX8_appendThread_4 : decode cX8_appendThread 4 = .ok (.iconst 2, 1) := by decide +kernel
theorem dX8_appendThread_5 : decode cX8_appendThread 5 = .ok (.iaload, 1) := by decide +kernel
theorem dX8_appendThread_6 : decode cX8_appendThread 6 = .ok (.istore_n 2, 1) := by decide +kernel
theorem dX8_appendThread_7 : decode cX8_appendThread 7 = .ok (.iconst 0, 1) := by decide +kernel
theorem dX8_appendThread_8 : decode cX8_appendThread 8 = .ok (.istore_n 3, 1) := by decide +kernel
theorem dX8_appendThread_9 : decode cX8_appendThread 9 = .ok (.iload_n 3, 1) := by decide +kernel
theorem dX8_appendThread_10 : decode cX8_appendThread 10 = .ok (.bipush 20, 2) := by decide +kernel
theorem dX8_appendThread_12 : decode cX8_appendThread 12 = .ok (.if_icmp .ge 16, 3) := by decide +kernel
theorem dX8_appendThread_15 : decode cX8_appendThread 15 = .ok (.aload_n 0, 1) := by decide +kernel
theorem dX8_appendThread_16 : decode cX8_appendThread 16 = .ok (.iload_n 2, 1) := by decide +kernel
theorem dX8_appendThread_17 : decode cX8_appendThread 17 = .ok (.iload_n 3, 1) := by decide +kernel
theorem dX8_appendThread_18 : decode cX8_appendThread 18 = .ok (.iconst 0, 1) := by decide +kernel
theorem dX8_appendThread_19 : decode cX8_appendThread 19 = .ok (.invokevirtual 215, 3) := by decide +kernel
theorem dX8_appendThread_22 : decode cX8_appendThread 22 = .ok (.iinc 3 1, 3) := by decide +kernel
theorem dX8_appendThread_25 : decode cX8_appendThread 25 = .ok (.goto (-16), 3) := by decide +kernel
theorem dX8_appendThread_28 : decode cX8_appendThread 28 = .ok (.aload_n 0, 1) := by decide +kernel
theorem dX8_appendThread_29 : decode cX8_appendThread 29 = .ok (.iload_n 2, 1) := by decide +kernel
theorem dX8_appendThread_30 : decode cX8_appendThread 30 = .ok (.iconst 0, 1) := by decide +kernel
theorem dX8_appendThread_31 : decode cX8_appendThread 31 = .ok (.iload_n 1, 1) := by decide +kernel
theorem dX8_appendThread_32 : decode cX8_appendThread 32 = .ok (.invokevirtual 215, 3) := by decide +kernel
theorem dX8_appendThread_35 : decode cX8_appendThread 35 = .ok (.aload_n 0, 1) := by decide +kernel
theorem dX8_appendThread_36 : decode cX8_appendThread 36 = .ok (.iload_n 2, 1) := by decide +kernel
theorem dX8_appendThread_37 : decode cX8_appendThread 37 = .ok (.bipush 7, 2) := by decide +kernel
theorem dX8_appendThread_39 : decode cX8_appendThread 39 = .ok (.iconst (-1), 1) := by decide +kernel
theorem dX8_appendThread_40 : decode cX8_appendThread 40 = .ok (.invokevirtual 215, 3) := by decide +kernel
theorem dX8_appendThread_43 : decode cX8_appendThread 43 = .ok (.aload_n 0, 1) := by decide +kernel
theorem dX8_appendThread_44 : decode cX8_appendThread 44 = .ok (.iload_n 2, 1) := by decide +kernel
theorem dX8_appendThread_45 : decode cX8_appendThread 45 = .ok (.bipush 8, 2) := by decide +kernel
theorem dX8_appendThread_47 : decode cX8_appendThread 47 = .ok (.iconst (-1), 1) := by decide +kernel
theorem dX8_appendThread_48 : decode cX8_appendThread 48 = .ok (.invokevirtual 215, 3) := by decide +kernel
theorem dX8_appendThread_51 : decode cX8_appendThread 51 = .ok (.aload_n 0, 1) := by decide +kernel
theorem dX8_appendThread_52 : decode cX8_appendThread 52 = .ok (.iload_n 2, 1) := by decide +kernel
theorem dX8_appendThread_53 : decode cX8_appendThread 53 = .ok (.bipush 10, 2) := by decide +kernel
theorem dX8_appendThread_55 : decode cX8_appendThread 55 = .ok (.iconst (-1), 1) := by decide +kernel
theorem dX8_appendThread_56 : decode cX8_appendThread 56 = .ok (.invokevirtual 215, 3) := by decide +kernel
theorem dX8_appendThread_59 : decode cX8_appendThread 59 = .ok (.aload_n 0, 1) := by decide +kernel
theorem dX8_appendThread_60 : decode cX8_appendThread 60 = .ok (.iload_n 2, 1) := by decide +kernel
theorem dX8_appendThread_61 : decode cX8_appendThread 61 = .ok (.bipush 16, 2) := by decide +kernel
theorem dX8_appendThread_63 : decode cX8_appendThread 63 = .ok (.iconst (-1), 1) := by decide +kernel
theorem dX8_appendThread_64 : decode cX8_appendThread 64 = .ok (.invokevirtual 215, 3) := by decide +kernel
theorem dX8_appendThread_67 : decode cX8_appendThread 67 = .ok (.aload_n 0, 1) := by decide +kernel
theorem dX8_appendThread_68 : decode cX8_appendThread 68 = .ok (.getfield 7, 3) := by decide +kernel
theorem dX8_appendThread_71 : decode cX8_appendThread 71 = .ok (.iconst 2, 1) := by decide +kernel
theorem dX8_appendThread_72 : decode cX8_appendThread 72 = .ok (.dup2, 1) := by decide +kernel
theorem dX8_appendThread_73 : decode cX8_appendThread 73 = .ok (.iaload, 1) := by decide +kernel
theorem dX8_appendThread_74 : decode cX8_appendThread 74 = .ok (.iconst 1, 1) := by decide +kernel
theorem dX8_appendThread_75 : decode cX8_appendThread 75 = .ok (.iadd, 1) := by decide +kernel
theorem dX8_appendThread_76 : decode cX8_appendThread 76 = .ok (.iastore, 1) := by decide +kernel
theorem dX8_appendThread_77 : decode cX8_appendThread 77 = .ok (.iload_n 2, 1) := by decide +kernel
theorem dX8_appendThread_78 : decode cX8_appendThread 78 = .ok (.ireturn, 1) := by decide +kernel
theorem dX8_appendInstruction_0 : decode cX8_appendInstruction 0 = .ok (.iload_n 1, 1) := by decide +kernel
theorem dX8_appendInstruction_1 : decode cX8_appendInstruction 1 = .ok (.aload_n 0, 1) := by decide +kernel
theorem dX8_appendInstruction_2 : decode cX8_appendInstruction 2 = .ok (.iload_n 1, 1) := by decide +kernel
theorem dX8_appendInstruction_3 : decode cX8_appendInstruction 3 = .ok (.iconst 1, 1) := by decide +kernel
theorem dX8_appendInstruction_4 : decode cX8_appendInstruction 4 = .ok (.invokevirtual 164, 3) := by decide +kernel
theorem dX8_appendInstruction_7 : decode cX8_appendInstruction 7 = .ok (.invokestatic 218, 3) := by decide +kernel
theorem dX8_appendInstruction_10 : decode cX8_appendInstruction 10 = .ok (.istore 4, 2) := by decide +kernel
theorem dX8_appendInstruction_12 : decode cX8_appendInstruction 12 = .ok (.aload_n 0, 1) := by decide +kernel
theorem dX8_appendInstruction_13 : decode cX8_appendInstruction 13 = .ok (.getfield 7, 3) := by decide +kernel
theorem dX8_appendInstruction_16 : decode cX8_appendInstruction 16 = .ok (.iload 4, 2) := by decide +kernel
theorem dX8_appendInstruction_18 : decode cX8_appendInstruction 18 = .ok (.iload_n 2, 1) := by decide +kernel
theorem dX8_appendInstruction_19 : decode cX8_appendInstruction 19 = .ok (.iastore, 1) := by decide +kernel
theorem dX8_appendInstruction_20 : decode cX8_appendInstruction 20 = .ok (.aload_n 0, 1) := by decide +kernel
theorem dX8_appendInstruction_21 : decode cX8_appendInstruction 21 = .ok (.getfield 7, 3) := by decide +kernel
theorem dX8_appendInstruction_24 : decode cX8_appendInstruction 24 = .ok (.iload 4, 2) := by decide +kernel
theorem dX8_appendInstruction_26 : decode cX8_appendInstruction 26 = .ok (.iconst 1, 1) := by decide +kernel
theorem dX8_appendInstruction_27 : decode cX8_appendInstruction 27 = .ok (.iadd, 1) := by decide +kernel
theorem dX8_appendInstruction_28 : decode cX8_appendInstruction 28 = .ok (.iload_n 3, 1) := by decide +kernel
theorem dX8_appendInstruction_29 : decode cX8_appendInstruction 29 = .ok (.iastore, 1) := by decide +kernel
theorem dX8_appendInstruction_30 : decode cX8_appendInstruction 30 = .ok (.aload_n 0, 1) := by decide +kernel
theorem dX8_appendInstruction_31 : decode cX8_appendInstruction 31 = .ok (.iload_n 1, 1) := by decide +kernel
theorem dX8_appendInstruction_32 : decode cX8_appendInstruction 32 = .ok (.iconst 1, 1) := by decide +kernel
theorem dX8_appendInstruction_33 : decode cX8_appendInstruction 33 = .ok (.invokevirtual 221, 3) := by decide +kernel
theorem dX8_appendInstruction_36 : decode cX8_appendInstruction 36 = .ok (.return_, 1) := by decide +kernel
theorem dX8_addThread_0 : decode cX8_addThread 0 = .ok (.aload_n 0, 1) := by decide +kernel
theorem dX8_addThread_1 : decode cX8_addThread 1 = .ok (.iconst 0, 1) := by decide +kernel
theorem dX8_addThread_2 : decode cX8_addThread 2 = .ok (.putfield 48, 3) := by decide +kernel
theorem dX8_addThread_5 : decode cX8_addThread 5 = .ok (.iload_n 1, 1) := by decide +kernel
theorem dX8_addThread_6 : decode cX8_addThread 6 = .ok (.iconst 1, 1) := by decide +kernel
theorem dX8_addThread_7 : decode cX8_addThread 7 = .ok (.bipush 9, 2) := by decide +kernel
theorem dX8_addThread_9 : decode cX8_addThread 9 = .ok (.invokestatic 51, 3) := by decide +kernel
theorem dX8_addThread_12 : decode cX8_addThread 12 = .ok (.ifCond .eq 12, 3) := by decide +kernel
theorem dX8_addThread_15 : decode cX8_addThread 15 = .ok (.aload_n 0, 1) := by decide +kernel
theorem dX8_addThread_16 : decode cX8_addThread 16 = .ok (.iload_n 2, 1) := by decide +kernel
theorem dX8_addThread_17 : decode cX8_addThread 17 = .ok (.iload_n 3, 1) := by decide +kernel
theorem dX8_addThread_18 : decode cX8_addThread 18 = .ok (.invokevirtual 224, 3) := by decide +kernel
theorem dX8_addThread_21 : decode cX8_addThread 21 = .ok (.ifCond .ne 9, 3) := by decide +kernel
theorem dX8_addThread_24 : decode cX8_addThread 24 = .ok (.aload_n 0, 1) := by decide +kernel
theorem dX8_addThread_25 : decode cX8_addThread 25 = .ok (.iconst 1, 1) := by decide +kernel
theorem dX8_addThread_26 : decode cX8_addThread 26 = .ok (.invokevirtual 62, 3) := by decide +kernel
theorem dX8_addThread_29 : decode cX8_addThread 29 = .ok (.ireturn, 1) := by decide +kernel
theorem dX8_addThread_30 : decode cX8_addThread 30 = .ok (.aload_n 0, 1) := by decide +kernel
theorem dX8_addThread_31 : decode cX8_addThread 31 = .ok (.getfield 7, 3) := by decide +kernel
theorem dX8_addThread_34 : decode cX8_addThread 34 = .ok (.iconst 2, 1) := by decide +kernel
theorem dX8_addThread_35 : decode cX8_addThread 35 = .ok (.iaload, 1) := by decide +kernel
theorem dX8_addThread_36 : decode cX8_addThread 36 = .ok (.bipush 10, 2) := by decide +kernel
theorem dX8_addThread_38 : decode cX8_addThread 38 = .ok (.if_icmp .ne 9, 3) := by decide +kernel
theorem dX8_addThread_41 : decode cX8_addThread 41 = .ok (.aload_n 0, 1) := by decide +kernel
theorem dX8_addThread_42 : decode cX8_addThread 42 = .ok (.iconst 2, 1) := by decide +kernel
theorem dX8_addThread_43 : decode cX8_addThread 43 = .ok (.invokevirtual 62, 3) := by decide +kernel
theorem dX8_addThread_46 : decode cX8_addThread 46 = .ok (.ireturn, 1) := by decide +kernel
theorem dX8_addThread_47 : decode cX8_addThread 47 = .ok (.aload_n 0, 1) := by decide +kernel
theorem dX8_addThread_48 : decode cX8_addThread 48 = .ok (.iload_n 1, 1) := by decide +kernel
theorem dX8_addThread_49 : decode cX8_addThread 49 = .ok (.invokevirtual 179, 3) := by decide +kernel
theorem dX8_addThread_52 : decode cX8_addThread 52 = .ok (.istore 4, 2) := by decide +kernel
theorem dX8_addThread_54 : decode cX8_addThread 54 = .ok (.aload_n 0, 1) := by decide +kernel
theorem dX8_addThread_55 : decode cX8_addThread 55 = .ok (.iload 4, 2) := by decide +kernel
theorem dX8_addThread_57 : decode cX8_addThread 57 = .ok (.iload_n 2, 1) := by decide +kernel
theorem dX8_addThread_58 : decode cX8_addThread 58 = .ok (.iload_n 3, 1) := by decide +kernel
theorem dX8_addThread_59 : decode cX8_addThread 59 = .ok (.invokevirtual 171, 3) := by decide +kernel
theorem dX8_addThread_62 : decode cX8_addThread 62 = .ok (.iload 4, 2) := by decide +kernel
theorem dX8_addThread_64 : decode cX8_addThread 64 = .ok (.ireturn, 1) := by decide +kernel
theorem dX8_addInstruction_0 : decode cX8_addInstruction 0 = .ok (.aload_n 0, 1) := by decide +kernel
theorem dX8_addInstruction_1 : decode cX8_addInstruction 1 = .ok (.iconst 0, 1) := by decide +kernel
theorem dX8_addInstruction_2 : decode cX8_addInstruction 2 = .ok (.putfield 48, 3) := by decide +kernel
theorem dX8_addInstruction_5 : decode cX8_addInstruction 5 = .ok (.aload_n 0, 1) := by decide +kernel
theorem dX8_addInstruction_6 : decode cX8_addInstruction 6 = .ok (.iload_n 1, 1) := by decide +kernel
theorem dX8_addInstruction_7 : decode cX8_addInstruction 7 = .ok (.invokevirtual 228, 3) := by decide +kernel
theorem dX8_addInstruction_10 : decode cX8_addInstruction 10 = .ok (.ifCond .ne 9, 3) := by decide +kernel
theorem dX8_addInstruction_13 : decode cX8_addInstruction 13 = .ok (.aload_n 0, 1) := by decide +kernel
theorem dX8_addInstruction_14 : decode cX8_addInstruction 14 = .ok (.iconst 1, 1) := by decide +kernel
theorem dX8_addInstruction_15 : decode cX8_addInstruction 15 = .ok (.invokevirtual 62, 3) := by decide +kernel
theorem dX8_addInstruction_18 : decode cX8_addInstruction 18 = .ok (.ireturn, 1) := by decide +kernel
theorem dX8_addInstruction_19 : decode cX8_addInstruction 19 = .ok (.aload_n 0, 1) := by decide +kernel
theorem dX8_addInstruction_20 : decode cX8_addInstruction 20 = .ok (.iload_n 2, 1) := by decide +kernel
theorem dX8_addInstruction_21 : decode cX8_addInstruction 21 = .ok (.iload_n 3, 1) := by decide +kernel
theorem dX8_addInstruction_22 : decode cX8_addInstruction 22 = .ok (.invokevirtual 224, 3) := by decide +kernel
theorem dX8_addInstruction_25 : decode cX8_addInstruction 25 = .ok (.ifCond .ne 9, 3) := by decide +kernel
theorem dX8_addInstruction_28 : decode cX8_addInstruction 28 = .ok (.aload_n 0, 1) := by decide +kernel
theorem dX8_addInstruction_29 : decode cX8_addInstruction 29 = .ok (.iconst 2, 1) := by decide +kernel
theorem dX8_addInstruction_30 : decode cX8_addInstruction 30 = .ok (.invokevirtual 62, 3) := by decide +kernel
theorem dX8_addInstruction_33 : decode cX8_addInstruction 33 = .ok (.ireturn, 1) := by decide +kernel
theorem dX8_addInstruction_34 : decode cX8_addInstruction 34 = .ok (.aload_n 0, 1) := by decide +kernel
theorem dX8_addInstruction_35 : decode cX8_addInstruction 35 = .ok (.iload_n 1, 1) := by decide +kernel
theorem dX8_addInstruction_36 : decode cX8_addInstruction 36 = .ok (.iconst 1, 1) := by decide +kernel
theorem dX8_addInstruction_37 : decode cX8_addInstruction 37 = .ok (.invokevirtual 164, 3) := by decide +kernel
theorem dX8_addInstruction_40 : decode cX8_addInstruction 40 = .ok (.bipush 16, 2) := by decide +kernel
theorem dX8_addInstruction_42 : decode cX8_addInstruction 42 = .ok (.if_icmp .eq 13, 3) := by decide +kernel
theorem dX8_addInstruction_45 : decode cX8_addInstruction 45 = .ok (.aload_n 0, 1) := by decide +kernel
theorem dX8_addInstruction_46 : decode cX8_addInstruction 46 = .ok (.iload_n 1, 1) := by decide +kernel
theorem dX8_addInstruction_47 : decode cX8_addInstruction 47 = .ok (.iconst 3, 1) := by decide +kernel
theorem dX8_addInstruction_48 : decode cX8_addInstruction 48 = .ok (.invokevirtual 164, 3) := by decide +kernel
theorem dX8_addInstruction_51 : decode cX8_addInstruction 51 = .ok (.iconst 3, 1) := by decide +kernel
theorem dX8_addInstruction_52 : decode cX8_addInstruction 52 = .ok (.if_icmp .lt 9, 3) := by decide +kernel
theorem dX8_addInstruction_55 : decode cX8_addInstruction 55 = .ok (.aload_n 0, 1) := by decide +kernel
theorem dX8_addInstruction_56 : decode cX8_addInstruction 56 = .ok (.iconst 3, 1) := by decide +kernel
theorem dX8_addInstruction_57 : decode cX8_addInstruction 57 = .ok (.invokevirtual 62, 3) := by decide +kernel
theorem dX8_addInstruction_60 : decode cX8_addInstruction 60 = .ok (.ireturn, 1) := by decide +kernel
theorem dX8_addInstruction_61 : decode cX8_addInstruction 61 = .ok (.aload_n 0, 1) := by decide +kernel
theorem dX8_addInstruction_62 : decode cX8_addInstruction 62 = .ok (.iload_n 1, 1) := by decide +kernel
theorem dX8_addInstruction_63 : decode cX8_addInstruction 63 = .ok (.iload_n 2, 1) := by decide +kernel
theorem dX8_addInstruction_64 : decode cX8_addInstruction 64 = .ok (.iload_n 3, 1) := by decide +kernel
theorem dX8_addInstruction_65 : decode cX8_addInstruction 65 = .ok (.invokevirtual 171, 3) := by decide +kernel
theorem dX8_addInstruction_68 : decode cX8_addInstruction 68 = .ok (.aload_n 0, 1) := by decide +kernel
theorem dX8_addInstruction_69 : decode cX8_addInstruction 69 = .ok (.iload_n 1, 1) := by decide +kernel
theorem dX8_addInstruction_70 : decode cX8_addInstruction 70 = .ok (.iconst 1, 1) := by decide +kernel
theorem dX8_addInstruction_71 : decode cX8_addInstruction 71 = .ok (.invokevirtual 164, 3) := by decide +kernel
theorem dX8_addInstruction_74 : decode cX8_addInstruction 74 = .ok (.ireturn, 1) := by decide +kernel
theorem dX8_setBase_0 : decode cX8_setBase 0 = .ok (.aload_n 0, 1) := by decide +kernel
theorem dX8_setBase_1 : decode cX8_setBase 1 = .ok (.iconst 0, 1) := by decide +kernel
theorem dX8_setBase_2 : decode cX8_setBase 2 = .ok (.putfield 48, 3) := by decide +kernel
theorem dX8_setBase_5 : decode cX8_setBase 5 = .ok (.aload_n 0, 1) := by decide +kernel
theorem dX8_setBase_6 : decode cX8_setBase 6 = .ok (.iload_n 1, 1) := by decide +kernel
theorem dX8_setBase_7 : decode cX8_setBase 7 = .ok (.invokevirtual 228, 3) := by decide +kernel
theorem dX8_setBase_10 : decode cX8_setBase 10 = .ok (.ifCond .ne 9, 3) := by decide +kernel
theorem dX8_setBase_13 : decode cX8_setBase 13 = .ok (.aload_n 0, 1) := by decide +kernel
theorem dX8_setBase_14 : decode cX8_setBase 14 = .ok (.iconst 1, 1) := by decide +kernel
theorem dX8_setBase_15 : decode cX8_setBase 15 = .ok (.invokevirtual 62, 3) := by decide +kernel
theorem dX8_setBase_18 : decode cX8_setBase 18 = .ok (.ireturn, 1) := by decide +kernel
theorem dX8_setBase_19 : decode cX8_setBase 19 = .ok (.iload_n 2, 1) := by decide +kernel
theorem dX8_setBase_20 : decode cX8_setBase 20 = .ok (.iconst 1, 1) := by decide +kernel
theorem dX8_setBase_21 : decode cX8_setBase 21 = .ok (.bipush 9, 2) := by decide +kernel
theorem dX8_setBase_23 : decode cX8_setBase 23 = .ok (.invokestatic 51, 3) := by decide +kernel
theorem dX8_setBase_26 : decode cX8_setBase 26 = .ok (.ifCond .ne 9, 3) := by decide +kernel
theorem dX8_setBase_29 : decode cX8_setBase 29 = .ok (.aload_n 0, 1) := by decide +kernel
theorem dX8_setBase_30 : decode cX8_setBase 30 = .ok (.iconst 2, 1) := by decide +kernel
theorem dX8_setBase_31 : decode cX8_setBase 31 = .ok (.invokevirtual 62, 3) := by decide +kernel
theorem dX8_setBase_34 : decode cX8_setBase 34 = .ok (.ireturn, 1) := by decide +kernel
theorem dX8_setBase_35 : decode cX8_setBase 35 = .ok (.aload_n 0, 1) := by decide +kernel
theorem dX8_setBase_36 : decode cX8_setBase 36 = .ok (.iload_n 1, 1) := by decide +kernel
theorem dX8_setBase_37 : decode cX8_setBase 37 = .ok (.iconst 0, 1) := by decide +kernel
theorem dX8_setBase_38 : decode cX8_setBase 38 = .ok (.invokevirtual 164, 3) := by decide +kernel
theorem dX8_setBase_41 : decode cX8_setBase 41 = .ok (.istore_n 3, 1) := by decide +kernel
theorem dX8_setBase_42 : decode cX8_setBase 42 = .ok (.aload_n 0, 1) := by decide +kernel
theorem dX8_setBase_43 : decode cX8_setBase 43 = .ok (.iload_n 1, 1) := by decide +kernel
theorem dX8_setBase_44 : decode cX8_setBase 44 = .ok (.iconst 0, 1) := by decide +kernel
theorem dX8_setBase_45 : decode cX8_setBase 45 = .ok (.iload_n 2, 1) := by decide +kernel
theorem dX8_setBase_46 : decode cX8_setBase 46 = .ok (.invokevirtual 215, 3) := by decide +kernel
theorem dX8_setBase_49 : decode cX8_setBase 49 = .ok (.iload_n 3, 1) := by decide +kernel
theorem dX8_setBase_50 : decode cX8_setBase 50 = .ok (.ireturn, 1) := by decide +kernel
theorem dX8_set_0 : decode cX8_set 0 = .ok (.aload_n 0, 1) := by decide +kernel
theorem dX8_set_1 : decode cX8_set 1 = .ok (.iconst 0, 1) := by decide +kernel
theorem dX8_set_2 : decode cX8_set 2 = .ok (.putfield 48, 3) := by decide +kernel
theorem dX8_set_5 : decode cX8_set 5 = .ok (.iload_n 1, 1) := by decide +kernel
theorem dX8_set_6 : decode cX8_set 6 = .ok (.iconst 0, 1) := by decide +kernel
theorem dX8_set_7 : decode cX8_set 7 = .ok (.iconst 1, 1) := by decide +kernel
theorem dX8_set_8 : decode cX8_set 8 = .ok (.invokestatic 51, 3) := by decide +kernel
theorem dX8_set_11 : decode cX8_set 11 = .ok (.ifCond .eq 22, 3) := by decide +kernel
theorem dX8_set_14 : decode cX8_set 14 = .ok (.iload_n 2, 1) := by decide +kernel
theorem dX8_set_15 : decode cX8_set 15 = .ok (.iconst 0, 1) := by decide +kernel
theorem dX8_set_16 : decode cX8_set 16 = .ok (.iload_n 1, 1) := by decide +kernel
theorem dX8_set_17 : decode cX8_set 17 = .ok (.ifCond .ne 9, 3) := by decide +kernel
theorem dX8_set_20 : decode cX8_set 20 = .ok (.sipush 1000, 3) := by decide +kernel
theorem dX8_set_23 : decode cX8_set 23 = .ok (.goto 4, 3) := by decide +kernel
theorem dX8_set_26 : decode cX8_set 26 = .ok (.iconst 1, 1) := by decide +kernel
theorem dX8_set_27 : decode cX8_set 27 = .ok (.invokestatic 51, 3) := by decide +kernel
theorem dX8_set_30 : decode cX8_set 30 = .ok (.ifCond .ne 9, 3) := by decide +kernel
theorem dX8_set_33 : decode cX8_set 33 = .ok (.aload_n 0, 1) := by decide +kernel
theorem dX8_set_34 : decode cX8_set 34 = .ok (.iconst 1, 1) := by decide +kernel
theorem dX8_set_35 : decode cX8_set 35 = .ok (.invokevirtual 62, 3) := by decide +kernel
theorem dX8_set_38 : decode cX8_set 38 = .ok (.ireturn, 1) := by decide +kernel
theorem dX8_set_39 : decode cX8_set 39 = .ok (.aload_n 0, 1) := by decide +kernel
theorem dX8_set_40 : decode cX8_set 40 = .ok (.getfield 7, 3) := by decide +kernel
theorem dX8_set_43 : decode cX8_set 43 = .ok (.iload_n 1, 1) := by decide +kernel
theorem dX8_set_44 : decode cX8_set 44 = .ok (.iaload, 1) := by decide +kernel
theorem dX8_set_45 : decode cX8_set 45 = .ok (.istore_n 3, 1) := by decide +kernel
theorem dX8_set_46 : decode cX8_set 46 = .ok (.aload_n 0, 1) := by decide +kernel
theorem dX8_set_47 : decode cX8_set 47 = .ok (.getfield 7, 3) := by decide +kernel
theorem dX8_set_50 : decode cX8_set 50 = .ok (.iload_n 1, 1) := by decide +kernel
theorem dX8_set_51 : decode cX8_set 51 = .ok (.iload_n 2, 1) := by decide +kernel
theorem dX8_set_52 : decode cX8_set 52 = .ok (.iastore, 1) := by decide +kernel
theorem dX8_set_53 : decode cX8_set 53 = .ok (.iload_n 3, 1) := by decide +kernel
theorem dX8_set_54 : decode cX8_set 54 = .ok (.ireturn, 1) := by decide +kernel
theorem dX8_seed_0 : decode cX8_seed 0 = .ok (.aload_n 0, 1) := by decide +kernel
theorem dX8_seed_1 : decode cX8_seed 1 = .ok (.iload_n 1, 1) := by decide +kernel
theorem dX8_seed_2 : decode cX8_seed 2 = .ok (.iconst 0, 1) := by decide +kernel
theorem dX8_seed_3 : decode cX8_seed 3 = .ok (.ldc 191, 2) := by decide +kernel
theorem dX8_seed_5 : decode cX8_seed 5 = .ok (.invokestatic 51, 3) := by decide +kernel
theorem dX8_seed_8 : decode cX8_seed 8 = .ok (.ifCond .eq 7, 3) := by decide +kernel
theorem dX8_seed_11 : decode cX8_seed 11 = .ok (.iconst 0, 1) := by decide +kernel
theorem dX8_seed_12 : decode cX8_seed 12 = .ok (.goto 4, 3) := by decide +kernel
theorem dX8_seed_15 : decode cX8_seed 15 = .ok (.iconst 1, 1) := by decide +kernel
theorem dX8_seed_16 : decode cX8_seed 16 = .ok (.putfield 48, 3) := by decide +kernel
theorem dX8_seed_19 : decode cX8_seed 19 = .ok (.aload_n 0, 1) := by decide +kernel
theorem dX8_seed_20 : decode cX8_seed 20 = .ok (.getfield 7, 3) := by decide +kernel
theorem dX8_seed_23 : decode cX8_seed 23 = .ok (.iconst 4, 1) := by decide +kernel
theorem dX8_seed_24 : decode cX8_seed 24 = .ok (.aload_n 0, 1) := by decide +kernel
theorem dX8_seed_25 : decode cX8_seed 25 = .ok (.getfield 48, 3) := by decide +kernel
theorem dX8_seed_28 : decode cX8_seed 28 = .ok (.ifCond .ne 7, 3) := by decide +kernel
theorem dX8_seed_31 : decode cX8_seed 31 = .ok (.iload_n 1, 1) := by decide +kernel
theorem dX8_seed_32 : decode cX8_seed 32 = .ok (.goto 9, 3) := by decide +kernel
theorem dX8_seed_35 : decode cX8_seed 35 = .ok (.aload_n 0, 1) := by decide +kernel
theorem dX8_seed_36 : decode cX8_seed 36 = .ok (.getfield 7, 3) := by decide +kernel
theorem dX8_seed_39 : decode cX8_seed 39 = .ok (.iconst 4, 1) := by decide +kernel
theorem dX8_seed_40 : decode cX8_seed 40 = .ok (.iaload, 1) := by decide +kernel
theorem dX8_seed_41 : decode cX8_seed 41 = .ok (.iastore, 1) := by decide +kernel
theorem dX8_seed_42 : decode cX8_seed 42 = .ok (.return_, 1) := by decide +kernel
theorem dX8_setFlag_0 : decode cX8_setFlag 0 = .ok (.aload_n 0, 1) := by decide +kernel
theorem dX8_setFlag_1 : decode cX8_setFlag 1 = .ok (.iload_n 1, 1) := by decide +kernel
theorem dX8_setFlag_2 : decode cX8_setFlag 2 = .ok (.iconst 0, 1) := by decide +kernel
theorem dX8_setFlag_3 : decode cX8_setFlag 3 = .ok (.bipush 7, 2) := by decide +kernel
theorem dX8_setFlag_5 : decode cX8_setFlag 5 = .ok (.invokestatic 51, 3) := by decide +kernel
theorem dX8_setFlag_8 : decode cX8_setFlag 8 = .ok (.ifCond .eq 7, 3) := by decide +kernel
theorem dX8_setFlag_11 : decode cX8_setFlag 11 = .ok (.iconst 0, 1) := by decide +kernel
theorem dX8_setFlag_12 : decode cX8_setFlag 12 = .ok (.goto 4, 3) := by decide +kernel
theorem dX8_setFlag_15 : decode cX8_setFlag 15 = .ok (.iconst 1, 1) := by decide +kernel
theorem dX8_setFlag_16 : decode cX8_setFlag 16 = .ok (.putfield 48, 3) := by decide +kernel
theorem dX8_setFlag_19 : decode cX8_setFlag 19 = .ok (.aload_n 0, 1) := by decide +kernel
theorem dX8_setFlag_20 : decode cX8_setFlag 20 = .ok (.getfield 48, 3) := by decide +kernel
theorem dX8_setFlag_23 : decode cX8_setFlag 23 = .ok (.ifCond .eq 5, 3) := by decide +kernel
theorem dX8_setFlag_26 : decode cX8_setFlag 26 = .ok (.iconst 0, 1) := by decide +kernel
theorem dX8_setFlag_27 : decode cX8_setFlag 27 = .ok (.ireturn, 1) := by decide +kernel
theorem dX8_setFlag_28 : decode cX8_setFlag 28 = .ok (.aload_n 0, 1) := by decide +kernel
theorem dX8_setFlag_29 : decode cX8_setFlag 29 = .ok (.iload_n 1, 1) := by decide +kernel
theorem dX8_setFlag_30 : decode cX8_setFlag 30 = .ok (.invokevirtual 55, 3) := by decide +kernel
theorem dX8_setFlag_33 : decode cX8_setFlag 33 = .ok (.istore_n 3, 1) := by decide +kernel
theorem dX8_setFlag_34 : decode cX8_setFlag 34 = .ok (.aload_n 0, 1) := by decide +kernel
theorem dX8_setFlag_35 : decode cX8_setFlag 35 = .ok (.iload_n 1, 1) := by decide +kernel
theorem dX8_setFlag_36 : decode cX8_setFlag 36 = .ok (.iload_n 2, 1) := by decide +kernel
theorem dX8_setFlag_37 : decode cX8_setFlag 37 = .ok (.invokevirtual 185, 3) := by decide +kernel
theorem dX8_setFlag_40 : decode cX8_setFlag 40 = .ok (.iload_n 3, 1) := by decide +kernel
theorem dX8_setFlag_41 : decode cX8_setFlag 41 = .ok (.ireturn, 1) := by decide +kernel
theorem dX8_inState_0 : decode cX8_inState 0 = .ok (.iconst 0, 1) := by decide +kernel
theorem dX8_inState_1 : decode cX8_inState 1 = .ok (.istore_n 2, 1) := by decide +kernel
theorem dX8_inState_2 : decode cX8_inState 2 = .ok (.iconst 0, 1) := by decide +kernel
theorem dX8_inState_3 : decode cX8_inState 3 = .ok (.istore_n 3, 1) := by decide +kernel
theorem dX8_inState_4 : decode cX8_inState 4 = .ok (.iload_n 3, 1) := by decide +kernel
theorem dX8_inState_5 : decode cX8_inState 5 = .ok (.aload_n 0, 1) := by decide +kernel
theorem dX8_inState_6 : decode cX8_inState 6 = .ok (.getfield 7, 3) := by decide +kernel
theorem dX8_inState_9 : decode cX8_inState 9 = .ok (.iconst 2, 1) := by decide +kernel
theorem dX8_inState_10 : decode cX8_inState 10 = .ok (.iaload, 1) := by decide +kernel
theorem dX8_inState_11 : decode cX8_inState 11 = .ok (.if_icmp .ge 27, 3) := by decide +kernel
theorem dX8_inState_14 : decode cX8_inState 14 = .ok (.iload_n 2, 1) := by decide +kernel
theorem dX8_inState_15 : decode cX8_inState 15 = .ok (.aload_n 0, 1) := by decide +kernel
theorem dX8_inState_16 : decode cX8_inState 16 = .ok (.iload_n 3, 1) := by decide +kernel
theorem dX8_inState_17 : decode cX8_inState 17 = .ok (.iconst 3, 1) := by decide +kernel
theorem dX8_inState_18 : decode cX8_inState 18 = .ok (.invokevirtual 164, 3) := by decide +kernel
theorem dX8_inState_21 : decode cX8_inState 21 = .ok (.iload_n 1, 1) := by decide +kernel
theorem dX8_inState_22 : decode cX8_inState 22 = .ok (.if_icmp .ne 7, 3) := by decide +kernel
theorem dX8_inState_25 : decode cX8_inState 25 = .ok (.iconst 1, 1) := by decide +kernel
theorem dX8_inState_26 : decode cX8_inState 26 = .ok (.goto 4, 3) := by decide +kernel
theorem dX8_inState_29 : decode cX8_inState 29 = .ok (.iconst 0, 1) := by decide +kernel
theorem dX8_inState_30 : decode cX8_inState 30 = .ok (.iadd, 1) := by decide +kernel
theorem dX8_inState_31 : decode cX8_inState 31 = .ok (.istore_n 2, 1) := by decide +kernel
theorem dX8_inState_32 : decode cX8_inState 32 = .ok (.iinc 3 1, 3) := by decide +kernel
theorem dX8_inState_35 : decode cX8_inState 35 = .ok (.goto (-31), 3) := by decide +kernel
theorem dX8_inState_38 : decode cX8_inState 38 = .ok (.iload_n 2, 1) := by decide +kernel
theorem dX8_inState_39 : decode cX8_inState 39 = .ok (.ireturn, 1) := by decide +kernel
theorem dX8_locksOf_0 : decode cX8_locksOf 0 = .ok (.iconst 0, 1) := by decide +kernel
theorem dX8_locksOf_1 : decode cX8_locksOf 1 = .ok (.istore_n 2, 1) := by decide +kernel
theorem dX8_locksOf_2 : decode cX8_locksOf 2 = .ok (.iconst 0, 1) := by decide +kernel
theorem dX8_locksOf_3 : decode cX8_locksOf 3 = .ok (.istore_n 3, 1) := by decide +kernel
theorem dX8_locksOf_4 : decode cX8_locksOf 4 = .ok (.iload_n 3, 1) := by decide +kernel
theorem dX8_locksOf_5 : decode cX8_locksOf 5 = .ok (.bipush 6, 2) := by decide +kernel
theorem dX8_locksOf_7 : decode cX8_locksOf 7 = .ok (.if_icmp .ge 32, 3) := by decide +kernel
theorem dX8_locksOf_10 : decode cX8_locksOf 10 = .ok (.iload_n 2, 1) := by decide +kernel
theorem dX8_locksOf_11 : decode cX8_locksOf 11 = .ok (.aload_n 0, 1) := by decide +kernel
theorem dX8_locksOf_12 : decode cX8_locksOf 12 = .ok (.getfield 7, 3) := by decide +kernel
theorem dX8_locksOf_15 : decode cX8_locksOf 15 = .ok (.bipush 14, 2) := by decide +kernel
theorem dX8_locksOf_17 : decode cX8_locksOf 17 = .ok (.iload_n 3, 1) := by decide +kernel
theorem dX8_locksOf_18 : decode cX8_locksOf 18 = .ok (.iadd, 1) := by decide +kernel
theorem dX8_locksOf_19 : decode cX8_locksOf 19 = .ok (.iaload, 1) := by decide +kernel
theorem dX8_locksOf_20 : decode cX8_locksOf 20 = .ok (.iload_n 1, 1) := by decide +kernel
theorem dX8_locksOf_21 : decode cX8_locksOf 21 = .ok (.if_icmp .ne 9, 3) := by decide +kernel
theorem dX8_locksOf_24 : decode cX8_locksOf 24 = .ok (.iconst 1, 1) := by decide +kernel
theorem dX8_locksOf_25 : decode cX8_locksOf 25 = .ok (.iload_n 3, 1) := by decide +kernel
theorem dX8_locksOf_26 : decode cX8_locksOf 26 = .ok (.ishl, 1) := by decide +kernel
theorem dX8_locksOf_27 : decode cX8_locksOf 27 = .ok (.goto 4, 3) := by decide +kernel
theorem dX8_locksOf_30 : decode cX8_locksOf 30 = .ok (.iconst 0, 1) := by decide +kernel
theorem dX8_locksOf_31 : decode cX8_locksOf 31 = .ok (.iadd, 1) := by decide +kernel
theorem dX8_locksOf_32 : decode cX8_locksOf 32 = .ok (.istore_n 2, 1) := by decide +kernel
theorem dX8_locksOf_33 : decode cX8_locksOf 33 = .ok (.iinc 3 1, 3) := by decide +kernel
theorem dX8_locksOf_36 : decode cX8_locksOf 36 = .ok (.goto (-32), 3) := by decide +kernel
theorem dX8_locksOf_39 : decode cX8_locksOf 39 = .ok (.iload_n 2, 1) := by decide +kernel
theorem dX8_locksOf_40 : decode cX8_locksOf 40 = .ok (.ireturn, 1) := by decide +kernel
theorem dX8_heldLocks_0 : decode cX8_heldLocks 0 = .ok (.iconst 0, 1) := by decide +kernel
theorem dX8_heldLocks_1 : decode cX8_heldLocks 1 = .ok (.istore_n 1, 1) := by decide +kernel
theorem dX8_heldLocks_2 : decode cX8_heldLocks 2 = .ok (.iconst 0, 1) := by decide +kernel
theorem dX8_heldLocks_3 : decode cX8_heldLocks 3 = .ok (.istore_n 2, 1) := by decide +kernel
theorem dX8_heldLocks_4 : decode cX8_heldLocks 4 = .ok (.iload_n 2, 1) := by decide +kernel
theorem dX8_heldLocks_5 : decode cX8_heldLocks 5 = .ok (.bipush 6, 2) := by decide +kernel
theorem dX8_heldLocks_7 : decode cX8_heldLocks 7 = .ok (.if_icmp .ge 32, 3) := by decide +kernel
theorem dX8_heldLocks_10 : decode cX8_heldLocks 10 = .ok (.iload_n 1, 1) := by decide +kernel
theorem dX8_heldLocks_11 : decode cX8_heldLocks 11 = .ok (.aload_n 0, 1) := by decide +kernel
theorem dX8_heldLocks_12 : decode cX8_heldLocks 12 = .ok (.getfield 7, 3) := by decide +kernel
theorem dX8_heldLocks_15 : decode cX8_heldLocks 15 = .ok (.bipush 14, 2) := by decide +kernel
theorem dX8_heldLocks_17 : decode cX8_heldLocks 17 = .ok (.iload_n 2, 1) := by decide +kernel
theorem dX8_heldLocks_18 : decode cX8_heldLocks 18 = .ok (.iadd, 1) := by decide +kernel
theorem dX8_heldLocks_19 : decode cX8_heldLocks 19 = .ok (.iaload, 1) := by decide +kernel
theorem dX8_heldLocks_20 : decode cX8_heldLocks 20 = .ok (.iconst (-1), 1) := by decide +kernel
theorem dX8_heldLocks_21 : decode cX8_heldLocks 21 = .ok (.if_icmp .ne 7, 3) := by decide +kernel
theorem dX8_heldLocks_24 : decode cX8_heldLocks 24 = .ok (.iconst 0, 1) := by decide +kernel
theorem dX8_heldLocks_25 : decode cX8_heldLocks 25 = .ok (.goto 6, 3) := by decide +kernel
theorem dX8_heldLocks_28 : decode cX8_heldLocks 28 = .ok (.iconst 1, 1) := by decide +kernel
theorem dX8_heldLocks_29 : decode cX8_heldLocks 29 = .ok (.iload_n 2, 1) := by decide +kernel
theorem dX8_heldLocks_30 : decode cX8_heldLocks 30 = .ok (.ishl, 1) := by decide +kernel
theorem dX8_heldLocks_31 : decode cX8_heldLocks 31 = .ok (.iadd, 1) := by decide +kernel
theorem dX8_heldLocks_32 : decode cX8_heldLocks 32 = .ok (.istore_n 1, 1) := by decide +kernel
theorem dX8_heldLocks_33 : decode cX8_heldLocks 33 = .ok (.iinc 2 1, 3) := by decide +kernel
theorem dX8_heldLocks_36 : decode cX8_heldLocks 36 = .ok (.goto (-32), 3) := by decide +kernel
theorem dX8_heldLocks_39 : decode cX8_heldLocks 39 = .ok (.iload_n 1, 1) := by decide +kernel
theorem dX8_heldLocks_40 : decode cX8_heldLocks 40 = .ok (.ireturn, 1) := by decide +kernel
theorem dX8_count_0 : decode cX8_count 0 = .ok (.aload_n 0, 1) := by decide +kernel
theorem dX8_count_1 : decode cX8_count 1 = .ok (.iconst 0, 1) := by decide +kernel
theorem dX8_count_2 : decode cX8_count 2 = .ok (.putfield 48, 3) := by decide +kernel
theorem dX8_count_5 : decode cX8_count 5 = .ok (.iload_n 1, 1) := by decide +kernel
theorem dX8_count_6 : decode cX8_count 6 = .ok (.tableswitch 113 0 13 #[70, 70, 70, 70, 70, 77, 77, 77, 77, 77, 85, 92, 97, 105], 70) := by decide +kernel
theorem dX8_count_76 : decode cX8_count 76 = .ok (.aload_n 0, 1) := by decide +kernel
theorem dX8_count_77 : decode cX8_count 77 = .ok (.getfield 7, 3) := by decide +kernel
theorem dX8_count_80 : decode cX8_count 80 = .ok (.iload_n 1, 1) := by decide +kernel
theorem dX8_count_81 : decode cX8_count 81 = .ok (.iaload, 1) := by decide +kernel
theorem dX8_count_82 : decode cX8_count 82 = .ok (.ireturn, 1) := by decide +kernel
theorem dX8_count_83 : decode cX8_count 83 = .ok (.aload_n 0, 1) := by decide +kernel
theorem dX8_count_84 : decode cX8_count 84 = .ok (.iload_n 1, 1) := by decide +kernel
theorem dX8_count_85 : decode cX8_count 85 = .ok (.iconst 5, 1) := by decide +kernel
theorem dX8_count_86 : decode cX8_count 86 = .ok (.isub, 1) := by decide +kernel
theorem dX8_count_87 : decode cX8_count 87 = .ok (.invokevirtual 231, 3) := by decide +kernel
theorem dX8_count_90 : decode cX8_count 90 = .ok (.ireturn, 1) := by decide +kernel
theorem dX8_count_91 : decode cX8_count 91 = .ok (.aload_n 0, 1) := by decide +kernel
theorem dX8_count_92 : decode cX8_count 92 = .ok (.getfield 7, 3) := by decide +kernel
theorem dX8_count_95 : decode cX8_count 95 = .ok (.iconst 5, 1) := by decide +kernel
theorem dX8_count_96 : decode cX8_count 96 = .ok (.iaload, 1) := by decide +kernel
theorem dX8_count_97 : decode cX8_count 97 = .ok (.ireturn, 1) := by decide +kernel
theorem dX8_count_98 : decode cX8_count 98 = .ok (.aload_n 0, 1) := by decide +kernel
theorem dX8_count_99 : decode cX8_count 99 = .ok (.invokevirtual 234, 3) := by decide +kernel
theorem dX8_count_102 : decode cX8_count 102 = .ok (.ireturn, 1) := by decide +kernel
theorem dX8_count_103 : decode cX8_count 103 = .ok (.aload_n 0, 1) := by decide +kernel
theorem dX8_count_104 : decode cX8_count 104 = .ok (.getfield 7, 3) := by decide +kernel
theorem dX8_count_107 : decode cX8_count 107 = .ok (.bipush 6, 2) := by decide +kernel
theorem dX8_count_109 : decode cX8_count 109 = .ok (.iaload, 1) := by decide +kernel
theorem dX8_count_110 : decode cX8_count 110 = .ok (.ireturn, 1) := by decide +kernel
theorem dX8_count_111 : decode cX8_count 111 = .ok (.aload_n 0, 1) := by decide +kernel
theorem dX8_count_112 : decode cX8_count 112 = .ok (.getfield 7, 3) := by decide +kernel
theorem dX8_count_115 : decode cX8_count 115 = .ok (.bipush 7, 2) := by decide +kernel
theorem dX8_count_117 : decode cX8_count 117 = .ok (.iaload, 1) := by decide +kernel
theorem dX8_count_118 : decode cX8_count 118 = .ok (.ireturn, 1) := by decide +kernel
theorem dX8_count_119 : decode cX8_count 119 = .ok (.iload_n 1, 1) := by decide +kernel
theorem dX8_count_120 : decode cX8_count 120 = .ok (.bipush 14, 2) := by decide +kernel
theorem dX8_count_122 : decode cX8_count 122 = .ok (.bipush 17, 2) := by decide +kernel
theorem dX8_count_124 : decode cX8_count 124 = .ok (.invokestatic 51, 3) := by decide +kernel
theorem dX8_count_127 : decode cX8_count 127 = .ok (.ifCond .eq 18, 3) := by decide +kernel
theorem dX8_count_130 : decode cX8_count 130 = .ok (.aload_n 0, 1) := by decide +kernel
theorem dX8_count_131 : decode cX8_count 131 = .ok (.getfield 7, 3) := by decide +kernel
theorem dX8_count_134 : decode cX8_count 134 = .ok (.bipush 8, 2) := by decide +kernel
theorem dX8_count_136 : decode cX8_count 136 = .ok (.iload_n 1, 1) := by decide +kernel
theorem dX8_count_137 : decode cX8_count 137 = .ok (.iadd, 1) := by decide +kernel
theorem dX8_count_138 : decode cX8_count 138 = .ok (.bipush 14, 2) := by decide +kernel
theorem dX8_count_140 : decode cX8_count 140 = .ok (.isub, 1) := by decide +kernel
theorem dX8_count_141 : decode cX8_count 141 = .ok (.iaload, 1) := by decide +kernel
theorem dX8_count_142 : decode cX8_count 142 = .ok (.goto 8, 3) := by decide +kernel
theorem dX8_count_145 : decode cX8_count 145 = .ok (.aload_n 0, 1) := by decide +kernel
theorem dX8_count_146 : decode cX8_count 146 = .ok (.iconst 1, 1) := by decide +kernel
theorem dX8_count_147 : decode cX8_count 147 = .ok (.invokevirtual 62, 3) := by decide +kernel
theorem dX8_count_150 : decode cX8_count 150 = .ok (.ireturn, 1) := by decide +kernel
theorem dX8_priorityOf_0 : decode cX8_priorityOf 0 = .ok (.iconst 0, 1) := by decide +kernel
theorem dX8_priorityOf_1 : decode cX8_priorityOf 1 = .ok (.istore_n 2, 1) := by decide +kernel
theorem dX8_priorityOf_2 : decode cX8_priorityOf 2 = .ok (.iload_n 2, 1) := by decide +kernel
theorem dX8_priorityOf_3 : decode cX8_priorityOf 3 = .ok (.bipush 10, 2) := by decide +kernel
theorem dX8_priorityOf_5 : decode cX8_priorityOf 5 = .ok (.if_icmp .ge 25, 3) := by decide +kernel
theorem dX8_priorityOf_8 : decode cX8_priorityOf 8 = .ok (.aload_n 0, 1) := by decide +kernel
theorem dX8_priorityOf_9 : decode cX8_priorityOf 9 = .ok (.getfield 39, 3) := by decide +kernel
theorem dX8_priorityOf_12 : decode cX8_priorityOf 12 = .ok (.iload_n 2, 1) := by decide +kernel
theorem dX8_priorityOf_13 : decode cX8_priorityOf 13 = .ok (.iload_n 2, 1) := by decide +kernel
theorem dX8_priorityOf_14 : decode cX8_priorityOf 14 = .ok (.iload_n 1, 1) := by decide +kernel
theorem dX8_priorityOf_15 : decode cX8_priorityOf 15 = .ok (.if_icmp .ne 7, 3) := by decide +kernel
theorem dX8_priorityOf_18 : decode cX8_priorityOf 18 = .ok (.iconst 1, 1) := by decide +kernel
theorem dX8_priorityOf_19 : decode cX8_priorityOf 19 = .ok (.goto 4, 3) := by decide +kernel
theorem dX8_priorityOf_22 : decode cX8_priorityOf 22 = .ok (.iconst 0, 1) := by decide +kernel
theorem dX8_priorityOf_23 : decode cX8_priorityOf 23 = .ok (.bastore, 1) := by decide +kernel
theorem dX8_priorityOf_24 : decode cX8_priorityOf 24 = .ok (.iinc 2 1, 3) := by decide +kernel
theorem dX8_priorityOf_27 : decode cX8_priorityOf 27 = .ok (.goto (-25), 3) := by decide +kernel
theorem dX8_priorityOf_30 : decode cX8_priorityOf 30 = .ok (.aload_n 0, 1) := by decide +kernel
theorem dX8_priorityOf_31 : decode cX8_priorityOf 31 = .ok (.getfield 7, 3) := by decide +kernel
theorem dX8_priorityOf_34 : decode cX8_priorityOf 34 = .ok (.iconst 1, 1) := by decide +kernel
theorem dX8_priorityOf_35 : decode cX8_priorityOf 35 = .ok (.iaload, 1) := by decide +kernel
theorem dX8_priorityOf_36 : decode cX8_priorityOf 36 = .ok (.iconst 1, 1) := by decide +kernel
theorem dX8_priorityOf_37 : decode cX8_priorityOf 37 = .ok (.if_icmp .ne 7, 3) := by decide +kernel
theorem dX8_priorityOf_40 : decode cX8_priorityOf 40 = .ok (.iconst 1, 1) := by decide +kernel
theorem dX8_priorityOf_41 : decode cX8_priorityOf 41 = .ok (.goto 4, 3) := by decide +kernel
theorem dX8_priorityOf_44 : decode cX8_priorityOf 44 = .ok (.iconst 0, 1) := by decide +kernel
theorem dX8_priorityOf_45 : decode cX8_priorityOf 45 = .ok (.istore_n 2, 1) := by decide +kernel
theorem dX8_priorityOf_46 : decode cX8_priorityOf 46 = .ok (.iload_n 2, 1) := by decide +kernel
theorem dX8_priorityOf_47 : decode cX8_priorityOf 47 = .ok (.ifCond .eq 77, 3) := by decide +kernel
theorem dX8_priorityOf_50 : decode cX8_priorityOf 50 = .ok (.iconst 0, 1) := by decide +kernel
theorem dX8_priorityOf_51 : decode cX8_priorityOf 51 = .ok (.istore_n 2, 1) := by decide +kernel
theorem dX8_priorityOf_52 : decode cX8_priorityOf 52 = .ok (.iconst 0, 1) := by decide +kernel
theorem dX8_priorityOf_53 : decode cX8_priorityOf 53 = .ok (.istore_n 3, 1) := by decide +kernel
theorem dX8_priorityOf_54 : decode cX8_priorityOf 54 = .ok (.iload_n 3, 1) := by decide +kernel
theorem dX8_priorityOf_55 : decode cX8_priorityOf 55 = .ok (.aload_n 0, 1) := by decide +kernel
theorem dX8_priorityOf_56 : decode cX8_priorityOf 56 = .ok (.getfield 7, 3) := by decide +kernel
theorem dX8_priorityOf_59 : decode cX8_priorityOf 59 = .ok (.iconst 2, 1) := by decide +kernel
theorem dX8_priorityOf_60 : decode cX8_priorityOf 60 = .ok (.iaload, 1) := by decide +kernel
theorem dX8_priorityOf_61 : decode cX8_priorityOf 61 = .ok (.if_icmp .ge 60, 3) := by decide +kernel
theorem dX8_priorityOf_64 : decode cX8_priorityOf 64 = .ok (.aload_n 0, 1) := by decide +kernel
theorem dX8_priorityOf_65 : decode cX8_priorityOf 65 = .ok (.getfield 39, 3) := by decide +kernel
theorem dX8_priorityOf_68 : decode cX8_priorityOf 68 = .ok (.iload_n 3, 1) := by decide +kernel
theorem dX8_priorityOf_69 : decode cX8_priorityOf 69 = .ok (.baload, 1) := by decide +kernel
theorem dX8_priorityOf_70 : decode cX8_priorityOf 70 = .ok (.ifCond .ne 45, 3) := by decide +kernel
theorem dX8_priorityOf_73 : decode cX8_priorityOf 73 = .ok (.aload_n 0, 1) := by decide +kernel
theorem dX8_priorityOf_74 : decode cX8_priorityOf 74 = .ok (.iload_n 3, 1) := by decide +kernel
theorem dX8_priorityOf_75 : decode cX8_priorityOf 75 = .ok (.iconst 3, 1) := by decide +kernel
theorem dX8_priorityOf_76 : decode cX8_priorityOf 76 = .ok (.invokevirtual 164, 3) := by decide +kernel
theorem dX8_priorityOf_79 : decode cX8_priorityOf 79 = .ok (.iconst 2, 1) := by decide +kernel
theorem dX8_priorityOf_80 : decode cX8_priorityOf 80 = .ok (.if_icmp .ne 35, 3) := by decide +kernel
theorem dX8_priorityOf_83 : decode cX8_priorityOf 83 = .ok (.aload_n 0, 1) := by decide +kernel
theorem dX8_priorityOf_84 : decode cX8_priorityOf 84 = .ok (.getfield 39, 3) := by decide +kernel
theorem dX8_priorityOf_87 : decode cX8_priorityOf 87 = .ok (.aload_n 0, 1) := by decide +kernel
theorem dX8_priorityOf_88 : decode cX8_priorityOf 88 = .ok (.getfield 7, 3) := by decide +kernel
theorem dX8_priorityOf_91 : decode cX8_priorityOf 91 = .ok (.bipush 14, 2) := by decide +kernel
theorem dX8_priorityOf_93 : decode cX8_priorityOf 93 = .ok (.aload_n 0, 1) := by decide +kernel
theorem dX8_priorityOf_94 : decode cX8_priorityOf 94 = .ok (.iload_n 3, 1) := by decide +kernel
theorem dX8_priorityOf_95 : decode cX8_priorityOf 95 = .ok (.bipush 8, 2) := by decide +kernel
theorem dX8_priorityOf_97 : decode cX8_priorityOf 97 = .ok (.invokevirtual 164, 3) := by decide +kernel
theorem dX8_priorityOf_100 : decode cX8_priorityOf 100 = .ok (.iadd, 1) := by decide +kernel
theorem dX8_priorityOf_101 : decode cX8_priorityOf 101 = .ok (.iaload, 1) := by decide +kernel
theorem dX8_priorityOf_102 : decode cX8_priorityOf 102 = .ok (.baload, 1) := by decide +kernel
theorem dX8_priorityOf_103 : decode cX8_priorityOf 103 = .ok (.ifCond .eq 12, 3) := by decide +kernel
theorem dX8_priorityOf_106 : decode cX8_priorityOf 106 = .ok (.aload_n 0, 1) := by decide +kernel
theorem dX8_priorityOf_107 : decode cX8_priorityOf 107 = .ok (.getfield 39, 3) := by decide +kernel
theorem dX8_priorityOf_110 : decode cX8_priorityOf 110 = .ok (.iload_n 3, 1) := by decide +kernel
theorem dX8_priorityOf_111 : decode cX8_priorityOf 111 = .ok (.iconst 1, 1) := by decide +kernel
theorem dX8_priorityOf_112 : decode cX8_priorityOf 112 = .ok (.bastore, 1) := by decide +kernel
theorem dX8_priorityOf_113 : decode cX8_priorityOf 113 = .ok (.iconst 1, 1) := by decide +kernel
theorem dX8_priorityOf_114 : decode cX8_priorityOf 114 = .ok (.istore_n 2, 1) := by decide +kernel
theorem dX8_priorityOf_115 : decode cX8_priorityOf 115 = .ok (.iinc 3 1, 3) := by decide +kernel
theorem dX8_priorityOf_118 : decode cX8_priorityOf 118 = .ok (.goto (-64), 3) := by decide +kernel
theorem dX8_priorityOf_121 : decode cX8_priorityOf 121 = .ok (.goto (-75), 3) := by decide +kernel
theorem dX8_priorityOf_124 : decode cX8_priorityOf 124 = .ok (.iconst 0, 1) := by decide +kernel
theorem dX8_priorityOf_125 : decode cX8_priorityOf 125 = .ok (.istore_n 3, 1) := by decide +kernel
theorem dX8_priorityOf_126 : decode cX8_priorityOf 126 = .ok (.iconst 0, 1) := by decide +kernel
theorem dX8_priorityOf_127 : decode cX8_priorityOf 127 = .ok (.istore 4, 2) := by decide +kernel
theorem dX8_priorityOf_129 : decode cX8_priorityOf 129 = .ok (.iload 4, 2) := by decide +kernel
theorem dX8_priorityOf_131 : decode cX8_priorityOf 131 = .ok (.aload_n 0, 1) := by decide +kernel
theorem dX8_priorityOf_132 : decode cX8_priorityOf 132 = .ok (.getfield 7, 3) := by decide +kernel
theorem dX8_priorityOf_135 : decode cX8_priorityOf 135 = .ok (.iconst 2, 1) := by decide +kernel
theorem dX8_priorityOf_136 : decode cX8_priorityOf 136 = .ok (.iaload, 1) := by decide +kernel
theorem dX8_priorityOf_137 : decode cX8_priorityOf 137 = .ok (.if_icmp .ge 35, 3) := by decide +kernel
theorem dX8_priorityOf_140 : decode cX8_priorityOf 140 = .ok (.aload_n 0, 1) := by decide +kernel
theorem dX8_priorityOf_141 : decode cX8_priorityOf 141 = .ok (.getfield 39, 3) := by decide +kernel
theorem dX8_priorityOf_144 : decode cX8_priorityOf 144 = .ok (.iload 4, 2) := by decide +kernel
theorem dX8_priorityOf_146 : decode cX8_priorityOf 146 = .ok (.baload, 1) := by decide +kernel
theorem dX8_priorityOf_147 : decode cX8_priorityOf 147 = .ok (.ifCond .eq 17, 3) := by decide +kernel
theorem dX8_priorityOf_150 : decode cX8_priorityOf 150 = .ok (.iload_n 3, 1) := by decide +kernel
theorem dX8_priorityOf_151 : decode cX8_priorityOf 151 = .ok (.aload_n 0, 1) := by decide +kernel
theorem dX8_priorityOf_152 : decode cX8_priorityOf 152 = .ok (.iload 4, 2) := by decide +kernel
theorem dX8_priorityOf_154 : decode cX8_priorityOf 154 = .ok (.iconst 0, 1) := by decide +kernel
theorem dX8_priorityOf_155 : decode cX8_priorityOf 155 = .ok (.invokevirtual 164, 3) := by decide +kernel
theorem dX8_priorityOf_158 : decode cX8_priorityOf 158 = .ok (.invokestatic 237, 3) := by decide +kernel
theorem dX8_priorityOf_161 : decode cX8_priorityOf 161 = .ok (.goto 4, 3) := by decide +kernel
theorem dX8_priorityOf_164 : decode cX8_priorityOf 164 = .ok (.iload_n 3, 1) := by decide +kernel
theorem dX8_priorityOf_165 : decode cX8_priorityOf 165 = .ok (.istore_n 3, 1) := by decide +kernel
theorem dX8_priorityOf_166 : decode cX8_priorityOf 166 = .ok (.iinc 4 1, 3) := by decide +kernel
theorem dX8_priorityOf_169 : decode cX8_priorityOf 169 = .ok (.goto (-40), 3) := by decide +kernel
theorem dX8_priorityOf_172 : decode cX8_priorityOf 172 = .ok (.iload_n 3, 1) := by decide +kernel
theorem dX8_priorityOf_173 : decode cX8_priorityOf 173 = .ok (.ireturn, 1) := by decide +kernel
theorem dX8_thread_0 : decode cX8_thread 0 = .ok (.aload_n 0, 1) := by decide +kernel
theorem dX8_thread_1 : decode cX8_thread 1 = .ok (.iconst 0, 1) := by decide +kernel
theorem dX8_thread_2 : decode cX8_thread 2 = .ok (.putfield 48, 3) := by decide +kernel
theorem dX8_thread_5 : decode cX8_thread 5 = .ok (.aload_n 0, 1) := by decide +kernel
theorem dX8_thread_6 : decode cX8_thread 6 = .ok (.iload_n 1, 1) := by decide +kernel
theorem dX8_thread_7 : decode cX8_thread 7 = .ok (.invokevirtual 228, 3) := by decide +kernel
theorem dX8_thread_10 : decode cX8_thread 10 = .ok (.ifCond .ne 9, 3) := by decide +kernel
theorem dX8_thread_13 : decode cX8_thread 13 = .ok (.aload_n 0, 1) := by decide +kernel
theorem dX8_thread_14 : decode cX8_thread 14 = .ok (.iconst 1, 1) := by decide +kernel
theorem dX8_thread_15 : decode cX8_thread 15 = .ok (.invokevirtual 62, 3) := by decide +kernel
theorem dX8_thread_18 : decode cX8_thread 18 = .ok (.ireturn, 1) := by decide +kernel
theorem dX8_thread_19 : decode cX8_thread 19 = .ok (.iload_n 2, 1) := by decide +kernel
theorem dX8_thread_20 : decode cX8_thread 20 = .ok (.tableswitch 176 0 18 #[92, 99, 105, 112, 119, 119, 119, 119, 119, 126, 132, 132, 132, 132, 132, 132, 132, 141, 169], 92) := by decide +kernel
theorem dX8_thread_112 : decode cX8_thread 112 = .ok (.aload_n 0, 1) := by decide +kernel
theorem dX8_thread_113 : decode cX8_thread 113 = .ok (.iload_n 1, 1) := by decide +kernel
theorem dX8_thread_114 : decode cX8_thread 114 = .ok (.iconst 0, 1) := by decide +kernel
theorem dX8_thread_115 : decode cX8_thread 115 = .ok (.invokevirtual 164, 3) := by decide +kernel
theorem dX8_thread_118 : decode cX8_thread 118 = .ok (.ireturn, 1) := by decide +kernel
theorem dX8_thread_119 : decode cX8_thread 119 = .ok (.aload_n 0, 1) := by decide +kernel
theorem dX8_thread_120 : decode cX8_thread 120 = .ok (.iload_n 1, 1) := by decide +kernel
theorem dX8_thread_121 : decode cX8_thread 121 = .ok (.invokevirtual 242, 3) := by decide +kernel
theorem dX8_thread_124 : decode cX8_thread 124 = .ok (.ireturn, 1) := by decide +kernel
theorem dX8_thread_125 : decode cX8_thread 125 = .ok (.aload_n 0, 1) := by decide +kernel
theorem dX8_thread_126 : decode cX8_thread 126 = .ok (.iload_n 1, 1) := by decide +kernel
theorem dX8_thread_127 : decode cX8_thread 127 = .ok (.iconst 3, 1) := by decide +kernel
theorem dX8_thread_128 : decode cX8_thread 128 = .ok (.invokevirtual 164, 3) := by decide +kernel
theorem dX8_thread_131 : decode cX8_thread 131 = .ok (.ireturn, 1) := by decide +kernel
theorem dX8_thread_132 : decode cX8_thread 132 = .ok (.aload_n 0, 1) := by decide +kernel
theorem dX8_thread_133 : decode cX8_thread 133 = .ok (.iload_n 1, 1) := by decide +kernel
theorem dX8_thread_134 : decode cX8_thread 134 = .ok (.iconst 2, 1) := by decide +kernel
theorem dX8_thread_135 : decode cX8_thread 135 = .ok (.invokevirtual 164, 3) := by decide +kernel
theorem dX8_thread_138 : decode cX8_thread 138 = .ok (.ireturn, 1) := by decide +kernel
theorem dX8_thread_139 : decode cX8_thread 139 = .ok (.aload_n 0, 1) := by decide +kernel
theorem dX8_thread_140 : decode cX8_thread 140 = .ok (.iload_n 1, 1) := by decide +kernel
theorem dX8_thread_141 : decode cX8_thread 141 = .ok (.iload_n 2, 1) := by decide +kernel
theorem dX8_thread_142 : decode cX8_thread 142 = .ok (.invokevirtual 164, 3) := by decide +kernel
theorem dX8_thread_145 : decode cX8_thread 145 = .ok (.ireturn, 1) := by decide +kernel
theorem dX8_thread_146 : decode cX8_thread 146 = .ok (.aload_n 0, 1) := by decide +kernel
theorem dX8_thread_147 : decode cX8_thread 147 = .ok (.iload_n 1, 1) := by decide +kernel
theorem dX8_thread_148 : decode cX8_thread 148 = .ok (.invokevirtual 245, 3) := by decide +kernel
theorem dX8_thread_151 : decode cX8_thread 151 = .ok (.ireturn, 1) := by decide +kernel
theorem dX8_thread_152 : decode cX8_thread 152 = .ok (.aload_n 0, 1) := by decide +kernel
theorem dX8_thread_153 : decode cX8_thread 153 = .ok (.iload_n 1, 1) := by decide +kernel
theorem dX8_thread_154 : decode cX8_thread 154 = .ok (.iload_n 2, 1) := by decide +kernel
theorem dX8_thread_155 : decode cX8_thread 155 = .ok (.iconst 1, 1) := by decide +kernel
theorem dX8_thread_156 : decode cX8_thread 156 = .ok (.isub, 1) := by decide +kernel
theorem dX8_thread_157 : decode cX8_thread 157 = .ok (.invokevirtual 164, 3) := by decide +kernel
theorem dX8_thread_160 : decode cX8_thread 160 = .ok (.ireturn, 1) := by decide +kernel
theorem dX8_thread_161 : decode cX8_thread 161 = .ok (.aload_n 0, 1) := by decide +kernel
theorem dX8_thread_162 : decode cX8_thread 162 = .ok (.iload_n 1, 1) := by decide +kernel
theorem dX8_thread_163 : decode cX8_thread 163 = .ok (.bipush 16, 2) := by decide +kernel
theorem dX8_thread_165 : decode cX8_thread 165 = .ok (.invokevirtual 164, 3) := by decide +kernel
theorem dX8_thread_168 : decode cX8_thread 168 = .ok (.iconst (-1), 1) := by decide +kernel
theorem dX8_thread_169 : decode cX8_thread 169 = .ok (.if_icmp .ne 12, 3) := by decide +kernel
theorem dX8_thread_172 : decode cX8_thread 172 = .ok (.aload_n 0, 1) := by decide +kernel
theorem dX8_thread_173 : decode cX8_thread 173 = .ok (.iload_n 1, 1) := by decide +kernel
theorem dX8_thread_174 : decode cX8_thread 174 = .ok (.iconst 0, 1) := by decide +kernel
theorem dX8_thread_175 : decode cX8_thread 175 = .ok (.invokevirtual 164, 3) := by decide +kernel
theorem dX8_thread_178 : decode cX8_thread 178 = .ok (.goto 10, 3) := by decide +kernel
theorem dX8_thread_181 : decode cX8_thread 181 = .ok (.aload_n 0, 1) := by decide +kernel
theorem dX8_thread_182 : decode cX8_thread 182 = .ok (.iload_n 1, 1) := by decide +kernel
theorem dX8_thread_183 : decode cX8_thread 183 = .ok (.bipush 16, 2) := by decide +kernel
theorem dX8_thread_185 : decode cX8_thread 185 = .ok (.invokevirtual 164, 3) := by decide +kernel
theorem dX8_thread_188 : decode cX8_thread 188 = .ok (.ireturn, 1) := by decide +kernel
theorem dX8_thread_189 : decode cX8_thread 189 = .ok (.aload_n 0, 1) := by decide +kernel
theorem dX8_thread_190 : decode cX8_thread 190 = .ok (.iload_n 1, 1) := by decide +kernel
theorem dX8_thread_191 : decode cX8_thread 191 = .ok (.iconst 1, 1) := by decide +kernel
theorem dX8_thread_192 : decode cX8_thread 192 = .ok (.invokevirtual 164, 3) := by decide +kernel
theorem dX8_thread_195 : decode cX8_thread 195 = .ok (.ireturn, 1) := by decide +kernel
theorem dX8_thread_196 : decode cX8_thread 196 = .ok (.aload_n 0, 1) := by decide +kernel
theorem dX8_thread_197 : decode cX8_thread 197 = .ok (.iconst 2, 1) := by decide +kernel
theorem dX8_thread_198 : decode cX8_thread 198 = .ok (.invokevirtual 62, 3) := by decide +kernel
theorem dX8_thread_201 : decode cX8_thread 201 = .ok (.ireturn, 1) := by decide +kernel
theorem dX8_instruction_0 : decode cX8_instruction 0 = .ok (.aload_n 0, 1) := by decide +kernel
theorem dX8_instruction_1 : decode cX8_instruction 1 = .ok (.iconst 0, 1) := by decide +kernel
theorem dX8_instruction_2 : decode cX8_instruction 2 = .ok (.putfield 48, 3) := by decide +kernel
theorem dX8_instruction_5 : decode cX8_instruction 5 = .ok (.aload_n 0, 1) := by decide +kernel
theorem dX8_instruction_6 : decode cX8_instruction 6 = .ok (.iload_n 1, 1) := by decide +kernel
theorem dX8_instruction_7 : decode cX8_instruction 7 = .ok (.invokevirtual 228, 3) := by decide +kernel
theorem dX8_instruction_10 : decode cX8_instruction 10 = .ok (.ifCond .eq 19, 3) := by decide +kernel
theorem dX8_instruction_13 : decode cX8_instruction 13 = .ok (.iload_n 2, 1) := by decide +kernel
theorem dX8_instruction_14 : decode cX8_instruction 14 = .ok (.iconst 0, 1) := by decide +kernel
theorem dX8_instruction_15 : decode cX8_instruction 15 = .ok (.aload_n 0, 1) := by decide +kernel
theorem dX8_instruction_16 : decode cX8_instruction 16 = .ok (.iload_n 1, 1) := by decide +kernel
theorem dX8_instruction_17 : decode cX8_instruction 17 = .ok (.iconst 1, 1) := by decide +kernel
theorem dX8_instruction_18 : decode cX8_instruction 18 = .ok (.invokevirtual 164, 3) := by decide +kernel
theorem dX8_instruction_21 : decode cX8_instruction 21 = .ok (.iconst 1, 1) := by decide +kernel
theorem dX8_instruction_22 : decode cX8_instruction 22 = .ok (.isub, 1) := by decide +kernel
theorem dX8_instruction_23 : decode cX8_instruction 23 = .ok (.invokestatic 51, 3) := by decide +kernel
theorem dX8_instruction_26 : decode cX8_instruction 26 = .ok (.ifCond .ne 9, 3) := by decide +kernel
theorem dX8_instruction_29 : decode cX8_instruction 29 = .ok (.aload_n 0, 1) := by decide +kernel
theorem dX8_instruction_30 : decode cX8_instruction 30 = .ok (.iconst 1, 1) := by decide +kernel
theorem dX8_instruction_31 : decode cX8_instruction 31 = .ok (.invokevirtual 62, 3) := by decide +kernel
theorem dX8_instruction_34 : decode cX8_instruction 34 = .ok (.ireturn, 1) := by decide +kernel
theorem dX8_instruction_35 : decode cX8_instruction 35 = .ok (.iload_n 3, 1) := by decide +kernel
theorem dX8_instruction_36 : decode cX8_instruction 36 = .ok (.iconst 0, 1) := by decide +kernel
theorem dX8_instruction_37 : decode cX8_instruction 37 = .ok (.iconst 1, 1) := by decide +kernel
theorem dX8_instruction_38 : decode cX8_instruction 38 = .ok (.invokestatic 51, 3) := by decide +kernel
theorem dX8_instruction_41 : decode cX8_instruction 41 = .ok (.ifCond .eq 18, 3) := by decide +kernel
theorem dX8_instruction_44 : decode cX8_instruction 44 = .ok (.aload_n 0, 1) := by decide +kernel
theorem dX8_instruction_45 : decode cX8_instruction 45 = .ok (.getfield 7, 3) := by decide +kernel
theorem dX8_instruction_48 : decode cX8_instruction 48 = .ok (.iload_n 1, 1) := by decide +kernel
theorem dX8_instruction_49 : decode cX8_instruction 49 = .ok (.iload_n 2, 1) := by decide +kernel
theorem dX8_instruction_50 : decode cX8_instruction 50 = .ok (.invokestatic 218, 3) := by decide +kernel
theorem dX8_instruction_53 : decode cX8_instruction 53 = .ok (.iload_n 3, 1) := by decide +kernel
theorem dX8_instruction_54 : decode cX8_instruction 54 = .ok (.iadd, 1) := by decide +kernel
theorem dX8_instruction_55 : decode cX8_instruction 55 = .ok (.iaload, 1) := by decide +kernel
theorem dX8_instruction_56 : decode cX8_instruction 56 = .ok (.goto 8, 3) := by decide +kernel
theorem dX8_instruction_59 : decode cX8_instruction 59 = .ok (.aload_n 0, 1) := by decide +kernel
theorem dX8_instruction_60 : decode cX8_instruction 60 = .ok (.iconst 2, 1) := by decide +kernel
theorem dX8_instruction_61 : decode cX8_instruction 61 = .ok (.invokevirtual 62, 3) := by decide +kernel
theorem dX8_instruction_64 : decode cX8_instruction 64 = .ok (.ireturn, 1) := by decide +kernel
theorem dX8_waiter_0 : decode cX8_waiter 0 = .ok (.iconst (-1), 1) := by decide +kernel
theorem dX8_waiter_1 : decode cX8_waiter 1 = .ok (.istore_n 3, 1) := by decide +kernel
theorem dX8_waiter_2 : decode cX8_waiter 2 = .ok (.iconst (-1), 1) := by decide +kernel
theorem dX8_waiter_3 : decode cX8_waiter 3 = .ok (.istore 4, 2) := by decide +kernel
theorem dX8_waiter_5 : decode cX8_waiter 5 = .ok (.iconst 0, 1) := by decide +kernel
theorem dX8_waiter_6 : decode cX8_waiter 6 = .ok (.istore 5, 2) := by decide +kernel
theorem dX8_waiter_8 : decode cX8_waiter 8 = .ok (.iload 5, 2) := by decide +kernel
theorem dX8_waiter_10 : decode cX8_waiter 10 = .ok (.iload_n 2, 1) := by decide +kernel
theorem dX8_waiter_11 : decode cX8_waiter 11 = .ok (.if_icmp .ge 130, 3) := by decide +kernel
theorem dX8_waiter_14 : decode cX8_waiter 14 = .ok (.iconst (-1), 1) := by decide +kernel
theorem dX8_waiter_15 : decode cX8_waiter 15 = .ok (.istore 4, 2) := by decide +kernel
theorem dX8_waiter_17 : decode cX8_waiter 17 = .ok (.iconst 0, 1) := by decide +kernel
theorem dX8_waiter_18 : decode cX8_waiter 18 = .ok (.istore 6, 2) := by decide +kernel
theorem dX8_waiter_20 : decode cX8_waiter 20 = .ok (.iload 6, 2) := by decide +kernel
theorem dX8_waiter_22 : decode cX8_waiter 22 = .ok (.aload_n 0, 1) := by decide +kernel
theorem dX8_waiter_23 : decode cX8_waiter 23 = .ok (.getfield 7, 3) := by decide +kernel
theorem dX8_waiter_26 : decode cX8_waiter 26 = .ok (.iconst 2, 1) := by decide +kernel
theorem dX8_waiter_27 : decode cX8_waiter 27 = .ok (.iaload, 1) := by decide +kernel
theorem dX8_waiter_28 : decode cX8_waiter 28 = .ok (.if_icmp .ge 90, 3) := by decide +kernel
theorem dX8_waiter_31 : decode cX8_waiter 31 = .ok (.aload_n 0, 1) := by decide +kernel
theorem dX8_waiter_32 : decode cX8_waiter 32 = .ok (.iload 6, 2) := by decide +kernel
theorem dX8_waiter_34 : decode cX8_waiter 34 = .ok (.iconst 3, 1) := by decide +kernel
theorem dX8_waiter_35 : decode cX8_waiter 35 = .ok (.invokevirtual 164, 3) := by decide +kernel
theorem dX8_waiter_38 : decode cX8_waiter 38 = .ok (.iconst 2, 1) := by decide +kernel
theorem dX8_waiter_39 : decode cX8_waiter 39 = .ok (.if_icmp .ne 31, 3) := by decide +kernel
theorem dX8_waiter_42 : decode cX8_waiter 42 = .ok (.aload_n 0, 1) := by decide +kernel
theorem dX8_waiter_43 : decode cX8_waiter 43 = .ok (.iload 6, 2) := by decide +kernel
theorem dX8_waiter_45 : decode cX8_waiter 45 = .ok (.bipush 8, 2) := by decide +kernel
theorem dX8_waiter_47 : decode cX8_waiter 47 = .ok (.invokevirtual 164, 3) := by decide +kernel
theorem dX8_waiter_50 : decode cX8_waiter 50 = .ok (.iload_n 1, 1) := by decide +kernel
theorem dX8_waiter_51 : decode cX8_waiter 51 = .ok (.if_icmp .ne 19, 3) := by decide +kernel
theorem dX8_waiter_54 : decode cX8_waiter 54 = .ok (.aload_n 0, 1) := by decide +kernel
theorem dX8_waiter_55 : decode cX8_waiter 55 = .ok (.iload 6, 2) := by decide +kernel
theorem dX8_waiter_57 : decode cX8_waiter 57 = .ok (.bipush 18, 2) := by decide +kernel
theorem dX8_waiter_59 : decode cX8_waiter 59 = .ok (.invokevirtual 164, 3) := by decide +kernel
theorem dX8_waiter_62 : decode cX8_waiter 62 = .ok (.iload_n 3, 1) := by decide +kernel
theorem dX8_waiter_63 : decode cX8_waiter 63 = .ok (.if_icmp .le 7, 3) := by decide +kernel
theorem dX8_waiter_66 : decode cX8_waiter 66 = .ok (.iconst 1, 1) := by decide +kernel
theorem dX8_waiter_67 : decode cX8_waiter 67 = .ok (.goto 4, 3) := by decide +kernel
theorem dX8_waiter_70 : decode cX8_waiter 70 = .ok (.iconst 0, 1) := by decide +kernel
theorem dX8_waiter_71 : decode cX8_waiter 71 = .ok (.istore 7, 2) := by decide +kernel
theorem dX8_waiter_73 : decode cX8_waiter 73 = .ok (.iload 7, 2) := by decide +kernel
theorem dX8_waiter_75 : decode cX8_waiter 75 = .ok (.ifCond .eq 33, 3) := by decide +kernel
theorem dX8_waiter_78 : decode cX8_waiter 78 = .ok (.iload 4, 2) := by decide +kernel
theorem dX8_waiter_80 : decode cX8_waiter 80 = .ok (.iconst (-1), 1) := by decide +kernel
theorem dX8_waiter_81 : decode cX8_waiter 81 = .ok (.if_icmp .eq 22, 3) := by decide +kernel
theorem dX8_waiter_84 : decode cX8_waiter 84 = .ok (.aload_n 0, 1) := by decide +kernel
theorem dX8_waiter_85 : decode cX8_waiter 85 = .ok (.iload 6, 2) := by decide +kernel
theorem dX8_waiter_87 : decode cX8_waiter 87 = .ok (.bipush 18, 2) := by decide +kernel
theorem dX8_waiter_89 : decode cX8_waiter 89 = .ok (.invokevirtual 164, 3) := by decide +kernel
theorem dX8_waiter_92 : decode cX8_waiter 92 = .ok (.aload_n 0, 1) := by decide +kernel
theorem dX8_waiter_93 : decode cX8_waiter 93 = .ok (.iload 4, 2) := by decide +kernel
theorem dX8_waiter_95 : decode cX8_waiter 95 = .ok (.bipush 18, 2) := by decide +kernel
theorem dX8_waiter_97 : decode cX8_waiter 97 = .ok (.invokevirtual 164, 3) := by decide +kernel
theorem dX8_waiter_100 : decode cX8_waiter 100 = .ok (.if_icmp .ge 8, 3) := by decide +kernel
theorem dX8_waiter_103 : decode cX8_waiter 103 = .ok (.iload 6, 2) := by decide +kernel
theorem dX8_waiter_105 : decode cX8_waiter 105 = .ok (.goto 5, 3) := by decide +kernel
theorem dX8_waiter_108 : decode cX8_waiter 108 = .ok (.iload 4, 2) := by decide +kernel
theorem dX8_waiter_110 : decode cX8_waiter 110 = .ok (.istore 4, 2) := by decide +kernel
theorem dX8_waiter_112 : decode cX8_waiter 112 = .ok (.iinc 6 1, 3) := by decide +kernel
theorem dX8_waiter_115 : decode cX8_waiter 115 = .ok (.goto (-95), 3) := by decide +kernel
theorem dX8_waiter_118 : decode cX8_waiter 118 = .ok (.iload 4, 2) := by decide +kernel
theorem dX8_waiter_120 : decode cX8_waiter 120 = .ok (.iconst (-1), 1) := by decide +kernel
theorem dX8_waiter_121 : decode cX8_waiter 121 = .ok (.if_icmp .ne 5, 3) := by decide +kernel
theorem dX8_waiter_124 : decode cX8_waiter 124 = .ok (.iconst (-1), 1) := by decide +kernel
theorem dX8_waiter_125 : decode cX8_waiter 125 = .ok (.ireturn, 1) := by decide +kernel
theorem dX8_waiter_126 : decode cX8_waiter 126 = .ok (.aload_n 0, 1) := by decide +kernel
theorem dX8_waiter_127 : decode cX8_waiter 127 = .ok (.iload 4, 2) := by decide +kernel
theorem dX8_waiter_129 : decode cX8_waiter 129 = .ok (.bipush 18, 2) := by decide +kernel
theorem dX8_waiter_131 : decode cX8_waiter 131 = .ok (.invokevirtual 164, 3) := by decide +kernel
theorem dX8_waiter_134 : decode cX8_waiter 134 = .ok (.istore_n 3, 1) := by decide +kernel
theorem dX8_waiter_135 : decode cX8_waiter 135 = .ok (.iinc 5 1, 3) := by decide +kernel
theorem dX8_waiter_138 : decode cX8_waiter 138 = .ok (.goto (-130), 3) := by decide +kernel
theorem dX8_waiter_141 : decode cX8_waiter 141 = .ok (.iload 4, 2) := by decide +kernel
theorem dX8_waiter_143 : decode cX8_waiter 143 = .ok (.ireturn, 1) := by decide +kernel
theorem dX8_lock_0 : decode cX8_lock 0 = .ok (.aload_n 0, 1) := by decide +kernel
theorem dX8_lock_1 : decode cX8_lock 1 = .ok (.iconst 0, 1) := by decide +kernel
theorem dX8_lock_2 : decode cX8_lock 2 = .ok (.putfield 48, 3) := by decide +kernel
theorem dX8_lock_5 : decode cX8_lock 5 = .ok (.iload_n 1, 1) := by decide +kernel
theorem dX8_lock_6 : decode cX8_lock 6 = .ok (.iconst 0, 1) := by decide +kernel
theorem dX8_lock_7 : decode cX8_lock 7 = .ok (.iconst 5, 1) := by decide +kernel
theorem dX8_lock_8 : decode cX8_lock 8 = .ok (.invokestatic 51, 3) := by decide +kernel
theorem dX8_lock_11 : decode cX8_lock 11 = .ok (.ifCond .eq 7, 3) := by decide +kernel
theorem dX8_lock_14 : decode cX8_lock 14 = .ok (.iload_n 2, 1) := by decide +kernel
theorem dX8_lock_15 : decode cX8_lock 15 = .ok (.ifCond .ge 9, 3) := by decide +kernel
theorem dX8_lock_18 : decode cX8_lock 18 = .ok (.aload_n 0, 1) := by decide +kernel
theorem dX8_lock_19 : decode cX8_lock 19 = .ok (.iconst 1, 1) := by decide +kernel
theorem dX8_lock_20 : decode cX8_lock 20 = .ok (.invokevirtual 62, 3) := by decide +kernel
theorem dX8_lock_23 : decode cX8_lock 23 = .ok (.ireturn, 1) := by decide +kernel
theorem dX8_lock_24 : decode cX8_lock 24 = .ok (.iload_n 2, 1) := by decide +kernel
theorem dX8_lock_25 : decode cX8_lock 25 = .ok (.ifCond .ne 15, 3) := by decide +kernel
theorem dX8_lock_28 : decode cX8_lock 28 = .ok (.aload_n 0, 1) := by decide +kernel
theorem dX8_lock_29 : decode cX8_lock 29 = .ok (.getfield 7, 3) := by decide +kernel
theorem dX8_lock_32 : decode cX8_lock 32 = .ok (.bipush 14, 2) := by decide +kernel
theorem dX8_lock_34 : decode cX8_lock 34 = .ok (.iload_n 1, 1) := by decide +kernel
theorem dX8_lock_35 : decode cX8_lock 35 = .ok (.iadd, 1) := by decide +kernel
theorem dX8_lock_36 : decode cX8_lock 36 = .ok (.iaload, 1) := by decide +kernel
theorem dX8_lock_37 : decode cX8_lock 37 = .ok (.goto 19, 3) := by decide +kernel
theorem dX8_lock_40 : decode cX8_lock 40 = .ok (.iload_n 2, 1) := by decide +kernel
theorem dX8_lock_41 : decode cX8_lock 41 = .ok (.bipush 10, 2) := by decide +kernel
theorem dX8_lock_43 : decode cX8_lock 43 = .ok (.if_icmp .le 7, 3) := by decide +kernel
theorem dX8_lock_46 : decode cX8_lock 46 = .ok (.iconst (-1), 1) := by decide +kernel
theorem dX8_lock_47 : decode cX8_lock 47 = .ok (.goto 9, 3) := by decide +kernel
theorem dX8_lock_50 : decode cX8_lock 50 = .ok (.aload_n 0, 1) := by decide +kernel
theorem dX8_lock_51 : decode cX8_lock 51 = .ok (.iload_n 1, 1) := by decide +kernel
theorem dX8_lock_52 : decode cX8_lock 52 = .ok (.iload_n 2, 1) := by decide +kernel
theorem dX8_lock_53 : decode cX8_lock 53 = .ok (.invokevirtual 248, 3) := by decide +kernel
theorem dX8_lock_56 : decode cX8_lock 56 = .ok (.ireturn, 1) := by decide +kernel
theorem dX8_flag_0 : decode cX8_flag 0 = .ok (.aload_n 0, 1) := by decide +kernel
theorem dX8_flag_1 : decode cX8_flag 1 = .ok (.iload_n 1, 1) := by decide +kernel
theorem dX8_flag_2 : decode cX8_flag 2 = .ok (.iconst 0, 1) := by decide +kernel
theorem dX8_flag_3 : decode cX8_flag 3 = .ok (.bipush 7, 2) := by decide +kernel
theorem dX8_flag_5 : decode cX8_flag 5 = .ok (.invokestatic 51, 3) := by decide +kernel
theorem dX8_flag_8 : decode cX8_flag 8 = .ok (.ifCond .eq 7, 3) := by decide +kernel
theorem dX8_flag_11 : decode cX8_flag 11 = .ok (.iconst 0, 1) := by decide +kernel
theorem dX8_flag_12 : decode cX8_flag 12 = .ok (.goto 4, 3) := by decide +kernel
theorem dX8_flag_15 : decode cX8_flag 15 = .ok (.iconst 1, 1) := by decide +kernel
theorem dX8_flag_16 : decode cX8_flag 16 = .ok (.putfield 48, 3) := by decide +kernel
theorem dX8_flag_19 : decode cX8_flag 19 = .ok (.aload_n 0, 1) := by decide +kernel
theorem dX8_flag_20 : decode cX8_flag 20 = .ok (.getfield 48, 3) := by decide +kernel
theorem dX8_flag_23 : decode cX8_flag 23 = .ok (.ifCond .ne 15, 3) := by decide +kernel
theorem dX8_flag_26 : decode cX8_flag 26 = .ok (.aload_n 0, 1) := by decide +kernel
theorem dX8_flag_27 : decode cX8_flag 27 = .ok (.iload_n 1, 1) := by decide +kernel
theorem dX8_flag_28 : decode cX8_flag 28 = .ok (.invokevirtual 55, 3) := by decide +kernel
theorem dX8_flag_31 : decode cX8_flag 31 = .ok (.ifCond .eq 7, 3) := by decide +kernel
theorem dX8_flag_34 : decode cX8_flag 34 = .ok (.iconst 1, 1) := by decide +kernel
theorem dX8_flag_35 : decode cX8_flag 35 = .ok (.goto 4, 3) := by decide +kernel
theorem dX8_flag_38 : decode cX8_flag 38 = .ok (.iconst 0, 1) := by decide +kernel
theorem dX8_flag_39 : decode cX8_flag 39 = .ok (.ireturn, 1) := by decide +kernel
theorem dX8_note_0 : decode cX8_note 0 = .ok (.aload_n 0, 1) := by decide +kernel
theorem dX8_note_1 : decode cX8_note 1 = .ok (.getfield 7, 3) := by decide +kernel
theorem dX8_note_4 : decode cX8_note 4 = .ok (.bipush 7, 2) := by decide +kernel
theorem dX8_note_6 : decode cX8_note 6 = .ok (.iaload, 1) := by decide +kernel
theorem dX8_note_7 : decode cX8_note 7 = .ok (.bipush 40, 2) := by decide +kernel
theorem dX8_note_9 : decode cX8_note 9 = .ok (.if_icmp .ne 55, 3) := by decide +kernel
theorem dX8_note_12 : decode cX8_note 12 = .ok (.iconst 0, 1) := by decide +kernel
theorem dX8_note_13 : decode cX8_note 13 = .ok (.istore 4, 2) := by decide +kernel
theorem dX8_note_15 : decode cX8_note 15 = .ok (.iload 4, 2) := by decide +kernel
theorem dX8_note_17 : decode cX8_note 17 = .ok (.sipush 156, 3) := by decide +kernel
theorem dX8_note_20 : decode cX8_note 20 = .ok (.if_icmp .ge 33, 3) := by decide +kernel
theorem dX8_note_23 : decode cX8_note 23 = .ok (.aload_n 0, 1) := by decide +kernel
theorem dX8_note_24 : decode cX8_note 24 = .ok (.getfield 7, 3) := by decide +kernel
theorem dX8_note_27 : decode cX8_note 27 = .ok (.sipush 540, 3) := by decide +kernel
theorem dX8_note_30 : decode cX8_note 30 = .ok (.iload 4, 2) := by decide +kernel
theorem dX8_note_32 : decode cX8_note 32 = .ok (.iadd, 1) := by decide +kernel
theorem dX8_note_33 : decode cX8_note 33 = .ok (.aload_n 0, 1) := by decide +kernel
theorem dX8_note_34 : decode cX8_note 34 = .ok (.getfield 7, 3) := by decide +kernel
theorem dX8_note_37 : decode cX8_note 37 = .ok (.sipush 540, 3) := by decide +kernel
theorem dX8_note_40 : decode cX8_note 40 = .ok (.iload 4, 2) := by decide +kernel
theorem dX8_note_42 : decode cX8_note 42 = .ok (.iadd, 1) := by decide +kernel
theorem dX8_note_43 : decode cX8_note 43 = .ok (.iconst 4, 1) := by decide +kernel
theorem dX8_note_44 : decode cX8_note 44 = .ok (.iadd, 1) := by decide +kernel
theorem dX8_note_45 : decode cX8_note 45 = .ok (.iaload, 1) := by decide +kernel
theorem dX8_note_46 : decode cX8_note 46 = .ok (.iastore, 1) := by decide +kernel
theorem dX8_note_47 : decode cX8_note 47 = .ok (.iinc 4 1, 3) := by decide +kernel
theorem dX8_note_50 : decode cX8_note 50 = .ok (.goto (-35), 3) := by decide +kernel
theorem dX8_note_53 : decode cX8_note 53 = .ok (.aload_n 0, 1) := by decide +kernel
theorem dX8_note_54 : decode cX8_note 54 = .ok (.getfield 7, 3) := by decide +kernel
theorem dX8_note_57 : decode cX8_note 57 = .ok (.bipush 7, 2) := by decide +kernel
theorem dX8_note_59 : decode cX8_note 59 = .ok (.dup2, 1) := by decide +kernel
theorem dX8_note_60 : decode cX8_note 60 = .ok (.iaload, 1) := by decide +kernel
theorem dX8_note_61 : decode cX8_note 61 = .ok (.iconst 1, 1) := by decide +kernel
theorem dX8_note_62 : decode cX8_note 62 = .ok (.isub, 1) := by decide +kernel
theorem dX8_note_63 : decode cX8_note 63 = .ok (.iastore, 1) := by decide +kernel
theorem dX8_note_64 : decode cX8_note 64 = .ok (.sipush 540, 3) := by decide +kernel
theorem dX8_note_67 : decode cX8_note 67 = .ok (.iconst 4, 1) := by decide +kernel
theorem dX8_note_68 : decode cX8_note 68 = .ok (.aload_n 0, 1) := by decide +kernel
theorem dX8_note_69 : decode cX8_note 69 = .ok (.getfield 7, 3) := by decide +kernel
theorem dX8_note_72 : decode cX8_note 72 = .ok (.bipush 7, 2) := by decide +kernel
theorem dX8_note_74 : decode cX8_note 74 = .ok (.iaload, 1) := by decide +kernel
theorem dX8_note_75 : decode cX8_note 75 = .ok (.imul, 1) := by decide +kernel
theorem dX8_note_76 : decode cX8_note 76 = .ok (.iadd, 1) := by decide +kernel
theorem dX8_note_77 : decode cX8_note 77 = .ok (.istore 4, 2) := by decide +kernel
theorem dX8_note_79 : decode cX8_note 79 = .ok (.aload_n 0, 1) := by decide +kernel
theorem dX8_note_80 : decode cX8_note 80 = .ok (.getfield 7, 3) := by decide +kernel
theorem dX8_note_83 : decode cX8_note 83 = .ok (.iload 4, 2) := by decide +kernel
theorem dX8_note_85 : decode cX8_note 85 = .ok (.aload_n 0, 1) := by decide +kernel
theorem dX8_note_86 : decode cX8_note 86 = .ok (.getfield 7, 3) := by decide +kernel
theorem dX8_note_89 : decode cX8_note 89 = .ok (.iconst 3, 1) := by decide +kernel
theorem dX8_note_90 : decode cX8_note 90 = .ok (.iaload, 1) := by decide +kernel
theorem dX8_note_91 : decode cX8_note 91 = .ok (.iastore, 1) := by decide +kernel
theorem dX8_note_92 : decode cX8_note 92 = .ok (.aload_n 0, 1) := by decide +kernel
theorem dX8_note_93 : decode cX8_note 93 = .ok (.getfield 7, 3) := by decide +kernel
theorem dX8_note_96 : decode cX8_note 96 = .ok (.iload 4, 2) := by decide +kernel
theorem dX8_note_98 : decode cX8_note 98 = .ok (.iconst 1, 1) := by decide +kernel
theorem dX8_note_99 : decode cX8_note 99 = .ok (.iadd, 1) := by decide +kernel
theorem dX8_note_100 : decode cX8_note 100 = .ok (.iload_n 1, 1) := by decide +kernel
theorem dX8_note_101 : decode cX8_note 101 = .ok (.iastore, 1) := by decide +kernel
theorem dX8_note_102 : decode cX8_note 102 = .ok (.aload_n 0, 1) := by decide +kernel
theorem dX8_note_103 : decode cX8_note 103 = .ok (.getfield 7, 3) := by decide +kernel
theorem dX8_note_106 : decode cX8_note 106 = .ok (.iload 4, 2) := by decide +kernel
theorem dX8_note_108 : decode cX8_note 108 = .ok (.iconst 2, 1) := by decide +kernel
theorem dX8_note_109 : decode cX8_note 109 = .ok (.iadd, 1) := by decide +kernel
theorem dX8_note_110 : decode cX8_note 110 = .ok (.iload_n 2, 1) := by decide +kernel
theorem dX8_note_111 : decode cX8_note 111 = .ok (.iastore, 1) := by decide +kernel
theorem dX8_note_112 : decode cX8_note 112 = .ok (.aload_n 0, 1) := by decide +kernel
theorem dX8_note_113 : decode cX8_note 113 = .ok (.getfield 7, 3) := by decide +kernel
theorem dX8_note_116 : decode cX8_note 116 = .ok (.iload 4, 2) := by decide +kernel
theorem dX8_note_118 : decode cX8_note 118 = .ok (.iconst 3, 1) := by decide +kernel
theorem dX8_note_119 : decode cX8_note 119 = .ok (.iadd, 1) := by decide +kernel
theorem dX8_note_120 : decode cX8_note 120 = .ok (.iload_n 3, 1) := by decide +kernel
theorem dX8_note_121 : decode cX8_note 121 = .ok (.iastore, 1) := by decide +kernel
theorem dX8_note_122 : decode cX8_note 122 = .ok (.aload_n 0, 1) := by decide +kernel
theorem dX8_note_123 : decode cX8_note 123 = .ok (.getfield 7, 3) := by decide +kernel
theorem dX8_note_126 : decode cX8_note 126 = .ok (.bipush 7, 2) := by decide +kernel
theorem dX8_note_128 : decode cX8_note 128 = .ok (.dup2, 1) := by decide +kernel
theorem dX8_note_129 : decode cX8_note 129 = .ok (.iaload, 1) := by decide +kernel
theorem dX8_note_130 : decode cX8_note 130 = .ok (.iconst 1, 1) := by decide +kernel
theorem dX8_note_131 : decode cX8_note 131 = .ok (.iadd, 1) := by decide +kernel
theorem dX8_note_132 : decode cX8_note 132 = .ok (.iastore, 1) := by decide +kernel
theorem dX8_note_133 : decode cX8_note 133 = .ok (.aload_n 0, 1) := by decide +kernel
theorem dX8_note_134 : decode cX8_note 134 = .ok (.getfield 7, 3) := by decide +kernel
theorem dX8_note_137 : decode cX8_note 137 = .ok (.bipush 13, 2) := by decide +kernel
theorem dX8_note_139 : decode cX8_note 139 = .ok (.dup2, 1) := by decide +kernel
theorem dX8_note_140 : decode cX8_note 140 = .ok (.iaload, 1) := by decide +kernel
theorem dX8_note_141 : decode cX8_note 141 = .ok (.iconst 1, 1) := by decide +kernel
theorem dX8_note_142 : decode cX8_note 142 = .ok (.iadd, 1) := by decide +kernel
theorem dX8_note_143 : decode cX8_note 143 = .ok (.iastore, 1) := by decide +kernel
theorem dX8_note_144 : decode cX8_note 144 = .ok (.return_, 1) := by decide +kernel
theorem dX8_event_0 : decode cX8_event 0 = .ok (.aload_n 0, 1) := by decide +kernel
theorem dX8_event_1 : decode cX8_event 1 = .ok (.iconst 0, 1) := by decide +kernel
theorem dX8_event_2 : decode cX8_event 2 = .ok (.putfield 48, 3) := by decide +kernel
theorem dX8_event_5 : decode cX8_event 5 = .ok (.iload_n 1, 1) := by decide +kernel
theorem dX8_event_6 : decode cX8_event 6 = .ok (.iconst 0, 1) := by decide +kernel
theorem dX8_event_7 : decode cX8_event 7 = .ok (.aload_n 0, 1) := by decide +kernel
theorem dX8_event_8 : decode cX8_event 8 = .ok (.getfield 7, 3) := by decide +kernel
theorem dX8_event_11 : decode cX8_event 11 = .ok (.bipush 7, 2) := by decide +kernel
theorem dX8_event_13 : decode cX8_event 13 = .ok (.iaload, 1) := by decide +kernel
theorem dX8_event_14 : decode cX8_event 14 = .ok (.iconst 1, 1) := by decide +kernel
theorem dX8_event_15 : decode cX8_event 15 = .ok (.isub, 1) := by decide +kernel
theorem dX8_event_16 : decode cX8_event 16 = .ok (.invokestatic 51, 3) := by decide +kernel
theorem dX8_event_19 : decode cX8_event 19 = .ok (.ifCond .ne 9, 3) := by decide +kernel
theorem dX8_event_22 : decode cX8_event 22 = .ok (.aload_n 0, 1) := by decide +kernel
theorem dX8_event_23 : decode cX8_event 23 = .ok (.iconst 1, 1) := by decide +kernel
theorem dX8_event_24 : decode cX8_event 24 = .ok (.invokevirtual 62, 3) := by decide +kernel
theorem dX8_event_27 : decode cX8_event 27 = .ok (.ireturn, 1) := by decide +kernel
theorem dX8_event_28 : decode cX8_event 28 = .ok (.iload_n 2, 1) := by decide +kernel
theorem dX8_event_29 : decode cX8_event 29 = .ok (.iconst 0, 1) := by decide +kernel
theorem dX8_event_30 : decode cX8_event 30 = .ok (.iconst 3, 1) := by decide +kernel
theorem dX8_event_31 : decode cX8_event 31 = .ok (.invokestatic 51, 3) := by decide +kernel
theorem dX8_event_34 : decode cX8_event 34 = .ok (.ifCond .eq 20, 3) := by decide +kernel
theorem dX8_event_37 : decode cX8_event 37 = .ok (.aload_n 0, 1) := by decide +kernel
theorem dX8_event_38 : decode cX8_event 38 = .ok (.getfield 7, 3) := by decide +kernel
theorem dX8_event_41 : decode cX8_event 41 = .ok (.sipush 540, 3) := by decide +kernel
theorem dX8_event_44 : decode cX8_event 44 = .ok (.iconst 4, 1) := by decide +kernel
theorem dX8_event_45 : decode cX8_event 45 = .ok (.iload_n 1, 1) := by decide +kernel
theorem dX8_event_46 : decode cX8_event 46 = .ok (.imul, 1) := by decide +kernel
theorem dX8_event_47 : decode cX8_event 47 = .ok (.iadd, 1) := by decide +kernel
theorem dX8_event_48 : decode cX8_event 48 = .ok (.iload_n 2, 1) := by decide +kernel
theorem dX8_event_49 : decode cX8_event 49 = .ok (.iadd, 1) := by decide +kernel
theorem dX8_event_50 : decode cX8_event 50 = .ok (.iaload, 1) := by decide +kernel
theorem dX8_event_51 : decode cX8_event 51 = .ok (.goto 8, 3) := by decide +kernel
theorem dX8_event_54 : decode cX8_event 54 = .ok (.aload_n 0, 1) := by decide +kernel
theorem dX8_event_55 : decode cX8_event 55 = .ok (.iconst 2, 1) := by decide +kernel
theorem dX8_event_56 : decode cX8_event 56 = .ok (.invokevirtual 62, 3) := by decide +kernel
theorem dX8_event_59 : decode cX8_event 59 = .ok (.ireturn, 1) := by decide +kernel
theorem dX8_events_0 : decode cX8_events 0 = .ok (.aload_n 0, 1) := by decide +kernel
theorem dX8_events_1 : decode cX8_events 1 = .ok (.iconst 0, 1) := by decide +kernel
theorem dX8_events_2 : decode cX8_events 2 = .ok (.putfield 48, 3) := by decide +kernel
theorem dX8_events_5 : decode cX8_events 5 = .ok (.iload_n 2, 1) := by decide +kernel
theorem dX8_events_6 : decode cX8_events 6 = .ok (.iconst (-1), 1) := by decide +kernel
theorem dX8_events_7 : decode cX8_events 7 = .ok (.if_icmp .eq 17, 3) := by decide +kernel
theorem dX8_events_10 : decode cX8_events 10 = .ok (.aload_n 0, 1) := by decide +kernel
theorem dX8_events_11 : decode cX8_events 11 = .ok (.iload_n 2, 1) := by decide +kernel
theorem dX8_events_12 : decode cX8_events 12 = .ok (.invokevirtual 228, 3) := by decide +kernel
theorem dX8_events_15 : decode cX8_events 15 = .ok (.ifCond .ne 9, 3) := by decide +kernel
theorem dX8_events_18 : decode cX8_events 18 = .ok (.aload_n 0, 1) := by decide +kernel
theorem dX8_events_19 : decode cX8_events 19 = .ok (.iconst 1, 1) := by decide +kernel
theorem dX8_events_20 : decode cX8_events 20 = .ok (.invokevirtual 62, 3) := by decide +kernel
theorem dX8_events_23 : decode cX8_events 23 = .ok (.ireturn, 1) := by decide +kernel
theorem dX8_events_24 : decode cX8_events 24 = .ok (.iload_n 1, 1) := by decide +kernel
theorem dX8_events_25 : decode cX8_events 25 = .ok (.iconst 0, 1) := by decide +kernel
theorem dX8_events_26 : decode cX8_events 26 = .ok (.bipush 9, 2) := by decide +kernel
theorem dX8_events_28 : decode cX8_events 28 = .ok (.invokestatic 51, 3) := by decide +kernel
theorem dX8_events_31 : decode cX8_events 31 = .ok (.ifCond .ne 9, 3) := by decide +kernel
theorem dX8_events_34 : decode cX8_events 34 = .ok (.aload_n 0, 1) := by decide +kernel
theorem dX8_events_35 : decode cX8_events 35 = .ok (.iconst 2, 1) := by decide +kernel
theorem dX8_events_36 : decode cX8_events 36 = .ok (.invokevirtual 62, 3) := by decide +kernel
theorem dX8_events_39 : decode cX8_events 39 = .ok (.ireturn, 1) := by decide +kernel
theorem dX8_events_40 : decode cX8_events 40 = .ok (.iconst 0, 1) := by decide +kernel
theorem dX8_events_41 : decode cX8_events 41 = .ok (.istore_n 3, 1) := by decide +kernel
theorem dX8_events_42 : decode cX8_events 42 = .ok (.iconst 0, 1) := by decide +kernel
theorem dX8_events_43 : decode cX8_events 43 = .ok (.istore 4, 2) := by decide +kernel
theorem dX8_events_45 : decode cX8_events 45 = .ok (.iload 4, 2) := by decide +kernel
theorem dX8_events_47 : decode cX8_events 47 = .ok (.aload_n 0, 1) := by decide +kernel
theorem dX8_events_48 : decode cX8_events 48 = .ok (.getfield 7, 3) := by decide +kernel
theorem dX8_events_51 : decode cX8_events 51 = .ok (.bipush 7, 2) := by decide +kernel
theorem dX8_events_53 : decode cX8_events 53 = .ok (.iaload, 1) := by decide +kernel
theorem dX8_events_54 : decode cX8_events 54 = .ok (.if_icmp .ge 72, 3) := by decide +kernel
theorem dX8_events_57 : decode cX8_events 57 = .ok (.aload_n 0, 1) := by decide +kernel
theorem dX8_events_58 : decode cX8_events 58 = .ok (.getfield 7, 3) := by decide +kernel
theorem dX8_events_61 : decode cX8_events 61 = .ok (.sipush 540, 3) := by decide +kernel
theorem dX8_events_64 : decode cX8_events 64 = .ok (.iconst 4, 1) := by decide +kernel
theorem dX8_events_65 : decode cX8_events 65 = .ok (.iload 4, 2) := by decide +kernel
theorem dX8_events_67 : decode cX8_events 67 = .ok (.imul, 1) := by decide +kernel
theorem dX8_events_68 : decode cX8_events 68 = .ok (.iadd, 1) := by decide +kernel
theorem dX8_events_69 : decode cX8_events 69 = .ok (.iconst 1, 1) := by decide +kernel
theorem dX8_events_70 : decode cX8_events 70 = .ok (.iadd, 1) := by decide +kernel
theorem dX8_events_71 : decode cX8_events 71 = .ok (.iaload, 1) := by decide +kernel
theorem dX8_events_72 : decode cX8_events 72 = .ok (.iload_n 1, 1) := by decide +kernel
theorem dX8_events_73 : decode cX8_events 73 = .ok (.if_icmp .ne 31, 3) := by decide +kernel
theorem dX8_events_76 : decode cX8_events 76 = .ok (.iload_n 2, 1) := by decide +kernel
theorem dX8_events_77 : decode cX8_events 77 = .ok (.iconst (-1), 1) := by decide +kernel
theorem dX8_events_78 : decode cX8_events 78 = .ok (.if_icmp .eq 22, 3) := by decide +kernel
theorem dX8_events_81 : decode cX8_events 81 = .ok (.aload_n 0, 1) := by decide +kernel
theorem dX8_events_82 : decode cX8_events 82 = .ok (.getfield 7, 3) := by decide +kernel
theorem dX8_events_85 : decode cX8_events 85 = .ok (.sipush 540, 3) := by decide +kernel
theorem dX8_events_88 : decode cX8_events 88 = .ok (.iconst 4, 1) := by decide +kernel
theorem dX8_events_89 : decode cX8_events 89 = .ok (.iload 4, 2) := by decide +kernel
theorem dX8_events_91 : decode cX8_events 91 = .ok (.imul, 1) := by decide +kernel
theorem dX8_events_92 : decode cX8_events 92 = .ok (.iadd, 1) := by decide +kernel
theorem dX8_events_93 : decode cX8_events 93 = .ok (.iconst 2, 1) := by decide +kernel
theorem dX8_events_94 : decode cX8_events 94 = .ok (.iadd, 1) := by decide +kernel
theorem dX8_events_95 : decode cX8_events 95 = .ok (.iaload, 1) := by decide +kernel
theorem dX8_events_96 : decode cX8_events 96 = .ok (.iload_n 2, 1) := by decide +kernel
theorem dX8_events_97 : decode cX8_events 97 = .ok (.if_icmp .ne 7, 3) := by decide +kernel
theorem dX8_events_100 : decode cX8_events 100 = .ok (.iconst 1, 1) := by decide +kernel
theorem dX8_events_101 : decode cX8_events 101 = .ok (.goto 4, 3) := by decide +kernel
theorem dX8_events_104 : decode cX8_events 104 = .ok (.iconst 0, 1) := by decide +kernel
theorem dX8_events_105 : decode cX8_events 105 = .ok (.istore 5, 2) := by decide +kernel
theorem dX8_events_107 : decode cX8_events 107 = .ok (.iload_n 3, 1) := by decide +kernel
theorem dX8_events_108 : decode cX8_events 108 = .ok (.iload 5, 2) := by decide +kernel
theorem dX8_events_110 : decode cX8_events 110 = .ok (.ifCond .eq 7, 3) := by decide +kernel
theorem dX8_events_113 : decode cX8_events 113 = .ok (.iconst 1, 1) := by decide +kernel
theorem dX8_events_114 : decode cX8_events 114 = .ok (.goto 4, 3) := by decide +kernel
theorem dX8_events_117 : decode cX8_events 117 = .ok (.iconst 0, 1) := by decide +kernel
theorem dX8_events_118 : decode cX8_events 118 = .ok (.iadd, 1) := by decide +kernel
theorem dX8_events_119 : decode cX8_events 119 = .ok (.istore_n 3, 1) := by decide +kernel
theorem dX8_events_120 : decode cX8_events 120 = .ok (.iinc 4 1, 3) := by decide +kernel
theorem dX8_events_123 : decode cX8_events 123 = .ok (.goto (-78), 3) := by decide +kernel
theorem dX8_events_126 : decode cX8_events 126 = .ok (.iload_n 3, 1) := by decide +kernel
theorem dX8_events_127 : decode cX8_events 127 = .ok (.ireturn, 1) := by decide +kernel
theorem dX8_comeBack_0 : decode cX8_comeBack 0 = .ok (.aload_n 0, 1) := by decide +kernel
theorem dX8_comeBack_1 : decode cX8_comeBack 1 = .ok (.iload_n 1, 1) := by decide +kernel
theorem dX8_comeBack_2 : decode cX8_comeBack 2 = .ok (.iconst 3, 1) := by decide +kernel
theorem dX8_comeBack_3 : decode cX8_comeBack 3 = .ok (.iconst 0, 1) := by decide +kernel
theorem dX8_comeBack_4 : decode cX8_comeBack 4 = .ok (.invokevirtual 215, 3) := by decide +kernel
theorem dX8_comeBack_7 : decode cX8_comeBack 7 = .ok (.aload_n 0, 1) := by decide +kernel
theorem dX8_comeBack_8 : decode cX8_comeBack 8 = .ok (.iload_n 1, 1) := by decide +kernel
theorem dX8_comeBack_9 : decode cX8_comeBack 9 = .ok (.bipush 7, 2) := by decide +kernel
theorem dX8_comeBack_11 : decode cX8_comeBack 11 = .ok (.iconst (-1), 1) := by decide +kernel
theorem dX8_comeBack_12 : decode cX8_comeBack 12 = .ok (.invokevirtual 215, 3) := by decide +kernel
theorem dX8_comeBack_15 : decode cX8_comeBack 15 = .ok (.aload_n 0, 1) := by decide +kernel
theorem dX8_comeBack_16 : decode cX8_comeBack 16 = .ok (.iload_n 1, 1) := by decide +kernel
theorem dX8_comeBack_17 : decode cX8_comeBack 17 = .ok (.bipush 6, 2) := by decide +kernel
theorem dX8_comeBack_19 : decode cX8_comeBack 19 = .ok (.iload_n 2, 1) := by decide +kernel
theorem dX8_comeBack_20 : decode cX8_comeBack 20 = .ok (.invokevirtual 215, 3) := by decide +kernel
theorem dX8_comeBack_23 : decode cX8_comeBack 23 = .ok (.aload_n 0, 1) := by decide +kernel
theorem dX8_comeBack_24 : decode cX8_comeBack 24 = .ok (.iload_n 1, 1) := by decide +kernel
theorem dX8_comeBack_25 : decode cX8_comeBack 25 = .ok (.bipush 11, 2) := by decide +kernel
theorem dX8_comeBack_27 : decode cX8_comeBack 27 = .ok (.iload_n 2, 1) := by decide +kernel
theorem dX8_comeBack_28 : decode cX8_comeBack 28 = .ok (.iadd, 1) := by decide +kernel
theorem dX8_comeBack_29 : decode cX8_comeBack 29 = .ok (.invokevirtual 221, 3) := by decide +kernel
theorem dX8_comeBack_32 : decode cX8_comeBack 32 = .ok (.aload_n 0, 1) := by decide +kernel
theorem dX8_comeBack_33 : decode cX8_comeBack 33 = .ok (.iconst 1, 1) := by decide +kernel
theorem dX8_comeBack_34 : decode cX8_comeBack 34 = .ok (.iload_n 1, 1) := by decide +kernel
theorem dX8_comeBack_35 : decode cX8_comeBack 35 = .ok (.iload_n 2, 1) := by decide +kernel
theorem dX8_comeBack_36 : decode cX8_comeBack 36 = .ok (.invokevirtual 251, 3) := by decide +kernel
theorem dX8_comeBack_39 : decode cX8_comeBack 39 = .ok (.aload_n 0, 1) := by decide +kernel
theorem dX8_comeBack_40 : decode cX8_comeBack 40 = .ok (.iload_n 1, 1) := by decide +kernel
theorem dX8_comeBack_41 : decode cX8_comeBack 41 = .ok (.invokevirtual 254, 3) := by decide +kernel
theorem dX8_comeBack_44 : decode cX8_comeBack 44 = .ok (.aload_n 0, 1) := by decide +kernel
theorem dX8_comeBack_45 : decode cX8_comeBack 45 = .ok (.invokevirtual 257, 3) := by decide +kernel
theorem dX8_comeBack_48 : decode cX8_comeBack 48 = .ok (.return_, 1) := by decide +kernel
theorem dX8_park_0 : decode cX8_park 0 = .ok (.aload_n 0, 1) := by decide +kernel
theorem dX8_park_1 : decode cX8_park 1 = .ok (.iload_n 1, 1) := by decide +kernel
theorem dX8_park_2 : decode cX8_park 2 = .ok (.iconst 5, 1) := by decide +kernel
theorem dX8_park_3 : decode cX8_park 3 = .ok (.invokevirtual 164, 3) := by decide +kernel
theorem dX8_park_6 : decode cX8_park 6 = .ok (.iconst 1, 1) := by decide +kernel
theorem dX8_park_7 : decode cX8_park 7 = .ok (.if_icmp .ne 21, 3) := by decide +kernel
theorem dX8_park_10 : decode cX8_park 10 = .ok (.aload_n 0, 1) := by decide +kernel
theorem dX8_park_11 : decode cX8_park 11 = .ok (.iload_n 1, 1) := by decide +kernel
theorem dX8_park_12 : decode cX8_park 12 = .ok (.iconst 5, 1) := by decide +kernel
theorem dX8_park_13 : decode cX8_park 13 = .ok (.iconst 0, 1) := by decide +kernel
theorem dX8_park_14 : decode cX8_park 14 = .ok (.invokevirtual 215, 3) := by decide +kernel
theorem dX8_park_17 : decode cX8_park 17 = .ok (.aload_n 0, 1) := by decide +kernel
theorem dX8_park_18 : decode cX8_park 18 = .ok (.iload_n 1, 1) := by decide +kernel
theorem dX8_park_19 : decode cX8_park 19 = .ok (.bipush 6, 2) := by decide +kernel
theorem dX8_park_21 : decode cX8_park 21 = .ok (.iconst 4, 1) := by decide +kernel
theorem dX8_park_22 : decode cX8_park 22 = .ok (.invokevirtual 215, 3) := by decide +kernel
theorem dX8_park_25 : decode cX8_park 25 = .ok (.goto 60, 3) := by decide +kernel
theorem dX8_park_28 : decode cX8_park 28 = .ok (.aload_n 0, 1) := by decide +kernel
theorem dX8_park_29 : decode cX8_park 29 = .ok (.iload_n 1, 1) := by decide +kernel
theorem dX8_park_30 : decode cX8_park 30 = .ok (.iconst 4, 1) := by decide +kernel
theorem dX8_park_31 : decode cX8_park 31 = .ok (.invokevirtual 164, 3) := by decide +kernel
theorem dX8_park_34 : decode cX8_park 34 = .ok (.iconst 1, 1) := by decide +kernel
theorem dX8_park_35 : decode cX8_park 35 = .ok (.if_icmp .ne 21, 3) := by decide +kernel
theorem dX8_park_38 : decode cX8_park 38 = .ok (.aload_n 0, 1) := by decide +kernel
theorem dX8_park_39 : decode cX8_park 39 = .ok (.iload_n 1, 1) := by decide +kernel
theorem dX8_park_40 : decode cX8_park 40 = .ok (.iconst 4, 1) := by decide +kernel
theorem dX8_park_41 : decode cX8_park 41 = .ok (.iconst 0, 1) := by decide +kernel
theorem dX8_park_42 : decode cX8_park 42 = .ok (.invokevirtual 215, 3) := by decide +kernel
theorem dX8_park_45 : decode cX8_park 45 = .ok (.aload_n 0, 1) := by decide +kernel
theorem dX8_park_46 : decode cX8_park 46 = .ok (.iload_n 1, 1) := by decide +kernel
theorem dX8_park_47 : decode cX8_park 47 = .ok (.bipush 6, 2) := by decide +kernel
theorem dX8_park_49 : decode cX8_park 49 = .ok (.iconst 1, 1) := by decide +kernel
theorem dX8_park_50 : decode cX8_park 50 = .ok (.invokevirtual 215, 3) := by decide +kernel
theorem dX8_park_53 : decode cX8_park 53 = .ok (.goto 32, 3) := by decide +kernel
theorem dX8_park_56 : decode cX8_park 56 = .ok (.aload_n 0, 1) := by decide +kernel
theorem dX8_park_57 : decode cX8_park 57 = .ok (.iload_n 1, 1) := by decide +kernel
theorem dX8_park_58 : decode cX8_park 58 = .ok (.iconst 3, 1) := by decide +kernel
theorem dX8_park_59 : decode cX8_park 59 = .ok (.iconst 1, 1) := by decide +kernel
theorem dX8_park_60 : decode cX8_park 60 = .ok (.invokevirtual 215, 3) := by decide +kernel
theorem dX8_park_63 : decode cX8_park 63 = .ok (.aload_n 0, 1) := by decide +kernel
theorem dX8_park_64 : decode cX8_park 64 = .ok (.iload_n 1, 1) := by decide +kernel
theorem dX8_park_65 : decode cX8_park 65 = .ok (.bipush 7, 2) := by decide +kernel
theorem dX8_park_67 : decode cX8_park 67 = .ok (.iload_n 2, 1) := by decide +kernel
theorem dX8_park_68 : decode cX8_park 68 = .ok (.invokevirtual 215, 3) := by decide +kernel
theorem dX8_park_71 : decode cX8_park 71 = .ok (.aload_n 0, 1) := by decide +kernel
theorem dX8_park_72 : decode cX8_park 72 = .ok (.iload_n 1, 1) := by decide +kernel
theorem dX8_park_73 : decode cX8_park 73 = .ok (.bipush 11, 2) := by decide +kernel
theorem dX8_park_75 : decode cX8_park 75 = .ok (.invokevirtual 221, 3) := by decide +kernel
theorem dX8_park_78 : decode cX8_park 78 = .ok (.aload_n 0, 1) := by decide +kernel
theorem dX8_park_79 : decode cX8_park 79 = .ok (.iconst 0, 1) := by decide +kernel
theorem dX8_park_80 : decode cX8_park 80 = .ok (.iload_n 1, 1) := by decide +kernel
theorem dX8_park_81 : decode cX8_park 81 = .ok (.iload_n 2, 1) := by decide +kernel
theorem dX8_park_82 : decode cX8_park 82 = .ok (.invokevirtual 251, 3) := by decide +kernel
theorem dX8_park_85 : decode cX8_park 85 = .ok (.return_, 1) := by decide +kernel
theorem dX8_wakeUp_0 : decode cX8_wakeUp 0 = .ok (.aload_n 0, 1) := by decide +kernel
theorem dX8_wakeUp_1 : decode cX8_wakeUp 1 = .ok (.iload_n 1, 1) := by decide +kernel
theorem dX8_wakeUp_2 : decode cX8_wakeUp 2 = .ok (.iconst 3, 1) := by decide +kernel
theorem dX8_wakeUp_3 : decode cX8_wakeUp 3 = .ok (.invokevirtual 164, 3) := by decide +kernel
theorem dX8_wakeUp_6 : decode cX8_wakeUp 6 = .ok (.iconst 1, 1) := by decide +kernel
theorem dX8_wakeUp_7 : decode cX8_wakeUp 7 = .ok (.if_icmp .ne 11, 3) := by decide +kernel
theorem dX8_wakeUp_10 : decode cX8_wakeUp 10 = .ok (.aload_n 0, 1) := by decide +kernel
theorem dX8_wakeUp_11 : decode cX8_wakeUp 11 = .ok (.iload_n 1, 1) := by decide +kernel
theorem dX8_wakeUp_12 : decode cX8_wakeUp 12 = .ok (.iconst 1, 1) := by decide +kernel
theorem dX8_wakeUp_13 : decode cX8_wakeUp 13 = .ok (.invokevirtual 260, 3) := by decide +kernel
theorem dX8_wakeUp_16 : decode cX8_wakeUp 16 = .ok (.iconst 0, 1) := by decide +kernel
theorem dX8_wakeUp_17 : decode cX8_wakeUp 17 = .ok (.ireturn, 1) := by decide +kernel
theorem dX8_wakeUp_18 : decode cX8_wakeUp 18 = .ok (.aload_n 0, 1) := by decide +kernel
theorem dX8_wakeUp_19 : decode cX8_wakeUp 19 = .ok (.iload_n 1, 1) := by decide +kernel
theorem dX8_wakeUp_20 : decode cX8_wakeUp 20 = .ok (.iconst 3, 1) := by decide +kernel
theorem dX8_wakeUp_21 : decode cX8_wakeUp 21 = .ok (.invokevirtual 164, 3) := by decide +kernel
theorem dX8_wakeUp_24 : decode cX8_wakeUp 24 = .ok (.iconst 3, 1) := by decide +kernel
theorem dX8_wakeUp_25 : decode cX8_wakeUp 25 = .ok (.if_icmp .lt 16, 3) := by decide +kernel
theorem dX8_wakeUp_28 : decode cX8_wakeUp 28 = .ok (.aload_n 0, 1) := by decide +kernel
theorem dX8_wakeUp_29 : decode cX8_wakeUp 29 = .ok (.getfield 7, 3) := by decide +kernel
theorem dX8_wakeUp_32 : decode cX8_wakeUp 32 = .ok (.bipush 9, 2) := by decide +kernel
theorem dX8_wakeUp_34 : decode cX8_wakeUp 34 = .ok (.dup2, 1) := by decide +kernel
theorem dX8_wakeUp_35 : decode cX8_wakeUp 35 = .ok (.iaload, 1) := by decide +kernel
theorem dX8_wakeUp_36 : decode cX8_wakeUp 36 = .ok (.iconst 1, 1) := by decide +kernel
theorem dX8_wakeUp_37 : decode cX8_wakeUp 37 = .ok (.iadd, 1) := by decide +kernel
theorem dX8_wakeUp_38 : decode cX8_wakeUp 38 = .ok (.iastore, 1) := by decide +kernel
theorem dX8_wakeUp_39 : decode cX8_wakeUp 39 = .ok (.iconst 3, 1) := by decide +kernel
theorem dX8_wakeUp_40 : decode cX8_wakeUp 40 = .ok (.ireturn, 1) := by decide +kernel
theorem dX8_wakeUp_41 : decode cX8_wakeUp 41 = .ok (.aload_n 0, 1) := by decide +kernel
theorem dX8_wakeUp_42 : decode cX8_wakeUp 42 = .ok (.iload_n 1, 1) := by decide +kernel
theorem dX8_wakeUp_43 : decode cX8_wakeUp 43 = .ok (.iconst 4, 1) := by decide +kernel
theorem dX8_wakeUp_44 : decode cX8_wakeUp 44 = .ok (.invokevirtual 164, 3) := by decide +kernel
theorem dX8_wakeUp_47 : decode cX8_wakeUp 47 = .ok (.iconst 1, 1) := by decide +kernel
theorem dX8_wakeUp_48 : decode cX8_wakeUp 48 = .ok (.if_icmp .ne 24, 3) := by decide +kernel
theorem dX8_wakeUp_51 : decode cX8_wakeUp 51 = .ok (.aload_n 0, 1) := by decide +kernel
theorem dX8_wakeUp_52 : decode cX8_wakeUp 52 = .ok (.getfield 7, 3) := by decide +kernel
theorem dX8_wakeUp_55 : decode cX8_wakeUp 55 = .ok (.bipush 8, 2) := by decide +kernel
theorem dX8_wakeUp_57 : decode cX8_wakeUp 57 = .ok (.dup2, 1) := by decide +kernel
theorem dX8_wakeUp_58 : decode cX8_wakeUp 58 = .ok (.iaload, 1) := by decide +kernel
theorem dX8_wakeUp_59 : decode cX8_wakeUp 59 = .ok (.iconst 1, 1) := by decide +kernel
theorem dX8_wakeUp_60 : decode cX8_wakeUp 60 = .ok (.iadd, 1) := by decide +kernel
theorem dX8_wakeUp_61 : decode cX8_wakeUp 61 = .ok (.iastore, 1) := by decide +kernel
theorem dX8_wakeUp_62 : decode cX8_wakeUp 62 = .ok (.aload_n 0, 1) := by decide +kernel
theorem dX8_wakeUp_63 : decode cX8_wakeUp 63 = .ok (.bipush 7, 2) := by decide +kernel
theorem dX8_wakeUp_65 : decode cX8_wakeUp 65 = .ok (.iload_n 1, 1) := by decide +kernel
theorem dX8_wakeUp_66 : decode cX8_wakeUp 66 = .ok (.iload_n 2, 1) := by decide +kernel
theorem dX8_wakeUp_67 : decode cX8_wakeUp 67 = .ok (.invokevirtual 251, 3) := by decide +kernel
theorem dX8_wakeUp_70 : decode cX8_wakeUp 70 = .ok (.iconst 2, 1) := by decide +kernel
theorem dX8_wakeUp_71 : decode cX8_wakeUp 71 = .ok (.ireturn, 1) := by decide +kernel
theorem dX8_wakeUp_72 : decode cX8_wakeUp 72 = .ok (.aload_n 0, 1) := by decide +kernel
theorem dX8_wakeUp_73 : decode cX8_wakeUp 73 = .ok (.iload_n 1, 1) := by decide +kernel
theorem dX8_wakeUp_74 : decode cX8_wakeUp 74 = .ok (.iconst 4, 1) := by decide +kernel
theorem dX8_wakeUp_75 : decode cX8_wakeUp 75 = .ok (.iconst 1, 1) := by decide +kernel
theorem dX8_wakeUp_76 : decode cX8_wakeUp 76 = .ok (.invokevirtual 215, 3) := by decide +kernel
theorem dX8_wakeUp_79 : decode cX8_wakeUp 79 = .ok (.iconst 1, 1) := by decide +kernel
theorem dX8_wakeUp_80 : decode cX8_wakeUp 80 = .ok (.ireturn, 1) := by decide +kernel
theorem dX8_wake_0 : decode cX8_wake 0 = .ok (.aload_n 0, 1) := by decide +kernel
theorem dX8_wake_1 : decode cX8_wake 1 = .ok (.iconst 0, 1) := by decide +kernel
theorem dX8_wake_2 : decode cX8_wake 2 = .ok (.putfield 48, 3) := by decide +kernel
theorem dX8_wake_5 : decode cX8_wake 5 = .ok (.aload_n 0, 1) := by decide +kernel
theorem dX8_wake_6 : decode cX8_wake 6 = .ok (.iload_n 1, 1) := by decide +kernel
theorem dX8_wake_7 : decode cX8_wake 7 = .ok (.invokevirtual 228, 3) := by decide +kernel
theorem dX8_wake_10 : decode cX8_wake 10 = .ok (.ifCond .eq 12, 3) := by decide +kernel
theorem dX8_wake_13 : decode cX8_wake 13 = .ok (.aload_n 0, 1) := by decide +kernel
theorem dX8_wake_14 : decode cX8_wake 14 = .ok (.iload_n 1, 1) := by decide +kernel
theorem dX8_wake_15 : decode cX8_wake 15 = .ok (.iconst (-1), 1) := by decide +kernel
theorem dX8_wake_16 : decode cX8_wake 16 = .ok (.invokevirtual 263, 3) := by decide +kernel
theorem dX8_wake_19 : decode cX8_wake 19 = .ok (.goto 8, 3) := by decide +kernel
theorem dX8_wake_22 : decode cX8_wake 22 = .ok (.aload_n 0, 1) := by decide +kernel
theorem dX8_wake_23 : decode cX8_wake 23 = .ok (.iconst 1, 1) := by decide +kernel
theorem dX8_wake_24 : decode cX8_wake 24 = .ok (.invokevirtual 62, 3) := by decide +kernel
theorem dX8_wake_27 : decode cX8_wake 27 = .ok (.ireturn, 1) := by decide +kernel
theorem dX8_interrupt_0 : decode cX8_interrupt 0 = .ok (.aload_n 0, 1) := by decide +kernel
theorem dX8_interrupt_1 : decode cX8_interrupt 1 = .ok (.iconst 0, 1) := by decide +kernel
theorem dX8_interrupt_2 : decode cX8_interrupt 2 = .ok (.putfield 48, 3) := by decide +kernel
theorem dX8_interrupt_5 : decode cX8_interrupt 5 = .ok (.aload_n 0, 1) := by decide +kernel
theorem dX8_interrupt_6 : decode cX8_interrupt 6 = .ok (.iload_n 1, 1) := by decide +kernel
theorem dX8_interrupt_7 : decode cX8_interrupt 7 = .ok (.invokevirtual 228, 3) := by decide +kernel
theorem dX8_interrupt_10 : decode cX8_interrupt 10 = .ok (.ifCond .ne 9, 3) := by decide +kernel
theorem dX8_interrupt_13 : decode cX8_interrupt 13 = .ok (.aload_n 0, 1) := by decide +kernel
theorem dX8_interrupt_14 : decode cX8_interrupt 14 = .ok (.iconst 1, 1) := by decide +kernel
theorem dX8_interrupt_15 : decode cX8_interrupt 15 = .ok (.invokevirtual 62, 3) := by decide +kernel
theorem dX8_interrupt_18 : decode cX8_interrupt 18 = .ok (.ireturn, 1) := by decide +kernel
theorem dX8_interrupt_19 : decode cX8_interrupt 19 = .ok (.aload_n 0, 1) := by decide +kernel
theorem dX8_interrupt_20 : decode cX8_interrupt 20 = .ok (.iload_n 1, 1) := by decide +kernel
theorem dX8_interrupt_21 : decode cX8_interrupt 21 = .ok (.iconst 3, 1) := by decide +kernel
theorem dX8_interrupt_22 : decode cX8_interrupt 22 = .ok (.invokevirtual 164, 3) := by decide +kernel
theorem dX8_interrupt_25 : decode cX8_interrupt 25 = .ok (.iconst 1, 1) := by decide +kernel
theorem dX8_interrupt_26 : decode cX8_interrupt 26 = .ok (.if_icmp .ne 11, 3) := by decide +kernel
theorem dX8_interrupt_29 : decode cX8_interrupt 29 = .ok (.aload_n 0, 1) := by decide +kernel
theorem dX8_interrupt_30 : decode cX8_interrupt 30 = .ok (.iload_n 1, 1) := by decide +kernel
theorem dX8_interrupt_31 : decode cX8_interrupt 31 = .ok (.iconst 4, 1) := by decide +kernel
theorem dX8_interrupt_32 : decode cX8_interrupt 32 = .ok (.invokevirtual 260, 3) := by decide +kernel
theorem dX8_interrupt_35 : decode cX8_interrupt 35 = .ok (.iconst 0, 1) := by decide +kernel
theorem dX8_interrupt_36 : decode cX8_interrupt 36 = .ok (.ireturn, 1) := by decide +kernel
theorem dX8_interrupt_37 : decode cX8_interrupt 37 = .ok (.aload_n 0, 1) := by decide +kernel
theorem dX8_interrupt_38 : decode cX8_interrupt 38 = .ok (.iload_n 1, 1) := by decide +kernel
theorem dX8_interrupt_39 : decode cX8_interrupt 39 = .ok (.iconst 3, 1) := by decide +kernel
theorem dX8_interrupt_40 : decode cX8_interrupt 40 = .ok (.invokevirtual 164, 3) := by decide +kernel
theorem dX8_interrupt_43 : decode cX8_interrupt 43 = .ok (.iconst 3, 1) := by decide +kernel
theorem dX8_interrupt_44 : decode cX8_interrupt 44 = .ok (.if_icmp .lt 5, 3) := by decide +kernel
theorem dX8_interrupt_47 : decode cX8_interrupt 47 = .ok (.iconst 3, 1) := by decide +kernel
theorem dX8_interrupt_48 : decode cX8_interrupt 48 = .ok (.ireturn, 1) := by decide +kernel
theorem dX8_interrupt_49 : decode cX8_interrupt 49 = .ok (.aload_n 0, 1) := by decide +kernel
theorem dX8_interrupt_50 : decode cX8_interrupt 50 = .ok (.iload_n 1, 1) := by decide +kernel
theorem dX8_interrupt_51 : decode cX8_interrupt 51 = .ok (.iconst 5, 1) := by decide +kernel
theorem dX8_interrupt_52 : decode cX8_interrupt 52 = .ok (.invokevirtual 164, 3) := by decide +kernel
theorem dX8_interrupt_55 : decode cX8_interrupt 55 = .ok (.istore_n 2, 1) := by decide +kernel
theorem dX8_interrupt_56 : decode cX8_interrupt 56 = .ok (.aload_n 0, 1) := by decide +kernel
theorem dX8_interrupt_57 : decode cX8_interrupt 57 = .ok (.iload_n 1, 1) := by decide +kernel
theorem dX8_interrupt_58 : decode cX8_interrupt 58 = .ok (.iconst 5, 1) := by decide +kernel
theorem dX8_interrupt_59 : decode cX8_interrupt 59 = .ok (.iconst 1, 1) := by decide +kernel
theorem dX8_interrupt_60 : decode cX8_interrupt 60 = .ok (.invokevirtual 215, 3) := by decide +kernel
theorem dX8_interrupt_63 : decode cX8_interrupt 63 = .ok (.iload_n 2, 1) := by decide +kernel
theorem dX8_interrupt_64 : decode cX8_interrupt 64 = .ok (.iconst 1, 1) := by decide +kernel
theorem dX8_interrupt_65 : decode cX8_interrupt 65 = .ok (.if_icmp .ne 7, 3) := by decide +kernel
theorem dX8_interrupt_68 : decode cX8_interrupt 68 = .ok (.iconst 2, 1) := by decide +kernel
theorem dX8_interrupt_69 : decode cX8_interrupt 69 = .ok (.goto 4, 3) := by decide +kernel
theorem dX8_interrupt_72 : decode cX8_interrupt 72 = .ok (.iconst 1, 1) := by decide +kernel
theorem dX8_interrupt_73 : decode cX8_interrupt 73 = .ok (.ireturn, 1) := by decide +kernel
theorem dX8_rouse_0 : decode cX8_rouse 0 = .ok (.aload_n 0, 1) := by decide +kernel
theorem dX8_rouse_1 : decode cX8_rouse 1 = .ok (.aload_n 0, 1) := by decide +kernel
theorem dX8_rouse_2 : decode cX8_rouse 2 = .ok (.iload_n 1, 1) := by decide +kernel
theorem dX8_rouse_3 : decode cX8_rouse 3 = .ok (.invokevirtual 228, 3) := by decide +kernel
theorem dX8_rouse_6 : decode cX8_rouse 6 = .ok (.ifCond .eq 7, 3) := by decide +kernel
theorem dX8_rouse_9 : decode cX8_rouse 9 = .ok (.iconst 0, 1) := by decide +kernel
theorem dX8_rouse_10 : decode cX8_rouse 10 = .ok (.goto 4, 3) := by decide +kernel
theorem dX8_rouse_13 : decode cX8_rouse 13 = .ok (.iconst 1, 1) := by decide +kernel
theorem dX8_rouse_14 : decode cX8_rouse 14 = .ok (.putfield 48, 3) := by decide +kernel
theorem dX8_rouse_17 : decode cX8_rouse 17 = .ok (.aload_n 0, 1) := by decide +kernel
theorem dX8_rouse_18 : decode cX8_rouse 18 = .ok (.getfield 48, 3) := by decide +kernel
theorem dX8_rouse_21 : decode cX8_rouse 21 = .ok (.ifCond .ne 17, 3) := by decide +kernel
theorem dX8_rouse_24 : decode cX8_rouse 24 = .ok (.aload_n 0, 1) := by decide +kernel
theorem dX8_rouse_25 : decode cX8_rouse 25 = .ok (.iload_n 1, 1) := by decide +kernel
theorem dX8_rouse_26 : decode cX8_rouse 26 = .ok (.iconst 3, 1) := by decide +kernel
theorem dX8_rouse_27 : decode cX8_rouse 27 = .ok (.invokevirtual 164, 3) := by decide +kernel
theorem dX8_rouse_30 : decode cX8_rouse 30 = .ok (.iconst 1, 1) := by decide +kernel
theorem dX8_rouse_31 : decode cX8_rouse 31 = .ok (.if_icmp .ne 7, 3) := by decide +kernel
theorem dX8_rouse_34 : decode cX8_rouse 34 = .ok (.iconst 1, 1) := by decide +kernel
theorem dX8_rouse_35 : decode cX8_rouse 35 = .ok (.goto 4, 3) := by decide +kernel
theorem dX8_rouse_38 : decode cX8_rouse 38 = .ok (.iconst 0, 1) := by decide +kernel
theorem dX8_rouse_39 : decode cX8_rouse 39 = .ok (.istore_n 2, 1) := by decide +kernel
theorem dX8_rouse_40 : decode cX8_rouse 40 = .ok (.iload_n 2, 1) := by decide +kernel
theorem dX8_rouse_41 : decode cX8_rouse 41 = .ok (.ifCond .eq 9, 3) := by decide +kernel
theorem dX8_rouse_44 : decode cX8_rouse 44 = .ok (.aload_n 0, 1) := by decide +kernel
theorem dX8_rouse_45 : decode cX8_rouse 45 = .ok (.iload_n 1, 1) := by decide +kernel
theorem dX8_rouse_46 : decode cX8_rouse 46 = .ok (.iconst 3, 1) := by decide +kernel
theorem dX8_rouse_47 : decode cX8_rouse 47 = .ok (.invokevirtual 260, 3) := by decide +kernel
theorem dX8_rouse_50 : decode cX8_rouse 50 = .ok (.iload_n 2, 1) := by decide +kernel
theorem dX8_rouse_51 : decode cX8_rouse 51 = .ok (.ireturn, 1) := by decide +kernel
theorem dX8_goOn_0 : decode cX8_goOn 0 = .ok (.aload_n 0, 1) := by decide +kernel
theorem dX8_goOn_1 : decode cX8_goOn 1 = .ok (.iload_n 1, 1) := by decide +kernel
theorem dX8_goOn_2 : decode cX8_goOn 2 = .ok (.iconst 2, 1) := by decide +kernel
theorem dX8_goOn_3 : decode cX8_goOn 3 = .ok (.invokevirtual 221, 3) := by decide +kernel
theorem dX8_goOn_6 : decode cX8_goOn 6 = .ok (.aload_n 0, 1) := by decide +kernel
theorem dX8_goOn_7 : decode cX8_goOn 7 = .ok (.iload_n 1, 1) := by decide +kernel
theorem dX8_goOn_8 : decode cX8_goOn 8 = .ok (.bipush 17, 2) := by decide +kernel
theorem dX8_goOn_10 : decode cX8_goOn 10 = .ok (.iconst 0, 1) := by decide +kernel
theorem dX8_goOn_11 : decode cX8_goOn 11 = .ok (.invokevirtual 215, 3) := by decide +kernel
theorem dX8_goOn_14 : decode cX8_goOn 14 = .ok (.aload_n 0, 1) := by decide +kernel
theorem dX8_goOn_15 : decode cX8_goOn 15 = .ok (.iload_n 1, 1) := by decide +kernel
theorem dX8_goOn_16 : decode cX8_goOn 16 = .ok (.invokevirtual 254, 3) := by decide +kernel
theorem dX8_goOn_19 : decode cX8_goOn 19 = .ok (.return_, 1) := by decide +kernel
theorem dX8_endIfBehind_0 : decode cX8_endIfBehind 0 = .ok (.aload_n 0, 1) := by decide +kernel
theorem dX8_endIfBehind_1 : decode cX8_endIfBehind 1 = .ok (.iload_n 1, 1) := by decide +kernel
theorem dX8_endIfBehind_2 : decode cX8_endIfBehind 2 = .ok (.iconst 2, 1) := by decide +kernel
theorem dX8_endIfBehind_3 : decode cX8_endIfBehind 3 = .ok (.invokevirtual 164, 3) := by decide +kernel
theorem dX8_endIfBehind_6 : decode cX8_endIfBehind 6 = .ok (.aload_n 0, 1) := by decide +kernel
theorem dX8_endIfBehind_7 : decode cX8_endIfBehind 7 = .ok (.iload_n 1, 1) := by decide +kernel
theorem dX8_endIfBehind_8 : decode cX8_endIfBehind 8 = .ok (.iconst 1, 1) := by decide +kernel
theorem dX8_endIfBehind_9 : decode cX8_endIfBehind 9 = .ok (.invokevirtual 164, 3) := by decide +kernel
theorem dX8_endIfBehind_12 : decode cX8_endIfBehind 12 = .ok (.if_icmp .ne 37, 3) := by decide +kernel
theorem dX8_endIfBehind_15 : decode cX8_endIfBehind 15 = .ok (.aload_n 0, 1) := by decide +kernel
theorem dX8_endIfBehind_16 : decode cX8_endIfBehind 16 = .ok (.iload_n 1, 1) := by decide +kernel
theorem dX8_endIfBehind_17 : decode cX8_endIfBehind 17 = .ok (.iconst 3, 1) := by decide +kernel
theorem dX8_endIfBehind_18 : decode cX8_endIfBehind 18 = .ok (.iconst 3, 1) := by decide +kernel
theorem dX8_endIfBehind_19 : decode cX8_endIfBehind 19 = .ok (.invokevirtual 215, 3) := by decide +kernel
theorem dX8_endIfBehind_22 : decode cX8_endIfBehind 22 = .ok (.aload_n 0, 1) := by decide +kernel
theorem dX8_endIfBehind_23 : decode cX8_endIfBehind 23 = .ok (.iconst 5, 1) := by decide +kernel
theorem dX8_endIfBehind_24 : decode cX8_endIfBehind 24 = .ok (.iload_n 1, 1) := by decide +kernel
theorem dX8_endIfBehind_25 : decode cX8_endIfBehind 25 = .ok (.iconst 0, 1) := by decide +kernel
theorem dX8_endIfBehind_26 : decode cX8_endIfBehind 26 = .ok (.invokevirtual 251, 3) := by decide +kernel
theorem dX8_endIfBehind_29 : decode cX8_endIfBehind 29 = .ok (.aload_n 0, 1) := by decide +kernel
theorem dX8_endIfBehind_30 : decode cX8_endIfBehind 30 = .ok (.getfield 42, 3) := by decide +kernel
theorem dX8_endIfBehind_33 : decode cX8_endIfBehind 33 = .ok (.aload_n 0, 1) := by decide +kernel
theorem dX8_endIfBehind_34 : decode cX8_endIfBehind 34 = .ok (.getfield 266, 3) := by decide +kernel
theorem dX8_endIfBehind_37 : decode cX8_endIfBehind 37 = .ok (.iload_n 1, 1) := by decide +kernel
theorem dX8_endIfBehind_38 : decode cX8_endIfBehind 38 = .ok (.iastore, 1) := by decide +kernel
theorem dX8_endIfBehind_39 : decode cX8_endIfBehind 39 = .ok (.aload_n 0, 1) := by decide +kernel
theorem dX8_endIfBehind_40 : decode cX8_endIfBehind 40 = .ok (.dup, 1) := by decide +kernel
theorem dX8_endIfBehind_41 : decode cX8_endIfBehind 41 = .ok (.getfield 266, 3) := by decide +kernel
theorem dX8_endIfBehind_44 : decode cX8_endIfBehind 44 = .ok (.iconst 1, 1) := by decide +kernel
theorem dX8_endIfBehind_45 : decode cX8_endIfBehind 45 = .ok (.iadd, 1) := by decide +kernel
theorem dX8_endIfBehind_46 : decode cX8_endIfBehind 46 = .ok (.putfield 266, 3) := by decide +kernel
theorem dX8_endIfBehind_49 : decode cX8_endIfBehind 49 = .ok (.return_, 1) := by decide +kernel
theorem dX8_successor_0 : decode cX8_successor 0 = .ok (.iconst (-1), 1) := by decide +kernel
theorem dX8_successor_1 : decode cX8_successor 1 = .ok (.istore_n 2, 1) := by decide +kernel
theorem dX8_successor_2 : decode cX8_successor 2 = .ok (.iconst 0, 1) := by decide +kernel
theorem dX8_successor_3 : decode cX8_successor 3 = .ok (.istore_n 3, 1) := by decide +kernel
theorem dX8_successor_4 : decode cX8_successor 4 = .ok (.iconst 1, 1) := by decide +kernel
theorem dX8_successor_5 : decode cX8_successor 5 = .ok (.istore 4, 2) := by decide +kernel
theorem dX8_successor_7 : decode cX8_successor 7 = .ok (.iload 4, 2) := by decide +kernel
theorem dX8_successor_9 : decode cX8_successor 9 = .ok (.bipush 10, 2) := by decide +kernel
theorem dX8_successor_11 : decode cX8_successor 11 = .ok (.if_icmp .gt 48, 3) := by decide +kernel
theorem dX8_successor_14 : decode cX8_successor 14 = .ok (.aload_n 0, 1) := by decide +kernel
theorem dX8_successor_15 : decode cX8_successor 15 = .ok (.iload_n 1, 1) := by decide +kernel
theorem dX8_successor_16 : decode cX8_successor 16 = .ok (.iload 4, 2) := by decide +kernel
theorem dX8_successor_18 : decode cX8_successor 18 = .ok (.invokevirtual 248, 3) := by decide +kernel
theorem dX8_successor_21 : decode cX8_successor 21 = .ok (.istore 5, 2) := by decide +kernel
theorem dX8_successor_23 : decode cX8_successor 23 = .ok (.iload 5, 2) := by decide +kernel
theorem dX8_successor_25 : decode cX8_successor 25 = .ok (.iconst (-1), 1) := by decide +kernel
theorem dX8_successor_26 : decode cX8_successor 26 = .ok (.if_icmp .ne 7, 3) := by decide +kernel
theorem dX8_successor_29 : decode cX8_successor 29 = .ok (.iconst 0, 1) := by decide +kernel
theorem dX8_successor_30 : decode cX8_successor 30 = .ok (.goto 9, 3) := by decide +kernel
theorem dX8_successor_33 : decode cX8_successor 33 = .ok (.aload_n 0, 1) := by decide +kernel
theorem dX8_successor_34 : decode cX8_successor 34 = .ok (.iload 5, 2) := by decide +kernel
theorem dX8_successor_36 : decode cX8_successor 36 = .ok (.invokevirtual 242, 3) := by decide +kernel
theorem dX8_successor_39 : decode cX8_successor 39 = .ok (.istore 6, 2) := by decide +kernel
theorem dX8_successor_41 : decode cX8_successor 41 = .ok (.iload 6, 2) := by decide +kernel
theorem dX8_successor_43 : decode cX8_successor 43 = .ok (.iload_n 3, 1) := by decide +kernel
theorem dX8_successor_44 : decode cX8_successor 44 = .ok (.if_icmp .le 9, 3) := by decide +kernel
theorem dX8_successor_47 : decode cX8_successor 47 = .ok (.iload 5, 2) := by decide +kernel
theorem dX8_successor_49 : decode cX8_successor 49 = .ok (.istore_n 2, 1) := by decide +kernel
theorem dX8_successor_50 : decode cX8_successor 50 = .ok (.iload 6, 2) := by decide +kernel
theorem dX8_successor_52 : decode cX8_successor 52 = .ok (.istore_n 3, 1) := by decide +kernel
theorem dX8_successor_53 : decode cX8_successor 53 = .ok (.iinc 4 1, 3) := by decide +kernel
theorem dX8_successor_56 : decode cX8_successor 56 = .ok (.goto (-49), 3) := by decide +kernel
theorem dX8_successor_59 : decode cX8_successor 59 = .ok (.iload_n 2, 1) := by decide +kernel
theorem dX8_successor_60 : decode cX8_successor 60 = .ok (.ireturn, 1) := by decide +kernel
theorem dX8_giveUp_0 : decode cX8_giveUp 0 = .ok (.aload_n 0, 1) := by decide +kernel
theorem dX8_giveUp_1 : decode cX8_giveUp 1 = .ok (.iload_n 2, 1) := by decide +kernel
theorem dX8_giveUp_2 : decode cX8_giveUp 2 = .ok (.invokevirtual 269, 3) := by decide +kernel
theorem dX8_giveUp_5 : decode cX8_giveUp 5 = .ok (.istore_n 3, 1) := by decide +kernel
theorem dX8_giveUp_6 : decode cX8_giveUp 6 = .ok (.aload_n 0, 1) := by decide +kernel
theorem dX8_giveUp_7 : decode cX8_giveUp 7 = .ok (.iconst 4, 1) := by decide +kernel
theorem dX8_giveUp_8 : decode cX8_giveUp 8 = .ok (.iload_n 1, 1) := by decide +kernel
theorem dX8_giveUp_9 : decode cX8_giveUp 9 = .ok (.iload_n 2, 1) := by decide +kernel
theorem dX8_giveUp_10 : decode cX8_giveUp 10 = .ok (.invokevirtual 251, 3) := by decide +kernel
theorem dX8_giveUp_13 : decode cX8_giveUp 13 = .ok (.aload_n 0, 1) := by decide +kernel
theorem dX8_giveUp_14 : decode cX8_giveUp 14 = .ok (.getfield 7, 3) := by decide +kernel
theorem dX8_giveUp_17 : decode cX8_giveUp 17 = .ok (.bipush 14, 2) := by decide +kernel
theorem dX8_giveUp_19 : decode cX8_giveUp 19 = .ok (.iload_n 2, 1) := by decide +kernel
theorem dX8_giveUp_20 : decode cX8_giveUp 20 = .ok (.iadd, 1) := by decide +kernel
theorem dX8_giveUp_21 : decode cX8_giveUp 21 = .ok (.iload_n 3, 1) := by decide +kernel
theorem dX8_giveUp_22 : decode cX8_giveUp 22 = .ok (.iastore, 1) := by decide +kernel
theorem dX8_giveUp_23 : decode cX8_giveUp 23 = .ok (.iload_n 3, 1) := by decide +kernel
theorem dX8_giveUp_24 : decode cX8_giveUp 24 = .ok (.iconst (-1), 1) := by decide +kernel
theorem dX8_giveUp_25 : decode cX8_giveUp 25 = .ok (.if_icmp .eq 30, 3) := by decide +kernel
theorem dX8_giveUp_28 : decode cX8_giveUp 28 = .ok (.aload_n 0, 1) := by decide +kernel
theorem dX8_giveUp_29 : decode cX8_giveUp 29 = .ok (.iload_n 3, 1) := by decide +kernel
theorem dX8_giveUp_30 : decode cX8_giveUp 30 = .ok (.iconst 3, 1) := by decide +kernel
theorem dX8_giveUp_31 : decode cX8_giveUp 31 = .ok (.iconst 0, 1) := by decide +kernel
theorem dX8_giveUp_32 : decode cX8_giveUp 32 = .ok (.invokevirtual 215, 3) := by decide +kernel
theorem dX8_giveUp_35 : decode cX8_giveUp 35 = .ok (.aload_n 0, 1) := by decide +kernel
theorem dX8_giveUp_36 : decode cX8_giveUp 36 = .ok (.iload_n 3, 1) := by decide +kernel
theorem dX8_giveUp_37 : decode cX8_giveUp 37 = .ok (.bipush 8, 2) := by decide +kernel
theorem dX8_giveUp_39 : decode cX8_giveUp 39 = .ok (.iconst (-1), 1) := by decide +kernel
theorem dX8_giveUp_40 : decode cX8_giveUp 40 = .ok (.invokevirtual 215, 3) := by decide +kernel
theorem dX8_giveUp_43 : decode cX8_giveUp 43 = .ok (.aload_n 0, 1) := by decide +kernel
theorem dX8_giveUp_44 : decode cX8_giveUp 44 = .ok (.iconst 3, 1) := by decide +kernel
theorem dX8_giveUp_45 : decode cX8_giveUp 45 = .ok (.iload_n 3, 1) := by decide +kernel
theorem dX8_giveUp_46 : decode cX8_giveUp 46 = .ok (.iload_n 2, 1) := by decide +kernel
theorem dX8_giveUp_47 : decode cX8_giveUp 47 = .ok (.invokevirtual 251, 3) := by decide +kernel
theorem dX8_giveUp_50 : decode cX8_giveUp 50 = .ok (.aload_n 0, 1) := by decide +kernel
theorem dX8_giveUp_51 : decode cX8_giveUp 51 = .ok (.iload_n 3, 1) := by decide +kernel
theorem dX8_giveUp_52 : decode cX8_giveUp 52 = .ok (.invokevirtual 272, 3) := by decide +kernel
theorem dX8_giveUp_55 : decode cX8_giveUp 55 = .ok (.return_, 1) := by decide +kernel
theorem dX8_lowestLock_0 : decode cX8_lowestLock 0 = .ok (.iconst 0, 1) := by decide +kernel
theorem dX8_lowestLock_1 : decode cX8_lowestLock 1 = .ok (.istore_n 2, 1) := by decide +kernel
theorem dX8_lowestLock_2 : decode cX8_lowestLock 2 = .ok (.iload_n 2, 1) := by decide +kernel
theorem dX8_lowestLock_3 : decode cX8_lowestLock 3 = .ok (.bipush 6, 2) := by decide +kernel
theorem dX8_lowestLock_5 : decode cX8_lowestLock 5 = .ok (.if_icmp .ge 24, 3) := by decide +kernel
theorem dX8_lowestLock_8 : decode cX8_lowestLock 8 = .ok (.aload_n 0, 1) := by decide +kernel
theorem dX8_lowestLock_9 : decode cX8_lowestLock 9 = .ok (.getfield 7, 3) := by decide +kernel
theorem dX8_lowestLock_12 : decode cX8_lowestLock 12 = .ok (.bipush 14, 2) := by decide +kernel
theorem dX8_lowestLock_14 : decode cX8_lowestLock 14 = .ok (.iload_n 2, 1) := by decide +kernel
theorem dX8_lowestLock_15 : decode cX8_lowestLock 15 = .ok (.iadd, 1) := by decide +kernel
theorem dX8_lowestLock_16 : decode cX8_lowestLock 16 = .ok (.iaload, 1) := by decide +kernel
theorem dX8_lowestLock_17 : decode cX8_lowestLock 17 = .ok (.iload_n 1, 1) := by decide +kernel
theorem dX8_lowestLock_18 : decode cX8_lowestLock 18 = .ok (.if_icmp .ne 5, 3) := by decide +kernel
theorem dX8_lowestLock_21 : decode cX8_lowestLock 21 = .ok (.iload_n 2, 1) := by decide +kernel
theorem dX8_lowestLock_22 : decode cX8_lowestLock 22 = .ok (.ireturn, 1) := by decide +kernel
theorem dX8_lowestLock_23 : decode cX8_lowestLock 23 = .ok (.iinc 2 1, 3) := by decide +kernel
theorem dX8_lowestLock_26 : decode cX8_lowestLock 26 = .ok (.goto (-24), 3) := by decide +kernel
theorem dX8_lowestLock_29 : decode cX8_lowestLock 29 = .ok (.iconst (-1), 1) := by decide +kernel
theorem dX8_lowestLock_30 : decode cX8_lowestLock 30 = .ok (.ireturn, 1) := by decide +kernel
theorem dX8_settle_0 : decode cX8_settle 0 = .ok (.aload_n 0, 1) := by decide +kernel
theorem dX8_settle_1 : decode cX8_settle 1 = .ok (.getfield 266, 3) := by decide +kernel
theorem dX8_settle_4 : decode cX8_settle 4 = .ok (.ifCond .le 48, 3) := by decide +kernel
theorem dX8_settle_7 : decode cX8_settle 7 = .ok (.aload_n 0, 1) := by decide +kernel
theorem dX8_settle_8 : decode cX8_settle 8 = .ok (.getfield 42, 3) := by decide +kernel
theorem dX8_settle_11 : decode cX8_settle 11 = .ok (.aload_n 0, 1) := by decide +kernel
theorem dX8_settle_12 : decode cX8_settle 12 = .ok (.getfield 266, 3) := by decide +kernel
theorem dX8_settle_15 : decode cX8_settle 15 = .ok (.iconst 1, 1) := by decide +kernel
theorem dX8_settle_16 : decode cX8_settle 16 = .ok (.isub, 1) := by decide +kernel
theorem dX8_settle_17 : decode cX8_settle 17 = .ok (.iaload, 1) := by decide +kernel
theorem dX8_settle_18 : decode cX8_settle 18 = .ok (.istore_n 1, 1) := by decide +kernel
theorem dX8_settle_19 : decode cX8_settle 19 = .ok (.aload_n 0, 1) := by decide +kernel
theorem dX8_settle_20 : decode cX8_settle 20 = .ok (.iload_n 1, 1) := by decide +kernel
theorem dX8_settle_21 : decode cX8_settle 21 = .ok (.invokevirtual 275, 3) := by decide +kernel
theorem dX8_settle_24 : decode cX8_settle 24 = .ok (.istore_n 2, 1) := by decide +kernel
theorem dX8_settle_25 : decode cX8_settle 25 = .ok (.iload_n 2, 1) := by decide +kernel
theorem dX8_settle_26 : decode cX8_settle 26 = .ok (.iconst (-1), 1) := by decide +kernel
theorem dX8_settle_27 : decode cX8_settle 27 = .ok (.if_icmp .ne 16, 3) := by decide +kernel
theorem dX8_settle_30 : decode cX8_settle 30 = .ok (.aload_n 0, 1) := by decide +kernel
theorem dX8_settle_31 : decode cX8_settle 31 = .ok (.dup, 1) := by decide +kernel
theorem dX8_settle_32 : decode cX8_settle 32 = .ok (.getfield 266, 3) := by decide +kernel
theorem dX8_settle_35 : decode cX8_settle 35 = .ok (.iconst 1, 1) := by decide +kernel
theorem dX8_settle_36 : decode cX8_settle 36 = .ok (.isub, 1) := by decide +kernel
theorem dX8_settle_37 : decode cX8_settle 37 = .ok (.putfield 266, 3) := by decide +kernel
theorem dX8_settle_40 : decode cX8_settle 40 = .ok (.goto 9, 3) := by decide +kernel
theorem dX8_settle_43 : decode cX8_settle 43 = .ok (.aload_n 0, 1) := by decide +kernel
theorem dX8_settle_44 : decode cX8_settle 44 = .ok (.iload_n 1, 1) := by decide +kernel
theorem dX8_settle_45 : decode cX8_settle 45 = .ok (.iload_n 2, 1) := by decide +kernel
theorem dX8_settle_46 : decode cX8_settle 46 = .ok (.invokevirtual 278, 3) := by decide +kernel
theorem dX8_settle_49 : decode cX8_settle 49 = .ok (.goto (-49), 3) := by decide +kernel
theorem dX8_settle_52 : decode cX8_settle 52 = .ok (.return_, 1) := by decide +kernel
theorem dX8_finish_0 : decode cX8_finish 0 = .ok (.aload_n 0, 1) := by decide +kernel
theorem dX8_finish_1 : decode cX8_finish 1 = .ok (.iload_n 1, 1) := by decide +kernel
theorem dX8_finish_2 : decode cX8_finish 2 = .ok (.invokevirtual 272, 3) := by decide +kernel
theorem dX8_finish_5 : decode cX8_finish 5 = .ok (.aload_n 0, 1) := by decide +kernel
theorem dX8_finish_6 : decode cX8_finish 6 = .ok (.invokevirtual 257, 3) := by decide +kernel
theorem dX8_finish_9 : decode cX8_finish 9 = .ok (.return_, 1) := by decide +kernel
theorem dX8_fault_0 : decode cX8_fault 0 = .ok (.aload_n 0, 1) := by decide +kernel
theorem dX8_fault_1 : decode cX8_fault 1 = .ok (.iload_n 1, 1) := by decide +kernel
theorem dX8_fault_2 : decode cX8_fault 2 = .ok (.iconst 3, 1) := by decide +kernel
theorem dX8_fault_3 : decode cX8_fault 3 = .ok (.iconst 4, 1) := by decide +kernel
theorem dX8_fault_4 : decode cX8_fault 4 = .ok (.invokevirtual 215, 3) := by decide +kernel
theorem dX8_fault_7 : decode cX8_fault 7 = .ok (.aload_n 0, 1) := by decide +kernel
theorem dX8_fault_8 : decode cX8_fault 8 = .ok (.bipush 6, 2) := by decide +kernel
theorem dX8_fault_10 : decode cX8_fault 10 = .ok (.iload_n 1, 1) := by decide +kernel
theorem dX8_fault_11 : decode cX8_fault 11 = .ok (.aload_n 0, 1) := by decide +kernel
theorem dX8_fault_12 : decode cX8_fault 12 = .ok (.iload_n 1, 1) := by decide +kernel
theorem dX8_fault_13 : decode cX8_fault 13 = .ok (.iconst 2, 1) := by decide +kernel
theorem dX8_fault_14 : decode cX8_fault 14 = .ok (.invokevirtual 164, 3) := by decide +kernel
theorem dX8_fault_17 : decode cX8_fault 17 = .ok (.invokevirtual 251, 3) := by decide +kernel
theorem dX8_fault_20 : decode cX8_fault 20 = .ok (.return_, 1) := by decide +kernel
theorem dX8_doRun_0 : decode cX8_doRun 0 = .ok (.aload_n 0, 1) := by decide +kernel
theorem dX8_doRun_1 : decode cX8_doRun 1 = .ok (.iload_n 1, 1) := by decide +kernel
theorem dX8_doRun_2 : decode cX8_doRun 2 = .ok (.bipush 17, 2) := by decide +kernel
theorem dX8_doRun_4 : decode cX8_doRun 4 = .ok (.invokevirtual 221, 3) := by decide +kernel
theorem dX8_doRun_7 : decode cX8_doRun 7 = .ok (.aload_n 0, 1) := by decide +kernel
theorem dX8_doRun_8 : decode cX8_doRun 8 = .ok (.iload_n 1, 1) := by decide +kernel
theorem dX8_doRun_9 : decode cX8_doRun 9 = .ok (.bipush 17, 2) := by decide +kernel
theorem dX8_doRun_11 : decode cX8_doRun 11 = .ok (.invokevirtual 164, 3) := by decide +kernel
theorem dX8_doRun_14 : decode cX8_doRun 14 = .ok (.iload_n 2, 1) := by decide +kernel
theorem dX8_doRun_15 : decode cX8_doRun 15 = .ok (.if_icmp .ne 8, 3) := by decide +kernel
theorem dX8_doRun_18 : decode cX8_doRun 18 = .ok (.aload_n 0, 1) := by decide +kernel
theorem dX8_doRun_19 : decode cX8_doRun 19 = .ok (.iload_n 1, 1) := by decide +kernel
theorem dX8_doRun_20 : decode cX8_doRun 20 = .ok (.invokevirtual 281, 3) := by decide +kernel
theorem dX8_doRun_23 : decode cX8_doRun 23 = .ok (.return_, 1) := by decide +kernel
theorem dX8_doAwait_0 : decode cX8_doAwait 0 = .ok (.aload_n 0, 1) := by decide +kernel
theorem dX8_doAwait_1 : decode cX8_doAwait 1 = .ok (.iload_n 2, 1) := by decide +kernel
theorem dX8_doAwait_2 : decode cX8_doAwait 2 = .ok (.invokevirtual 55, 3) := by decide +kernel
theorem dX8_doAwait_5 : decode cX8_doAwait 5 = .ok (.ifCond .eq 11, 3) := by decide +kernel
theorem dX8_doAwait_8 : decode cX8_doAwait 8 = .ok (.aload_n 0, 1) := by decide +kernel
theorem dX8_doAwait_9 : decode cX8_doAwait 9 = .ok (.iload_n 1, 1) := by decide +kernel
theorem dX8_doAwait_10 : decode cX8_doAwait 10 = .ok (.invokevirtual 281, 3) := by decide +kernel
theorem dX8_doAwait_13 : decode cX8_doAwait 13 = .ok (.goto 9, 3) := by decide +kernel
theorem dX8_doAwait_16 : decode cX8_doAwait 16 = .ok (.aload_n 0, 1) := by decide +kernel
theorem dX8_doAwait_17 : decode cX8_doAwait 17 = .ok (.iload_n 1, 1) := by decide +kernel
theorem dX8_doAwait_18 : decode cX8_doAwait 18 = .ok (.iconst (-1), 1) := by decide +kernel
theorem dX8_doAwait_19 : decode cX8_doAwait 19 = .ok (.invokevirtual 284, 3) := by decide +kernel
theorem dX8_doAwait_22 : decode cX8_doAwait 22 = .ok (.return_, 1) := by decide +kernel
theorem dX8_doTell_0 : decode cX8_doTell 0 = .ok (.aload_n 0, 1) := by decide +kernel
theorem dX8_doTell_1 : decode cX8_doTell 1 = .ok (.iload_n 1, 1) := by decide +kernel
theorem dX8_doTell_2 : decode cX8_doTell 2 = .ok (.bipush 6, 2) := by decide +kernel
theorem dX8_doTell_4 : decode cX8_doTell 4 = .ok (.invokevirtual 164, 3) := by decide +kernel
theorem dX8_doTell_7 : decode cX8_doTell 7 = .ok (.iconst 1, 1) := by decide +kernel
theorem dX8_doTell_8 : decode cX8_doTell 8 = .ok (.if_icmp .ne 45, 3) := by decide +kernel
theorem dX8_doTell_11 : decode cX8_doTell 11 = .ok (.aload_n 0, 1) := by decide +kernel
theorem dX8_doTell_12 : decode cX8_doTell 12 = .ok (.iload_n 1, 1) := by decide +kernel
theorem dX8_doTell_13 : decode cX8_doTell 13 = .ok (.bipush 6, 2) := by decide +kernel
theorem dX8_doTell_15 : decode cX8_doTell 15 = .ok (.iconst 0, 1) := by decide +kernel
theorem dX8_doTell_16 : decode cX8_doTell 16 = .ok (.invokevirtual 215, 3) := by decide +kernel
theorem dX8_doTell_19 : decode cX8_doTell 19 = .ok (.aload_n 0, 1) := by decide +kernel
theorem dX8_doTell_20 : decode cX8_doTell 20 = .ok (.iload_n 2, 1) := by decide +kernel
theorem dX8_doTell_21 : decode cX8_doTell 21 = .ok (.invokevirtual 228, 3) := by decide +kernel
theorem dX8_doTell_24 : decode cX8_doTell 24 = .ok (.ifCond .eq 29, 3) := by decide +kernel
theorem dX8_doTell_27 : decode cX8_doTell 27 = .ok (.aload_n 0, 1) := by decide +kernel
theorem dX8_doTell_28 : decode cX8_doTell 28 = .ok (.getfield 7, 3) := by decide +kernel
theorem dX8_doTell_31 : decode cX8_doTell 31 = .ok (.bipush 11, 2) := by decide +kernel
theorem dX8_doTell_33 : decode cX8_doTell 33 = .ok (.dup2, 1) := by decide +kernel
theorem dX8_doTell_34 : decode cX8_doTell 34 = .ok (.iaload, 1) := by decide +kernel
theorem dX8_doTell_35 : decode cX8_doTell 35 = .ok (.iconst 1, 1) := by decide +kernel
theorem dX8_doTell_36 : decode cX8_doTell 36 = .ok (.iadd, 1) := by decide +kernel
theorem dX8_doTell_37 : decode cX8_doTell 37 = .ok (.iastore, 1) := by decide +kernel
theorem dX8_doTell_38 : decode cX8_doTell 38 = .ok (.aload_n 0, 1) := by decide +kernel
theorem dX8_doTell_39 : decode cX8_doTell 39 = .ok (.bipush 9, 2) := by decide +kernel
theorem dX8_doTell_41 : decode cX8_doTell 41 = .ok (.iload_n 1, 1) := by decide +kernel
theorem dX8_doTell_42 : decode cX8_doTell 42 = .ok (.iload_n 2, 1) := by decide +kernel
theorem dX8_doTell_43 : decode cX8_doTell 43 = .ok (.invokevirtual 251, 3) := by decide +kernel
theorem dX8_doTell_46 : decode cX8_doTell 46 = .ok (.aload_n 0, 1) := by decide +kernel
theorem dX8_doTell_47 : decode cX8_doTell 47 = .ok (.iload_n 2, 1) := by decide +kernel
theorem dX8_doTell_48 : decode cX8_doTell 48 = .ok (.iload_n 1, 1) := by decide +kernel
theorem dX8_doTell_49 : decode cX8_doTell 49 = .ok (.invokevirtual 263, 3) := by decide +kernel
theorem dX8_doTell_52 : decode cX8_doTell 52 = .ok (.istore_n 3, 1) := by decide +kernel
theorem dX8_doTell_53 : decode cX8_doTell 53 = .ok (.aload_n 0, 1) := by decide +kernel
theorem dX8_doTell_54 : decode cX8_doTell 54 = .ok (.iload_n 1, 1) := by decide +kernel
theorem dX8_doTell_55 : decode cX8_doTell 55 = .ok (.invokevirtual 281, 3) := by decide +kernel
theorem dX8_doTell_58 : decode cX8_doTell 58 = .ok (.return_, 1) := by decide +kernel
theorem dX8_doSteal_0 : decode cX8_doSteal 0 = .ok (.aload_n 0, 1) := by decide +kernel
theorem dX8_doSteal_1 : decode cX8_doSteal 1 = .ok (.iload_n 2, 1) := by decide +kernel
theorem dX8_doSteal_2 : decode cX8_doSteal 2 = .ok (.invokevirtual 228, 3) := by decide +kernel
theorem dX8_doSteal_5 : decode cX8_doSteal 5 = .ok (.ifCond .eq 51, 3) := by decide +kernel
theorem dX8_doSteal_8 : decode cX8_doSteal 8 = .ok (.iload_n 2, 1) := by decide +kernel
theorem dX8_doSteal_9 : decode cX8_doSteal 9 = .ok (.iload_n 1, 1) := by decide +kernel
theorem dX8_doSteal_10 : decode cX8_doSteal 10 = .ok (.if_icmp .eq 46, 3) := by decide +kernel
theorem dX8_doSteal_13 : decode cX8_doSteal 13 = .ok (.aload_n 0, 1) := by decide +kernel
theorem dX8_doSteal_14 : decode cX8_doSteal 14 = .ok (.iload_n 2, 1) := by decide +kernel
theorem dX8_doSteal_15 : decode cX8_doSteal 15 = .ok (.iconst 4, 1) := by decide +kernel
theorem dX8_doSteal_16 : decode cX8_doSteal 16 = .ok (.invokevirtual 164, 3) := by decide +kernel
theorem dX8_doSteal_19 : decode cX8_doSteal 19 = .ok (.iconst 1, 1) := by decide +kernel
theorem dX8_doSteal_20 : decode cX8_doSteal 20 = .ok (.if_icmp .ne 36, 3) := by decide +kernel
theorem dX8_doSteal_23 : decode cX8_doSteal 23 = .ok (.aload_n 0, 1) := by decide +kernel
theorem dX8_doSteal_24 : decode cX8_doSteal 24 = .ok (.iload_n 2, 1) := by decide +kernel
theorem dX8_doSteal_25 : decode cX8_doSteal 25 = .ok (.iconst 4, 1) := by decide +kernel
theorem dX8_doSteal_26 : decode cX8_doSteal 26 = .ok (.iconst 0, 1) := by decide +kernel
theorem dX8_doSteal_27 : decode cX8_doSteal 27 = .ok (.invokevirtual 215, 3) := by decide +kernel
theorem dX8_doSteal_30 : decode cX8_doSteal 30 = .ok (.aload_n 0, 1) := by decide +kernel
theorem dX8_doSteal_31 : decode cX8_doSteal 31 = .ok (.iload_n 1, 1) := by decide +kernel
theorem dX8_doSteal_32 : decode cX8_doSteal 32 = .ok (.iconst 4, 1) := by decide +kernel
theorem dX8_doSteal_33 : decode cX8_doSteal 33 = .ok (.iconst 1, 1) := by decide +kernel
theorem dX8_doSteal_34 : decode cX8_doSteal 34 = .ok (.invokevirtual 215, 3) := by decide +kernel
theorem dX8_doSteal_37 : decode cX8_doSteal 37 = .ok (.aload_n 0, 1) := by decide +kernel
theorem dX8_doSteal_38 : decode cX8_doSteal 38 = .ok (.getfield 7, 3) := by decide +kernel
theorem dX8_doSteal_41 : decode cX8_doSteal 41 = .ok (.bipush 10, 2) := by decide +kernel
theorem dX8_doSteal_43 : decode cX8_doSteal 43 = .ok (.dup2, 1) := by decide +kernel
theorem dX8_doSteal_44 : decode cX8_doSteal 44 = .ok (.iaload, 1) := by decide +kernel
theorem dX8_doSteal_45 : decode cX8_doSteal 45 = .ok (.iconst 1, 1) := by decide +kernel
theorem dX8_doSteal_46 : decode cX8_doSteal 46 = .ok (.iadd, 1) := by decide +kernel
theorem dX8_doSteal_47 : decode cX8_doSteal 47 = .ok (.iastore, 1) := by decide +kernel
theorem dX8_doSteal_48 : decode cX8_doSteal 48 = .ok (.aload_n 0, 1) := by decide +kernel
theorem dX8_doSteal_49 : decode cX8_doSteal 49 = .ok (.bipush 8, 2) := by decide +kernel
theorem dX8_doSteal_51 : decode cX8_doSteal 51 = .ok (.iload_n 1, 1) := by decide +kernel
theorem dX8_doSteal_52 : decode cX8_doSteal 52 = .ok (.iload_n 2, 1) := by decide +kernel
theorem dX8_doSteal_53 : decode cX8_doSteal 53 = .ok (.invokevirtual 251, 3) := by decide +kernel
theorem dX8_doSteal_56 : decode cX8_doSteal 56 = .ok (.aload_n 0, 1) := by decide +kernel
theorem dX8_doSteal_57 : decode cX8_doSteal 57 = .ok (.iload_n 1, 1) := by decide +kernel
theorem dX8_doSteal_58 : decode cX8_doSteal 58 = .ok (.invokevirtual 281, 3) := by decide +kernel
theorem dX8_doSteal_61 : decode cX8_doSteal 61 = .ok (.return_, 1) := by decide +kernel
theorem dX8_doLock_0 : decode cX8_doLock 0 = .ok (.aload_n 0, 1) := by decide +kernel
theorem dX8_doLock_1 : decode cX8_doLock 1 = .ok (.getfield 7, 3) := by decide +kernel
theorem dX8_doLock_4 : decode cX8_doLock 4 = .ok (.bipush 14, 2) := by decide +kernel
theorem dX8_doLock_6 : decode cX8_doLock 6 = .ok (.iload_n 2, 1) := by decide +kernel
theorem dX8_doLock_7 : decode cX8_doLock 7 = .ok (.iadd, 1) := by decide +kernel
theorem dX8_doLock_8 : decode cX8_doLock 8 = .ok (.iaload, 1) := by decide +kernel
theorem dX8_doLock_9 : decode cX8_doLock 9 = .ok (.istore_n 3, 1) := by decide +kernel
theorem dX8_doLock_10 : decode cX8_doLock 10 = .ok (.iload_n 3, 1) := by decide +kernel
theorem dX8_doLock_11 : decode cX8_doLock 11 = .ok (.iconst (-1), 1) := by decide +kernel
theorem dX8_doLock_12 : decode cX8_doLock 12 = .ok (.if_icmp .ne 28, 3) := by decide +kernel
theorem dX8_doLock_15 : decode cX8_doLock 15 = .ok (.aload_n 0, 1) := by decide +kernel
theorem dX8_doLock_16 : decode cX8_doLock 16 = .ok (.getfield 7, 3) := by decide +kernel
theorem dX8_doLock_19 : decode cX8_doLock 19 = .ok (.bipush 14, 2) := by decide +kernel
theorem dX8_doLock_21 : decode cX8_doLock 21 = .ok (.iload_n 2, 1) := by decide +kernel
theorem dX8_doLock_22 : decode cX8_doLock 22 = .ok (.iadd, 1) := by decide +kernel
theorem dX8_doLock_23 : decode cX8_doLock 23 = .ok (.iload_n 1, 1) := by decide +kernel
theorem dX8_doLock_24 : decode cX8_doLock 24 = .ok (.iastore, 1) := by decide +kernel
theorem dX8_doLock_25 : decode cX8_doLock 25 = .ok (.aload_n 0, 1) := by decide +kernel
theorem dX8_doLock_26 : decode cX8_doLock 26 = .ok (.iconst 3, 1) := by decide +kernel
theorem dX8_doLock_27 : decode cX8_doLock 27 = .ok (.iload_n 1, 1) := by decide +kernel
theorem dX8_doLock_28 : decode cX8_doLock 28 = .ok (.iload_n 2, 1) := by decide +kernel
theorem dX8_doLock_29 : decode cX8_doLock 29 = .ok (.invokevirtual 251, 3) := by decide +kernel
theorem dX8_doLock_32 : decode cX8_doLock 32 = .ok (.aload_n 0, 1) := by decide +kernel
theorem dX8_doLock_33 : decode cX8_doLock 33 = .ok (.iload_n 1, 1) := by decide +kernel
theorem dX8_doLock_34 : decode cX8_doLock 34 = .ok (.invokevirtual 281, 3) := by decide +kernel
theorem dX8_doLock_37 : decode cX8_doLock 37 = .ok (.goto 63, 3) := by decide +kernel
theorem dX8_doLock_40 : decode cX8_doLock 40 = .ok (.iload_n 3, 1) := by decide +kernel
theorem dX8_doLock_41 : decode cX8_doLock 41 = .ok (.iload_n 1, 1) := by decide +kernel
theorem dX8_doLock_42 : decode cX8_doLock 42 = .ok (.if_icmp .ne 11, 3) := by decide +kernel
theorem dX8_doLock_45 : decode cX8_doLock 45 = .ok (.aload_n 0, 1) := by decide +kernel
theorem dX8_doLock_46 : decode cX8_doLock 46 = .ok (.iload_n 1, 1) := by decide +kernel
theorem dX8_doLock_47 : decode cX8_doLock 47 = .ok (.invokevirtual 286, 3) := by decide +kernel
theorem dX8_doLock_50 : decode cX8_doLock 50 = .ok (.goto 50, 3) := by decide +kernel
theorem dX8_doLock_53 : decode cX8_doLock 53 = .ok (.aload_n 0, 1) := by decide +kernel
theorem dX8_doLock_54 : decode cX8_doLock 54 = .ok (.iload_n 1, 1) := by decide +kernel
theorem dX8_doLock_55 : decode cX8_doLock 55 = .ok (.iconst 3, 1) := by decide +kernel
theorem dX8_doLock_56 : decode cX8_doLock 56 = .ok (.iconst 2, 1) := by decide +kernel
theorem dX8_doLock_57 : decode cX8_doLock 57 = .ok (.invokevirtual 215, 3) := by decide +kernel
theorem dX8_doLock_60 : decode cX8_doLock 60 = .ok (.aload_n 0, 1) := by decide +kernel
theorem dX8_doLock_61 : decode cX8_doLock 61 = .ok (.iload_n 1, 1) := by decide +kernel
theorem dX8_doLock_62 : decode cX8_doLock 62 = .ok (.bipush 8, 2) := by decide +kernel
theorem dX8_doLock_64 : decode cX8_doLock 64 = .ok (.iload_n 2, 1) := by decide +kernel
theorem dX8_doLock_65 : decode cX8_doLock 65 = .ok (.invokevirtual 215, 3) := by decide +kernel
theorem dX8_doLock_68 : decode cX8_doLock 68 = .ok (.aload_n 0, 1) := by decide +kernel
theorem dX8_doLock_69 : decode cX8_doLock 69 = .ok (.iload_n 1, 1) := by decide +kernel
theorem dX8_doLock_70 : decode cX8_doLock 70 = .ok (.bipush 18, 2) := by decide +kernel
theorem dX8_doLock_72 : decode cX8_doLock 72 = .ok (.aload_n 0, 1) := by decide +kernel
theorem dX8_doLock_73 : decode cX8_doLock 73 = .ok (.getfield 7, 3) := by decide +kernel
theorem dX8_doLock_76 : decode cX8_doLock 76 = .ok (.bipush 12, 2) := by decide +kernel
theorem dX8_doLock_78 : decode cX8_doLock 78 = .ok (.iaload, 1) := by decide +kernel
theorem dX8_doLock_79 : decode cX8_doLock 79 = .ok (.invokevirtual 215, 3) := by decide +kernel
theorem dX8_doLock_82 : decode cX8_doLock 82 = .ok (.aload_n 0, 1) := by decide +kernel
theorem dX8_doLock_83 : decode cX8_doLock 83 = .ok (.getfield 7, 3) := by decide +kernel
theorem dX8_doLock_86 : decode cX8_doLock 86 = .ok (.bipush 12, 2) := by decide +kernel
theorem dX8_doLock_88 : decode cX8_doLock 88 = .ok (.dup2, 1) := by decide +kernel
theorem dX8_doLock_89 : decode cX8_doLock 89 = .ok (.iaload, 1) := by decide +kernel
theorem dX8_doLock_90 : decode cX8_doLock 90 = .ok (.iconst 1, 1) := by decide +kernel
theorem dX8_doLock_91 : decode cX8_doLock 91 = .ok (.iadd, 1) := by decide +kernel
theorem dX8_doLock_92 : decode cX8_doLock 92 = .ok (.iastore, 1) := by decide +kernel
theorem dX8_doLock_93 : decode cX8_doLock 93 = .ok (.aload_n 0, 1) := by decide +kernel
theorem dX8_doLock_94 : decode cX8_doLock 94 = .ok (.iconst 2, 1) := by decide +kernel
theorem dX8_doLock_95 : decode cX8_doLock 95 = .ok (.iload_n 1, 1) := by decide +kernel
theorem dX8_doLock_96 : decode cX8_doLock 96 = .ok (.iload_n 2, 1) := by decide +kernel
theorem dX8_doLock_97 : decode cX8_doLock 97 = .ok (.invokevirtual 251, 3) := by decide +kernel
theorem dX8_doLock_100 : decode cX8_doLock 100 = .ok (.return_, 1) := by decide +kernel
theorem dX8_doUnlock_0 : decode cX8_doUnlock 0 = .ok (.aload_n 0, 1) := by decide +kernel
theorem dX8_doUnlock_1 : decode cX8_doUnlock 1 = .ok (.getfield 7, 3) := by decide +kernel
theorem dX8_doUnlock_4 : decode cX8_doUnlock 4 = .ok (.bipush 14, 2) := by decide +kernel
theorem dX8_doUnlock_6 : decode cX8_doUnlock 6 = .ok (.iload_n 2, 1) := by decide +kernel
theorem dX8_doUnlock_7 : decode cX8_doUnlock 7 = .ok (.iadd, 1) := by decide +kernel
theorem dX8_doUnlock_8 : decode cX8_doUnlock 8 = .ok (.iaload, 1) := by decide +kernel
theorem dX8_doUnlock_9 : decode cX8_doUnlock 9 = .ok (.iload_n 1, 1) := by decide +kernel
theorem dX8_doUnlock_10 : decode cX8_doUnlock 10 = .ok (.if_icmp .eq 9, 3) := by decide +kernel
theorem dX8_doUnlock_13 : decode cX8_doUnlock 13 = .ok (.aload_n 0, 1) := by decide +kernel
theorem dX8_doUnlock_14 : decode cX8_doUnlock 14 = .ok (.iload_n 1, 1) := by decide +kernel
theorem dX8_doUnlock_15 : decode cX8_doUnlock 15 = .ok (.invokevirtual 286, 3) := by decide +kernel
theorem dX8_doUnlock_18 : decode cX8_doUnlock 18 = .ok (.return_, 1) := by decide +kernel
theorem dX8_doUnlock_19 : decode cX8_doUnlock 19 = .ok (.aload_n 0, 1) := by decide +kernel
theorem dX8_doUnlock_20 : decode cX8_doUnlock 20 = .ok (.iload_n 1, 1) := by decide +kernel
theorem dX8_doUnlock_21 : decode cX8_doUnlock 21 = .ok (.iload_n 2, 1) := by decide +kernel
theorem dX8_doUnlock_22 : decode cX8_doUnlock 22 = .ok (.invokevirtual 278, 3) := by decide +kernel
theorem dX8_doUnlock_25 : decode cX8_doUnlock 25 = .ok (.aload_n 0, 1) := by decide +kernel
theorem dX8_doUnlock_26 : decode cX8_doUnlock 26 = .ok (.invokevirtual 257, 3) := by decide +kernel
theorem dX8_doUnlock_29 : decode cX8_doUnlock 29 = .ok (.aload_n 0, 1) := by decide +kernel
theorem dX8_doUnlock_30 : decode cX8_doUnlock 30 = .ok (.iload_n 1, 1) := by decide +kernel
theorem dX8_doUnlock_31 : decode cX8_doUnlock 31 = .ok (.invokevirtual 281, 3) := by decide +kernel
theorem dX8_doUnlock_34 : decode cX8_doUnlock 34 = .ok (.return_, 1) := by decide +kernel
theorem dX8_perform_0 : decode cX8_perform 0 = .ok (.iload_n 1, 1) := by decide +kernel
theorem dX8_perform_1 : decode cX8_perform 1 = .ok (.aload_n 0, 1) := by decide +kernel
theorem dX8_perform_2 : decode cX8_perform 2 = .ok (.iload_n 1, 1) := by decide +kernel
theorem dX8_perform_3 : decode cX8_perform 3 = .ok (.iconst 2, 1) := by decide +kernel
theorem dX8_perform_4 : decode cX8_perform 4 = .ok (.invokevirtual 164, 3) := by decide +kernel
theorem dX8_perform_7 : decode cX8_perform 7 = .ok (.invokestatic 218, 3) := by decide +kernel
theorem dX8_perform_10 : decode cX8_perform 10 = .ok (.istore_n 2, 1) := by decide +kernel
theorem dX8_perform_11 : decode cX8_perform 11 = .ok (.aload_n 0, 1) := by decide +kernel
theorem dX8_perform_12 : decode cX8_perform 12 = .ok (.getfield 7, 3) := by decide +kernel
theorem dX8_perform_15 : decode cX8_perform 15 = .ok (.iload_n 2, 1) := by decide +kernel
theorem dX8_perform_16 : decode cX8_perform 16 = .ok (.iconst 1, 1) := by decide +kernel
theorem dX8_perform_17 : decode cX8_perform 17 = .ok (.iadd, 1) := by decide +kernel
theorem dX8_perform_18 : decode cX8_perform 18 = .ok (.iaload, 1) := by decide +kernel
theorem dX8_perform_19 : decode cX8_perform 19 = .ok (.istore_n 3, 1) := by decide +kernel
theorem dX8_perform_20 : decode cX8_perform 20 = .ok (.aload_n 0, 1) := by decide +kernel
theorem dX8_perform_21 : decode cX8_perform 21 = .ok (.getfield 7, 3) := by decide +kernel
theorem dX8_perform_24 : decode cX8_perform 24 = .ok (.iload_n 2, 1) := by decide +kernel
theorem dX8_perform_25 : decode cX8_perform 25 = .ok (.iaload, 1) := by decide +kernel
theorem dX8_perform_26 : decode cX8_perform 26 = .ok (.tableswitch 171 0 9 #[54, 63, 77, 98, 107, 107, 135, 144, 153, 162], 54) := by decide +kernel
theorem dX8_perform_80 : decode cX8_perform 80 = .ok (.aload_n 0, 1) := by decide +kernel
theorem dX8_perform_81 : decode cX8_perform 81 = .ok (.iload_n 1, 1) := by decide +kernel
theorem dX8_perform_82 : decode cX8_perform 82 = .ok (.iload_n 3, 1) := by decide +kernel
theorem dX8_perform_83 : decode cX8_perform 83 = .ok (.invokevirtual 289, 3) := by decide +kernel
theorem dX8_perform_86 : decode cX8_perform 86 = .ok (.goto 117, 3) := by decide +kernel
theorem dX8_perform_89 : decode cX8_perform 89 = .ok (.aload_n 0, 1) := by decide +kernel
theorem dX8_perform_90 : decode cX8_perform 90 = .ok (.iload_n 1, 1) := by decide +kernel
theorem dX8_perform_91 : decode cX8_perform 91 = .ok (.iconst (-1), 1) := by decide +kernel
theorem dX8_perform_92 : decode cX8_perform 92 = .ok (.invokevirtual 284, 3) := by decide +kernel
theorem dX8_perform_95 : decode cX8_perform 95 = .ok (.aload_n 0, 1) := by decide +kernel
theorem dX8_perform_96 : decode cX8_perform 96 = .ok (.iload_n 1, 1) := by decide +kernel
theorem dX8_perform_97 : decode cX8_perform 97 = .ok (.invokevirtual 292, 3) := by decide +kernel
theorem dX8_perform_100 : decode cX8_perform 100 = .ok (.goto 103, 3) := by decide +kernel
theorem dX8_perform_103 : decode cX8_perform 103 = .ok (.aload_n 0, 1) := by decide +kernel
theorem dX8_perform_104 : decode cX8_perform 104 = .ok (.iload_n 1, 1) := by decide +kernel
theorem dX8_perform_105 : decode cX8_perform 105 = .ok (.aload_n 0, 1) := by decide +kernel
theorem dX8_perform_106 : decode cX8_perform 106 = .ok (.getfield 7, 3) := by decide +kernel
theorem dX8_perform_109 : decode cX8_perform 109 = .ok (.iconst 3, 1) := by decide +kernel
theorem dX8_perform_110 : decode cX8_perform 110 = .ok (.iaload, 1) := by decide +kernel
theorem dX8_perform_111 : decode cX8_perform 111 = .ok (.iload_n 3, 1) := by decide +kernel
theorem dX8_perform_112 : decode cX8_perform 112 = .ok (.iadd, 1) := by decide +kernel
theorem dX8_perform_113 : decode cX8_perform 113 = .ok (.invokevirtual 284, 3) := by decide +kernel
theorem dX8_perform_116 : decode cX8_perform 116 = .ok (.aload_n 0, 1) := by decide +kernel
theorem dX8_perform_117 : decode cX8_perform 117 = .ok (.iload_n 1, 1) := by decide +kernel
theorem dX8_perform_118 : decode cX8_perform 118 = .ok (.invokevirtual 292, 3) := by decide +kernel
theorem dX8_perform_121 : decode cX8_perform 121 = .ok (.goto 82, 3) := by decide +kernel
theorem dX8_perform_124 : decode cX8_perform 124 = .ok (.aload_n 0, 1) := by decide +kernel
theorem dX8_perform_125 : decode cX8_perform 125 = .ok (.iload_n 1, 1) := by decide +kernel
theorem dX8_perform_126 : decode cX8_perform 126 = .ok (.iload_n 3, 1) := by decide +kernel
theorem dX8_perform_127 : decode cX8_perform 127 = .ok (.invokevirtual 295, 3) := by decide +kernel
theorem dX8_perform_130 : decode cX8_perform 130 = .ok (.goto 73, 3) := by decide +kernel
theorem dX8_perform_133 : decode cX8_perform 133 = .ok (.aload_n 0, 1) := by decide +kernel
theorem dX8_perform_134 : decode cX8_perform 134 = .ok (.iload_n 3, 1) := by decide +kernel
theorem dX8_perform_135 : decode cX8_perform 135 = .ok (.aload_n 0, 1) := by decide +kernel
theorem dX8_perform_136 : decode cX8_perform 136 = .ok (.getfield 7, 3) := by decide +kernel
theorem dX8_perform_139 : decode cX8_perform 139 = .ok (.iload_n 2, 1) := by decide +kernel
theorem dX8_perform_140 : decode cX8_perform 140 = .ok (.iaload, 1) := by decide +kernel
theorem dX8_perform_141 : decode cX8_perform 141 = .ok (.iconst 4, 1) := by decide +kernel
theorem dX8_perform_142 : decode cX8_perform 142 = .ok (.if_icmp .ne 7, 3) := by decide +kernel
theorem dX8_perform_145 : decode cX8_perform 145 = .ok (.iconst 1, 1) := by decide +kernel
theorem dX8_perform_146 : decode cX8_perform 146 = .ok (.goto 4, 3) := by decide +kernel
theorem dX8_perform_149 : decode cX8_perform 149 = .ok (.iconst 0, 1) := by decide +kernel
theorem dX8_perform_150 : decode cX8_perform 150 = .ok (.invokevirtual 185, 3) := by decide +kernel
theorem dX8_perform_153 : decode cX8_perform 153 = .ok (.aload_n 0, 1) := by decide +kernel
theorem dX8_perform_154 : decode cX8_perform 154 = .ok (.iload_n 1, 1) := by decide +kernel
theorem dX8_perform_155 : decode cX8_perform 155 = .ok (.invokevirtual 281, 3) := by decide +kernel
theorem dX8_perform_158 : decode cX8_perform 158 = .ok (.goto 45, 3) := by decide +kernel
theorem dX8_perform_161 : decode cX8_perform 161 = .ok (.aload_n 0, 1) := by decide +kernel
theorem dX8_perform_162 : decode cX8_perform 162 = .ok (.iload_n 1, 1) := by decide +kernel
theorem dX8_perform_163 : decode cX8_perform 163 = .ok (.iload_n 3, 1) := by decide +kernel
theorem dX8_perform_164 : decode cX8_perform 164 = .ok (.invokevirtual 298, 3) := by decide +kernel
theorem dX8_perform_167 : decode cX8_perform 167 = .ok (.goto 36, 3) := by decide +kernel
theorem dX8_perform_170 : decode cX8_perform 170 = .ok (.aload_n 0, 1) := by decide +kernel
theorem dX8_perform_171 : decode cX8_perform 171 = .ok (.iload_n 1, 1) := by decide +kernel
theorem dX8_perform_172 : decode cX8_perform 172 = .ok (.iload_n 3, 1) := by decide +kernel
theorem dX8_perform_173 : decode cX8_perform 173 = .ok (.invokevirtual 301, 3) := by decide +kernel
theorem dX8_perform_176 : decode cX8_perform 176 = .ok (.goto 27, 3) := by decide +kernel
theorem dX8_perform_179 : decode cX8_perform 179 = .ok (.aload_n 0, 1) := by decide +kernel
theorem dX8_perform_180 : decode cX8_perform 180 = .ok (.iload_n 1, 1) := by decide +kernel
theorem dX8_perform_181 : decode cX8_perform 181 = .ok (.iload_n 3, 1) := by decide +kernel
theorem dX8_perform_182 : decode cX8_perform 182 = .ok (.invokevirtual 304, 3) := by decide +kernel
theorem dX8_perform_185 : decode cX8_perform 185 = .ok (.goto 18, 3) := by decide +kernel
theorem dX8_perform_188 : decode cX8_perform 188 = .ok (.aload_n 0, 1) := by decide +kernel
theorem dX8_perform_189 : decode cX8_perform 189 = .ok (.iload_n 1, 1) := by decide +kernel
theorem dX8_perform_190 : decode cX8_perform 190 = .ok (.iload_n 3, 1) := by decide +kernel
theorem dX8_perform_191 : decode cX8_perform 191 = .ok (.invokevirtual 307, 3) := by decide +kernel
theorem dX8_perform_194 : decode cX8_perform 194 = .ok (.goto 9, 3) := by decide +kernel
theorem dX8_perform_197 : decode cX8_perform 197 = .ok (.aload_n 0, 1) := by decide +kernel
theorem dX8_perform_198 : decode cX8_perform 198 = .ok (.iload_n 1, 1) := by decide +kernel
theorem dX8_perform_199 : decode cX8_perform 199 = .ok (.iload_n 3, 1) := by decide +kernel
theorem dX8_perform_200 : decode cX8_perform 200 = .ok (.invokevirtual 310, 3) := by decide +kernel
theorem dX8_perform_203 : decode cX8_perform 203 = .ok (.return_, 1) := by decide +kernel
theorem dX8_doWake_0 : decode cX8_doWake 0 = .ok (.aload_n 0, 1) := by decide +kernel
theorem dX8_doWake_1 : decode cX8_doWake 1 = .ok (.iload_n 2, 1) := by decide +kernel
theorem dX8_doWake_2 : decode cX8_doWake 2 = .ok (.invokevirtual 228, 3) := by decide +kernel
theorem dX8_doWake_5 : decode cX8_doWake 5 = .ok (.ifCond .eq 10, 3) := by decide +kernel
theorem dX8_doWake_8 : decode cX8_doWake 8 = .ok (.aload_n 0, 1) := by decide +kernel
theorem dX8_doWake_9 : decode cX8_doWake 9 = .ok (.iload_n 2, 1) := by decide +kernel
theorem dX8_doWake_10 : decode cX8_doWake 10 = .ok (.iload_n 1, 1) := by decide +kernel
theorem dX8_doWake_11 : decode cX8_doWake 11 = .ok (.invokevirtual 263, 3) := by decide +kernel
theorem dX8_doWake_14 : decode cX8_doWake 14 = .ok (.istore_n 3, 1) := by decide +kernel
theorem dX8_doWake_15 : decode cX8_doWake 15 = .ok (.aload_n 0, 1) := by decide +kernel
theorem dX8_doWake_16 : decode cX8_doWake 16 = .ok (.iload_n 1, 1) := by decide +kernel
theorem dX8_doWake_17 : decode cX8_doWake 17 = .ok (.invokevirtual 281, 3) := by decide +kernel
theorem dX8_doWake_20 : decode cX8_doWake 20 = .ok (.return_, 1) := by decide +kernel
theorem dX8_goBehind_0 : decode cX8_goBehind 0 = .ok (.aload_n 0, 1) := by decide +kernel
theorem dX8_goBehind_1 : decode cX8_goBehind 1 = .ok (.iload_n 1, 1) := by decide +kernel
theorem dX8_goBehind_2 : decode cX8_goBehind 2 = .ok (.iconst 3, 1) := by decide +kernel
theorem dX8_goBehind_3 : decode cX8_goBehind 3 = .ok (.invokevirtual 164, 3) := by decide +kernel
theorem dX8_goBehind_6 : decode cX8_goBehind 6 = .ok (.ifCond .ne 11, 3) := by decide +kernel
theorem dX8_goBehind_9 : decode cX8_goBehind 9 = .ok (.aload_n 0, 1) := by decide +kernel
theorem dX8_goBehind_10 : decode cX8_goBehind 10 = .ok (.iload_n 1, 1) := by decide +kernel
theorem dX8_goBehind_11 : decode cX8_goBehind 11 = .ok (.invokevirtual 281, 3) := by decide +kernel
theorem dX8_goBehind_14 : decode cX8_goBehind 14 = .ok (.goto 9, 3) := by decide +kernel
theorem dX8_goBehind_17 : decode cX8_goBehind 17 = .ok (.aload_n 0, 1) := by decide +kernel
theorem dX8_goBehind_18 : decode cX8_goBehind 18 = .ok (.iload_n 1, 1) := by decide +kernel
theorem dX8_goBehind_19 : decode cX8_goBehind 19 = .ok (.iconst 2, 1) := by decide +kernel
theorem dX8_goBehind_20 : decode cX8_goBehind 20 = .ok (.invokevirtual 221, 3) := by decide +kernel
theorem dX8_goBehind_23 : decode cX8_goBehind 23 = .ok (.return_, 1) := by decide +kernel
theorem dX8_draw_0 : decode cX8_draw 0 = .ok (.aload_n 0, 1) := by decide +kernel
theorem dX8_draw_1 : decode cX8_draw 1 = .ok (.getfield 7, 3) := by decide +kernel
theorem dX8_draw_4 : decode cX8_draw 4 = .ok (.iconst 4, 1) := by decide +kernel
theorem dX8_draw_5 : decode cX8_draw 5 = .ok (.ldc2_w 313, 3) := by decide +kernel
theorem dX8_draw_8 : decode cX8_draw 8 = .ok (.aload_n 0, 1) := by decide +kernel
theorem dX8_draw_9 : decode cX8_draw 9 = .ok (.getfield 7, 3) := by decide +kernel
theorem dX8_draw_12 : decode cX8_draw 12 = .ok (.iconst 4, 1) := by decide +kernel
theorem dX8_draw_13 : decode cX8_draw 13 = .ok (.iaload, 1) := by decide +kernel
theorem dX8_draw_14 : decode cX8_draw 14 = .ok (.i2l, 1) := by decide +kernel
theorem dX8_draw_15 : decode cX8_draw 15 = .ok (.lmul, 1) := by decide +kernel
theorem dX8_draw_16 : decode cX8_draw 16 = .ok (.ldc2_w 315, 3) := by decide +kernel
theorem dX8_draw_19 : decode cX8_draw 19 = .ok (.ladd, 1) := by decide +kernel
theorem dX8_draw_20 : decode cX8_draw 20 = .ok (.ldc2_w 317, 3) := by decide +kernel
theorem dX8_draw_23 : decode cX8_draw 23 = .ok (.lrem, 1) := by decide +kernel
theorem dX8_draw_24 : decode cX8_draw 24 = .ok (.l2i, 1) := by decide +kernel
theorem dX8_draw_25 : decode cX8_draw 25 = .ok (.iastore, 1) := by decide +kernel
theorem dX8_draw_26 : decode cX8_draw 26 = .ok (.aload_n 0, 1) := by decide +kernel
theorem dX8_draw_27 : decode cX8_draw 27 = .ok (.getfield 7, 3) := by decide +kernel
theorem dX8_draw_30 : decode cX8_draw 30 = .ok (.iconst 4, 1) := by decide +kernel
theorem dX8_draw_31 : decode cX8_draw 31 = .ok (.iaload, 1) := by decide +kernel
theorem dX8_draw_32 : decode cX8_draw 32 = .ok (.iload_n 1, 1) := by decide +kernel
theorem dX8_draw_33 : decode cX8_draw 33 = .ok (.irem, 1) := by decide +kernel
theorem dX8_draw_34 : decode cX8_draw 34 = .ok (.ireturn, 1) := by decide +kernel
theorem dX8_nextDue_0 : decode cX8_nextDue 0 = .ok (.iconst (-1), 1) := by decide +kernel
theorem dX8_nextDue_1 : decode cX8_nextDue 1 = .ok (.istore_n 1, 1) := by decide +kernel
theorem dX8_nextDue_2 : decode cX8_nextDue 2 = .ok (.iconst 0, 1) := by decide +kernel
theorem dX8_nextDue_3 : decode cX8_nextDue 3 = .ok (.istore_n 2, 1) := by decide +kernel
theorem dX8_nextDue_4 : decode cX8_nextDue 4 = .ok (.iload_n 2, 1) := by decide +kernel
theorem dX8_nextDue_5 : decode cX8_nextDue 5 = .ok (.aload_n 0, 1) := by decide +kernel
theorem dX8_nextDue_6 : decode cX8_nextDue 6 = .ok (.getfield 7, 3) := by decide +kernel
theorem dX8_nextDue_9 : decode cX8_nextDue 9 = .ok (.iconst 2, 1) := by decide +kernel
theorem dX8_nextDue_10 : decode cX8_nextDue 10 = .ok (.iaload, 1) := by decide +kernel
theorem dX8_nextDue_11 : decode cX8_nextDue 11 = .ok (.if_icmp .ge 76, 3) := by decide +kernel
theorem dX8_nextDue_14 : decode cX8_nextDue 14 = .ok (.aload_n 0, 1) := by decide +kernel
theorem dX8_nextDue_15 : decode cX8_nextDue 15 = .ok (.iload_n 2, 1) := by decide +kernel
theorem dX8_nextDue_16 : decode cX8_nextDue 16 = .ok (.bipush 7, 2) := by decide +kernel
theorem dX8_nextDue_18 : decode cX8_nextDue 18 = .ok (.invokevirtual 164, 3) := by decide +kernel
theorem dX8_nextDue_21 : decode cX8_nextDue 21 = .ok (.istore_n 3, 1) := by decide +kernel
theorem dX8_nextDue_22 : decode cX8_nextDue 22 = .ok (.aload_n 0, 1) := by decide +kernel
theorem dX8_nextDue_23 : decode cX8_nextDue 23 = .ok (.iload_n 2, 1) := by decide +kernel
theorem dX8_nextDue_24 : decode cX8_nextDue 24 = .ok (.iconst 3, 1) := by decide +kernel
theorem dX8_nextDue_25 : decode cX8_nextDue 25 = .ok (.invokevirtual 164, 3) := by decide +kernel
theorem dX8_nextDue_28 : decode cX8_nextDue 28 = .ok (.iconst 1, 1) := by decide +kernel
theorem dX8_nextDue_29 : decode cX8_nextDue 29 = .ok (.if_icmp .ne 22, 3) := by decide +kernel
theorem dX8_nextDue_32 : decode cX8_nextDue 32 = .ok (.iload_n 3, 1) := by decide +kernel
theorem dX8_nextDue_33 : decode cX8_nextDue 33 = .ok (.iconst (-1), 1) := by decide +kernel
theorem dX8_nextDue_34 : decode cX8_nextDue 34 = .ok (.if_icmp .eq 17, 3) := by decide +kernel
theorem dX8_nextDue_37 : decode cX8_nextDue 37 = .ok (.iload_n 3, 1) := by decide +kernel
theorem dX8_nextDue_38 : decode cX8_nextDue 38 = .ok (.aload_n 0, 1) := by decide +kernel
theorem dX8_nextDue_39 : decode cX8_nextDue 39 = .ok (.getfield 7, 3) := by decide +kernel
theorem dX8_nextDue_42 : decode cX8_nextDue 42 = .ok (.iconst 3, 1) := by decide +kernel
theorem dX8_nextDue_43 : decode cX8_nextDue 43 = .ok (.iaload, 1) := by decide +kernel
theorem dX8_nextDue_44 : decode cX8_nextDue 44 = .ok (.if_icmp .gt 7, 3) := by decide +kernel
theorem dX8_nextDue_47 : decode cX8_nextDue 47 = .ok (.iconst 1, 1) := by decide +kernel
theorem dX8_nextDue_48 : decode cX8_nextDue 48 = .ok (.goto 4, 3) := by decide +kernel
theorem dX8_nextDue_51 : decode cX8_nextDue 51 = .ok (.iconst 0, 1) := by decide +kernel
theorem dX8_nextDue_52 : decode cX8_nextDue 52 = .ok (.istore 4, 2) := by decide +kernel
theorem dX8_nextDue_54 : decode cX8_nextDue 54 = .ok (.iload 4, 2) := by decide +kernel
theorem dX8_nextDue_56 : decode cX8_nextDue 56 = .ok (.ifCond .eq 23, 3) := by decide +kernel
theorem dX8_nextDue_59 : decode cX8_nextDue 59 = .ok (.iload_n 1, 1) := by decide +kernel
theorem dX8_nextDue_60 : decode cX8_nextDue 60 = .ok (.iconst (-1), 1) := by decide +kernel
theorem dX8_nextDue_61 : decode cX8_nextDue 61 = .ok (.if_icmp .eq 14, 3) := by decide +kernel
theorem dX8_nextDue_64 : decode cX8_nextDue 64 = .ok (.iload_n 3, 1) := by decide +kernel
theorem dX8_nextDue_65 : decode cX8_nextDue 65 = .ok (.aload_n 0, 1) := by decide +kernel
theorem dX8_nextDue_66 : decode cX8_nextDue 66 = .ok (.iload_n 1, 1) := by decide +kernel
theorem dX8_nextDue_67 : decode cX8_nextDue 67 = .ok (.bipush 7, 2) := by decide +kernel
theorem dX8_nextDue_69 : decode cX8_nextDue 69 = .ok (.invokevirtual 164, 3) := by decide +kernel
theorem dX8_nextDue_72 : decode cX8_nextDue 72 = .ok (.if_icmp .ge 7, 3) := by decide +kernel
theorem dX8_nextDue_75 : decode cX8_nextDue 75 = .ok (.iload_n 2, 1) := by decide +kernel
theorem dX8_nextDue_76 : decode cX8_nextDue 76 = .ok (.goto 4, 3) := by decide +kernel
theorem dX8_nextDue_79 : decode cX8_nextDue 79 = .ok (.iload_n 1, 1) := by decide +kernel
theorem dX8_nextDue_80 : decode cX8_nextDue 80 = .ok (.istore_n 1, 1) := by decide +kernel
theorem dX8_nextDue_81 : decode cX8_nextDue 81 = .ok (.iinc 2 1, 3) := by decide +kernel
theorem dX8_nextDue_84 : decode cX8_nextDue 84 = .ok (.goto (-80), 3) := by decide +kernel
theorem dX8_nextDue_87 : decode cX8_nextDue 87 = .ok (.iload_n 1, 1) := by decide +kernel
theorem dX8_nextDue_88 : decode cX8_nextDue 88 = .ok (.ireturn, 1) := by decide +kernel
theorem dX8_wakeByTime_0 : decode cX8_wakeByTime 0 = .ok (.aload_n 0, 1) := by decide +kernel
theorem dX8_wakeByTime_1 : decode cX8_wakeByTime 1 = .ok (.invokevirtual 319, 3) := by decide +kernel
theorem dX8_wakeByTime_4 : decode cX8_wakeByTime 4 = .ok (.istore_n 1, 1) := by decide +kernel
theorem dX8_wakeByTime_5 : decode cX8_wakeByTime 5 = .ok (.iload_n 1, 1) := by decide +kernel
theorem dX8_wakeByTime_6 : decode cX8_wakeByTime 6 = .ok (.iconst (-1), 1) := by decide +kernel
theorem dX8_wakeByTime_7 : decode cX8_wakeByTime 7 = .ok (.if_icmp .eq 17, 3) := by decide +kernel
theorem dX8_wakeByTime_10 : decode cX8_wakeByTime 10 = .ok (.aload_n 0, 1) := by decide +kernel
theorem dX8_wakeByTime_11 : decode cX8_wakeByTime 11 = .ok (.iload_n 1, 1) := by decide +kernel
theorem dX8_wakeByTime_12 : decode cX8_wakeByTime 12 = .ok (.iconst 2, 1) := by decide +kernel
theorem dX8_wakeByTime_13 : decode cX8_wakeByTime 13 = .ok (.invokevirtual 260, 3) := by decide +kernel
theorem dX8_wakeByTime_16 : decode cX8_wakeByTime 16 = .ok (.aload_n 0, 1) := by decide +kernel
theorem dX8_wakeByTime_17 : decode cX8_wakeByTime 17 = .ok (.invokevirtual 319, 3) := by decide +kernel
theorem dX8_wakeByTime_20 : decode cX8_wakeByTime 20 = .ok (.istore_n 1, 1) := by decide +kernel
theorem dX8_wakeByTime_21 : decode cX8_wakeByTime 21 = .ok (.goto (-16), 3) := by decide +kernel
theorem dX8_wakeByTime_24 : decode cX8_wakeByTime 24 = .ok (.iconst 0, 1) := by decide +kernel
theorem dX8_wakeByTime_25 : decode cX8_wakeByTime 25 = .ok (.istore_n 1, 1) := by decide +kernel
theorem dX8_wakeByTime_26 : decode cX8_wakeByTime 26 = .ok (.iload_n 1, 1) := by decide +kernel
theorem dX8_wakeByTime_27 : decode cX8_wakeByTime 27 = .ok (.aload_n 0, 1) := by decide +kernel
theorem dX8_wakeByTime_28 : decode cX8_wakeByTime 28 = .ok (.getfield 7, 3) := by decide +kernel
theorem dX8_wakeByTime_31 : decode cX8_wakeByTime 31 = .ok (.iconst 2, 1) := by decide +kernel
theorem dX8_wakeByTime_32 : decode cX8_wakeByTime 32 = .ok (.iaload, 1) := by decide +kernel
theorem dX8_wakeByTime_33 : decode cX8_wakeByTime 33 = .ok (.if_icmp .ge 50, 3) := by decide +kernel
theorem dX8_wakeByTime_36 : decode cX8_wakeByTime 36 = .ok (.aload_n 0, 1) := by decide +kernel
theorem dX8_wakeByTime_37 : decode cX8_wakeByTime 37 = .ok (.getfield 7, 3) := by decide +kernel
theorem dX8_wakeByTime_40 : decode cX8_wakeByTime 40 = .ok (.iconst 0, 1) := by decide +kernel
theorem dX8_wakeByTime_41 : decode cX8_wakeByTime 41 = .ok (.iaload, 1) := by decide +kernel
theorem dX8_wakeByTime_42 : decode cX8_wakeByTime 42 = .ok (.ifCond .le 41, 3) := by decide +kernel
theorem dX8_wakeByTime_45 : decode cX8_wakeByTime 45 = .ok (.aload_n 0, 1) := by decide +kernel
theorem dX8_wakeByTime_46 : decode cX8_wakeByTime 46 = .ok (.iload_n 1, 1) := by decide +kernel
theorem dX8_wakeByTime_47 : decode cX8_wakeByTime 47 = .ok (.iconst 3, 1) := by decide +kernel
theorem dX8_wakeByTime_48 : decode cX8_wakeByTime 48 = .ok (.invokevirtual 164, 3) := by decide +kernel
theorem dX8_wakeByTime_51 : decode cX8_wakeByTime 51 = .ok (.iconst 1, 1) := by decide +kernel
theorem dX8_wakeByTime_52 : decode cX8_wakeByTime 52 = .ok (.if_icmp .ne 25, 3) := by decide +kernel
theorem dX8_wakeByTime_55 : decode cX8_wakeByTime 55 = .ok (.aload_n 0, 1) := by decide +kernel
theorem dX8_wakeByTime_56 : decode cX8_wakeByTime 56 = .ok (.sipush 1000, 3) := by decide +kernel
theorem dX8_wakeByTime_59 : decode cX8_wakeByTime 59 = .ok (.invokevirtual 322, 3) := by decide +kernel
theorem dX8_wakeByTime_62 : decode cX8_wakeByTime 62 = .ok (.aload_n 0, 1) := by decide +kernel
theorem dX8_wakeByTime_63 : decode cX8_wakeByTime 63 = .ok (.getfield 7, 3) := by decide +kernel
theorem dX8_wakeByTime_66 : decode cX8_wakeByTime 66 = .ok (.iconst 0, 1) := by decide +kernel
theorem dX8_wakeByTime_67 : decode cX8_wakeByTime 67 = .ok (.iaload, 1) := by decide +kernel
theorem dX8_wakeByTime_68 : decode cX8_wakeByTime 68 = .ok (.if_icmp .ge 9, 3) := by decide +kernel
theorem dX8_wakeByTime_71 : decode cX8_wakeByTime 71 = .ok (.aload_n 0, 1) := by decide +kernel
theorem dX8_wakeByTime_72 : decode cX8_wakeByTime 72 = .ok (.iload_n 1, 1) := by decide +kernel
theorem dX8_wakeByTime_73 : decode cX8_wakeByTime 73 = .ok (.iconst 3, 1) := by decide +kernel
theorem dX8_wakeByTime_74 : decode cX8_wakeByTime 74 = .ok (.invokevirtual 260, 3) := by decide +kernel
theorem dX8_wakeByTime_77 : decode cX8_wakeByTime 77 = .ok (.iinc 1 1, 3) := by decide +kernel
theorem dX8_wakeByTime_80 : decode cX8_wakeByTime 80 = .ok (.goto (-54), 3) := by decide +kernel
theorem dX8_wakeByTime_83 : decode cX8_wakeByTime 83 = .ok (.return_, 1) := by decide +kernel
theorem dX8_chosen_0 : decode cX8_chosen 0 = .ok (.iconst (-1), 1) := by decide +kernel
theorem dX8_chosen_1 : decode cX8_chosen 1 = .ok (.istore_n 1, 1) := by decide +kernel
theorem dX8_chosen_2 : decode cX8_chosen 2 = .ok (.iconst 0, 1) := by decide +kernel
theorem dX8_chosen_3 : decode cX8_chosen 3 = .ok (.istore_n 2, 1) := by decide +kernel
theorem dX8_chosen_4 : decode cX8_chosen 4 = .ok (.iconst 0, 1) := by decide +kernel
theorem dX8_chosen_5 : decode cX8_chosen 5 = .ok (.istore_n 3, 1) := by decide +kernel
theorem dX8_chosen_6 : decode cX8_chosen 6 = .ok (.iload_n 3, 1) := by decide +kernel
theorem dX8_chosen_7 : decode cX8_chosen 7 = .ok (.aload_n 0, 1) := by decide +kernel
theorem dX8_chosen_8 : decode cX8_chosen 8 = .ok (.getfield 7, 3) := by decide +kernel
theorem dX8_chosen_11 : decode cX8_chosen 11 = .ok (.iconst 2, 1) := by decide +kernel
theorem dX8_chosen_12 : decode cX8_chosen 12 = .ok (.iaload, 1) := by decide +kernel
theorem dX8_chosen_13 : decode cX8_chosen 13 = .ok (.if_icmp .ge 68, 3) := by decide +kernel
theorem dX8_chosen_16 : decode cX8_chosen 16 = .ok (.aload_n 0, 1) := by decide +kernel
theorem dX8_chosen_17 : decode cX8_chosen 17 = .ok (.iload_n 3, 1) := by decide +kernel
theorem dX8_chosen_18 : decode cX8_chosen 18 = .ok (.iconst 3, 1) := by decide +kernel
theorem dX8_chosen_19 : decode cX8_chosen 19 = .ok (.invokevirtual 164, 3) := by decide +kernel
theorem dX8_chosen_22 : decode cX8_chosen 22 = .ok (.ifCond .ne 11, 3) := by decide +kernel
theorem dX8_chosen_25 : decode cX8_chosen 25 = .ok (.aload_n 0, 1) := by decide +kernel
theorem dX8_chosen_26 : decode cX8_chosen 26 = .ok (.iload_n 3, 1) := by decide +kernel
theorem dX8_chosen_27 : decode cX8_chosen 27 = .ok (.invokevirtual 242, 3) := by decide +kernel
theorem dX8_chosen_30 : decode cX8_chosen 30 = .ok (.goto 4, 3) := by decide +kernel
theorem dX8_chosen_33 : decode cX8_chosen 33 = .ok (.iconst 0, 1) := by decide +kernel
theorem dX8_chosen_34 : decode cX8_chosen 34 = .ok (.istore 4, 2) := by decide +kernel
theorem dX8_chosen_36 : decode cX8_chosen 36 = .ok (.iload 4, 2) := by decide +kernel
theorem dX8_chosen_38 : decode cX8_chosen 38 = .ok (.iload_n 2, 1) := by decide +kernel
theorem dX8_chosen_39 : decode cX8_chosen 39 = .ok (.if_icmp .gt 31, 3) := by decide +kernel
theorem dX8_chosen_42 : decode cX8_chosen 42 = .ok (.iload 4, 2) := by decide +kernel
theorem dX8_chosen_44 : decode cX8_chosen 44 = .ok (.ifCond .le 31, 3) := by decide +kernel
theorem dX8_chosen_47 : decode cX8_chosen 47 = .ok (.iload 4, 2) := by decide +kernel
theorem dX8_chosen_49 : decode cX8_chosen 49 = .ok (.iload_n 2, 1) := by decide +kernel
theorem dX8_chosen_50 : decode cX8_chosen 50 = .ok (.if_icmp .ne 25, 3) := by decide +kernel
theorem dX8_chosen_53 : decode cX8_chosen 53 = .ok (.aload_n 0, 1) := by decide +kernel
theorem dX8_chosen_54 : decode cX8_chosen 54 = .ok (.iload_n 3, 1) := by decide +kernel
theorem dX8_chosen_55 : decode cX8_chosen 55 = .ok (.bipush 10, 2) := by decide +kernel
theorem dX8_chosen_57 : decode cX8_chosen 57 = .ok (.invokevirtual 164, 3) := by decide +kernel
theorem dX8_chosen_60 : decode cX8_chosen 60 = .ok (.aload_n 0, 1) := by decide +kernel
theorem dX8_chosen_61 : decode cX8_chosen 61 = .ok (.iload_n 1, 1) := by decide +kernel
theorem dX8_chosen_62 : decode cX8_chosen 62 = .ok (.bipush 10, 2) := by decide +kernel
theorem dX8_chosen_64 : decode cX8_chosen 64 = .ok (.invokevirtual 164, 3) := by decide +kernel
theorem dX8_chosen_67 : decode cX8_chosen 67 = .ok (.if_icmp .ge 8, 3) := by decide +kernel
theorem dX8_chosen_70 : decode cX8_chosen 70 = .ok (.iload_n 3, 1) := by decide +kernel
theorem dX8_chosen_71 : decode cX8_chosen 71 = .ok (.istore_n 1, 1) := by decide +kernel
theorem dX8_chosen_72 : decode cX8_chosen 72 = .ok (.iload 4, 2) := by decide +kernel
theorem dX8_chosen_74 : decode cX8_chosen 74 = .ok (.istore_n 2, 1) := by decide +kernel
theorem dX8_chosen_75 : decode cX8_chosen 75 = .ok (.iinc 3 1, 3) := by decide +kernel
theorem dX8_chosen_78 : decode cX8_chosen 78 = .ok (.goto (-72), 3) := by decide +kernel
theorem dX8_chosen_81 : decode cX8_chosen 81 = .ok (.iload_n 1, 1) := by decide +kernel
theorem dX8_chosen_82 : decode cX8_chosen 82 = .ok (.ireturn, 1) := by decide +kernel
theorem dX8_passTick_0 : decode cX8_passTick 0 = .ok (.iconst 0, 1) := by decide +kernel
theorem dX8_passTick_1 : decode cX8_passTick 1 = .ok (.istore_n 1, 1) := by decide +kernel
theorem dX8_passTick_2 : decode cX8_passTick 2 = .ok (.iload_n 1, 1) := by decide +kernel
theorem dX8_passTick_3 : decode cX8_passTick 3 = .ok (.aload_n 0, 1) := by decide +kernel
theorem dX8_passTick_4 : decode cX8_passTick 4 = .ok (.getfield 7, 3) := by decide +kernel
theorem dX8_passTick_7 : decode cX8_passTick 7 = .ok (.iconst 2, 1) := by decide +kernel
theorem dX8_passTick_8 : decode cX8_passTick 8 = .ok (.iaload, 1) := by decide +kernel
theorem dX8_passTick_9 : decode cX8_passTick 9 = .ok (.if_icmp .ge 31, 3) := by decide +kernel
theorem dX8_passTick_12 : decode cX8_passTick 12 = .ok (.aload_n 0, 1) := by decide +kernel
theorem dX8_passTick_13 : decode cX8_passTick 13 = .ok (.iload_n 1, 1) := by decide +kernel
theorem dX8_passTick_14 : decode cX8_passTick 14 = .ok (.bipush 16, 2) := by decide +kernel
theorem dX8_passTick_16 : decode cX8_passTick 16 = .ok (.aload_n 0, 1) := by decide +kernel
theorem dX8_passTick_17 : decode cX8_passTick 17 = .ok (.iload_n 1, 1) := by decide +kernel
theorem dX8_passTick_18 : decode cX8_passTick 18 = .ok (.bipush 16, 2) := by decide +kernel
theorem dX8_passTick_20 : decode cX8_passTick 20 = .ok (.invokevirtual 164, 3) := by decide +kernel
theorem dX8_passTick_23 : decode cX8_passTick 23 = .ok (.aload_n 0, 1) := by decide +kernel
theorem dX8_passTick_24 : decode cX8_passTick 24 = .ok (.iload_n 1, 1) := by decide +kernel
theorem dX8_passTick_25 : decode cX8_passTick 25 = .ok (.invokevirtual 242, 3) := by decide +kernel
theorem dX8_passTick_28 : decode cX8_passTick 28 = .ok (.invokestatic 237, 3) := by decide +kernel
theorem dX8_passTick_31 : decode cX8_passTick 31 = .ok (.invokevirtual 215, 3) := by decide +kernel
theorem dX8_passTick_34 : decode cX8_passTick 34 = .ok (.iinc 1 1, 3) := by decide +kernel
theorem dX8_passTick_37 : decode cX8_passTick 37 = .ok (.goto (-35), 3) := by decide +kernel
theorem dX8_passTick_40 : decode cX8_passTick 40 = .ok (.aload_n 0, 1) := by decide +kernel
theorem dX8_passTick_41 : decode cX8_passTick 41 = .ok (.invokevirtual 325, 3) := by decide +kernel
theorem dX8_passTick_44 : decode cX8_passTick 44 = .ok (.aload_n 0, 1) := by decide +kernel
theorem dX8_passTick_45 : decode cX8_passTick 45 = .ok (.invokevirtual 328, 3) := by decide +kernel
theorem dX8_passTick_48 : decode cX8_passTick 48 = .ok (.istore_n 1, 1) := by decide +kernel
theorem dX8_passTick_49 : decode cX8_passTick 49 = .ok (.iload_n 1, 1) := by decide +kernel
theorem dX8_passTick_50 : decode cX8_passTick 50 = .ok (.iconst (-1), 1) := by decide +kernel
theorem dX8_passTick_51 : decode cX8_passTick 51 = .ok (.if_icmp .ne 17, 3) := by decide +kernel
theorem dX8_passTick_54 : decode cX8_passTick 54 = .ok (.aload_n 0, 1) := by decide +kernel
theorem dX8_passTick_55 : decode cX8_passTick 55 = .ok (.getfield 7, 3) := by decide +kernel
theorem dX8_passTick_58 : decode cX8_passTick 58 = .ok (.bipush 6, 2) := by decide +kernel
theorem dX8_passTick_60 : decode cX8_passTick 60 = .ok (.dup2, 1) := by decide +kernel
theorem dX8_passTick_61 : decode cX8_passTick 61 = .ok (.iaload, 1) := by decide +kernel
theorem dX8_passTick_62 : decode cX8_passTick 62 = .ok (.iconst 1, 1) := by decide +kernel
theorem dX8_passTick_63 : decode cX8_passTick 63 = .ok (.iadd, 1) := by decide +kernel
theorem dX8_passTick_64 : decode cX8_passTick 64 = .ok (.iastore, 1) := by decide +kernel
theorem dX8_passTick_65 : decode cX8_passTick 65 = .ok (.goto 28, 3) := by decide +kernel
theorem dX8_passTick_68 : decode cX8_passTick 68 = .ok (.aload_n 0, 1) := by decide +kernel
theorem dX8_passTick_69 : decode cX8_passTick 69 = .ok (.iload_n 1, 1) := by decide +kernel
theorem dX8_passTick_70 : decode cX8_passTick 70 = .ok (.bipush 9, 2) := by decide +kernel
theorem dX8_passTick_72 : decode cX8_passTick 72 = .ok (.invokevirtual 221, 3) := by decide +kernel
theorem dX8_passTick_75 : decode cX8_passTick 75 = .ok (.aload_n 0, 1) := by decide +kernel
theorem dX8_passTick_76 : decode cX8_passTick 76 = .ok (.iload_n 1, 1) := by decide +kernel
theorem dX8_passTick_77 : decode cX8_passTick 77 = .ok (.bipush 10, 2) := by decide +kernel
theorem dX8_passTick_79 : decode cX8_passTick 79 = .ok (.aload_n 0, 1) := by decide +kernel
theorem dX8_passTick_80 : decode cX8_passTick 80 = .ok (.getfield 7, 3) := by decide +kernel
theorem dX8_passTick_83 : decode cX8_passTick 83 = .ok (.iconst 3, 1) := by decide +kernel
theorem dX8_passTick_84 : decode cX8_passTick 84 = .ok (.iaload, 1) := by decide +kernel
theorem dX8_passTick_85 : decode cX8_passTick 85 = .ok (.invokevirtual 215, 3) := by decide +kernel
theorem dX8_passTick_88 : decode cX8_passTick 88 = .ok (.aload_n 0, 1) := by decide +kernel
theorem dX8_passTick_89 : decode cX8_passTick 89 = .ok (.iload_n 1, 1) := by decide +kernel
theorem dX8_passTick_90 : decode cX8_passTick 90 = .ok (.invokevirtual 331, 3) := by decide +kernel
theorem dX8_passTick_93 : decode cX8_passTick 93 = .ok (.aload_n 0, 1) := by decide +kernel
theorem dX8_passTick_94 : decode cX8_passTick 94 = .ok (.getfield 7, 3) := by decide +kernel
theorem dX8_passTick_97 : decode cX8_passTick 97 = .ok (.iconst 3, 1) := by decide +kernel
theorem dX8_passTick_98 : decode cX8_passTick 98 = .ok (.dup2, 1) := by decide +kernel
theorem dX8_passTick_99 : decode cX8_passTick 99 = .ok (.iaload, 1) := by decide +kernel
theorem dX8_passTick_100 : decode cX8_passTick 100 = .ok (.iconst 1, 1) := by decide +kernel
theorem dX8_passTick_101 : decode cX8_passTick 101 = .ok (.iadd, 1) := by decide +kernel
theorem dX8_passTick_102 : decode cX8_passTick 102 = .ok (.iastore, 1) := by decide +kernel
theorem dX8_passTick_103 : decode cX8_passTick 103 = .ok (.return_, 1) := by decide +kernel
theorem dX8_passTicks_0 : decode cX8_passTicks 0 = .ok (.iconst 0, 1) := by decide +kernel
theorem dX8_passTicks_1 : decode cX8_passTicks 1 = .ok (.istore_n 2, 1) := by decide +kernel
theorem dX8_passTicks_2 : decode cX8_passTicks 2 = .ok (.iload_n 2, 1) := by decide +kernel
theorem dX8_passTicks_3 : decode cX8_passTicks 3 = .ok (.iload_n 1, 1) := by decide +kernel
theorem dX8_passTicks_4 : decode cX8_passTicks 4 = .ok (.if_icmp .ge 13, 3) := by decide +kernel
theorem dX8_passTicks_7 : decode cX8_passTicks 7 = .ok (.aload_n 0, 1) := by decide +kernel
theorem dX8_passTicks_8 : decode cX8_passTicks 8 = .ok (.invokevirtual 334, 3) := by decide +kernel
theorem dX8_passTicks_11 : decode cX8_passTicks 11 = .ok (.iinc 2 1, 3) := by decide +kernel
theorem dX8_passTicks_14 : decode cX8_passTicks 14 = .ok (.goto (-12), 3) := by decide +kernel
theorem dX8_passTicks_17 : decode cX8_passTicks 17 = .ok (.return_, 1) := by decide +kernel
theorem dX8_run_0 : decode cX8_run 0 = .ok (.aload_n 0, 1) := by decide +kernel
theorem dX8_run_1 : decode cX8_run 1 = .ok (.iconst 0, 1) := by decide +kernel
theorem dX8_run_2 : decode cX8_run 2 = .ok (.putfield 48, 3) := by decide +kernel
theorem dX8_run_5 : decode cX8_run 5 = .ok (.iload_n 1, 1) := by decide +kernel
theorem dX8_run_6 : decode cX8_run 6 = .ok (.iconst 1, 1) := by decide +kernel
theorem dX8_run_7 : decode cX8_run 7 = .ok (.sipush 500, 3) := by decide +kernel
theorem dX8_run_10 : decode cX8_run 10 = .ok (.invokestatic 51, 3) := by decide +kernel
theorem dX8_run_13 : decode cX8_run 13 = .ok (.ifCond .ne 9, 3) := by decide +kernel
theorem dX8_run_16 : decode cX8_run 16 = .ok (.aload_n 0, 1) := by decide +kernel
theorem dX8_run_17 : decode cX8_run 17 = .ok (.iconst 1, 1) := by decide +kernel
theorem dX8_run_18 : decode cX8_run 18 = .ok (.invokevirtual 62, 3) := by decide +kernel
theorem dX8_run_21 : decode cX8_run 21 = .ok (.ireturn, 1) := by decide +kernel
theorem dX8_run_22 : decode cX8_run 22 = .ok (.aload_n 0, 1) := by decide +kernel
theorem dX8_run_23 : decode cX8_run 23 = .ok (.iconst 3, 1) := by decide +kernel
theorem dX8_run_24 : decode cX8_run 24 = .ok (.invokevirtual 231, 3) := by decide +kernel
theorem dX8_run_27 : decode cX8_run 27 = .ok (.istore_n 2, 1) := by decide +kernel
theorem dX8_run_28 : decode cX8_run 28 = .ok (.aload_n 0, 1) := by decide +kernel
theorem dX8_run_29 : decode cX8_run 29 = .ok (.iload_n 1, 1) := by decide +kernel
theorem dX8_run_30 : decode cX8_run 30 = .ok (.invokevirtual 337, 3) := by decide +kernel
theorem dX8_run_33 : decode cX8_run 33 = .ok (.aload_n 0, 1) := by decide +kernel
theorem dX8_run_34 : decode cX8_run 34 = .ok (.iconst 3, 1) := by decide +kernel
theorem dX8_run_35 : decode cX8_run 35 = .ok (.invokevirtual 231, 3) := by decide +kernel
theorem dX8_run_38 : decode cX8_run 38 = .ok (.iload_n 2, 1) := by decide +kernel
theorem dX8_run_39 : decode cX8_run 39 = .ok (.isub, 1) := by decide +kernel
theorem dX8_run_40 : decode cX8_run 40 = .ok (.ireturn, 1) := by decide +kernel
theorem dX8_next_0 : decode cX8_next 0 = .ok (.aload_n 0, 1) := by decide +kernel
theorem dX8_next_1 : decode cX8_next 1 = .ok (.iconst 0, 1) := by decide +kernel
theorem dX8_next_2 : decode cX8_next 2 = .ok (.putfield 48, 3) := by decide +kernel
theorem dX8_next_5 : decode cX8_next 5 = .ok (.aload_n 0, 1) := by decide +kernel
theorem dX8_next_6 : decode cX8_next 6 = .ok (.getfield 7, 3) := by decide +kernel
theorem dX8_next_9 : decode cX8_next 9 = .ok (.iconst 0, 1) := by decide +kernel
theorem dX8_next_10 : decode cX8_next 10 = .ok (.aload_n 0, 1) := by decide +kernel
theorem dX8_next_11 : decode cX8_next 11 = .ok (.getfield 16, 3) := by decide +kernel
theorem dX8_next_14 : decode cX8_next 14 = .ok (.iconst 0, 1) := by decide +kernel
theorem dX8_next_15 : decode cX8_next 15 = .ok (.invokestatic 208, 3) := by decide +kernel
theorem dX8_next_18 : decode cX8_next 18 = .ok (.aload_n 0, 1) := by decide +kernel
theorem dX8_next_19 : decode cX8_next 19 = .ok (.invokevirtual 325, 3) := by decide +kernel
theorem dX8_next_22 : decode cX8_next 22 = .ok (.aload_n 0, 1) := by decide +kernel
theorem dX8_next_23 : decode cX8_next 23 = .ok (.invokevirtual 328, 3) := by decide +kernel
theorem dX8_next_26 : decode cX8_next 26 = .ok (.istore_n 1, 1) := by decide +kernel
theorem dX8_next_27 : decode cX8_next 27 = .ok (.aload_n 0, 1) := by decide +kernel
theorem dX8_next_28 : decode cX8_next 28 = .ok (.getfield 16, 3) := by decide +kernel
theorem dX8_next_31 : decode cX8_next 31 = .ok (.iconst 0, 1) := by decide +kernel
theorem dX8_next_32 : decode cX8_next 32 = .ok (.aload_n 0, 1) := by decide +kernel
theorem dX8_next_33 : decode cX8_next 33 = .ok (.getfield 7, 3) := by decide +kernel
theorem dX8_next_36 : decode cX8_next 36 = .ok (.iconst 0, 1) := by decide +kernel
theorem dX8_next_37 : decode cX8_next 37 = .ok (.invokestatic 208, 3) := by decide +kernel
theorem dX8_next_40 : decode cX8_next 40 = .ok (.iload_n 1, 1) := by decide +kernel
theorem dX8_next_41 : decode cX8_next 41 = .ok (.ireturn, 1) := by decide +kernel
theorem dX8_holderFor_0 : decode cX8_holderFor 0 = .ok (.aload_n 0, 1) := by decide +kernel
theorem dX8_holderFor_1 : decode cX8_holderFor 1 = .ok (.iload_n 1, 1) := by decide +kernel
theorem dX8_holderFor_2 : decode cX8_holderFor 2 = .ok (.iconst 3, 1) := by decide +kernel
theorem dX8_holderFor_3 : decode cX8_holderFor 3 = .ok (.invokevirtual 164, 3) := by decide +kernel
theorem dX8_holderFor_6 : decode cX8_holderFor 6 = .ok (.iconst 2, 1) := by decide +kernel
theorem dX8_holderFor_7 : decode cX8_holderFor 7 = .ok (.if_icmp .ne 21, 3) := by decide +kernel
theorem dX8_holderFor_10 : decode cX8_holderFor 10 = .ok (.aload_n 0, 1) := by decide +kernel
theorem dX8_holderFor_11 : decode cX8_holderFor 11 = .ok (.getfield 7, 3) := by decide +kernel
theorem dX8_holderFor_14 : decode cX8_holderFor 14 = .ok (.bipush 14, 2) := by decide +kernel
theorem dX8_holderFor_16 : decode cX8_holderFor 16 = .ok (.aload_n 0, 1) := by decide +kernel
theorem dX8_holderFor_17 : decode cX8_holderFor 17 = .ok (.iload_n 1, 1) := by decide +kernel
theorem dX8_holderFor_18 : decode cX8_holderFor 18 = .ok (.bipush 8, 2) := by decide +kernel
theorem dX8_holderFor_20 : decode cX8_holderFor 20 = .ok (.invokevirtual 164, 3) := by decide +kernel
theorem dX8_holderFor_23 : decode cX8_holderFor 23 = .ok (.iadd, 1) := by decide +kernel
theorem dX8_holderFor_24 : decode cX8_holderFor 24 = .ok (.iaload, 1) := by decide +kernel
theorem dX8_holderFor_25 : decode cX8_holderFor 25 = .ok (.goto 4, 3) := by decide +kernel
theorem dX8_holderFor_28 : decode cX8_holderFor 28 = .ok (.iconst (-1), 1) := by decide +kernel
theorem dX8_holderFor_29 : decode cX8_holderFor 29 = .ok (.ireturn, 1) := by decide +kernel
theorem dX8_chain_0 : decode cX8_chain 0 = .ok (.aload_n 0, 1) := by decide +kernel
theorem dX8_chain_1 : decode cX8_chain 1 = .ok (.iconst 0, 1) := by decide +kernel
theorem dX8_chain_2 : decode cX8_chain 2 = .ok (.putfield 48, 3) := by decide +kernel
theorem dX8_chain_5 : decode cX8_chain 5 = .ok (.aload_n 0, 1) := by decide +kernel
theorem dX8_chain_6 : decode cX8_chain 6 = .ok (.iload_n 1, 1) := by decide +kernel
theorem dX8_chain_7 : decode cX8_chain 7 = .ok (.invokevirtual 228, 3) := by decide +kernel
theorem dX8_chain_10 : decode cX8_chain 10 = .ok (.ifCond .eq 7, 3) := by decide +kernel
theorem dX8_chain_13 : decode cX8_chain 13 = .ok (.iload_n 2, 1) := by decide +kernel
theorem dX8_chain_14 : decode cX8_chain 14 = .ok (.ifCond .ge 9, 3) := by decide +kernel
theorem dX8_chain_17 : decode cX8_chain 17 = .ok (.aload_n 0, 1) := by decide +kernel
theorem dX8_chain_18 : decode cX8_chain 18 = .ok (.iconst 1, 1) := by decide +kernel
theorem dX8_chain_19 : decode cX8_chain 19 = .ok (.invokevirtual 62, 3) := by decide +kernel
theorem dX8_chain_22 : decode cX8_chain 22 = .ok (.ireturn, 1) := by decide +kernel
theorem dX8_chain_23 : decode cX8_chain 23 = .ok (.iconst 0, 1) := by decide +kernel
theorem dX8_chain_24 : decode cX8_chain 24 = .ok (.istore_n 3, 1) := by decide +kernel
theorem dX8_chain_25 : decode cX8_chain 25 = .ok (.iload_n 3, 1) := by decide +kernel
theorem dX8_chain_26 : decode cX8_chain 26 = .ok (.bipush 10, 2) := by decide +kernel
theorem dX8_chain_28 : decode cX8_chain 28 = .ok (.if_icmp .ge 25, 3) := by decide +kernel
theorem dX8_chain_31 : decode cX8_chain 31 = .ok (.aload_n 0, 1) := by decide +kernel
theorem dX8_chain_32 : decode cX8_chain 32 = .ok (.getfield 39, 3) := by decide +kernel
theorem dX8_chain_35 : decode cX8_chain 35 = .ok (.iload_n 3, 1) := by decide +kernel
theorem dX8_chain_36 : decode cX8_chain 36 = .ok (.iload_n 3, 1) := by decide +kernel
theorem dX8_chain_37 : decode cX8_chain 37 = .ok (.iload_n 1, 1) := by decide +kernel
theorem dX8_chain_38 : decode cX8_chain 38 = .ok (.if_icmp .ne 7, 3) := by decide +kernel
theorem dX8_chain_41 : decode cX8_chain 41 = .ok (.iconst 1, 1) := by decide +kernel
theorem dX8_chain_42 : decode cX8_chain 42 = .ok (.goto 4, 3) := by decide +kernel
theorem dX8_chain_45 : decode cX8_chain 45 = .ok (.iconst 0, 1) := by decide +kernel
theorem dX8_chain_46 : decode cX8_chain 46 = .ok (.bastore, 1) := by decide +kernel
theorem dX8_chain_47 : decode cX8_chain 47 = .ok (.iinc 3 1, 3) := by decide +kernel
theorem dX8_chain_50 : decode cX8_chain 50 = .ok (.goto (-25), 3) := by decide +kernel
theorem dX8_chain_53 : decode cX8_chain 53 = .ok (.aload_n 0, 1) := by decide +kernel
theorem dX8_chain_54 : decode cX8_chain 54 = .ok (.iload_n 1, 1) := by decide +kernel
theorem dX8_chain_55 : decode cX8_chain 55 = .ok (.invokevirtual 340, 3) := by decide +kernel
theorem dX8_chain_58 : decode cX8_chain 58 = .ok (.istore_n 3, 1) := by decide +kernel
theorem dX8_chain_59 : decode cX8_chain 59 = .ok (.iconst 0, 1) := by decide +kernel
theorem dX8_chain_60 : decode cX8_chain 60 = .ok (.istore 4, 2) := by decide +kernel
theorem dX8_chain_62 : decode cX8_chain 62 = .ok (.iload 4, 2) := by decide +kernel
theorem dX8_chain_64 : decode cX8_chain 64 = .ok (.iload_n 2, 1) := by decide +kernel
theorem dX8_chain_65 : decode cX8_chain 65 = .ok (.if_icmp .ge 47, 3) := by decide +kernel
theorem dX8_chain_68 : decode cX8_chain 68 = .ok (.iload_n 3, 1) := by decide +kernel
theorem dX8_chain_69 : decode cX8_chain 69 = .ok (.iconst (-1), 1) := by decide +kernel
theorem dX8_chain_70 : decode cX8_chain 70 = .ok (.if_icmp .eq 42, 3) := by decide +kernel
theorem dX8_chain_73 : decode cX8_chain 73 = .ok (.aload_n 0, 1) := by decide +kernel
theorem dX8_chain_74 : decode cX8_chain 74 = .ok (.getfield 39, 3) := by decide +kernel
theorem dX8_chain_77 : decode cX8_chain 77 = .ok (.iload_n 3, 1) := by decide +kernel
theorem dX8_chain_78 : decode cX8_chain 78 = .ok (.iconst 1, 1) := by decide +kernel
theorem dX8_chain_79 : decode cX8_chain 79 = .ok (.bastore, 1) := by decide +kernel
theorem dX8_chain_80 : decode cX8_chain 80 = .ok (.aload_n 0, 1) := by decide +kernel
theorem dX8_chain_81 : decode cX8_chain 81 = .ok (.iload_n 3, 1) := by decide +kernel
theorem dX8_chain_82 : decode cX8_chain 82 = .ok (.invokevirtual 340, 3) := by decide +kernel
theorem dX8_chain_85 : decode cX8_chain 85 = .ok (.istore_n 3, 1) := by decide +kernel
theorem dX8_chain_86 : decode cX8_chain 86 = .ok (.iload_n 3, 1) := by decide +kernel
theorem dX8_chain_87 : decode cX8_chain 87 = .ok (.iconst (-1), 1) := by decide +kernel
theorem dX8_chain_88 : decode cX8_chain 88 = .ok (.if_icmp .eq 16, 3) := by decide +kernel
theorem dX8_chain_91 : decode cX8_chain 91 = .ok (.aload_n 0, 1) := by decide +kernel
theorem dX8_chain_92 : decode cX8_chain 92 = .ok (.getfield 39, 3) := by decide +kernel
theorem dX8_chain_95 : decode cX8_chain 95 = .ok (.iload_n 3, 1) := by decide +kernel
theorem dX8_chain_96 : decode cX8_chain 96 = .ok (.baload, 1) := by decide +kernel
theorem dX8_chain_97 : decode cX8_chain 97 = .ok (.ifCond .eq 7, 3) := by decide +kernel
theorem dX8_chain_100 : decode cX8_chain 100 = .ok (.iconst (-1), 1) := by decide +kernel
theorem dX8_chain_101 : decode cX8_chain 101 = .ok (.goto 4, 3) := by decide +kernel
theorem dX8_chain_104 : decode cX8_chain 104 = .ok (.iload_n 3, 1) := by decide +kernel
theorem dX8_chain_105 : decode cX8_chain 105 = .ok (.istore_n 3, 1) := by decide +kernel
theorem dX8_chain_106 : decode cX8_chain 106 = .ok (.iinc 4 1, 3) := by decide +kernel
theorem dX8_chain_109 : decode cX8_chain 109 = .ok (.goto (-47), 3) := by decide +kernel
theorem dX8_chain_112 : decode cX8_chain 112 = .ok (.iload_n 3, 1) := by decide +kernel
theorem dX8_chain_113 : decode cX8_chain 113 = .ok (.ireturn, 1) := by decide +kernel
theorem dX8_stuck_0 : decode cX8_stuck 0 = .ok (.aload_n 0, 1) := by decide +kernel
theorem dX8_stuck_1 : decode cX8_stuck 1 = .ok (.iconst 0, 1) := by decide +kernel
theorem dX8_stuck_2 : decode cX8_stuck 2 = .ok (.putfield 48, 3) := by decide +kernel
theorem dX8_stuck_5 : decode cX8_stuck 5 = .ok (.iconst 0, 1) := by decide +kernel
theorem dX8_stuck_6 : decode cX8_stuck 6 = .ok (.istore_n 1, 1) := by decide +kernel
theorem dX8_stuck_7 : decode cX8_stuck 7 = .ok (.iconst 0, 1) := by decide +kernel
theorem dX8_stuck_8 : decode cX8_stuck 8 = .ok (.istore_n 2, 1) := by decide +kernel
theorem dX8_stuck_9 : decode cX8_stuck 9 = .ok (.iload_n 2, 1) := by decide +kernel
theorem dX8_stuck_10 : decode cX8_stuck 10 = .ok (.aload_n 0, 1) := by decide +kernel
theorem dX8_stuck_11 : decode cX8_stuck 11 = .ok (.getfield 7, 3) := by decide +kernel
theorem dX8_stuck_14 : decode cX8_stuck 14 = .ok (.iconst 2, 1) := by decide +kernel
theorem dX8_stuck_15 : decode cX8_stuck 15 = .ok (.iaload, 1) := by decide +kernel
theorem dX8_stuck_16 : decode cX8_stuck 16 = .ok (.if_icmp .ge 63, 3) := by decide +kernel
theorem dX8_stuck_19 : decode cX8_stuck 19 = .ok (.iload_n 2, 1) := by decide +kernel
theorem dX8_stuck_20 : decode cX8_stuck 20 = .ok (.istore_n 3, 1) := by decide +kernel
theorem dX8_stuck_21 : decode cX8_stuck 21 = .ok (.iconst 0, 1) := by decide +kernel
theorem dX8_stuck_22 : decode cX8_stuck 22 = .ok (.istore 4, 2) := by decide +kernel
theorem dX8_stuck_24 : decode cX8_stuck 24 = .ok (.iload 4, 2) := by decide +kernel
theorem dX8_stuck_26 : decode cX8_stuck 26 = .ok (.bipush 10, 2) := by decide +kernel
theorem dX8_stuck_28 : decode cX8_stuck 28 = .ok (.if_icmp .ge 25, 3) := by decide +kernel
theorem dX8_stuck_31 : decode cX8_stuck 31 = .ok (.aload_n 0, 1) := by decide +kernel
theorem dX8_stuck_32 : decode cX8_stuck 32 = .ok (.iload_n 3, 1) := by decide +kernel
theorem dX8_stuck_33 : decode cX8_stuck 33 = .ok (.iconst 3, 1) := by decide +kernel
theorem dX8_stuck_34 : decode cX8_stuck 34 = .ok (.invokevirtual 164, 3) := by decide +kernel
theorem dX8_stuck_37 : decode cX8_stuck 37 = .ok (.iconst 2, 1) := by decide +kernel
theorem dX8_stuck_38 : decode cX8_stuck 38 = .ok (.if_icmp .ne 15, 3) := by decide +kernel
theorem dX8_stuck_41 : decode cX8_stuck 41 = .ok (.aload_n 0, 1) := by decide +kernel
theorem dX8_stuck_42 : decode cX8_stuck 42 = .ok (.iload_n 3, 1) := by decide +kernel
theorem dX8_stuck_43 : decode cX8_stuck 43 = .ok (.invokevirtual 340, 3) := by decide +kernel
theorem dX8_stuck_46 : decode cX8_stuck 46 = .ok (.istore_n 3, 1) := by decide +kernel
theorem dX8_stuck_47 : decode cX8_stuck 47 = .ok (.iinc 4 1, 3) := by decide +kernel
theorem dX8_stuck_50 : decode cX8_stuck 50 = .ok (.goto (-26), 3) := by decide +kernel
theorem dX8_stuck_53 : decode cX8_stuck 53 = .ok (.iload_n 1, 1) := by decide +kernel
theorem dX8_stuck_54 : decode cX8_stuck 54 = .ok (.aload_n 0, 1) := by decide +kernel
theorem dX8_stuck_55 : decode cX8_stuck 55 = .ok (.iload_n 3, 1) := by decide +kernel
theorem dX8_stuck_56 : decode cX8_stuck 56 = .ok (.iconst 3, 1) := by decide +kernel
theorem dX8_stuck_57 : decode cX8_stuck 57 = .ok (.invokevirtual 164, 3) := by decide +kernel
theorem dX8_stuck_60 : decode cX8_stuck 60 = .ok (.iconst 2, 1) := by decide +kernel
theorem dX8_stuck_61 : decode cX8_stuck 61 = .ok (.if_icmp .lt 9, 3) := by decide +kernel
theorem dX8_stuck_64 : decode cX8_stuck 64 = .ok (.iconst 1, 1) := by decide +kernel
theorem dX8_stuck_65 : decode cX8_stuck 65 = .ok (.iload_n 2, 1) := by decide +kernel
theorem dX8_stuck_66 : decode cX8_stuck 66 = .ok (.ishl, 1) := by decide +kernel
theorem dX8_stuck_67 : decode cX8_stuck 67 = .ok (.goto 4, 3) := by decide +kernel
theorem dX8_stuck_70 : decode cX8_stuck 70 = .ok (.iconst 0, 1) := by decide +kernel
theorem dX8_stuck_71 : decode cX8_stuck 71 = .ok (.iadd, 1) := by decide +kernel
theorem dX8_stuck_72 : decode cX8_stuck 72 = .ok (.istore_n 1, 1) := by decide +kernel
theorem dX8_stuck_73 : decode cX8_stuck 73 = .ok (.iinc 2 1, 3) := by decide +kernel
theorem dX8_stuck_76 : decode cX8_stuck 76 = .ok (.goto (-67), 3) := by decide +kernel
theorem dX8_stuck_79 : decode cX8_stuck 79 = .ok (.iload_n 1, 1) := by decide +kernel
theorem dX8_stuck_80 : decode cX8_stuck 80 = .ok (.ireturn, 1) := by decide +kernel
theorem dX8_lent_0 : decode cX8_lent 0 = .ok (.aload_n 0, 1) := by decide +kernel
theorem dX8_lent_1 : decode cX8_lent 1 = .ok (.aload_n 0, 1) := by decide +kernel
theorem dX8_lent_2 : decode cX8_lent 2 = .ok (.iload_n 1, 1) := by decide +kernel
theorem dX8_lent_3 : decode cX8_lent 3 = .ok (.invokevirtual 228, 3) := by decide +kernel
theorem dX8_lent_6 : decode cX8_lent 6 = .ok (.ifCond .eq 7, 3) := by decide +kernel
theorem dX8_lent_9 : decode cX8_lent 9 = .ok (.iconst 0, 1) := by decide +kernel
theorem dX8_lent_10 : decode cX8_lent 10 = .ok (.goto 4, 3) := by decide +kernel
theorem dX8_lent_13 : decode cX8_lent 13 = .ok (.iconst 1, 1) := by decide +kernel
theorem dX8_lent_14 : decode cX8_lent 14 = .ok (.putfield 48, 3) := by decide +kernel
theorem dX8_lent_17 : decode cX8_lent 17 = .ok (.aload_n 0, 1) := by decide +kernel
theorem dX8_lent_18 : decode cX8_lent 18 = .ok (.getfield 48, 3) := by decide +kernel
theorem dX8_lent_21 : decode cX8_lent 21 = .ok (.ifCond .ne 20, 3) := by decide +kernel
theorem dX8_lent_24 : decode cX8_lent 24 = .ok (.aload_n 0, 1) := by decide +kernel
theorem dX8_lent_25 : decode cX8_lent 25 = .ok (.iload_n 1, 1) := by decide +kernel
theorem dX8_lent_26 : decode cX8_lent 26 = .ok (.invokevirtual 242, 3) := by decide +kernel
theorem dX8_lent_29 : decode cX8_lent 29 = .ok (.i2f, 1) := by decide +kernel
theorem dX8_lent_30 : decode cX8_lent 30 = .ok (.aload_n 0, 1) := by decide +kernel
theorem dX8_lent_31 : decode cX8_lent 31 = .ok (.iload_n 1, 1) := by decide +kernel
theorem dX8_lent_32 : decode cX8_lent 32 = .ok (.iconst 0, 1) := by decide +kernel
theorem dX8_lent_33 : decode cX8_lent 33 = .ok (.invokevirtual 164, 3) := by decide +kernel
theorem dX8_lent_36 : decode cX8_lent 36 = .ok (.i2f, 1) := by decide +kernel
theorem dX8_lent_37 : decode cX8_lent 37 = .ok (.fdiv, 1) := by decide +kernel
theorem dX8_lent_38 : decode cX8_lent 38 = .ok (.goto 4, 3) := by decide +kernel
theorem dX8_lent_41 : decode cX8_lent 41 = .ok (.fconst 0, 1) := by decide +kernel
theorem dX8_lent_42 : decode cX8_lent 42 = .ok (.freturn, 1) := by decide +kernel
theorem dX8_busy_0 : decode cX8_busy 0 = .ok (.aload_n 0, 1) := by decide +kernel
theorem dX8_busy_1 : decode cX8_busy 1 = .ok (.iconst 0, 1) := by decide +kernel
theorem dX8_busy_2 : decode cX8_busy 2 = .ok (.putfield 48, 3) := by decide +kernel
theorem dX8_busy_5 : decode cX8_busy 5 = .ok (.aload_n 0, 1) := by decide +kernel
theorem dX8_busy_6 : decode cX8_busy 6 = .ok (.getfield 7, 3) := by decide +kernel
theorem dX8_busy_9 : decode cX8_busy 9 = .ok (.iconst 3, 1) := by decide +kernel
theorem dX8_busy_10 : decode cX8_busy 10 = .ok (.iaload, 1) := by decide +kernel
theorem dX8_busy_11 : decode cX8_busy 11 = .ok (.ifCond .ne 7, 3) := by decide +kernel
theorem dX8_busy_14 : decode cX8_busy 14 = .ok (.dconst 0, 1) := by decide +kernel
theorem dX8_busy_15 : decode cX8_busy 15 = .ok (.goto 26, 3) := by decide +kernel
theorem dX8_busy_18 : decode cX8_busy 18 = .ok (.aload_n 0, 1) := by decide +kernel
theorem dX8_busy_19 : decode cX8_busy 19 = .ok (.getfield 7, 3) := by decide +kernel
theorem dX8_busy_22 : decode cX8_busy 22 = .ok (.iconst 3, 1) := by decide +kernel
theorem dX8_busy_23 : decode cX8_busy 23 = .ok (.iaload, 1) := by decide +kernel
theorem dX8_busy_24 : decode cX8_busy 24 = .ok (.aload_n 0, 1) := by decide +kernel
theorem dX8_busy_25 : decode cX8_busy 25 = .ok (.getfield 7, 3) := by decide +kernel
theorem dX8_busy_28 : decode cX8_busy 28 = .ok (.bipush 6, 2) := by decide +kernel
theorem dX8_busy_30 : decode cX8_busy 30 = .ok (.iaload, 1) := by decide +kernel
theorem dX8_busy_31 : decode cX8_busy 31 = .ok (.isub, 1) := by decide +kernel
theorem dX8_busy_32 : decode cX8_busy 32 = .ok (.i2d, 1) := by decide +kernel
theorem dX8_busy_33 : decode cX8_busy 33 = .ok (.aload_n 0, 1) := by decide +kernel
theorem dX8_busy_34 : decode cX8_busy 34 = .ok (.getfield 7, 3) := by decide +kernel
theorem dX8_busy_37 : decode cX8_busy 37 = .ok (.iconst 3, 1) := by decide +kernel
theorem dX8_busy_38 : decode cX8_busy 38 = .ok (.iaload, 1) := by decide +kernel
theorem dX8_busy_39 : decode cX8_busy 39 = .ok (.i2d, 1) := by decide +kernel
theorem dX8_busy_40 : decode cX8_busy 40 = .ok (.ddiv, 1) := by decide +kernel
theorem dX8_busy_41 : decode cX8_busy 41 = .ok (.dreturn, 1) := by decide +kernel
theorem dX8_ticksToDone_0 : decode cX8_ticksToDone 0 = .ok (.iconst 0, 1) := by decide +kernel
theorem dX8_ticksToDone_1 : decode cX8_ticksToDone 1 = .ok (.istore_n 3, 1) := by decide +kernel
theorem dX8_ticksToDone_2 : decode cX8_ticksToDone 2 = .ok (.iload_n 3, 1) := by decide +kernel
theorem dX8_ticksToDone_3 : decode cX8_ticksToDone 3 = .ok (.iload_n 2, 1) := by decide +kernel
theorem dX8_ticksToDone_4 : decode cX8_ticksToDone 4 = .ok (.if_icmp .ge 23, 3) := by decide +kernel
theorem dX8_ticksToDone_7 : decode cX8_ticksToDone 7 = .ok (.aload_n 0, 1) := by decide +kernel
theorem dX8_ticksToDone_8 : decode cX8_ticksToDone 8 = .ok (.iload_n 1, 1) := by decide +kernel
theorem dX8_ticksToDone_9 : decode cX8_ticksToDone 9 = .ok (.iconst 3, 1) := by decide +kernel
theorem dX8_ticksToDone_10 : decode cX8_ticksToDone 10 = .ok (.invokevirtual 164, 3) := by decide +kernel
theorem dX8_ticksToDone_13 : decode cX8_ticksToDone 13 = .ok (.iconst 3, 1) := by decide +kernel
theorem dX8_ticksToDone_14 : decode cX8_ticksToDone 14 = .ok (.if_icmp .eq 13, 3) := by decide +kernel
theorem dX8_ticksToDone_17 : decode cX8_ticksToDone 17 = .ok (.aload_n 0, 1) := by decide +kernel
theorem dX8_ticksToDone_18 : decode cX8_ticksToDone 18 = .ok (.invokevirtual 334, 3) := by decide +kernel
theorem dX8_ticksToDone_21 : decode cX8_ticksToDone 21 = .ok (.iinc 3 1, 3) := by decide +kernel
theorem dX8_ticksToDone_24 : decode cX8_ticksToDone 24 = .ok (.goto (-22), 3) := by decide +kernel
theorem dX8_ticksToDone_27 : decode cX8_ticksToDone 27 = .ok (.aload_n 0, 1) := by decide +kernel
theorem dX8_ticksToDone_28 : decode cX8_ticksToDone 28 = .ok (.iload_n 1, 1) := by decide +kernel
theorem dX8_ticksToDone_29 : decode cX8_ticksToDone 29 = .ok (.iconst 3, 1) := by decide +kernel
theorem dX8_ticksToDone_30 : decode cX8_ticksToDone 30 = .ok (.invokevirtual 164, 3) := by decide +kernel
theorem dX8_ticksToDone_33 : decode cX8_ticksToDone 33 = .ok (.iconst 3, 1) := by decide +kernel
theorem dX8_ticksToDone_34 : decode cX8_ticksToDone 34 = .ok (.if_icmp .ne 7, 3) := by decide +kernel
theorem dX8_ticksToDone_37 : decode cX8_ticksToDone 37 = .ok (.iload_n 3, 1) := by decide +kernel
theorem dX8_ticksToDone_38 : decode cX8_ticksToDone 38 = .ok (.goto 4, 3) := by decide +kernel
theorem dX8_ticksToDone_41 : decode cX8_ticksToDone 41 = .ok (.iconst (-1), 1) := by decide +kernel
theorem dX8_ticksToDone_42 : decode cX8_ticksToDone 42 = .ok (.ireturn, 1) := by decide +kernel
theorem dX8_doneIn_0 : decode cX8_doneIn 0 = .ok (.aload_n 0, 1) := by decide +kernel
theorem dX8_doneIn_1 : decode cX8_doneIn 1 = .ok (.iconst 0, 1) := by decide +kernel
theorem dX8_doneIn_2 : decode cX8_doneIn 2 = .ok (.putfield 48, 3) := by decide +kernel
theorem dX8_doneIn_5 : decode cX8_doneIn 5 = .ok (.aload_n 0, 1) := by decide +kernel
theorem dX8_doneIn_6 : decode cX8_doneIn 6 = .ok (.iload_n 1, 1) := by decide +kernel
theorem dX8_doneIn_7 : decode cX8_doneIn 7 = .ok (.invokevirtual 228, 3) := by decide +kernel
theorem dX8_doneIn_10 : decode cX8_doneIn 10 = .ok (.ifCond .ne 9, 3) := by decide +kernel
theorem dX8_doneIn_13 : decode cX8_doneIn 13 = .ok (.aload_n 0, 1) := by decide +kernel
theorem dX8_doneIn_14 : decode cX8_doneIn 14 = .ok (.iconst 1, 1) := by decide +kernel
theorem dX8_doneIn_15 : decode cX8_doneIn 15 = .ok (.invokevirtual 62, 3) := by decide +kernel
theorem dX8_doneIn_18 : decode cX8_doneIn 18 = .ok (.ireturn, 1) := by decide +kernel
theorem dX8_doneIn_19 : decode cX8_doneIn 19 = .ok (.iload_n 2, 1) := by decide +kernel
theorem dX8_doneIn_20 : decode cX8_doneIn 20 = .ok (.iconst 1, 1) := by decide +kernel
theorem dX8_doneIn_21 : decode cX8_doneIn 21 = .ok (.sipush 500, 3) := by decide +kernel
theorem dX8_doneIn_24 : decode cX8_doneIn 24 = .ok (.invokestatic 51, 3) := by decide +kernel
theorem dX8_doneIn_27 : decode cX8_doneIn 27 = .ok (.ifCond .ne 9, 3) := by decide +kernel
theorem dX8_doneIn_30 : decode cX8_doneIn 30 = .ok (.aload_n 0, 1) := by decide +kernel
theorem dX8_doneIn_31 : decode cX8_doneIn 31 = .ok (.iconst 2, 1) := by decide +kernel
theorem dX8_doneIn_32 : decode cX8_doneIn 32 = .ok (.invokevirtual 62, 3) := by decide +kernel
theorem dX8_doneIn_35 : decode cX8_doneIn 35 = .ok (.ireturn, 1) := by decide +kernel
theorem dX8_doneIn_36 : decode cX8_doneIn 36 = .ok (.aload_n 0, 1) := by decide +kernel
theorem dX8_doneIn_37 : decode cX8_doneIn 37 = .ok (.getfield 7, 3) := by decide +kernel
theorem dX8_doneIn_40 : decode cX8_doneIn 40 = .ok (.iconst 0, 1) := by decide +kernel
theorem dX8_doneIn_41 : decode cX8_doneIn 41 = .ok (.aload_n 0, 1) := by decide +kernel
theorem dX8_doneIn_42 : decode cX8_doneIn 42 = .ok (.getfield 16, 3) := by decide +kernel
theorem dX8_doneIn_45 : decode cX8_doneIn 45 = .ok (.iconst 0, 1) := by decide +kernel
theorem dX8_doneIn_46 : decode cX8_doneIn 46 = .ok (.invokestatic 208, 3) := by decide +kernel
theorem dX8_doneIn_49 : decode cX8_doneIn 49 = .ok (.aload_n 0, 1) := by decide +kernel
theorem dX8_doneIn_50 : decode cX8_doneIn 50 = .ok (.iload_n 1, 1) := by decide +kernel
theorem dX8_doneIn_51 : decode cX8_doneIn 51 = .ok (.iload_n 2, 1) := by decide +kernel
theorem dX8_doneIn_52 : decode cX8_doneIn 52 = .ok (.invokevirtual 343, 3) := by decide +kernel
theorem dX8_doneIn_55 : decode cX8_doneIn 55 = .ok (.istore_n 3, 1) := by decide +kernel
theorem dX8_doneIn_56 : decode cX8_doneIn 56 = .ok (.aload_n 0, 1) := by decide +kernel
theorem dX8_doneIn_57 : decode cX8_doneIn 57 = .ok (.getfield 16, 3) := by decide +kernel
theorem dX8_doneIn_60 : decode cX8_doneIn 60 = .ok (.iconst 0, 1) := by decide +kernel
theorem dX8_doneIn_61 : decode cX8_doneIn 61 = .ok (.aload_n 0, 1) := by decide +kernel
theorem dX8_doneIn_62 : decode cX8_doneIn 62 = .ok (.getfield 7, 3) := by decide +kernel
theorem dX8_doneIn_65 : decode cX8_doneIn 65 = .ok (.iconst 0, 1) := by decide +kernel
theorem dX8_doneIn_66 : decode cX8_doneIn 66 = .ok (.invokestatic 208, 3) := by decide +kernel
theorem dX8_doneIn_69 : decode cX8_doneIn 69 = .ok (.iload_n 3, 1) := by decide +kernel
theorem dX8_doneIn_70 : decode cX8_doneIn 70 = .ok (.ireturn, 1) := by decide +kernel
theorem dX8_returnsOf_0 : decode cX8_returnsOf 0 = .ok (.iconst 0, 1) := by decide +kernel
theorem dX8_returnsOf_1 : decode cX8_returnsOf 1 = .ok (.istore_n 2, 1) := by decide +kernel
theorem dX8_returnsOf_2 : decode cX8_returnsOf 2 = .ok (.iconst 1, 1) := by decide +kernel
theorem dX8_returnsOf_3 : decode cX8_returnsOf 3 = .ok (.istore_n 3, 1) := by decide +kernel
theorem dX8_returnsOf_4 : decode cX8_returnsOf 4 = .ok (.iload_n 3, 1) := by decide +kernel
theorem dX8_returnsOf_5 : decode cX8_returnsOf 5 = .ok (.iconst 4, 1) := by decide +kernel
theorem dX8_returnsOf_6 : decode cX8_returnsOf 6 = .ok (.if_icmp .gt 21, 3) := by decide +kernel
theorem dX8_returnsOf_9 : decode cX8_returnsOf 9 = .ok (.iload_n 2, 1) := by decide +kernel
theorem dX8_returnsOf_10 : decode cX8_returnsOf 10 = .ok (.aload_n 0, 1) := by decide +kernel
theorem dX8_returnsOf_11 : decode cX8_returnsOf 11 = .ok (.iload_n 1, 1) := by decide +kernel
theorem dX8_returnsOf_12 : decode cX8_returnsOf 12 = .ok (.bipush 11, 2) := by decide +kernel
theorem dX8_returnsOf_14 : decode cX8_returnsOf 14 = .ok (.iload_n 3, 1) := by decide +kernel
theorem dX8_returnsOf_15 : decode cX8_returnsOf 15 = .ok (.iadd, 1) := by decide +kernel
theorem dX8_returnsOf_16 : decode cX8_returnsOf 16 = .ok (.invokevirtual 164, 3) := by decide +kernel
theorem dX8_returnsOf_19 : decode cX8_returnsOf 19 = .ok (.iadd, 1) := by decide +kernel
theorem dX8_returnsOf_20 : decode cX8_returnsOf 20 = .ok (.istore_n 2, 1) := by decide +kernel
theorem dX8_returnsOf_21 : decode cX8_returnsOf 21 = .ok (.iinc 3 1, 3) := by decide +kernel
theorem dX8_returnsOf_24 : decode cX8_returnsOf 24 = .ok (.goto (-20), 3) := by decide +kernel
theorem dX8_returnsOf_27 : decode cX8_returnsOf 27 = .ok (.iload_n 2, 1) := by decide +kernel
theorem dX8_returnsOf_28 : decode cX8_returnsOf 28 = .ok (.ireturn, 1) := by decide +kernel
theorem dX8_allReturns_0 : decode cX8_allReturns 0 = .ok (.iconst 0, 1) := by decide +kernel
theorem dX8_allReturns_1 : decode cX8_allReturns 1 = .ok (.istore_n 1, 1) := by decide +kernel
theorem dX8_allReturns_2 : decode cX8_allReturns 2 = .ok (.iconst 0, 1) := by decide +kernel
theorem dX8_allReturns_3 : decode cX8_allReturns 3 = .ok (.istore_n 2, 1) := by decide +kernel
theorem dX8_allReturns_4 : decode cX8_allReturns 4 = .ok (.iload_n 2, 1) := by decide +kernel
theorem dX8_allReturns_5 : decode cX8_allReturns 5 = .ok (.aload_n 0, 1) := by decide +kernel
theorem dX8_allReturns_6 : decode cX8_allReturns 6 = .ok (.getfield 7, 3) := by decide +kernel
theorem dX8_allReturns_9 : decode cX8_allReturns 9 = .ok (.iconst 2, 1) := by decide +kernel
theorem dX8_allReturns_10 : decode cX8_allReturns 10 = .ok (.iaload, 1) := by decide +kernel
theorem dX8_allReturns_11 : decode cX8_allReturns 11 = .ok (.if_icmp .ge 17, 3) := by decide +kernel
theorem dX8_allReturns_14 : decode cX8_allReturns 14 = .ok (.iload_n 1, 1) := by decide +kernel
theorem dX8_allReturns_15 : decode cX8_allReturns 15 = .ok (.aload_n 0, 1) := by decide +kernel
theorem dX8_allReturns_16 : decode cX8_allReturns 16 = .ok (.iload_n 2, 1) := by decide +kernel
theorem dX8_allReturns_17 : decode cX8_allReturns 17 = .ok (.invokevirtual 346, 3) := by decide +kernel
theorem dX8_allReturns_20 : decode cX8_allReturns 20 = .ok (.iadd, 1) := by decide +kernel
theorem dX8_allReturns_21 : decode cX8_allReturns 21 = .ok (.istore_n 1, 1) := by decide +kernel
theorem dX8_allReturns_22 : decode cX8_allReturns 22 = .ok (.iinc 2 1, 3) := by decide +kernel
theorem dX8_allReturns_25 : decode cX8_allReturns 25 = .ok (.goto (-21), 3) := by decide +kernel
theorem dX8_allReturns_28 : decode cX8_allReturns 28 = .ok (.iload_n 1, 1) := by decide +kernel
theorem dX8_allReturns_29 : decode cX8_allReturns 29 = .ok (.ireturn, 1) := by decide +kernel
theorem dX8_returnsIn_0 : decode cX8_returnsIn 0 = .ok (.aload_n 0, 1) := by decide +kernel
theorem dX8_returnsIn_1 : decode cX8_returnsIn 1 = .ok (.iconst 0, 1) := by decide +kernel
theorem dX8_returnsIn_2 : decode cX8_returnsIn 2 = .ok (.putfield 48, 3) := by decide +kernel
theorem dX8_returnsIn_5 : decode cX8_returnsIn 5 = .ok (.aload_n 0, 1) := by decide +kernel
theorem dX8_returnsIn_6 : decode cX8_returnsIn 6 = .ok (.iload_n 1, 1) := by decide +kernel
theorem dX8_returnsIn_7 : decode cX8_returnsIn 7 = .ok (.invokevirtual 228, 3) := by decide +kernel
theorem dX8_returnsIn_10 : decode cX8_returnsIn 10 = .ok (.ifCond .ne 9, 3) := by decide +kernel
theorem dX8_returnsIn_13 : decode cX8_returnsIn 13 = .ok (.aload_n 0, 1) := by decide +kernel
theorem dX8_returnsIn_14 : decode cX8_returnsIn 14 = .ok (.iconst 1, 1) := by decide +kernel
theorem dX8_returnsIn_15 : decode cX8_returnsIn 15 = .ok (.invokevirtual 62, 3) := by decide +kernel
theorem dX8_returnsIn_18 : decode cX8_returnsIn 18 = .ok (.ireturn, 1) := by decide +kernel
theorem dX8_returnsIn_19 : decode cX8_returnsIn 19 = .ok (.iload_n 2, 1) := by decide +kernel
theorem dX8_returnsIn_20 : decode cX8_returnsIn 20 = .ok (.iconst 1, 1) := by decide +kernel
theorem dX8_returnsIn_21 : decode cX8_returnsIn 21 = .ok (.sipush 500, 3) := by decide +kernel
theorem dX8_returnsIn_24 : decode cX8_returnsIn 24 = .ok (.invokestatic 51, 3) := by decide +kernel
theorem dX8_returnsIn_27 : decode cX8_returnsIn 27 = .ok (.ifCond .ne 9, 3) := by decide +kernel
theorem dX8_returnsIn_30 : decode cX8_returnsIn 30 = .ok (.aload_n 0, 1) := by decide +kernel
theorem dX8_returnsIn_31 : decode cX8_returnsIn 31 = .ok (.iconst 2, 1) := by decide +kernel
theorem dX8_returnsIn_32 : decode cX8_returnsIn 32 = .ok (.invokevirtual 62, 3) := by decide +kernel
theorem dX8_returnsIn_35 : decode cX8_returnsIn 35 = .ok (.ireturn, 1) := by decide +kernel
theorem dX8_returnsIn_36 : decode cX8_returnsIn 36 = .ok (.aload_n 0, 1) := by decide +kernel
theorem dX8_returnsIn_37 : decode cX8_returnsIn 37 = .ok (.getfield 7, 3) := by decide +kernel
theorem dX8_returnsIn_40 : decode cX8_returnsIn 40 = .ok (.iconst 0, 1) := by decide +kernel
theorem dX8_returnsIn_41 : decode cX8_returnsIn 41 = .ok (.aload_n 0, 1) := by decide +kernel
theorem dX8_returnsIn_42 : decode cX8_returnsIn 42 = .ok (.getfield 16, 3) := by decide +kernel
theorem dX8_returnsIn_45 : decode cX8_returnsIn 45 = .ok (.iconst 0, 1) := by decide +kernel
theorem dX8_returnsIn_46 : decode cX8_returnsIn 46 = .ok (.invokestatic 208, 3) := by decide +kernel
theorem dX8_returnsIn_49 : decode cX8_returnsIn 49 = .ok (.aload_n 0, 1) := by decide +kernel
theorem dX8_returnsIn_50 : decode cX8_returnsIn 50 = .ok (.iload_n 1, 1) := by decide +kernel
theorem dX8_returnsIn_51 : decode cX8_returnsIn 51 = .ok (.invokevirtual 346, 3) := by decide +kernel
theorem dX8_returnsIn_54 : decode cX8_returnsIn 54 = .ok (.istore_n 3, 1) := by decide +kernel
theorem dX8_returnsIn_55 : decode cX8_returnsIn 55 = .ok (.iconst 0, 1) := by decide +kernel
theorem dX8_returnsIn_56 : decode cX8_returnsIn 56 = .ok (.istore 4, 2) := by decide +kernel
theorem dX8_returnsIn_58 : decode cX8_returnsIn 58 = .ok (.iload 4, 2) := by decide +kernel
theorem dX8_returnsIn_60 : decode cX8_returnsIn 60 = .ok (.iload_n 2, 1) := by decide +kernel
theorem dX8_returnsIn_61 : decode cX8_returnsIn 61 = .ok (.if_icmp .ge 22, 3) := by decide +kernel
theorem dX8_returnsIn_64 : decode cX8_returnsIn 64 = .ok (.aload_n 0, 1) := by decide +kernel
theorem dX8_returnsIn_65 : decode cX8_returnsIn 65 = .ok (.iload_n 1, 1) := by decide +kernel
theorem dX8_returnsIn_66 : decode cX8_returnsIn 66 = .ok (.invokevirtual 346, 3) := by decide +kernel
theorem dX8_returnsIn_69 : decode cX8_returnsIn 69 = .ok (.iload_n 3, 1) := by decide +kernel
theorem dX8_returnsIn_70 : decode cX8_returnsIn 70 = .ok (.if_icmp .ne 13, 3) := by decide +kernel
theorem dX8_returnsIn_73 : decode cX8_returnsIn 73 = .ok (.aload_n 0, 1) := by decide +kernel
theorem dX8_returnsIn_74 : decode cX8_returnsIn 74 = .ok (.invokevirtual 334, 3) := by decide +kernel
theorem dX8_returnsIn_77 : decode cX8_returnsIn 77 = .ok (.iinc 4 1, 3) := by decide +kernel
theorem dX8_returnsIn_80 : decode cX8_returnsIn 80 = .ok (.goto (-22), 3) := by decide +kernel
theorem dX8_returnsIn_83 : decode cX8_returnsIn 83 = .ok (.aload_n 0, 1) := by decide +kernel
theorem dX8_returnsIn_84 : decode cX8_returnsIn 84 = .ok (.iload_n 1, 1) := by decide +kernel
theorem dX8_returnsIn_85 : decode cX8_returnsIn 85 = .ok (.invokevirtual 346, 3) := by decide +kernel
theorem dX8_returnsIn_88 : decode cX8_returnsIn 88 = .ok (.iload_n 3, 1) := by decide +kernel
theorem dX8_returnsIn_89 : decode cX8_returnsIn 89 = .ok (.if_icmp .le 7, 3) := by decide +kernel
theorem dX8_returnsIn_92 : decode cX8_returnsIn 92 = .ok (.iconst 1, 1) := by decide +kernel
theorem dX8_returnsIn_93 : decode cX8_returnsIn 93 = .ok (.goto 4, 3) := by decide +kernel
theorem dX8_returnsIn_96 : decode cX8_returnsIn 96 = .ok (.iconst 0, 1) := by decide +kernel
theorem dX8_returnsIn_97 : decode cX8_returnsIn 97 = .ok (.istore 5, 2) := by decide +kernel
theorem dX8_returnsIn_99 : decode cX8_returnsIn 99 = .ok (.aload_n 0, 1) := by decide +kernel
theorem dX8_returnsIn_100 : decode cX8_returnsIn 100 = .ok (.getfield 16, 3) := by decide +kernel
theorem dX8_returnsIn_103 : decode cX8_returnsIn 103 = .ok (.iconst 0, 1) := by decide +kernel
theorem dX8_returnsIn_104 : decode cX8_returnsIn 104 = .ok (.aload_n 0, 1) := by decide +kernel
theorem dX8_returnsIn_105 : decode cX8_returnsIn 105 = .ok (.getfield 7, 3) := by decide +kernel
theorem dX8_returnsIn_108 : decode cX8_returnsIn 108 = .ok (.iconst 0, 1) := by decide +kernel
theorem dX8_returnsIn_109 : decode cX8_returnsIn 109 = .ok (.invokestatic 208, 3) := by decide +kernel
theorem dX8_returnsIn_112 : decode cX8_returnsIn 112 = .ok (.iload 5, 2) := by decide +kernel
theorem dX8_returnsIn_114 : decode cX8_returnsIn 114 = .ok (.ifCond .eq 8, 3) := by decide +kernel
theorem dX8_returnsIn_117 : decode cX8_returnsIn 117 = .ok (.iload 4, 2) := by decide +kernel
theorem dX8_returnsIn_119 : decode cX8_returnsIn 119 = .ok (.goto 4, 3) := by decide +kernel
theorem dX8_returnsIn_122 : decode cX8_returnsIn 122 = .ok (.iconst (-1), 1) := by decide +kernel
theorem dX8_returnsIn_123 : decode cX8_returnsIn 123 = .ok (.ireturn, 1) := by decide +kernel
theorem dX8_ahead_0 : decode cX8_ahead 0 = .ok (.aload_n 0, 1) := by decide +kernel
theorem dX8_ahead_1 : decode cX8_ahead 1 = .ok (.iconst 0, 1) := by decide +kernel
theorem dX8_ahead_2 : decode cX8_ahead 2 = .ok (.putfield 48, 3) := by decide +kernel
theorem dX8_ahead_5 : decode cX8_ahead 5 = .ok (.iload_n 1, 1) := by decide +kernel
theorem dX8_ahead_6 : decode cX8_ahead 6 = .ok (.iconst 1, 1) := by decide +kernel
theorem dX8_ahead_7 : decode cX8_ahead 7 = .ok (.sipush 500, 3) := by decide +kernel
theorem dX8_ahead_10 : decode cX8_ahead 10 = .ok (.invokestatic 51, 3) := by decide +kernel
theorem dX8_ahead_13 : decode cX8_ahead 13 = .ok (.ifCond .eq 12, 3) := by decide +kernel
theorem dX8_ahead_16 : decode cX8_ahead 16 = .ok (.iload_n 2, 1) := by decide +kernel
theorem dX8_ahead_17 : decode cX8_ahead 17 = .ok (.iconst 0, 1) := by decide +kernel
theorem dX8_ahead_18 : decode cX8_ahead 18 = .ok (.iconst 3, 1) := by decide +kernel
theorem dX8_ahead_19 : decode cX8_ahead 19 = .ok (.invokestatic 51, 3) := by decide +kernel
theorem dX8_ahead_22 : decode cX8_ahead 22 = .ok (.ifCond .ne 9, 3) := by decide +kernel
theorem dX8_ahead_25 : decode cX8_ahead 25 = .ok (.aload_n 0, 1) := by decide +kernel
theorem dX8_ahead_26 : decode cX8_ahead 26 = .ok (.iconst 1, 1) := by decide +kernel
theorem dX8_ahead_27 : decode cX8_ahead 27 = .ok (.invokevirtual 62, 3) := by decide +kernel
theorem dX8_ahead_30 : decode cX8_ahead 30 = .ok (.ireturn, 1) := by decide +kernel
theorem dX8_ahead_31 : decode cX8_ahead 31 = .ok (.aload_n 0, 1) := by decide +kernel
theorem dX8_ahead_32 : decode cX8_ahead 32 = .ok (.getfield 7, 3) := by decide +kernel
theorem dX8_ahead_35 : decode cX8_ahead 35 = .ok (.iconst 0, 1) := by decide +kernel
theorem dX8_ahead_36 : decode cX8_ahead 36 = .ok (.aload_n 0, 1) := by decide +kernel
theorem dX8_ahead_37 : decode cX8_ahead 37 = .ok (.getfield 16, 3) := by decide +kernel
theorem dX8_ahead_40 : decode cX8_ahead 40 = .ok (.iconst 0, 1) := by decide +kernel
theorem dX8_ahead_41 : decode cX8_ahead 41 = .ok (.invokestatic 208, 3) := by decide +kernel
theorem dX8_ahead_44 : decode cX8_ahead 44 = .ok (.aload_n 0, 1) := by decide +kernel
theorem dX8_ahead_45 : decode cX8_ahead 45 = .ok (.getfield 7, 3) := by decide +kernel
theorem dX8_ahead_48 : decode cX8_ahead 48 = .ok (.bipush 6, 2) := by decide +kernel
theorem dX8_ahead_50 : decode cX8_ahead 50 = .ok (.iaload, 1) := by decide +kernel
theorem dX8_ahead_51 : decode cX8_ahead 51 = .ok (.istore_n 3, 1) := by decide +kernel
theorem dX8_ahead_52 : decode cX8_ahead 52 = .ok (.aload_n 0, 1) := by decide +kernel
theorem dX8_ahead_53 : decode cX8_ahead 53 = .ok (.invokevirtual 349, 3) := by decide +kernel
theorem dX8_ahead_56 : decode cX8_ahead 56 = .ok (.istore 4, 2) := by decide +kernel
theorem dX8_ahead_58 : decode cX8_ahead 58 = .ok (.aload_n 0, 1) := by decide +kernel
theorem dX8_ahead_59 : decode cX8_ahead 59 = .ok (.getfield 7, 3) := by decide +kernel
theorem dX8_ahead_62 : decode cX8_ahead 62 = .ok (.bipush 13, 2) := by decide +kernel
theorem dX8_ahead_64 : decode cX8_ahead 64 = .ok (.iaload, 1) := by decide +kernel
theorem dX8_ahead_65 : decode cX8_ahead 65 = .ok (.istore 5, 2) := by decide +kernel
theorem dX8_ahead_67 : decode cX8_ahead 67 = .ok (.aload_n 0, 1) := by decide +kernel
theorem dX8_ahead_68 : decode cX8_ahead 68 = .ok (.iload_n 1, 1) := by decide +kernel
theorem dX8_ahead_69 : decode cX8_ahead 69 = .ok (.invokevirtual 337, 3) := by decide +kernel
theorem dX8_ahead_72 : decode cX8_ahead 72 = .ok (.iload_n 2, 1) := by decide +kernel
theorem dX8_ahead_73 : decode cX8_ahead 73 = .ok (.ifCond .ne 11, 3) := by decide +kernel
theorem dX8_ahead_76 : decode cX8_ahead 76 = .ok (.aload_n 0, 1) := by decide +kernel
theorem dX8_ahead_77 : decode cX8_ahead 77 = .ok (.iconst 3, 1) := by decide +kernel
theorem dX8_ahead_78 : decode cX8_ahead 78 = .ok (.invokevirtual 231, 3) := by decide +kernel
theorem dX8_ahead_81 : decode cX8_ahead 81 = .ok (.goto 45, 3) := by decide +kernel
theorem dX8_ahead_84 : decode cX8_ahead 84 = .ok (.iload_n 2, 1) := by decide +kernel
theorem dX8_ahead_85 : decode cX8_ahead 85 = .ok (.iconst 1, 1) := by decide +kernel
theorem dX8_ahead_86 : decode cX8_ahead 86 = .ok (.if_icmp .ne 15, 3) := by decide +kernel
theorem dX8_ahead_89 : decode cX8_ahead 89 = .ok (.aload_n 0, 1) := by decide +kernel
theorem dX8_ahead_90 : decode cX8_ahead 90 = .ok (.getfield 7, 3) := by decide +kernel
theorem dX8_ahead_93 : decode cX8_ahead 93 = .ok (.bipush 6, 2) := by decide +kernel
theorem dX8_ahead_95 : decode cX8_ahead 95 = .ok (.iaload, 1) := by decide +kernel
theorem dX8_ahead_96 : decode cX8_ahead 96 = .ok (.iload_n 3, 1) := by decide +kernel
theorem dX8_ahead_97 : decode cX8_ahead 97 = .ok (.isub, 1) := by decide +kernel
theorem dX8_ahead_98 : decode cX8_ahead 98 = .ok (.goto 28, 3) := by decide +kernel
theorem dX8_ahead_101 : decode cX8_ahead 101 = .ok (.iload_n 2, 1) := by decide +kernel
theorem dX8_ahead_102 : decode cX8_ahead 102 = .ok (.iconst 2, 1) := by decide +kernel
theorem dX8_ahead_103 : decode cX8_ahead 103 = .ok (.if_icmp .ne 13, 3) := by decide +kernel
theorem dX8_ahead_106 : decode cX8_ahead 106 = .ok (.aload_n 0, 1) := by decide +kernel
theorem dX8_ahead_107 : decode cX8_ahead 107 = .ok (.invokevirtual 349, 3) := by decide +kernel
theorem dX8_ahead_110 : decode cX8_ahead 110 = .ok (.iload 4, 2) := by decide +kernel
theorem dX8_ahead_112 : decode cX8_ahead 112 = .ok (.isub, 1) := by decide +kernel
theorem dX8_ahead_113 : decode cX8_ahead 113 = .ok (.goto 13, 3) := by decide +kernel
theorem dX8_ahead_116 : decode cX8_ahead 116 = .ok (.aload_n 0, 1) := by decide +kernel
theorem dX8_ahead_117 : decode cX8_ahead 117 = .ok (.getfield 7, 3) := by decide +kernel
theorem dX8_ahead_120 : decode cX8_ahead 120 = .ok (.bipush 13, 2) := by decide +kernel
theorem dX8_ahead_122 : decode cX8_ahead 122 = .ok (.iaload, 1) := by decide +kernel
theorem dX8_ahead_123 : decode cX8_ahead 123 = .ok (.iload 5, 2) := by decide +kernel
theorem dX8_ahead_125 : decode cX8_ahead 125 = .ok (.isub, 1) := by decide +kernel
theorem dX8_ahead_126 : decode cX8_ahead 126 = .ok (.istore 6, 2) := by decide +kernel
theorem dX8_ahead_128 : decode cX8_ahead 128 = .ok (.aload_n 0, 1) := by decide +kernel
theorem dX8_ahead_129 : decode cX8_ahead 129 = .ok (.getfield 16, 3) := by decide +kernel
theorem dX8_ahead_132 : decode cX8_ahead 132 = .ok (.iconst 0, 1) := by decide +kernel
theorem dX8_ahead_133 : decode cX8_ahead 133 = .ok (.aload_n 0, 1) := by decide +kernel
theorem dX8_ahead_134 : decode cX8_ahead 134 = .ok (.getfield 7, 3) := by decide +kernel
theorem dX8_ahead_137 : decode cX8_ahead 137 = .ok (.iconst 0, 1) := by decide +kernel
theorem dX8_ahead_138 : decode cX8_ahead 138 = .ok (.invokestatic 208, 3) := by decide +kernel
theorem dX8_ahead_141 : decode cX8_ahead 141 = .ok (.iload 6, 2) := by decide +kernel
theorem dX8_ahead_143 : decode cX8_ahead 143 = .ok (.ireturn, 1) := by decide +kernel
theorem dX8_bestBase_0 : decode cX8_bestBase 0 = .ok (.aload_n 0, 1) := by decide +kernel
theorem dX8_bestBase_1 : decode cX8_bestBase 1 = .ok (.iconst 0, 1) := by decide +kernel
theorem dX8_bestBase_2 : decode cX8_bestBase 2 = .ok (.putfield 48, 3) := by decide +kernel
theorem dX8_bestBase_5 : decode cX8_bestBase 5 = .ok (.aload_n 0, 1) := by decide +kernel
theorem dX8_bestBase_6 : decode cX8_bestBase 6 = .ok (.iload_n 1, 1) := by decide +kernel
theorem dX8_bestBase_7 : decode cX8_bestBase 7 = .ok (.invokevirtual 228, 3) := by decide +kernel
theorem dX8_bestBase_10 : decode cX8_bestBase 10 = .ok (.ifCond .ne 9, 3) := by decide +kernel
theorem dX8_bestBase_13 : decode cX8_bestBase 13 = .ok (.aload_n 0, 1) := by decide +kernel
theorem dX8_bestBase_14 : decode cX8_bestBase 14 = .ok (.iconst 1, 1) := by decide +kernel
theorem dX8_bestBase_15 : decode cX8_bestBase 15 = .ok (.invokevirtual 62, 3) := by decide +kernel
theorem dX8_bestBase_18 : decode cX8_bestBase 18 = .ok (.ireturn, 1) := by decide +kernel
theorem dX8_bestBase_19 : decode cX8_bestBase 19 = .ok (.iload_n 2, 1) := by decide +kernel
theorem dX8_bestBase_20 : decode cX8_bestBase 20 = .ok (.iconst 1, 1) := by decide +kernel
theorem dX8_bestBase_21 : decode cX8_bestBase 21 = .ok (.sipush 200, 3) := by decide +kernel
theorem dX8_bestBase_24 : decode cX8_bestBase 24 = .ok (.invokestatic 51, 3) := by decide +kernel
theorem dX8_bestBase_27 : decode cX8_bestBase 27 = .ok (.ifCond .ne 9, 3) := by decide +kernel
theorem dX8_bestBase_30 : decode cX8_bestBase 30 = .ok (.aload_n 0, 1) := by decide +kernel
theorem dX8_bestBase_31 : decode cX8_bestBase 31 = .ok (.iconst 2, 1) := by decide +kernel
theorem dX8_bestBase_32 : decode cX8_bestBase 32 = .ok (.invokevirtual 62, 3) := by decide +kernel
theorem dX8_bestBase_35 : decode cX8_bestBase 35 = .ok (.ireturn, 1) := by decide +kernel
theorem dX8_bestBase_36 : decode cX8_bestBase 36 = .ok (.aload_n 0, 1) := by decide +kernel
theorem dX8_bestBase_37 : decode cX8_bestBase 37 = .ok (.getfield 7, 3) := by decide +kernel
theorem dX8_bestBase_40 : decode cX8_bestBase 40 = .ok (.iconst 0, 1) := by decide +kernel
theorem dX8_bestBase_41 : decode cX8_bestBase 41 = .ok (.aload_n 0, 1) := by decide +kernel
theorem dX8_bestBase_42 : decode cX8_bestBase 42 = .ok (.getfield 16, 3) := by decide +kernel
theorem dX8_bestBase_45 : decode cX8_bestBase 45 = .ok (.iconst 0, 1) := by decide +kernel
theorem dX8_bestBase_46 : decode cX8_bestBase 46 = .ok (.invokestatic 208, 3) := by decide +kernel
theorem dX8_bestBase_49 : decode cX8_bestBase 49 = .ok (.iconst (-1), 1) := by decide +kernel
theorem dX8_bestBase_50 : decode cX8_bestBase 50 = .ok (.istore_n 3, 1) := by decide +kernel
theorem dX8_bestBase_51 : decode cX8_bestBase 51 = .ok (.iconst 0, 1) := by decide +kernel
theorem dX8_bestBase_52 : decode cX8_bestBase 52 = .ok (.istore 4, 2) := by decide +kernel
theorem dX8_bestBase_54 : decode cX8_bestBase 54 = .ok (.iconst 1, 1) := by decide +kernel
theorem dX8_bestBase_55 : decode cX8_bestBase 55 = .ok (.istore 5, 2) := by decide +kernel
theorem dX8_bestBase_57 : decode cX8_bestBase 57 = .ok (.iload 5, 2) := by decide +kernel
theorem dX8_bestBase_59 : decode cX8_bestBase 59 = .ok (.bipush 9, 2) := by decide +kernel
theorem dX8_bestBase_61 : decode cX8_bestBase 61 = .ok (.if_icmp .gt 63, 3) := by decide +kernel
theorem dX8_bestBase_64 : decode cX8_bestBase 64 = .ok (.aload_n 0, 1) := by decide +kernel
theorem dX8_bestBase_65 : decode cX8_bestBase 65 = .ok (.iload_n 1, 1) := by decide +kernel
theorem dX8_bestBase_66 : decode cX8_bestBase 66 = .ok (.iconst 0, 1) := by decide +kernel
theorem dX8_bestBase_67 : decode cX8_bestBase 67 = .ok (.iload 5, 2) := by decide +kernel
theorem dX8_bestBase_69 : decode cX8_bestBase 69 = .ok (.invokevirtual 215, 3) := by decide +kernel
theorem dX8_bestBase_72 : decode cX8_bestBase 72 = .ok (.aload_n 0, 1) := by decide +kernel
theorem dX8_bestBase_73 : decode cX8_bestBase 73 = .ok (.iload_n 1, 1) := by decide +kernel
theorem dX8_bestBase_74 : decode cX8_bestBase 74 = .ok (.iload_n 2, 1) := by decide +kernel
theorem dX8_bestBase_75 : decode cX8_bestBase 75 = .ok (.invokevirtual 343, 3) := by decide +kernel
theorem dX8_bestBase_78 : decode cX8_bestBase 78 = .ok (.istore 6, 2) := by decide +kernel
theorem dX8_bestBase_80 : decode cX8_bestBase 80 = .ok (.iload 6, 2) := by decide +kernel
theorem dX8_bestBase_82 : decode cX8_bestBase 82 = .ok (.iconst (-1), 1) := by decide +kernel
theorem dX8_bestBase_83 : decode cX8_bestBase 83 = .ok (.if_icmp .eq 22, 3) := by decide +kernel
theorem dX8_bestBase_86 : decode cX8_bestBase 86 = .ok (.iload_n 3, 1) := by decide +kernel
theorem dX8_bestBase_87 : decode cX8_bestBase 87 = .ok (.iconst (-1), 1) := by decide +kernel
theorem dX8_bestBase_88 : decode cX8_bestBase 88 = .ok (.if_icmp .eq 10, 3) := by decide +kernel
theorem dX8_bestBase_91 : decode cX8_bestBase 91 = .ok (.iload 6, 2) := by decide +kernel
theorem dX8_bestBase_93 : decode cX8_bestBase 93 = .ok (.iload 4, 2) := by decide +kernel
theorem dX8_bestBase_95 : decode cX8_bestBase 95 = .ok (.if_icmp .ge 10, 3) := by decide +kernel
theorem dX8_bestBase_98 : decode cX8_bestBase 98 = .ok (.iload 5, 2) := by decide +kernel
theorem dX8_bestBase_100 : decode cX8_bestBase 100 = .ok (.istore_n 3, 1) := by decide +kernel
theorem dX8_bestBase_101 : decode cX8_bestBase 101 = .ok (.iload 6, 2) := by decide +kernel
theorem dX8_bestBase_103 : decode cX8_bestBase 103 = .ok (.istore 4, 2) := by decide +kernel
theorem dX8_bestBase_105 : decode cX8_bestBase 105 = .ok (.aload_n 0, 1) := by decide +kernel
theorem dX8_bestBase_106 : decode cX8_bestBase 106 = .ok (.getfield 16, 3) := by decide +kernel
theorem dX8_bestBase_109 : decode cX8_bestBase 109 = .ok (.iconst 0, 1) := by decide +kernel
theorem dX8_bestBase_110 : decode cX8_bestBase 110 = .ok (.aload_n 0, 1) := by decide +kernel
theorem dX8_bestBase_111 : decode cX8_bestBase 111 = .ok (.getfield 7, 3) := by decide +kernel
theorem dX8_bestBase_114 : decode cX8_bestBase 114 = .ok (.iconst 0, 1) := by decide +kernel
theorem dX8_bestBase_115 : decode cX8_bestBase 115 = .ok (.invokestatic 208, 3) := by decide +kernel
theorem dX8_bestBase_118 : decode cX8_bestBase 118 = .ok (.iinc 5 1, 3) := by decide +kernel
theorem dX8_bestBase_121 : decode cX8_bestBase 121 = .ok (.goto (-64), 3) := by decide +kernel
theorem dX8_bestBase_124 : decode cX8_bestBase 124 = .ok (.iload_n 3, 1) := by decide +kernel
theorem dX8_bestBase_125 : decode cX8_bestBase 125 = .ok (.ireturn, 1) := by decide +kernel
theorem dX8_save_0 : decode cX8_save 0 = .ok (.aload_n 0, 1) := by decide +kernel
theorem dX8_save_1 : decode cX8_save 1 = .ok (.iload_n 1, 1) := by decide +kernel
theorem dX8_save_2 : decode cX8_save 2 = .ok (.iconst 0, 1) := by decide +kernel
theorem dX8_save_3 : decode cX8_save 3 = .ok (.iconst 1, 1) := by decide +kernel
theorem dX8_save_4 : decode cX8_save 4 = .ok (.invokestatic 51, 3) := by decide +kernel
theorem dX8_save_7 : decode cX8_save 7 = .ok (.ifCond .eq 7, 3) := by decide +kernel
theorem dX8_save_10 : decode cX8_save 10 = .ok (.iconst 0, 1) := by decide +kernel
theorem dX8_save_11 : decode cX8_save 11 = .ok (.goto 4, 3) := by decide +kernel
theorem dX8_save_14 : decode cX8_save 14 = .ok (.iconst 1, 1) := by decide +kernel
theorem dX8_save_15 : decode cX8_save 15 = .ok (.putfield 48, 3) := by decide +kernel
theorem dX8_save_18 : decode cX8_save 18 = .ok (.aload_n 0, 1) := by decide +kernel
theorem dX8_save_19 : decode cX8_save 19 = .ok (.getfield 48, 3) := by decide +kernel
theorem dX8_save_22 : decode cX8_save 22 = .ok (.ifCond .ne 27, 3) := by decide +kernel
theorem dX8_save_25 : decode cX8_save 25 = .ok (.aload_n 0, 1) := by decide +kernel
theorem dX8_save_26 : decode cX8_save 26 = .ok (.getfield 7, 3) := by decide +kernel
theorem dX8_save_29 : decode cX8_save 29 = .ok (.iconst 0, 1) := by decide +kernel
theorem dX8_save_30 : decode cX8_save 30 = .ok (.aload_n 0, 1) := by decide +kernel
theorem dX8_save_31 : decode cX8_save 31 = .ok (.getfield 19, 3) := by decide +kernel
theorem dX8_save_34 : decode cX8_save 34 = .ok (.sipush 700, 3) := by decide +kernel
theorem dX8_save_37 : decode cX8_save 37 = .ok (.iload_n 1, 1) := by decide +kernel
theorem dX8_save_38 : decode cX8_save 38 = .ok (.imul, 1) := by decide +kernel
theorem dX8_save_39 : decode cX8_save 39 = .ok (.invokestatic 208, 3) := by decide +kernel
theorem dX8_save_42 : decode cX8_save 42 = .ok (.aload_n 0, 1) := by decide +kernel
theorem dX8_save_43 : decode cX8_save 43 = .ok (.getfield 22, 3) := by decide +kernel
theorem dX8_save_46 : decode cX8_save 46 = .ok (.iload_n 1, 1) := by decide +kernel
theorem dX8_save_47 : decode cX8_save 47 = .ok (.iconst 1, 1) := by decide +kernel
theorem dX8_save_48 : decode cX8_save 48 = .ok (.bastore, 1) := by decide +kernel
theorem dX8_save_49 : decode cX8_save 49 = .ok (.return_, 1) := by decide +kernel
theorem dX8_restore_0 : decode cX8_restore 0 = .ok (.aload_n 0, 1) := by decide +kernel
theorem dX8_restore_1 : decode cX8_restore 1 = .ok (.iload_n 1, 1) := by decide +kernel
theorem dX8_restore_2 : decode cX8_restore 2 = .ok (.iconst 0, 1) := by decide +kernel
theorem dX8_restore_3 : decode cX8_restore 3 = .ok (.iconst 1, 1) := by decide +kernel
theorem dX8_restore_4 : decode cX8_restore 4 = .ok (.invokestatic 51, 3) := by decide +kernel
theorem dX8_restore_7 : decode cX8_restore 7 = .ok (.ifCond .ne 7, 3) := by decide +kernel
theorem dX8_restore_10 : decode cX8_restore 10 = .ok (.iconst 1, 1) := by decide +kernel
theorem dX8_restore_11 : decode cX8_restore 11 = .ok (.goto 17, 3) := by decide +kernel
theorem dX8_restore_14 : decode cX8_restore 14 = .ok (.aload_n 0, 1) := by decide +kernel
theorem dX8_restore_15 : decode cX8_restore 15 = .ok (.getfield 22, 3) := by decide +kernel
theorem dX8_restore_18 : decode cX8_restore 18 = .ok (.iload_n 1, 1) := by decide +kernel
theorem dX8_restore_19 : decode cX8_restore 19 = .ok (.baload, 1) := by decide +kernel
theorem dX8_restore_20 : decode cX8_restore 20 = .ok (.ifCond .ne 7, 3) := by decide +kernel
theorem dX8_restore_23 : decode cX8_restore 23 = .ok (.iconst 2, 1) := by decide +kernel
theorem dX8_restore_24 : decode cX8_restore 24 = .ok (.goto 4, 3) := by decide +kernel
theorem dX8_restore_27 : decode cX8_restore 27 = .ok (.iconst 0, 1) := by decide +kernel
theorem dX8_restore_28 : decode cX8_restore 28 = .ok (.putfield 48, 3) := by decide +kernel
theorem dX8_restore_31 : decode cX8_restore 31 = .ok (.aload_n 0, 1) := by decide +kernel
theorem dX8_restore_32 : decode cX8_restore 32 = .ok (.getfield 48, 3) := by decide +kernel
theorem dX8_restore_35 : decode cX8_restore 35 = .ok (.ifCond .ne 20, 3) := by decide +kernel
theorem dX8_restore_38 : decode cX8_restore 38 = .ok (.aload_n 0, 1) := by decide +kernel
theorem dX8_restore_39 : decode cX8_restore 39 = .ok (.getfield 19, 3) := by decide +kernel
theorem dX8_restore_42 : decode cX8_restore 42 = .ok (.sipush 700, 3) := by decide +kernel
theorem dX8_restore_45 : decode cX8_restore 45 = .ok (.iload_n 1, 1) := by decide +kernel
theorem dX8_restore_46 : decode cX8_restore 46 = .ok (.imul, 1) := by decide +kernel
theorem dX8_restore_47 : decode cX8_restore 47 = .ok (.aload_n 0, 1) := by decide +kernel
theorem dX8_restore_48 : decode cX8_restore 48 = .ok (.getfield 7, 3) := by decide +kernel
theorem dX8_restore_51 : decode cX8_restore 51 = .ok (.iconst 0, 1) := by decide +kernel
theorem dX8_restore_52 : decode cX8_restore 52 = .ok (.invokestatic 208, 3) := by decide +kernel
theorem dX8_restore_55 : decode cX8_restore 55 = .ok (.return_, 1) := by decide +kernel
theorem dJx29ce0_ordinal_8abf5_0 : decode cJx29ce0_ordinal_8abf5 0 = .ok (.aload_n 0, 1) := by decide +kernel
theorem dJx29ce0_ordinal_8abf5_1 : decode cJx29ce0_ordinal_8abf5 1 = .ok (.getfield 7, 3) := by decide +kernel
theorem dJx29ce0_ordinal_8abf5_4 : decode cJx29ce0_ordinal_8abf5 4 = .ok (.ireturn, 1) := by decide +kernel
theorem dJ9_max_7cf53_0 : decode cJ9_max_7cf53 0 = .ok (.iload_n 0, 1) := by decide +kernel
theorem dJ9_max_7cf53_1 : decode cJ9_max_7cf53 1 = .ok (.iload_n 1, 1) := by decide +kernel
theorem dJ9_max_7cf53_2 : decode cJ9_max_7cf53 2 = .ok (.if_icmp .lt 7, 3) := by decide +kernel
theorem dJ9_max_7cf53_5 : decode cJ9_max_7cf53 5 = .ok (.iload_n 0, 1) := by decide +kernel
theorem dJ9_max_7cf53_6 : decode cJ9_max_7cf53 6 = .ok (.goto 4, 3) := by decide +kernel
theorem dJ9_max_7cf53_9 : decode cJ9_max_7cf53 9 = .ok (.iload_n 1, 1) := by decide +kernel
theorem dJ9_max_7cf53_10 : decode cJ9_max_7cf53 10 = .ok (.ireturn, 1) := by decide +kernel
theorem dJ0_length_8abf5_0 : decode cJ0_length_8abf5 0 = .ok (.aload_n 0, 1) := by decide +kernel
theorem dJ0_length_8abf5_1 : decode cJ0_length_8abf5 1 = .ok (.getfield 9, 3) := by decide +kernel
theorem dJ0_length_8abf5_4 : decode cJ0_length_8abf5 4 = .ok (.arraylength, 1) := by decide +kernel
theorem dJ0_length_8abf5_5 : decode cJ0_length_8abf5 5 = .ok (.aload_n 0, 1) := by decide +kernel
theorem dJ0_length_8abf5_6 : decode cJ0_length_8abf5 6 = .ok (.invokevirtual 335, 3) := by decide +kernel
theorem dJ0_length_8abf5_9 : decode cJ0_length_8abf5 9 = .ok (.ishr, 1) := by decide +kernel
theorem dJ0_length_8abf5_10 : decode cJ0_length_8abf5 10 = .ok (.ireturn, 1) := by decide +kernel
theorem dJ0_charAt_5068e_0 : decode cJ0_charAt_5068e 0 = .ok (.aload_n 0, 1) := by decide +kernel
theorem dJ0_charAt_5068e_1 : decode cJ0_charAt_5068e 1 = .ok (.invokevirtual 492, 3) := by decide +kernel
theorem dJ0_charAt_5068e_4 : decode cJ0_charAt_5068e 4 = .ok (.ifCond .eq 12, 3) := by decide +kernel
theorem dJ0_charAt_5068e_7 : decode cJ0_charAt_5068e 7 = .ok (.aload_n 0, 1) := by decide +kernel
theorem dJ0_charAt_5068e_8 : decode cJ0_charAt_5068e 8 = .ok (.getfield 9, 3) := by decide +kernel
theorem dJ0_charAt_5068e_11 : decode cJ0_charAt_5068e 11 = .ok (.iload_n 1, 1) := by decide +kernel
theorem dJ0_charAt_5068e_12 : decode cJ0_charAt_5068e 12 = .ok (.invokestatic 495, 3) := by decide +kernel
theorem dJ0_charAt_5068e_15 : decode cJ0_charAt_5068e 15 = .ok (.ireturn, 1) := by decide +kernel
theorem dJ0_charAt_5068e_16 : decode cJ0_charAt_5068e 16 = .ok (.aload_n 0, 1) := by decide +kernel
theorem dJ0_charAt_5068e_17 : decode cJ0_charAt_5068e 17 = .ok (.getfield 9, 3) := by decide +kernel
theorem dJ0_charAt_5068e_20 : decode cJ0_charAt_5068e 20 = .ok (.iload_n 1, 1) := by decide +kernel
theorem dJ0_charAt_5068e_21 : decode cJ0_charAt_5068e 21 = .ok (.invokestatic 498, 3) := by decide +kernel
theorem dJ0_charAt_5068e_24 : decode cJ0_charAt_5068e 24 = .ok (.ireturn, 1) := by decide +kernel
theorem dJ0_coder_7d493_0 : decode cJ0_coder_7d493 0 = .ok (.getstatic 38, 3) := by decide +kernel
theorem dJ0_coder_7d493_3 : decode cJ0_coder_7d493 3 = .ok (.ifCond .eq 10, 3) := by decide +kernel
theorem dJ0_coder_7d493_6 : decode cJ0_coder_7d493 6 = .ok (.aload_n 0, 1) := by decide +kernel
theorem dJ0_coder_7d493_7 : decode cJ0_coder_7d493 7 = .ok (.getfield 15, 3) := by decide +kernel
theorem dJ0_coder_7d493_10 : decode cJ0_coder_7d493 10 = .ok (.goto 4, 3) := by decide +kernel
theorem dJ0_coder_7d493_13 : decode cJ0_coder_7d493 13 = .ok (.iconst 1, 1) := by decide +kernel
theorem dJ0_coder_7d493_14 : decode cJ0_coder_7d493 14 = .ok (.ireturn, 1) := by decide +kernel
theorem dJ0_isLatin1_aae02_0 : decode cJ0_isLatin1_aae02 0 = .ok (.getstatic 38, 3) := by decide +kernel
theorem dJ0_isLatin1_aae02_3 : decode cJ0_isLatin1_aae02 3 = .ok (.ifCond .eq 14, 3) := by decide +kernel
theorem dJ0_isLatin1_aae02_6 : decode cJ0_isLatin1_aae02 6 = .ok (.aload_n 0, 1) := by decide +kernel
theorem dJ0_isLatin1_aae02_7 : decode cJ0_isLatin1_aae02 7 = .ok (.getfield 15, 3) := by decide +kernel
theorem dJ0_isLatin1_aae02_10 : decode cJ0_isLatin1_aae02 10 = .ok (.ifCond .ne 7, 3) := by decide +kernel
theorem dJ0_isLatin1_aae02_13 : decode cJ0_isLatin1_aae02 13 = .ok (.iconst 1, 1) := by decide +kernel
theorem dJ0_isLatin1_aae02_14 : decode cJ0_isLatin1_aae02 14 = .ok (.goto 4, 3) := by decide +kernel
theorem dJ0_isLatin1_aae02_17 : decode cJ0_isLatin1_aae02 17 = .ok (.iconst 0, 1) := by decide +kernel
theorem dJ0_isLatin1_aae02_18 : decode cJ0_isLatin1_aae02 18 = .ok (.ireturn, 1) := by decide +kernel
theorem dJ0_checkIndex_df160_0 : decode cJ0_checkIndex_df160 0 = .ok (.iload_n 0, 1) := by decide +kernel
theorem dJ0_checkIndex_df160_1 : decode cJ0_checkIndex_df160 1 = .ok (.iload_n 1, 1) := by decide +kernel
theorem dJ0_checkIndex_df160_2 : decode cJ0_checkIndex_df160 2 = .ok (.getstatic 1053, 3) := by decide +kernel
theorem dJ0_checkIndex_df160_5 : decode cJ0_checkIndex_df160 5 = .ok (.invokestatic 1059, 3) := by decide +kernel
theorem dJ0_checkIndex_df160_8 : decode cJ0_checkIndex_df160 8 = .ok (.pop, 1) := by decide +kernel
theorem dJ0_checkIndex_df160_9 : decode cJ0_checkIndex_df160 9 = .ok (.return_, 1) := by decide +kernel
theorem dJ1_charAt_3b067_0 : decode cJ1_charAt_3b067 0 = .ok (.iload_n 1, 1) := by decide +kernel
theorem dJ1_charAt_3b067_1 : decode cJ1_charAt_3b067 1 = .ok (.aload_n 0, 1) := by decide +kernel
theorem dJ1_charAt_3b067_2 : decode cJ1_charAt_3b067 2 = .ok (.arraylength, 1) := by decide +kernel
theorem dJ1_charAt_3b067_3 : decode cJ1_charAt_3b067 3 = .ok (.invokestatic 9, 3) := by decide +kernel
theorem dJ1_charAt_3b067_6 : decode cJ1_charAt_3b067 6 = .ok (.aload_n 0, 1) := by decide +kernel
theorem dJ1_charAt_3b067_7 : decode cJ1_charAt_3b067 7 = .ok (.iload_n 1, 1) := by decide +kernel
theorem dJ1_charAt_3b067_8 : decode cJ1_charAt_3b067 8 = .ok (.baload, 1) := by decide +kernel
theorem dJ1_charAt_3b067_9 : decode cJ1_charAt_3b067 9 = .ok (.sipush 255, 3) := by decide +kernel
theorem dJ1_charAt_3b067_12 : decode cJ1_charAt_3b067 12 = .ok (.iand, 1) := by decide +kernel
theorem dJ1_charAt_3b067_13 : decode cJ1_charAt_3b067 13 = .ok (.i2c, 1) := by decide +kernel
theorem dJ1_charAt_3b067_14 : decode cJ1_charAt_3b067 14 = .ok (.ireturn, 1) := by decide +kernel
theorem dJ3_checkIndex_8e157_0 : decode cJ3_checkIndex_8e157 0 = .ok (.iload_n 0, 1) := by decide +kernel
theorem dJ3_checkIndex_8e157_1 : decode cJ3_checkIndex_8e157 1 = .ok (.ifCond .lt 8, 3) := by decide +kernel
theorem dJ3_checkIndex_8e157_4 : decode cJ3_checkIndex_8e157 4 = .ok (.iload_n 0, 1) := by decide +kernel
theorem dJ3_checkIndex_8e157_5 : decode cJ3_checkIndex_8e157 5 = .ok (.iload_n 1, 1) := by decide +kernel
theorem dJ3_checkIndex_8e157_6 : decode cJ3_checkIndex_8e157 6 = .ok (.if_icmp .lt 10, 3) := by decide +kernel
theorem dJ3_checkIndex_8e157_9 : decode cJ3_checkIndex_8e157 9 = .ok (.aload_n 2, 1) := by decide +kernel
theorem dJ3_checkIndex_8e157_10 : decode cJ3_checkIndex_8e157 10 = .ok (.iload_n 0, 1) := by decide +kernel
theorem dJ3_checkIndex_8e157_11 : decode cJ3_checkIndex_8e157 11 = .ok (.iload_n 1, 1) := by decide +kernel
theorem dJ3_checkIndex_8e157_12 : decode cJ3_checkIndex_8e157 12 = .ok (.invokestatic 95, 3) := by decide +kernel
theorem dJ3_checkIndex_8e157_15 : decode cJ3_checkIndex_8e157 15 = .ok (.athrow, 1) := by decide +kernel
theorem dJ3_checkIndex_8e157_16 : decode cJ3_checkIndex_8e157 16 = .ok (.iload_n 0, 1) := by decide +kernel
theorem dJ3_checkIndex_8e157_17 : decode cJ3_checkIndex_8e157 17 = .ok (.ireturn, 1) := by decide +kernel
theorem dL_appendText_0 : decode cL_appendText 0 = .ok (.aload_n 2, 1) := by decide +kernel
theorem dL_appendText_1 : decode cL_appendText 1 = .ok (.iconst 0, 1) := by decide +kernel
theorem dL_appendText_2 : decode cL_appendText 2 = .ok (.aload_n 0, 1) := by decide +kernel
theorem dL_appendText_3 : decode cL_appendText 3 = .ok (.iload_n 1, 1) := by decide +kernel
theorem dL_appendText_4 : decode cL_appendText 4 = .ok (.invokevirtual 7, 3) := by decide +kernel
theorem dL_appendText_7 : decode cL_appendText 7 = .ok (.i2l, 1) := by decide +kernel
theorem dL_appendText_8 : decode cL_appendText 8 = .ok (.lastore, 1) := by decide +kernel
theorem dL_appendText_9 : decode cL_appendText 9 = .ok (.goto 6, 3) := by decide +kernel
theorem dL_appendText_12 : decode cL_appendText 12 = .ok (.astore_n 3, 1) := by decide +kernel
theorem dL_appendText_13 : decode cL_appendText 13 = .ok (.iconst 1, 1) := by decide +kernel
theorem dL_appendText_14 : decode cL_appendText 14 = .ok (.ireturn, 1) := by decide +kernel
theorem dL_appendText_15 : decode cL_appendText 15 = .ok (.iconst 0, 1) := by decide +kernel
theorem dL_appendText_16 : decode cL_appendText 16 = .ok (.ireturn, 1) := by decide +kernel
theorem dL_truncateText_0 : decode cL_truncateText 0 = .ok (.aload_n 2, 1) := by decide +kernel
theorem dL_truncateText_1 : decode cL_truncateText 1 = .ok (.iconst 0, 1) := by decide +kernel
theorem dL_truncateText_2 : decode cL_truncateText 2 = .ok (.aload_n 0, 1) := by decide +kernel
theorem dL_truncateText_3 : decode cL_truncateText 3 = .ok (.iload_n 1, 1) := by decide +kernel
theorem dL_truncateText_4 : decode cL_truncateText 4 = .ok (.invokevirtual 15, 3) := by decide +kernel
theorem dL_truncateText_7 : decode cL_truncateText 7 = .ok (.i2l, 1) := by decide +kernel
theorem dL_truncateText_8 : decode cL_truncateText 8 = .ok (.lastore, 1) := by decide +kernel
theorem dL_truncateText_9 : decode cL_truncateText 9 = .ok (.goto 6, 3) := by decide +kernel
theorem dL_truncateText_12 : decode cL_truncateText 12 = .ok (.astore_n 3, 1) := by decide +kernel
theorem dL_truncateText_13 : decode cL_truncateText 13 = .ok (.iconst 1, 1) := by decide +kernel
theorem dL_truncateText_14 : decode cL_truncateText 14 = .ok (.ireturn, 1) := by decide +kernel
theorem dL_truncateText_15 : decode cL_truncateText 15 = .ok (.iconst 0, 1) := by decide +kernel
theorem dL_truncateText_16 : decode cL_truncateText 16 = .ok (.ireturn, 1) := by decide +kernel
theorem dL_addThread_0 : decode cL_addThread 0 = .ok (.aload 4, 2) := by decide +kernel
theorem dL_addThread_2 : decode cL_addThread 2 = .ok (.iconst 0, 1) := by decide +kernel
theorem dL_addThread_3 : decode cL_addThread 3 = .ok (.aload_n 0, 1) := by decide +kernel
theorem dL_addThread_4 : decode cL_addThread 4 = .ok (.iload_n 1, 1) := by decide +kernel
theorem dL_addThread_5 : decode cL_addThread 5 = .ok (.iload_n 2, 1) := by decide +kernel
theorem dL_addThread_6 : decode cL_addThread 6 = .ok (.iload_n 3, 1) := by decide +kernel
theorem dL_addThread_7 : decode cL_addThread 7 = .ok (.invokevirtual 20, 3) := by decide +kernel
theorem dL_addThread_10 : decode cL_addThread 10 = .ok (.i2l, 1) := by decide +kernel
theorem dL_addThread_11 : decode cL_addThread 11 = .ok (.lastore, 1) := by decide +kernel
theorem dL_addThread_12 : decode cL_addThread 12 = .ok (.goto 11, 3) := by decide +kernel
theorem dL_addThread_15 : decode cL_addThread 15 = .ok (.astore 5, 2) := by decide +kernel
theorem dL_addThread_17 : decode cL_addThread 17 = .ok (.iconst 1, 1) := by decide +kernel
theorem dL_addThread_18 : decode cL_addThread 18 = .ok (.ireturn, 1) := by decide +kernel
theorem dL_addThread_19 : decode cL_addThread 19 = .ok (.astore 5, 2) := by decide +kernel
theorem dL_addThread_21 : decode cL_addThread 21 = .ok (.iconst 2, 1) := by decide +kernel
theorem dL_addThread_22 : decode cL_addThread 22 = .ok (.ireturn, 1) := by decide +kernel
theorem dL_addThread_23 : decode cL_addThread 23 = .ok (.iconst 0, 1) := by decide +kernel
theorem dL_addThread_24 : decode cL_addThread 24 = .ok (.ireturn, 1) := by decide +kernel
theorem dL_addInstruction_0 : decode cL_addInstruction 0 = .ok (.aload 4, 2) := by decide +kernel
theorem dL_addInstruction_2 : decode cL_addInstruction 2 = .ok (.iconst 0, 1) := by decide +kernel
theorem dL_addInstruction_3 : decode cL_addInstruction 3 = .ok (.aload_n 0, 1) := by decide +kernel
theorem dL_addInstruction_4 : decode cL_addInstruction 4 = .ok (.iload_n 1, 1) := by decide +kernel
theorem dL_addInstruction_5 : decode cL_addInstruction 5 = .ok (.iload_n 2, 1) := by decide +kernel
theorem dL_addInstruction_6 : decode cL_addInstruction 6 = .ok (.iload_n 3, 1) := by decide +kernel
theorem dL_addInstruction_7 : decode cL_addInstruction 7 = .ok (.invokevirtual 24, 3) := by decide +kernel
theorem dL_addInstruction_10 : decode cL_addInstruction 10 = .ok (.i2l, 1) := by decide +kernel
theorem dL_addInstruction_11 : decode cL_addInstruction 11 = .ok (.lastore, 1) := by decide +kernel
theorem dL_addInstruction_12 : decode cL_addInstruction 12 = .ok (.goto 15, 3) := by decide +kernel
theorem dL_addInstruction_15 : decode cL_addInstruction 15 = .ok (.astore 5, 2) := by decide +kernel
theorem dL_addInstruction_17 : decode cL_addInstruction 17 = .ok (.iconst 1, 1) := by decide +kernel
theorem dL_addInstruction_18 : decode cL_addInstruction 18 = .ok (.ireturn, 1) := by decide +kernel
theorem dL_addInstruction_19 : decode cL_addInstruction 19 = .ok (.astore 5, 2) := by decide +kernel
theorem dL_addInstruction_21 : decode cL_addInstruction 21 = .ok (.iconst 2, 1) := by decide +kernel
theorem dL_addInstruction_22 : decode cL_addInstruction 22 = .ok (.ireturn, 1) := by decide +kernel
theorem dL_addInstruction_23 : decode cL_addInstruction 23 = .ok (.astore 5, 2) := by decide +kernel
theorem dL_addInstruction_25 : decode cL_addInstruction 25 = .ok (.iconst 3, 1) := by decide +kernel
theorem dL_addInstruction_26 : decode cL_addInstruction 26 = .ok (.ireturn, 1) := by decide +kernel
theorem dL_addInstruction_27 : decode cL_addInstruction 27 = .ok (.iconst 0, 1) := by decide +kernel
theorem dL_addInstruction_28 : decode cL_addInstruction 28 = .ok (.ireturn, 1) := by decide +kernel
theorem dL_setBase_0 : decode cL_setBase 0 = .ok (.aload_n 3, 1) := by decide +kernel
theorem dL_setBase_1 : decode cL_setBase 1 = .ok (.iconst 0, 1) := by decide +kernel
theorem dL_setBase_2 : decode cL_setBase 2 = .ok (.aload_n 0, 1) := by decide +kernel
theorem dL_setBase_3 : decode cL_setBase 3 = .ok (.iload_n 1, 1) := by decide +kernel
theorem dL_setBase_4 : decode cL_setBase 4 = .ok (.iload_n 2, 1) := by decide +kernel
theorem dL_setBase_5 : decode cL_setBase 5 = .ok (.invokevirtual 29, 3) := by decide +kernel
theorem dL_setBase_8 : decode cL_setBase 8 = .ok (.i2l, 1) := by decide +kernel
theorem dL_setBase_9 : decode cL_setBase 9 = .ok (.lastore, 1) := by decide +kernel
theorem dL_setBase_10 : decode cL_setBase 10 = .ok (.goto 11, 3) := by decide +kernel
theorem dL_setBase_13 : decode cL_setBase 13 = .ok (.astore 4, 2) := by decide +kernel
theorem dL_setBase_15 : decode cL_setBase 15 = .ok (.iconst 1, 1) := by decide +kernel
theorem dL_setBase_16 : decode cL_setBase 16 = .ok (.ireturn, 1) := by decide +kernel
theorem dL_setBase_17 : decode cL_setBase 17 = .ok (.astore 4, 2) := by decide +kernel
theorem dL_setBase_19 : decode cL_setBase 19 = .ok (.iconst 2, 1) := by decide +kernel
theorem dL_setBase_20 : decode cL_setBase 20 = .ok (.ireturn, 1) := by decide +kernel
theorem dL_setBase_21 : decode cL_setBase 21 = .ok (.iconst 0, 1) := by decide +kernel
theorem dL_setBase_22 : decode cL_setBase 22 = .ok (.ireturn, 1) := by decide +kernel
theorem dL_set_0 : decode cL_set 0 = .ok (.aload_n 3, 1) := by decide +kernel
theorem dL_set_1 : decode cL_set 1 = .ok (.iconst 0, 1) := by decide +kernel
theorem dL_set_2 : decode cL_set 2 = .ok (.aload_n 0, 1) := by decide +kernel
theorem dL_set_3 : decode cL_set 3 = .ok (.iload_n 1, 1) := by decide +kernel
theorem dL_set_4 : decode cL_set 4 = .ok (.iload_n 2, 1) := by decide +kernel
theorem dL_set_5 : decode cL_set 5 = .ok (.invokevirtual 33, 3) := by decide +kernel
theorem dL_set_8 : decode cL_set 8 = .ok (.i2l, 1) := by decide +kernel
theorem dL_set_9 : decode cL_set 9 = .ok (.lastore, 1) := by decide +kernel
theorem dL_set_10 : decode cL_set 10 = .ok (.goto 7, 3) := by decide +kernel
theorem dL_set_13 : decode cL_set 13 = .ok (.astore 4, 2) := by decide +kernel
theorem dL_set_15 : decode cL_set 15 = .ok (.iconst 1, 1) := by decide +kernel
theorem dL_set_16 : decode cL_set 16 = .ok (.ireturn, 1) := by decide +kernel
theorem dL_set_17 : decode cL_set 17 = .ok (.iconst 0, 1) := by decide +kernel
theorem dL_set_18 : decode cL_set 18 = .ok (.ireturn, 1) := by decide +kernel
theorem dL_seed_0 : decode cL_seed 0 = .ok (.aload_n 0, 1) := by decide +kernel
theorem dL_seed_1 : decode cL_seed 1 = .ok (.iload_n 1, 1) := by decide +kernel
theorem dL_seed_2 : decode cL_seed 2 = .ok (.invokevirtual 36, 3) := by decide +kernel
theorem dL_seed_5 : decode cL_seed 5 = .ok (.goto 6, 3) := by decide +kernel
theorem dL_seed_8 : decode cL_seed 8 = .ok (.astore_n 2, 1) := by decide +kernel
theorem dL_seed_9 : decode cL_seed 9 = .ok (.iconst 1, 1) := by decide +kernel
theorem dL_seed_10 : decode cL_seed 10 = .ok (.ireturn, 1) := by decide +kernel
theorem dL_seed_11 : decode cL_seed 11 = .ok (.iconst 0, 1) := by decide +kernel
theorem dL_seed_12 : decode cL_seed 12 = .ok (.ireturn, 1) := by decide +kernel
theorem dL_setFlag_0 : decode cL_setFlag 0 = .ok (.aload_n 3, 1) := by decide +kernel
theorem dL_setFlag_1 : decode cL_setFlag 1 = .ok (.iconst 0, 1) := by decide +kernel
theorem dL_setFlag_2 : decode cL_setFlag 2 = .ok (.aload_n 0, 1) := by decide +kernel
theorem dL_setFlag_3 : decode cL_setFlag 3 = .ok (.iload_n 1, 1) := by decide +kernel
theorem dL_setFlag_4 : decode cL_setFlag 4 = .ok (.iload_n 2, 1) := by decide +kernel
theorem dL_setFlag_5 : decode cL_setFlag 5 = .ok (.invokevirtual 40, 3) := by decide +kernel
theorem dL_setFlag_8 : decode cL_setFlag 8 = .ok (.ifCond .eq 7, 3) := by decide +kernel
theorem dL_setFlag_11 : decode cL_setFlag 11 = .ok (.lconst 1, 1) := by decide +kernel
theorem dL_setFlag_12 : decode cL_setFlag 12 = .ok (.goto 4, 3) := by decide +kernel
theorem dL_setFlag_15 : decode cL_setFlag 15 = .ok (.lconst 0, 1) := by decide +kernel
theorem dL_setFlag_16 : decode cL_setFlag 16 = .ok (.lastore, 1) := by decide +kernel
theorem dL_setFlag_17 : decode cL_setFlag 17 = .ok (.goto 7, 3) := by decide +kernel
theorem dL_setFlag_20 : decode cL_setFlag 20 = .ok (.astore 4, 2) := by decide +kernel
theorem dL_setFlag_22 : decode cL_setFlag 22 = .ok (.iconst 1, 1) := by decide +kernel
theorem dL_setFlag_23 : decode cL_setFlag 23 = .ok (.ireturn, 1) := by decide +kernel
theorem dL_setFlag_24 : decode cL_setFlag 24 = .ok (.iconst 0, 1) := by decide +kernel
theorem dL_setFlag_25 : decode cL_setFlag 25 = .ok (.ireturn, 1) := by decide +kernel
theorem dL_count_0 : decode cL_count 0 = .ok (.aload_n 2, 1) := by decide +kernel
theorem dL_count_1 : decode cL_count 1 = .ok (.iconst 0, 1) := by decide +kernel
theorem dL_count_2 : decode cL_count 2 = .ok (.aload_n 0, 1) := by decide +kernel
theorem dL_count_3 : decode cL_count 3 = .ok (.iload_n 1, 1) := by decide +kernel
theorem dL_count_4 : decode cL_count 4 = .ok (.invokevirtual 44, 3) := by decide +kernel
theorem dL_count_7 : decode cL_count 7 = .ok (.i2l, 1) := by decide +kernel
theorem dL_count_8 : decode cL_count 8 = .ok (.lastore, 1) := by decide +kernel
theorem dL_count_9 : decode cL_count 9 = .ok (.goto 6, 3) := by decide +kernel
theorem dL_count_12 : decode cL_count 12 = .ok (.astore_n 3, 1) := by decide +kernel
theorem dL_count_13 : decode cL_count 13 = .ok (.iconst 1, 1) := by decide +kernel
theorem dL_count_14 : decode cL_count 14 = .ok (.ireturn, 1) := by decide +kernel
theorem dL_count_15 : decode cL_count 15 = .ok (.iconst 0, 1) := by decide +kernel
theorem dL_count_16 : decode cL_count 16 = .ok (.ireturn, 1) := by decide +kernel
theorem dL_thread_0 : decode cL_thread 0 = .ok (.aload_n 3, 1) := by decide +kernel
theorem dL_thread_1 : decode cL_thread 1 = .ok (.iconst 0, 1) := by decide +kernel
theorem dL_thread_2 : decode cL_thread 2 = .ok (.aload_n 0, 1) := by decide +kernel
theorem dL_thread_3 : decode cL_thread 3 = .ok (.iload_n 1, 1) := by decide +kernel
theorem dL_thread_4 : decode cL_thread 4 = .ok (.iload_n 2, 1) := by decide +kernel
theorem dL_thread_5 : decode cL_thread 5 = .ok (.invokevirtual 47, 3) := by decide +kernel
theorem dL_thread_8 : decode cL_thread 8 = .ok (.i2l, 1) := by decide +kernel
theorem dL_thread_9 : decode cL_thread 9 = .ok (.lastore, 1) := by decide +kernel
theorem dL_thread_10 : decode cL_thread 10 = .ok (.goto 11, 3) := by decide +kernel
theorem dL_thread_13 : decode cL_thread 13 = .ok (.astore 4, 2) := by decide +kernel
theorem dL_thread_15 : decode cL_thread 15 = .ok (.iconst 1, 1) := by decide +kernel
theorem dL_thread_16 : decode cL_thread 16 = .ok (.ireturn, 1) := by decide +kernel
theorem dL_thread_17 : decode cL_thread 17 = .ok (.astore 4, 2) := by decide +kernel
theorem dL_thread_19 : decode cL_thread 19 = .ok (.iconst 2, 1) := by decide +kernel
theorem dL_thread_20 : decode cL_thread 20 = .ok (.ireturn, 1) := by decide +kernel
theorem dL_thread_21 : decode cL_thread 21 = .ok (.iconst 0, 1) := by decide +kernel
theorem dL_thread_22 : decode cL_thread 22 = .ok (.ireturn, 1) := by decide +kernel
theorem dL_instruction_0 : decode cL_instruction 0 = .ok (.aload 4, 2) := by decide +kernel
theorem dL_instruction_2 : decode cL_instruction 2 = .ok (.iconst 0, 1) := by decide +kernel
theorem dL_instruction_3 : decode cL_instruction 3 = .ok (.aload_n 0, 1) := by decide +kernel
theorem dL_instruction_4 : decode cL_instruction 4 = .ok (.iload_n 1, 1) := by decide +kernel
theorem dL_instruction_5 : decode cL_instruction 5 = .ok (.iload_n 2, 1) := by decide +kernel
theorem dL_instruction_6 : decode cL_instruction 6 = .ok (.iload_n 3, 1) := by decide +kernel
theorem dL_instruction_7 : decode cL_instruction 7 = .ok (.invokevirtual 50, 3) := by decide +kernel
theorem dL_instruction_10 : decode cL_instruction 10 = .ok (.i2l, 1) := by decide +kernel
theorem dL_instruction_11 : decode cL_instruction 11 = .ok (.lastore, 1) := by decide +kernel
theorem dL_instruction_12 : decode cL_instruction 12 = .ok (.goto 11, 3) := by decide +kernel
theorem dL_instruction_15 : decode cL_instruction 15 = .ok (.astore 5, 2) := by decide +kernel
theorem dL_instruction_17 : decode cL_instruction 17 = .ok (.iconst 1, 1) := by decide +kernel
theorem dL_instruction_18 : decode cL_instruction 18 = .ok (.ireturn, 1) := by decide +kernel
theorem dL_instruction_19 : decode cL_instruction 19 = .ok (.astore 5, 2) := by decide +kernel
theorem dL_instruction_21 : decode cL_instruction 21 = .ok (.iconst 2, 1) := by decide +kernel
theorem dL_instruction_22 : decode cL_instruction 22 = .ok (.ireturn, 1) := by decide +kernel
theorem dL_instruction_23 : decode cL_instruction 23 = .ok (.iconst 0, 1) := by decide +kernel
theorem dL_instruction_24 : decode cL_instruction 24 = .ok (.ireturn, 1) := by decide +kernel
theorem dL_lock_0 : decode cL_lock 0 = .ok (.aload_n 3, 1) := by decide +kernel
theorem dL_lock_1 : decode cL_lock 1 = .ok (.iconst 0, 1) := by decide +kernel
theorem dL_lock_2 : decode cL_lock 2 = .ok (.aload_n 0, 1) := by decide +kernel
theorem dL_lock_3 : decode cL_lock 3 = .ok (.iload_n 1, 1) := by decide +kernel
theorem dL_lock_4 : decode cL_lock 4 = .ok (.iload_n 2, 1) := by decide +kernel
theorem dL_lock_5 : decode cL_lock 5 = .ok (.invokevirtual 53, 3) := by decide +kernel
theorem dL_lock_8 : decode cL_lock 8 = .ok (.i2l, 1) := by decide +kernel
theorem dL_lock_9 : decode cL_lock 9 = .ok (.lastore, 1) := by decide +kernel
theorem dL_lock_10 : decode cL_lock 10 = .ok (.goto 7, 3) := by decide +kernel
theorem dL_lock_13 : decode cL_lock 13 = .ok (.astore 4, 2) := by decide +kernel
theorem dL_lock_15 : decode cL_lock 15 = .ok (.iconst 1, 1) := by decide +kernel
theorem dL_lock_16 : decode cL_lock 16 = .ok (.ireturn, 1) := by decide +kernel
theorem dL_lock_17 : decode cL_lock 17 = .ok (.iconst 0, 1) := by decide +kernel
theorem dL_lock_18 : decode cL_lock 18 = .ok (.ireturn, 1) := by decide +kernel
theorem dL_flag_0 : decode cL_flag 0 = .ok (.aload_n 2, 1) := by decide +kernel
theorem dL_flag_1 : decode cL_flag 1 = .ok (.iconst 0, 1) := by decide +kernel
theorem dL_flag_2 : decode cL_flag 2 = .ok (.aload_n 0, 1) := by decide +kernel
theorem dL_flag_3 : decode cL_flag 3 = .ok (.iload_n 1, 1) := by decide +kernel
theorem dL_flag_4 : decode cL_flag 4 = .ok (.invokevirtual 56, 3) := by decide +kernel
theorem dL_flag_7 : decode cL_flag 7 = .ok (.ifCond .eq 7, 3) := by decide +kernel
theorem dL_flag_10 : decode cL_flag 10 = .ok (.lconst 1, 1) := by decide +kernel
theorem dL_flag_11 : decode cL_flag 11 = .ok (.goto 4, 3) := by decide +kernel
theorem dL_flag_14 : decode cL_flag 14 = .ok (.lconst 0, 1) := by decide +kernel
theorem dL_flag_15 : decode cL_flag 15 = .ok (.lastore, 1) := by decide +kernel
theorem dL_flag_16 : decode cL_flag 16 = .ok (.goto 6, 3) := by decide +kernel
theorem dL_flag_19 : decode cL_flag 19 = .ok (.astore_n 3, 1) := by decide +kernel
theorem dL_flag_20 : decode cL_flag 20 = .ok (.iconst 1, 1) := by decide +kernel
theorem dL_flag_21 : decode cL_flag 21 = .ok (.ireturn, 1) := by decide +kernel
theorem dL_flag_22 : decode cL_flag 22 = .ok (.iconst 0, 1) := by decide +kernel
theorem dL_flag_23 : decode cL_flag 23 = .ok (.ireturn, 1) := by decide +kernel
theorem dL_event_0 : decode cL_event 0 = .ok (.aload_n 3, 1) := by decide +kernel
theorem dL_event_1 : decode cL_event 1 = .ok (.iconst 0, 1) := by decide +kernel
theorem dL_event_2 : decode cL_event 2 = .ok (.aload_n 0, 1) := by decide +kernel
theorem dL_event_3 : decode cL_event 3 = .ok (.iload_n 1, 1) := by decide +kernel
theorem dL_event_4 : decode cL_event 4 = .ok (.iload_n 2, 1) := by decide +kernel
theorem dL_event_5 : decode cL_event 5 = .ok (.invokevirtual 60, 3) := by decide +kernel
theorem dL_event_8 : decode cL_event 8 = .ok (.i2l, 1) := by decide +kernel
theorem dL_event_9 : decode cL_event 9 = .ok (.lastore, 1) := by decide +kernel
theorem dL_event_10 : decode cL_event 10 = .ok (.goto 11, 3) := by decide +kernel
theorem dL_event_13 : decode cL_event 13 = .ok (.astore 4, 2) := by decide +kernel
theorem dL_event_15 : decode cL_event 15 = .ok (.iconst 1, 1) := by decide +kernel
theorem dL_event_16 : decode cL_event 16 = .ok (.ireturn, 1) := by decide +kernel
theorem dL_event_17 : decode cL_event 17 = .ok (.astore 4, 2) := by decide +kernel
theorem dL_event_19 : decode cL_event 19 = .ok (.iconst 2, 1) := by decide +kernel
theorem dL_event_20 : decode cL_event 20 = .ok (.ireturn, 1) := by decide +kernel
theorem dL_event_21 : decode cL_event 21 = .ok (.iconst 0, 1) := by decide +kernel
theorem dL_event_22 : decode cL_event 22 = .ok (.ireturn, 1) := by decide +kernel
theorem dL_events_0 : decode cL_events 0 = .ok (.aload_n 3, 1) := by decide +kernel
theorem dL_events_1 : decode cL_events 1 = .ok (.iconst 0, 1) := by decide +kernel
theorem dL_events_2 : decode cL_events 2 = .ok (.aload_n 0, 1) := by decide +kernel
theorem dL_events_3 : decode cL_events 3 = .ok (.iload_n 1, 1) := by decide +kernel
theorem dL_events_4 : decode cL_events 4 = .ok (.iload_n 2, 1) := by decide +kernel
theorem dL_events_5 : decode cL_events 5 = .ok (.invokevirtual 63, 3) := by decide +kernel
theorem dL_events_8 : decode cL_events 8 = .ok (.i2l, 1) := by decide +kernel
theorem dL_events_9 : decode cL_events 9 = .ok (.lastore, 1) := by decide +kernel
theorem dL_events_10 : decode cL_events 10 = .ok (.goto 11, 3) := by decide +kernel
theorem dL_events_13 : decode cL_events 13 = .ok (.astore 4, 2) := by decide +kernel
theorem dL_events_15 : decode cL_events 15 = .ok (.iconst 1, 1) := by decide +kernel
theorem dL_events_16 : decode cL_events 16 = .ok (.ireturn, 1) := by decide +kernel
theorem dL_events_17 : decode cL_events 17 = .ok (.astore 4, 2) := by decide +kernel
theorem dL_events_19 : decode cL_events 19 = .ok (.iconst 2, 1) := by decide +kernel
theorem dL_events_20 : decode cL_events 20 = .ok (.ireturn, 1) := by decide +kernel
theorem dL_events_21 : decode cL_events 21 = .ok (.iconst 0, 1) := by decide +kernel
theorem dL_events_22 : decode cL_events 22 = .ok (.ireturn, 1) := by decide +kernel
theorem dL_wake_0 : decode cL_wake 0 = .ok (.aload_n 2, 1) := by decide +kernel
theorem dL_wake_1 : decode cL_wake 1 = .ok (.iconst 0, 1) := by decide +kernel
theorem dL_wake_2 : decode cL_wake 2 = .ok (.aload_n 0, 1) := by decide +kernel
theorem dL_wake_3 : decode cL_wake 3 = .ok (.iload_n 1, 1) := by decide +kernel
theorem dL_wake_4 : decode cL_wake 4 = .ok (.invokevirtual 66, 3) := by decide +kernel
theorem dL_wake_7 : decode cL_wake 7 = .ok (.i2l, 1) := by decide +kernel
theorem dL_wake_8 : decode cL_wake 8 = .ok (.lastore, 1) := by decide +kernel
theorem dL_wake_9 : decode cL_wake 9 = .ok (.goto 6, 3) := by decide +kernel
theorem dL_wake_12 : decode cL_wake 12 = .ok (.astore_n 3, 1) := by decide +kernel
theorem dL_wake_13 : decode cL_wake 13 = .ok (.iconst 1, 1) := by decide +kernel
theorem dL_wake_14 : decode cL_wake 14 = .ok (.ireturn, 1) := by decide +kernel
theorem dL_wake_15 : decode cL_wake 15 = .ok (.iconst 0, 1) := by decide +kernel
theorem dL_wake_16 : decode cL_wake 16 = .ok (.ireturn, 1) := by decide +kernel
theorem dL_interrupt_0 : decode cL_interrupt 0 = .ok (.aload_n 2, 1) := by decide +kernel
theorem dL_interrupt_1 : decode cL_interrupt 1 = .ok (.iconst 0, 1) := by decide +kernel
theorem dL_interrupt_2 : decode cL_interrupt 2 = .ok (.aload_n 0, 1) := by decide +kernel
theorem dL_interrupt_3 : decode cL_interrupt 3 = .ok (.iload_n 1, 1) := by decide +kernel
theorem dL_interrupt_4 : decode cL_interrupt 4 = .ok (.invokevirtual 69, 3) := by decide +kernel
theorem dL_interrupt_7 : decode cL_interrupt 7 = .ok (.i2l, 1) := by decide +kernel
theorem dL_interrupt_8 : decode cL_interrupt 8 = .ok (.lastore, 1) := by decide +kernel
theorem dL_interrupt_9 : decode cL_interrupt 9 = .ok (.goto 6, 3) := by decide +kernel
theorem dL_interrupt_12 : decode cL_interrupt 12 = .ok (.astore_n 3, 1) := by decide +kernel
theorem dL_interrupt_13 : decode cL_interrupt 13 = .ok (.iconst 1, 1) := by decide +kernel
theorem dL_interrupt_14 : decode cL_interrupt 14 = .ok (.ireturn, 1) := by decide +kernel
theorem dL_interrupt_15 : decode cL_interrupt 15 = .ok (.iconst 0, 1) := by decide +kernel
theorem dL_interrupt_16 : decode cL_interrupt 16 = .ok (.ireturn, 1) := by decide +kernel
theorem dL_rouse_0 : decode cL_rouse 0 = .ok (.aload_n 2, 1) := by decide +kernel
theorem dL_rouse_1 : decode cL_rouse 1 = .ok (.iconst 0, 1) := by decide +kernel
theorem dL_rouse_2 : decode cL_rouse 2 = .ok (.aload_n 0, 1) := by decide +kernel
theorem dL_rouse_3 : decode cL_rouse 3 = .ok (.iload_n 1, 1) := by decide +kernel
theorem dL_rouse_4 : decode cL_rouse 4 = .ok (.invokevirtual 72, 3) := by decide +kernel
theorem dL_rouse_7 : decode cL_rouse 7 = .ok (.ifCond .eq 7, 3) := by decide +kernel
theorem dL_rouse_10 : decode cL_rouse 10 = .ok (.lconst 1, 1) := by decide +kernel
theorem dL_rouse_11 : decode cL_rouse 11 = .ok (.goto 4, 3) := by decide +kernel
theorem dL_rouse_14 : decode cL_rouse 14 = .ok (.lconst 0, 1) := by decide +kernel
theorem dL_rouse_15 : decode cL_rouse 15 = .ok (.lastore, 1) := by decide +kernel
theorem dL_rouse_16 : decode cL_rouse 16 = .ok (.goto 6, 3) := by decide +kernel
theorem dL_rouse_19 : decode cL_rouse 19 = .ok (.astore_n 3, 1) := by decide +kernel
theorem dL_rouse_20 : decode cL_rouse 20 = .ok (.iconst 1, 1) := by decide +kernel
theorem dL_rouse_21 : decode cL_rouse 21 = .ok (.ireturn, 1) := by decide +kernel
theorem dL_rouse_22 : decode cL_rouse 22 = .ok (.iconst 0, 1) := by decide +kernel
theorem dL_rouse_23 : decode cL_rouse 23 = .ok (.ireturn, 1) := by decide +kernel
theorem dL_run_0 : decode cL_run 0 = .ok (.aload_n 2, 1) := by decide +kernel
theorem dL_run_1 : decode cL_run 1 = .ok (.iconst 0, 1) := by decide +kernel
theorem dL_run_2 : decode cL_run 2 = .ok (.aload_n 0, 1) := by decide +kernel
theorem dL_run_3 : decode cL_run 3 = .ok (.iload_n 1, 1) := by decide +kernel
theorem dL_run_4 : decode cL_run 4 = .ok (.invokevirtual 75, 3) := by decide +kernel
theorem dL_run_7 : decode cL_run 7 = .ok (.i2l, 1) := by decide +kernel
theorem dL_run_8 : decode cL_run 8 = .ok (.lastore, 1) := by decide +kernel
theorem dL_run_9 : decode cL_run 9 = .ok (.goto 6, 3) := by decide +kernel
theorem dL_run_12 : decode cL_run 12 = .ok (.astore_n 3, 1) := by decide +kernel
theorem dL_run_13 : decode cL_run 13 = .ok (.iconst 1, 1) := by decide +kernel
theorem dL_run_14 : decode cL_run 14 = .ok (.ireturn, 1) := by decide +kernel
theorem dL_run_15 : decode cL_run 15 = .ok (.iconst 0, 1) := by decide +kernel
theorem dL_run_16 : decode cL_run 16 = .ok (.ireturn, 1) := by decide +kernel
theorem dL_chain_0 : decode cL_chain 0 = .ok (.aload_n 3, 1) := by decide +kernel
theorem dL_chain_1 : decode cL_chain 1 = .ok (.iconst 0, 1) := by decide +kernel
theorem dL_chain_2 : decode cL_chain 2 = .ok (.aload_n 0, 1) := by decide +kernel
theorem dL_chain_3 : decode cL_chain 3 = .ok (.iload_n 1, 1) := by decide +kernel
theorem dL_chain_4 : decode cL_chain 4 = .ok (.iload_n 2, 1) := by decide +kernel
theorem dL_chain_5 : decode cL_chain 5 = .ok (.invokevirtual 78, 3) := by decide +kernel
theorem dL_chain_8 : decode cL_chain 8 = .ok (.i2l, 1) := by decide +kernel
theorem dL_chain_9 : decode cL_chain 9 = .ok (.lastore, 1) := by decide +kernel
theorem dL_chain_10 : decode cL_chain 10 = .ok (.goto 7, 3) := by decide +kernel
theorem dL_chain_13 : decode cL_chain 13 = .ok (.astore 4, 2) := by decide +kernel
theorem dL_chain_15 : decode cL_chain 15 = .ok (.iconst 1, 1) := by decide +kernel
theorem dL_chain_16 : decode cL_chain 16 = .ok (.ireturn, 1) := by decide +kernel
theorem dL_chain_17 : decode cL_chain 17 = .ok (.iconst 0, 1) := by decide +kernel
theorem dL_chain_18 : decode cL_chain 18 = .ok (.ireturn, 1) := by decide +kernel
theorem dL_lent_0 : decode cL_lent 0 = .ok (.aload_n 2, 1) := by decide +kernel
theorem dL_lent_1 : decode cL_lent 1 = .ok (.iconst 0, 1) := by decide +kernel
theorem dL_lent_2 : decode cL_lent 2 = .ok (.aload_n 0, 1) := by decide +kernel
theorem dL_lent_3 : decode cL_lent 3 = .ok (.iload_n 1, 1) := by decide +kernel
theorem dL_lent_4 : decode cL_lent 4 = .ok (.invokevirtual 81, 3) := by decide +kernel
theorem dL_lent_7 : decode cL_lent 7 = .ok (.f2d, 1) := by decide +kernel
theorem dL_lent_8 : decode cL_lent 8 = .ok (.dastore, 1) := by decide +kernel
theorem dL_lent_9 : decode cL_lent 9 = .ok (.goto 6, 3) := by decide +kernel
theorem dL_lent_12 : decode cL_lent 12 = .ok (.astore_n 3, 1) := by decide +kernel
theorem dL_lent_13 : decode cL_lent 13 = .ok (.iconst 1, 1) := by decide +kernel
theorem dL_lent_14 : decode cL_lent 14 = .ok (.ireturn, 1) := by decide +kernel
theorem dL_lent_15 : decode cL_lent 15 = .ok (.iconst 0, 1) := by decide +kernel
theorem dL_lent_16 : decode cL_lent 16 = .ok (.ireturn, 1) := by decide +kernel
theorem dL_doneIn_0 : decode cL_doneIn 0 = .ok (.aload_n 3, 1) := by decide +kernel
theorem dL_doneIn_1 : decode cL_doneIn 1 = .ok (.iconst 0, 1) := by decide +kernel
theorem dL_doneIn_2 : decode cL_doneIn 2 = .ok (.aload_n 0, 1) := by decide +kernel
theorem dL_doneIn_3 : decode cL_doneIn 3 = .ok (.iload_n 1, 1) := by decide +kernel
theorem dL_doneIn_4 : decode cL_doneIn 4 = .ok (.iload_n 2, 1) := by decide +kernel
theorem dL_doneIn_5 : decode cL_doneIn 5 = .ok (.invokevirtual 85, 3) := by decide +kernel
theorem dL_doneIn_8 : decode cL_doneIn 8 = .ok (.i2l, 1) := by decide +kernel
theorem dL_doneIn_9 : decode cL_doneIn 9 = .ok (.lastore, 1) := by decide +kernel
theorem dL_doneIn_10 : decode cL_doneIn 10 = .ok (.goto 11, 3) := by decide +kernel
theorem dL_doneIn_13 : decode cL_doneIn 13 = .ok (.astore 4, 2) := by decide +kernel
theorem dL_doneIn_15 : decode cL_doneIn 15 = .ok (.iconst 1, 1) := by decide +kernel
theorem dL_doneIn_16 : decode cL_doneIn 16 = .ok (.ireturn, 1) := by decide +kernel
theorem dL_doneIn_17 : decode cL_doneIn 17 = .ok (.astore 4, 2) := by decide +kernel
theorem dL_doneIn_19 : decode cL_doneIn 19 = .ok (.iconst 2, 1) := by decide +kernel
theorem dL_doneIn_20 : decode cL_doneIn 20 = .ok (.ireturn, 1) := by decide +kernel
theorem dL_doneIn_21 : decode cL_doneIn 21 = .ok (.iconst 0, 1) := by decide +kernel
theorem dL_doneIn_22 : decode cL_doneIn 22 = .ok (.ireturn, 1) := by decide +kernel
theorem dL_returnsIn_0 : decode cL_returnsIn 0 = .ok (.aload_n 3, 1) := by decide +kernel
theorem dL_returnsIn_1 : decode cL_returnsIn 1 = .ok (.iconst 0, 1) := by decide +kernel
theorem dL_returnsIn_2 : decode cL_returnsIn 2 = .ok (.aload_n 0, 1) := by decide +kernel
theorem dL_returnsIn_3 : decode cL_returnsIn 3 = .ok (.iload_n 1, 1) := by decide +kernel
theorem dL_returnsIn_4 : decode cL_returnsIn 4 = .ok (.iload_n 2, 1) := by decide +kernel
theorem dL_returnsIn_5 : decode cL_returnsIn 5 = .ok (.invokevirtual 88, 3) := by decide +kernel
theorem dL_returnsIn_8 : decode cL_returnsIn 8 = .ok (.i2l, 1) := by decide +kernel
theorem dL_returnsIn_9 : decode cL_returnsIn 9 = .ok (.lastore, 1) := by decide +kernel
theorem dL_returnsIn_10 : decode cL_returnsIn 10 = .ok (.goto 11, 3) := by decide +kernel
theorem dL_returnsIn_13 : decode cL_returnsIn 13 = .ok (.astore 4, 2) := by decide +kernel
theorem dL_returnsIn_15 : decode cL_returnsIn 15 = .ok (.iconst 1, 1) := by decide +kernel
theorem dL_returnsIn_16 : decode cL_returnsIn 16 = .ok (.ireturn, 1) := by decide +kernel
theorem dL_returnsIn_17 : decode cL_returnsIn 17 = .ok (.astore 4, 2) := by decide +kernel
theorem dL_returnsIn_19 : decode cL_returnsIn 19 = .ok (.iconst 2, 1) := by decide +kernel
theorem dL_returnsIn_20 : decode cL_returnsIn 20 = .ok (.ireturn, 1) := by decide +kernel
theorem dL_returnsIn_21 : decode cL_returnsIn 21 = .ok (.iconst 0, 1) := by decide +kernel
theorem dL_returnsIn_22 : decode cL_returnsIn 22 = .ok (.ireturn, 1) := by decide +kernel
theorem dL_ahead_0 : decode cL_ahead 0 = .ok (.aload_n 3, 1) := by decide +kernel
theorem dL_ahead_1 : decode cL_ahead 1 = .ok (.iconst 0, 1) := by decide +kernel
theorem dL_ahead_2 : decode cL_ahead 2 = .ok (.aload_n 0, 1) := by decide +kernel
theorem dL_ahead_3 : decode cL_ahead 3 = .ok (.iload_n 1, 1) := by decide +kernel
theorem dL_ahead_4 : decode cL_ahead 4 = .ok (.iload_n 2, 1) := by decide +kernel
theorem dL_ahead_5 : decode cL_ahead 5 = .ok (.invokevirtual 91, 3) := by decide +kernel
theorem dL_ahead_8 : decode cL_ahead 8 = .ok (.i2l, 1) := by decide +kernel
theorem dL_ahead_9 : decode cL_ahead 9 = .ok (.lastore, 1) := by decide +kernel
theorem dL_ahead_10 : decode cL_ahead 10 = .ok (.goto 7, 3) := by decide +kernel
theorem dL_ahead_13 : decode cL_ahead 13 = .ok (.astore 4, 2) := by decide +kernel
theorem dL_ahead_15 : decode cL_ahead 15 = .ok (.iconst 1, 1) := by decide +kernel
theorem dL_ahead_16 : decode cL_ahead 16 = .ok (.ireturn, 1) := by decide +kernel
theorem dL_ahead_17 : decode cL_ahead 17 = .ok (.iconst 0, 1) := by decide +kernel
theorem dL_ahead_18 : decode cL_ahead 18 = .ok (.ireturn, 1) := by decide +kernel
theorem dL_bestBase_0 : decode cL_bestBase 0 = .ok (.aload_n 3, 1) := by decide +kernel
theorem dL_bestBase_1 : decode cL_bestBase 1 = .ok (.iconst 0, 1) := by decide +kernel
theorem dL_bestBase_2 : decode cL_bestBase 2 = .ok (.aload_n 0, 1) := by decide +kernel
theorem dL_bestBase_3 : decode cL_bestBase 3 = .ok (.iload_n 1, 1) := by decide +kernel
theorem dL_bestBase_4 : decode cL_bestBase 4 = .ok (.iload_n 2, 1) := by decide +kernel
theorem dL_bestBase_5 : decode cL_bestBase 5 = .ok (.invokevirtual 94, 3) := by decide +kernel
theorem dL_bestBase_8 : decode cL_bestBase 8 = .ok (.i2l, 1) := by decide +kernel
theorem dL_bestBase_9 : decode cL_bestBase 9 = .ok (.lastore, 1) := by decide +kernel
theorem dL_bestBase_10 : decode cL_bestBase 10 = .ok (.goto 11, 3) := by decide +kernel
theorem dL_bestBase_13 : decode cL_bestBase 13 = .ok (.astore 4, 2) := by decide +kernel
theorem dL_bestBase_15 : decode cL_bestBase 15 = .ok (.iconst 1, 1) := by decide +kernel
theorem dL_bestBase_16 : decode cL_bestBase 16 = .ok (.ireturn, 1) := by decide +kernel
theorem dL_bestBase_17 : decode cL_bestBase 17 = .ok (.astore 4, 2) := by decide +kernel
theorem dL_bestBase_19 : decode cL_bestBase 19 = .ok (.iconst 2, 1) := by decide +kernel
theorem dL_bestBase_20 : decode cL_bestBase 20 = .ok (.ireturn, 1) := by decide +kernel
theorem dL_bestBase_21 : decode cL_bestBase 21 = .ok (.iconst 0, 1) := by decide +kernel
theorem dL_bestBase_22 : decode cL_bestBase 22 = .ok (.ireturn, 1) := by decide +kernel
theorem dL_save_0 : decode cL_save 0 = .ok (.aload_n 0, 1) := by decide +kernel
theorem dL_save_1 : decode cL_save 1 = .ok (.iload_n 1, 1) := by decide +kernel
theorem dL_save_2 : decode cL_save 2 = .ok (.invokevirtual 97, 3) := by decide +kernel
theorem dL_save_5 : decode cL_save 5 = .ok (.goto 6, 3) := by decide +kernel
theorem dL_save_8 : decode cL_save 8 = .ok (.astore_n 2, 1) := by decide +kernel
theorem dL_save_9 : decode cL_save 9 = .ok (.iconst 1, 1) := by decide +kernel
theorem dL_save_10 : decode cL_save 10 = .ok (.ireturn, 1) := by decide +kernel
theorem dL_save_11 : decode cL_save 11 = .ok (.iconst 0, 1) := by decide +kernel
theorem dL_save_12 : decode cL_save 12 = .ok (.ireturn, 1) := by decide +kernel
theorem dL_restore_0 : decode cL_restore 0 = .ok (.aload_n 0, 1) := by decide +kernel
theorem dL_restore_1 : decode cL_restore 1 = .ok (.iload_n 1, 1) := by decide +kernel
theorem dL_restore_2 : decode cL_restore 2 = .ok (.invokevirtual 100, 3) := by decide +kernel
theorem dL_restore_5 : decode cL_restore 5 = .ok (.goto 9, 3) := by decide +kernel
theorem dL_restore_8 : decode cL_restore 8 = .ok (.astore_n 2, 1) := by decide +kernel
theorem dL_restore_9 : decode cL_restore 9 = .ok (.iconst 1, 1) := by decide +kernel
theorem dL_restore_10 : decode cL_restore 10 = .ok (.ireturn, 1) := by decide +kernel
theorem dL_restore_11 : decode cL_restore 11 = .ok (.astore_n 2, 1) := by decide +kernel
theorem dL_restore_12 : decode cL_restore 12 = .ok (.iconst 2, 1) := by decide +kernel
theorem dL_restore_13 : decode cL_restore 13 = .ok (.ireturn, 1) := by decide +kernel
theorem dL_restore_14 : decode cL_restore 14 = .ok (.iconst 0, 1) := by decide +kernel
theorem dL_restore_15 : decode cL_restore 15 = .ok (.ireturn, 1) := by decide +kernel
theorem dL_law_0 : decode cL_law 0 = .ok (.new 8, 3) := by decide +kernel
theorem dL_law_3 : decode cL_law 3 = .ok (.dup, 1) := by decide +kernel
theorem dL_law_4 : decode cL_law 4 = .ok (.invokespecial 103, 3) := by decide +kernel
theorem dL_law_7 : decode cL_law 7 = .ok (.astore_n 1, 1) := by decide +kernel
theorem dL_law_8 : decode cL_law 8 = .ok (.new 104, 3) := by decide +kernel
theorem dL_law_11 : decode cL_law 11 = .ok (.dup, 1) := by decide +kernel
theorem dL_law_12 : decode cL_law 12 = .ok (.invokespecial 106, 3) := by decide +kernel
theorem dL_law_15 : decode cL_law 15 = .ok (.astore_n 2, 1) := by decide +kernel
theorem dL_law_16 : decode cL_law 16 = .ok (.iconst 1, 1) := by decide +kernel
theorem dL_law_17 : decode cL_law 17 = .ok (.newarray .long, 2) := by decide +kernel
theorem dL_law_19 : decode cL_law 19 = .ok (.astore_n 3, 1) := by decide +kernel
theorem dL_law_20 : decode cL_law 20 = .ok (.iconst 1, 1) := by decide +kernel
theorem dL_law_21 : decode cL_law 21 = .ok (.newarray .double, 2) := by decide +kernel
theorem dL_law_23 : decode cL_law 23 = .ok (.astore 4, 2) := by decide +kernel
theorem dL_law_25 : decode cL_law 25 = .ok (.iconst 0, 1) := by decide +kernel
theorem dL_law_26 : decode cL_law 26 = .ok (.istore 5, 2) := by decide +kernel
theorem dL_law_28 : decode cL_law 28 = .ok (.iload 5, 2) := by decide +kernel
theorem dL_law_30 : decode cL_law 30 = .ok (.aload_n 0, 1) := by decide +kernel
theorem dL_law_31 : decode cL_law 31 = .ok (.arraylength, 1) := by decide +kernel
theorem dL_law_32 : decode cL_law 32 = .ok (.iconst 4, 1) := by decide +kernel
theorem dL_law_33 : decode cL_law 33 = .ok (.isub, 1) := by decide +kernel
theorem dL_law_34 : decode cL_law 34 = .ok (.if_icmp .gt 1997, 3) := by decide +kernel
theorem dL_law_37 : decode cL_law 37 = .ok (.aload_n 0, 1) := by decide +kernel
theorem dL_law_38 : decode cL_law 38 = .ok (.iload 5, 2) := by decide +kernel
theorem dL_law_40 : decode cL_law 40 = .ok (.iaload, 1) := by decide +kernel
theorem dL_law_41 : decode cL_law 41 = .ok (.bipush 63, 2) := by decide +kernel
theorem dL_law_43 : decode cL_law 43 = .ok (.iand, 1) := by decide +kernel
theorem dL_law_44 : decode cL_law 44 = .ok (.tableswitch 1981 0 32 #[148, 204, 260, 273, 286, 299, 379, 459, 527, 595, 631, 722, 778, 846, 926, 994, 1057, 1125, 1193, 1249, 1305, 1368, 1424, 1437, 1505, 1518, 1596, 1637, 1705, 1773, 1841, 1909, 1945], 148) := by decide +kernel
theorem dL_law_192 : decode cL_law 192 = .ok (.aload_n 1, 1) := by decide +kernel
theorem dL_law_193 : decode cL_law 193 = .ok (.aload_n 0, 1) := by decide +kernel
theorem dL_law_194 : decode cL_law 194 = .ok (.iload 5, 2) := by decide +kernel
theorem dL_law_196 : decode cL_law 196 = .ok (.iconst 1, 1) := by decide +kernel
theorem dL_law_197 : decode cL_law 197 = .ok (.iadd, 1) := by decide +kernel
theorem dL_law_198 : decode cL_law 198 = .ok (.iaload, 1) := by decide +kernel
theorem dL_law_199 : decode cL_law 199 = .ok (.aload_n 3, 1) := by decide +kernel
theorem dL_law_200 : decode cL_law 200 = .ok (.invokestatic 107, 3) := by decide +kernel
theorem dL_law_203 : decode cL_law 203 = .ok (.istore 6, 2) := by decide +kernel
theorem dL_law_205 : decode cL_law 205 = .ok (.aload_n 2, 1) := by decide +kernel
theorem dL_law_206 : decode cL_law 206 = .ok (.aload_n 0, 1) := by decide +kernel
theorem dL_law_207 : decode cL_law 207 = .ok (.iload 5, 2) := by decide +kernel
theorem dL_law_209 : decode cL_law 209 = .ok (.iconst 1, 1) := by decide +kernel
theorem dL_law_210 : decode cL_law 210 = .ok (.iadd, 1) := by decide +kernel
theorem dL_law_211 : decode cL_law 211 = .ok (.iaload, 1) := by decide +kernel
theorem dL_law_212 : decode cL_law 212 = .ok (.invokevirtual 112, 3) := by decide +kernel
theorem dL_law_215 : decode cL_law 215 = .ok (.istore 7, 2) := by decide +kernel
theorem dL_law_217 : decode cL_law 217 = .ok (.aload_n 2, 1) := by decide +kernel
theorem dL_law_218 : decode cL_law 218 = .ok (.invokevirtual 113, 3) := by decide +kernel
theorem dL_law_221 : decode cL_law 221 = .ok (.iload 6, 2) := by decide +kernel
theorem dL_law_223 : decode cL_law 223 = .ok (.if_icmp .eq 5, 3) := by decide +kernel
theorem dL_law_226 : decode cL_law 226 = .ok (.iconst 0, 1) := by decide +kernel
theorem dL_law_227 : decode cL_law 227 = .ok (.ireturn, 1) := by decide +kernel
theorem dL_law_228 : decode cL_law 228 = .ok (.iload 6, 2) := by decide +kernel
theorem dL_law_230 : decode cL_law 230 = .ok (.ifCond .ne 15, 3) := by decide +kernel
theorem dL_law_233 : decode cL_law 233 = .ok (.aload_n 3, 1) := by decide +kernel
theorem dL_law_234 : decode cL_law 234 = .ok (.iconst 0, 1) := by decide +kernel
theorem dL_law_235 : decode cL_law 235 = .ok (.laload, 1) := by decide +kernel
theorem dL_law_236 : decode cL_law 236 = .ok (.iload 7, 2) := by decide +kernel
theorem dL_law_238 : decode cL_law 238 = .ok (.i2l, 1) := by decide +kernel
theorem dL_law_239 : decode cL_law 239 = .ok (.lcmp, 1) := by decide +kernel
theorem dL_law_240 : decode cL_law 240 = .ok (.ifCond .eq 5, 3) := by decide +kernel
theorem dL_law_243 : decode cL_law 243 = .ok (.iconst 0, 1) := by decide +kernel
theorem dL_law_244 : decode cL_law 244 = .ok (.ireturn, 1) := by decide +kernel
theorem dL_law_245 : decode cL_law 245 = .ok (.goto 1780, 3) := by decide +kernel
theorem dL_law_248 : decode cL_law 248 = .ok (.aload_n 1, 1) := by decide +kernel
theorem dL_law_249 : decode cL_law 249 = .ok (.aload_n 0, 1) := by decide +kernel
theorem dL_law_250 : decode cL_law 250 = .ok (.iload 5, 2) := by decide +kernel
theorem dL_law_252 : decode cL_law 252 = .ok (.iconst 1, 1) := by decide +kernel
theorem dL_law_253 : decode cL_law 253 = .ok (.iadd, 1) := by decide +kernel
theorem dL_law_254 : decode cL_law 254 = .ok (.iaload, 1) := by decide +kernel
theorem dL_law_255 : decode cL_law 255 = .ok (.aload_n 3, 1) := by decide +kernel
theorem dL_law_256 : decode cL_law 256 = .ok (.invokestatic 117, 3) := by decide +kernel
theorem dL_law_259 : decode cL_law 259 = .ok (.istore 6, 2) := by decide +kernel
theorem dL_law_261 : decode cL_law 261 = .ok (.aload_n 2, 1) := by decide +kernel
theorem dL_law_262 : decode cL_law 262 = .ok (.aload_n 0, 1) := by decide +kernel
theorem dL_law_263 : decode cL_law 263 = .ok (.iload 5, 2) := by decide +kernel
theorem dL_law_265 : decode cL_law 265 = .ok (.iconst 1, 1) := by decide +kernel
theorem dL_law_266 : decode cL_law 266 = .ok (.iadd, 1) := by decide +kernel
theorem dL_law_267 : decode cL_law 267 = .ok (.iaload, 1) := by decide +kernel
theorem dL_law_268 : decode cL_law 268 = .ok (.invokevirtual 119, 3) := by decide +kernel
theorem dL_law_271 : decode cL_law 271 = .ok (.istore 7, 2) := by decide +kernel
theorem dL_law_273 : decode cL_law 273 = .ok (.aload_n 2, 1) := by decide +kernel
theorem dL_law_274 : decode cL_law 274 = .ok (.invokevirtual 113, 3) := by decide +kernel
theorem dL_law_277 : decode cL_law 277 = .ok (.iload 6, 2) := by decide +kernel
theorem dL_law_279 : decode cL_law 279 = .ok (.if_icmp .eq 5, 3) := by decide +kernel
theorem dL_law_282 : decode cL_law 282 = .ok (.iconst 0, 1) := by decide +kernel
theorem dL_law_283 : decode cL_law 283 = .ok (.ireturn, 1) := by decide +kernel
theorem dL_law_284 : decode cL_law 284 = .ok (.iload 6, 2) := by decide +kernel
theorem dL_law_286 : decode cL_law 286 = .ok (.ifCond .ne 15, 3) := by decide +kernel
theorem dL_law_289 : decode cL_law 289 = .ok (.aload_n 3, 1) := by decide +kernel
theorem dL_law_290 : decode cL_law 290 = .ok (.iconst 0, 1) := by decide +kernel
theorem dL_law_291 : decode cL_law 291 = .ok (.laload, 1) := by decide +kernel
theorem dL_law_292 : decode cL_law 292 = .ok (.iload 7, 2) := by decide +kernel
theorem dL_law_294 : decode cL_law 294 = .ok (.i2l, 1) := by decide +kernel
theorem dL_law_295 : decode cL_law 295 = .ok (.lcmp, 1) := by decide +kernel
theorem dL_law_296 : decode cL_law 296 = .ok (.ifCond .eq 5, 3) := by decide +kernel
theorem dL_law_299 : decode cL_law 299 = .ok (.iconst 0, 1) := by decide +kernel
theorem dL_law_300 : decode cL_law 300 = .ok (.ireturn, 1) := by decide +kernel
theorem dL_law_301 : decode cL_law 301 = .ok (.goto 1724, 3) := by decide +kernel
theorem dL_law_304 : decode cL_law 304 = .ok (.aload_n 1, 1) := by decide +kernel
theorem dL_law_305 : decode cL_law 305 = .ok (.invokevirtual 120, 3) := by decide +kernel
theorem dL_law_308 : decode cL_law 308 = .ok (.aload_n 2, 1) := by decide +kernel
theorem dL_law_309 : decode cL_law 309 = .ok (.invokevirtual 123, 3) := by decide +kernel
theorem dL_law_312 : decode cL_law 312 = .ok (.if_icmp .eq 1713, 3) := by decide +kernel
theorem dL_law_315 : decode cL_law 315 = .ok (.iconst 0, 1) := by decide +kernel
theorem dL_law_316 : decode cL_law 316 = .ok (.ireturn, 1) := by decide +kernel
theorem dL_law_317 : decode cL_law 317 = .ok (.aload_n 1, 1) := by decide +kernel
theorem dL_law_318 : decode cL_law 318 = .ok (.invokevirtual 124, 3) := by decide +kernel
theorem dL_law_321 : decode cL_law 321 = .ok (.aload_n 2, 1) := by decide +kernel
theorem dL_law_322 : decode cL_law 322 = .ok (.invokevirtual 127, 3) := by decide +kernel
theorem dL_law_325 : decode cL_law 325 = .ok (.if_icmp .eq 1700, 3) := by decide +kernel
theorem dL_law_328 : decode cL_law 328 = .ok (.iconst 0, 1) := by decide +kernel
theorem dL_law_329 : decode cL_law 329 = .ok (.ireturn, 1) := by decide +kernel
theorem dL_law_330 : decode cL_law 330 = .ok (.aload_n 1, 1) := by decide +kernel
theorem dL_law_331 : decode cL_law 331 = .ok (.invokevirtual 128, 3) := by decide +kernel
theorem dL_law_334 : decode cL_law 334 = .ok (.aload_n 2, 1) := by decide +kernel
theorem dL_law_335 : decode cL_law 335 = .ok (.invokevirtual 131, 3) := by decide +kernel
theorem dL_law_338 : decode cL_law 338 = .ok (.if_icmp .eq 1687, 3) := by decide +kernel
theorem dL_law_341 : decode cL_law 341 = .ok (.iconst 0, 1) := by decide +kernel
theorem dL_law_342 : decode cL_law 342 = .ok (.ireturn, 1) := by decide +kernel
theorem dL_law_343 : decode cL_law 343 = .ok (.aload_n 1, 1) := by decide +kernel
theorem dL_law_344 : decode cL_law 344 = .ok (.aload_n 0, 1) := by decide +kernel
theorem dL_law_345 : decode cL_law 345 = .ok (.iload 5, 2) := by decide +kernel
theorem dL_law_347 : decode cL_law 347 = .ok (.iconst 1, 1) := by decide +kernel
theorem dL_law_348 : decode cL_law 348 = .ok (.iadd, 1) := by decide +kernel
theorem dL_law_349 : decode cL_law 349 = .ok (.iaload, 1) := by decide +kernel
theorem dL_law_350 : decode cL_law 350 = .ok (.aload_n 0, 1) := by decide +kernel
theorem dL_law_351 : decode cL_law 351 = .ok (.iload 5, 2) := by decide +kernel
theorem dL_law_353 : decode cL_law 353 = .ok (.iconst 2, 1) := by decide +kernel
theorem dL_law_354 : decode cL_law 354 = .ok (.iadd, 1) := by decide +kernel
theorem dL_law_355 : decode cL_law 355 = .ok (.iaload, 1) := by decide +kernel
theorem dL_law_356 : decode cL_law 356 = .ok (.aload_n 0, 1) := by decide +kernel
theorem dL_law_357 : decode cL_law 357 = .ok (.iload 5, 2) := by decide +kernel
theorem dL_law_359 : decode cL_law 359 = .ok (.iconst 3, 1) := by decide +kernel
theorem dL_law_360 : decode cL_law 360 = .ok (.iadd, 1) := by decide +kernel
theorem dL_law_361 : decode cL_law 361 = .ok (.iaload, 1) := by decide +kernel
theorem dL_law_362 : decode cL_law 362 = .ok (.aload_n 3, 1) := by decide +kernel
theorem dL_law_363 : decode cL_law 363 = .ok (.invokestatic 132, 3) := by decide +kernel
theorem dL_law_366 : decode cL_law 366 = .ok (.istore 6, 2) := by decide +kernel
theorem dL_law_368 : decode cL_law 368 = .ok (.aload_n 2, 1) := by decide +kernel
theorem dL_law_369 : decode cL_law 369 = .ok (.aload_n 0, 1) := by decide +kernel
theorem dL_law_370 : decode cL_law 370 = .ok (.iload 5, 2) := by decide +kernel
theorem dL_law_372 : decode cL_law 372 = .ok (.iconst 1, 1) := by decide +kernel
theorem dL_law_373 : decode cL_law 373 = .ok (.iadd, 1) := by decide +kernel
theorem dL_law_374 : decode cL_law 374 = .ok (.iaload, 1) := by decide +kernel
theorem dL_law_375 : decode cL_law 375 = .ok (.aload_n 0, 1) := by decide +kernel
theorem dL_law_376 : decode cL_law 376 = .ok (.iload 5, 2) := by decide +kernel
theorem dL_law_378 : decode cL_law 378 = .ok (.iconst 2, 1) := by decide +kernel
theorem dL_law_379 : decode cL_law 379 = .ok (.iadd, 1) := by decide +kernel
theorem dL_law_380 : decode cL_law 380 = .ok (.iaload, 1) := by decide +kernel
theorem dL_law_381 : decode cL_law 381 = .ok (.aload_n 0, 1) := by decide +kernel
theorem dL_law_382 : decode cL_law 382 = .ok (.iload 5, 2) := by decide +kernel
theorem dL_law_384 : decode cL_law 384 = .ok (.iconst 3, 1) := by decide +kernel
theorem dL_law_385 : decode cL_law 385 = .ok (.iadd, 1) := by decide +kernel
theorem dL_law_386 : decode cL_law 386 = .ok (.iaload, 1) := by decide +kernel
theorem dL_law_387 : decode cL_law 387 = .ok (.invokevirtual 135, 3) := by decide +kernel
theorem dL_law_390 : decode cL_law 390 = .ok (.istore 7, 2) := by decide +kernel
theorem dL_law_392 : decode cL_law 392 = .ok (.aload_n 2, 1) := by decide +kernel
theorem dL_law_393 : decode cL_law 393 = .ok (.invokevirtual 113, 3) := by decide +kernel
theorem dL_law_396 : decode cL_law 396 = .ok (.iload 6, 2) := by decide +kernel
theorem dL_law_398 : decode cL_law 398 = .ok (.if_icmp .eq 5, 3) := by decide +kernel
theorem dL_law_401 : decode cL_law 401 = .ok (.iconst 0, 1) := by decide +kernel
theorem dL_law_402 : decode cL_law 402 = .ok (.ireturn, 1) := by decide +kernel
theorem dL_law_403 : decode cL_law 403 = .ok (.iload 6, 2) := by decide +kernel
theorem dL_law_405 : decode cL_law 405 = .ok (.ifCond .ne 15, 3) := by decide +kernel
theorem dL_law_408 : decode cL_law 408 = .ok (.aload_n 3, 1) := by decide +kernel
theorem dL_law_409 : decode cL_law 409 = .ok (.iconst 0, 1) := by decide +kernel
theorem dL_law_410 : decode cL_law 410 = .ok (.laload, 1) := by decide +kernel
theorem dL_law_411 : decode cL_law 411 = .ok (.iload 7, 2) := by decide +kernel
theorem dL_law_413 : decode cL_law 413 = .ok (.i2l, 1) := by decide +kernel
theorem dL_law_414 : decode cL_law 414 = .ok (.lcmp, 1) := by decide +kernel
theorem dL_law_415 : decode cL_law 415 = .ok (.ifCond .eq 5, 3) := by decide +kernel
theorem dL_law_418 : decode cL_law 418 = .ok (.iconst 0, 1) := by decide +kernel
theorem dL_law_419 : decode cL_law 419 = .ok (.ireturn, 1) := by decide +kernel
theorem dL_law_420 : decode cL_law 420 = .ok (.goto 1605, 3) := by decide +kernel
theorem dL_law_423 : decode cL_law 423 = .ok (.aload_n 1, 1) := by decide +kernel
theorem dL_law_424 : decode cL_law 424 = .ok (.aload_n 0, 1) := by decide +kernel
theorem dL_law_425 : decode cL_law 425 = .ok (.iload 5, 2) := by decide +kernel
theorem dL_law_427 : decode cL_law 427 = .ok (.iconst 1, 1) := by decide +kernel
theorem dL_law_428 : decode cL_law 428 = .ok (.iadd, 1) := by decide +kernel
theorem dL_law_429 : decode cL_law 429 = .ok (.iaload, 1) := by decide +kernel
theorem dL_law_430 : decode cL_law 430 = .ok (.aload_n 0, 1) := by decide +kernel
theorem dL_law_431 : decode cL_law 431 = .ok (.iload 5, 2) := by decide +kernel
theorem dL_law_433 : decode cL_law 433 = .ok (.iconst 2, 1) := by decide +kernel
theorem dL_law_434 : decode cL_law 434 = .ok (.iadd, 1) := by decide +kernel
theorem dL_law_435 : decode cL_law 435 = .ok (.iaload, 1) := by decide +kernel
theorem dL_law_436 : decode cL_law 436 = .ok (.aload_n 0, 1) := by decide +kernel
theorem dL_law_437 : decode cL_law 437 = .ok (.iload 5, 2) := by decide +kernel
theorem dL_law_439 : decode cL_law 439 = .ok (.iconst 3, 1) := by decide +kernel
theorem dL_law_440 : decode cL_law 440 = .ok (.iadd, 1) := by decide +kernel
theorem dL_law_441 : decode cL_law 441 = .ok (.iaload, 1) := by decide +kernel
theorem dL_law_442 : decode cL_law 442 = .ok (.aload_n 3, 1) := by decide +kernel
theorem dL_law_443 : decode cL_law 443 = .ok (.invokestatic 136, 3) := by decide +kernel
theorem dL_law_446 : decode cL_law 446 = .ok (.istore 6, 2) := by decide +kernel
theorem dL_law_448 : decode cL_law 448 = .ok (.aload_n 2, 1) := by decide +kernel
theorem dL_law_449 : decode cL_law 449 = .ok (.aload_n 0, 1) := by decide +kernel
theorem dL_law_450 : decode cL_law 450 = .ok (.iload 5, 2) := by decide +kernel
theorem dL_law_452 : decode cL_law 452 = .ok (.iconst 1, 1) := by decide +kernel
theorem dL_law_453 : decode cL_law 453 = .ok (.iadd, 1) := by decide +kernel
theorem dL_law_454 : decode cL_law 454 = .ok (.iaload, 1) := by decide +kernel
theorem dL_law_455 : decode cL_law 455 = .ok (.aload_n 0, 1) := by decide +kernel
theorem dL_law_456 : decode cL_law 456 = .ok (.iload 5, 2) := by decide +kernel
theorem dL_law_458 : decode cL_law 458 = .ok (.iconst 2, 1) := by decide +kernel
theorem dL_law_459 : decode cL_law 459 = .ok (.iadd, 1) := by decide +kernel
theorem dL_law_460 : decode cL_law 460 = .ok (.iaload, 1) := by decide +kernel
theorem dL_law_461 : decode cL_law 461 = .ok (.aload_n 0, 1) := by decide +kernel
theorem dL_law_462 : decode cL_law 462 = .ok (.iload 5, 2) := by decide +kernel
theorem dL_law_464 : decode cL_law 464 = .ok (.iconst 3, 1) := by decide +kernel
theorem dL_law_465 : decode cL_law 465 = .ok (.iadd, 1) := by decide +kernel
theorem dL_law_466 : decode cL_law 466 = .ok (.iaload, 1) := by decide +kernel
theorem dL_law_467 : decode cL_law 467 = .ok (.invokevirtual 138, 3) := by decide +kernel
theorem dL_law_470 : decode cL_law 470 = .ok (.istore 7, 2) := by decide +kernel
theorem dL_law_472 : decode cL_law 472 = .ok (.aload_n 2, 1) := by decide +kernel
theorem dL_law_473 : decode cL_law 473 = .ok (.invokevirtual 113, 3) := by decide +kernel
theorem dL_law_476 : decode cL_law 476 = .ok (.iload 6, 2) := by decide +kernel
theorem dL_law_478 : decode cL_law 478 = .ok (.if_icmp .eq 5, 3) := by decide +kernel
theorem dL_law_481 : decode cL_law 481 = .ok (.iconst 0, 1) := by decide +kernel
theorem dL_law_482 : decode cL_law 482 = .ok (.ireturn, 1) := by decide +kernel
theorem dL_law_483 : decode cL_law 483 = .ok (.iload 6, 2) := by decide +kernel
theorem dL_law_485 : decode cL_law 485 = .ok (.ifCond .ne 15, 3) := by decide +kernel
theorem dL_law_488 : decode cL_law 488 = .ok (.aload_n 3, 1) := by decide +kernel
theorem dL_law_489 : decode cL_law 489 = .ok (.iconst 0, 1) := by decide +kernel
theorem dL_law_490 : decode cL_law 490 = .ok (.laload, 1) := by decide +kernel
theorem dL_law_491 : decode cL_law 491 = .ok (.iload 7, 2) := by decide +kernel
theorem dL_law_493 : decode cL_law 493 = .ok (.i2l, 1) := by decide +kernel
theorem dL_law_494 : decode cL_law 494 = .ok (.lcmp, 1) := by decide +kernel
theorem dL_law_495 : decode cL_law 495 = .ok (.ifCond .eq 5, 3) := by decide +kernel
theorem dL_law_498 : decode cL_law 498 = .ok (.iconst 0, 1) := by decide +kernel
theorem dL_law_499 : decode cL_law 499 = .ok (.ireturn, 1) := by decide +kernel
theorem dL_law_500 : decode cL_law 500 = .ok (.goto 1525, 3) := by decide +kernel
theorem dL_law_503 : decode cL_law 503 = .ok (.aload_n 1, 1) := by decide +kernel
theorem dL_law_504 : decode cL_law 504 = .ok (.aload_n 0, 1) := by decide +kernel
theorem dL_law_505 : decode cL_law 505 = .ok (.iload 5, 2) := by decide +kernel
theorem dL_law_507 : decode cL_law 507 = .ok (.iconst 1, 1) := by decide +kernel
theorem dL_law_508 : decode cL_law 508 = .ok (.iadd, 1) := by decide +kernel
theorem dL_law_509 : decode cL_law 509 = .ok (.iaload, 1) := by decide +kernel
theorem dL_law_510 : decode cL_law 510 = .ok (.aload_n 0, 1) := by decide +kernel
theorem dL_law_511 : decode cL_law 511 = .ok (.iload 5, 2) := by decide +kernel
theorem dL_law_513 : decode cL_law 513 = .ok (.iconst 2, 1) := by decide +kernel
theorem dL_law_514 : decode cL_law 514 = .ok (.iadd, 1) := by decide +kernel
theorem dL_law_515 : decode cL_law 515 = .ok (.iaload, 1) := by decide +kernel
theorem dL_law_516 : decode cL_law 516 = .ok (.aload_n 3, 1) := by decide +kernel
theorem dL_law_517 : decode cL_law 517 = .ok (.invokestatic 139, 3) := by decide +kernel
theorem dL_law_520 : decode cL_law 520 = .ok (.istore 6, 2) := by decide +kernel
theorem dL_law_522 : decode cL_law 522 = .ok (.aload_n 2, 1) := by decide +kernel
theorem dL_law_523 : decode cL_law 523 = .ok (.aload_n 0, 1) := by decide +kernel
theorem dL_law_524 : decode cL_law 524 = .ok (.iload 5, 2) := by decide +kernel
theorem dL_law_526 : decode cL_law 526 = .ok (.iconst 1, 1) := by decide +kernel
theorem dL_law_527 : decode cL_law 527 = .ok (.iadd, 1) := by decide +kernel
theorem dL_law_528 : decode cL_law 528 = .ok (.iaload, 1) := by decide +kernel
theorem dL_law_529 : decode cL_law 529 = .ok (.aload_n 0, 1) := by decide +kernel
theorem dL_law_530 : decode cL_law 530 = .ok (.iload 5, 2) := by decide +kernel
theorem dL_law_532 : decode cL_law 532 = .ok (.iconst 2, 1) := by decide +kernel
theorem dL_law_533 : decode cL_law 533 = .ok (.iadd, 1) := by decide +kernel
theorem dL_law_534 : decode cL_law 534 = .ok (.iaload, 1) := by decide +kernel
theorem dL_law_535 : decode cL_law 535 = .ok (.invokevirtual 142, 3) := by decide +kernel
theorem dL_law_538 : decode cL_law 538 = .ok (.istore 7, 2) := by decide +kernel
theorem dL_law_540 : decode cL_law 540 = .ok (.aload_n 2, 1) := by decide +kernel
theorem dL_law_541 : decode cL_law 541 = .ok (.invokevirtual 113, 3) := by decide +kernel
theorem dL_law_544 : decode cL_law 544 = .ok (.iload 6, 2) := by decide +kernel
theorem dL_law_546 : decode cL_law 546 = .ok (.if_icmp .eq 5, 3) := by decide +kernel
theorem dL_law_549 : decode cL_law 549 = .ok (.iconst 0, 1) := by decide +kernel
theorem dL_law_550 : decode cL_law 550 = .ok (.ireturn, 1) := by decide +kernel
theorem dL_law_551 : decode cL_law 551 = .ok (.iload 6, 2) := by decide +kernel
theorem dL_law_553 : decode cL_law 553 = .ok (.ifCond .ne 15, 3) := by decide +kernel
theorem dL_law_556 : decode cL_law 556 = .ok (.aload_n 3, 1) := by decide +kernel
theorem dL_law_557 : decode cL_law 557 = .ok (.iconst 0, 1) := by decide +kernel
theorem dL_law_558 : decode cL_law 558 = .ok (.laload, 1) := by decide +kernel
theorem dL_law_559 : decode cL_law 559 = .ok (.iload 7, 2) := by decide +kernel
theorem dL_law_561 : decode cL_law 561 = .ok (.i2l, 1) := by decide +kernel
theorem dL_law_562 : decode cL_law 562 = .ok (.lcmp, 1) := by decide +kernel
theorem dL_law_563 : decode cL_law 563 = .ok (.ifCond .eq 5, 3) := by decide +kernel
theorem dL_law_566 : decode cL_law 566 = .ok (.iconst 0, 1) := by decide +kernel
theorem dL_law_567 : decode cL_law 567 = .ok (.ireturn, 1) := by decide +kernel
theorem dL_law_568 : decode cL_law 568 = .ok (.goto 1457, 3) := by decide +kernel
theorem dL_law_571 : decode cL_law 571 = .ok (.aload_n 1, 1) := by decide +kernel
theorem dL_law_572 : decode cL_law 572 = .ok (.aload_n 0, 1) := by decide +kernel
theorem dL_law_573 : decode cL_law 573 = .ok (.iload 5, 2) := by decide +kernel
theorem dL_law_575 : decode cL_law 575 = .ok (.iconst 1, 1) := by decide +kernel
theorem dL_law_576 : decode cL_law 576 = .ok (.iadd, 1) := by decide +kernel
theorem dL_law_577 : decode cL_law 577 = .ok (.iaload, 1) := by decide +kernel
theorem dL_law_578 : decode cL_law 578 = .ok (.aload_n 0, 1) := by decide +kernel
theorem dL_law_579 : decode cL_law 579 = .ok (.iload 5, 2) := by decide +kernel
theorem dL_law_581 : decode cL_law 581 = .ok (.iconst 2, 1) := by decide +kernel
theorem dL_law_582 : decode cL_law 582 = .ok (.iadd, 1) := by decide +kernel
theorem dL_law_583 : decode cL_law 583 = .ok (.iaload, 1) := by decide +kernel
theorem dL_law_584 : decode cL_law 584 = .ok (.aload_n 3, 1) := by decide +kernel
theorem dL_law_585 : decode cL_law 585 = .ok (.invokestatic 143, 3) := by decide +kernel
theorem dL_law_588 : decode cL_law 588 = .ok (.istore 6, 2) := by decide +kernel
theorem dL_law_590 : decode cL_law 590 = .ok (.aload_n 2, 1) := by decide +kernel
theorem dL_law_591 : decode cL_law 591 = .ok (.aload_n 0, 1) := by decide +kernel
theorem dL_law_592 : decode cL_law 592 = .ok (.iload 5, 2) := by decide +kernel
theorem dL_law_594 : decode cL_law 594 = .ok (.iconst 1, 1) := by decide +kernel
theorem dL_law_595 : decode cL_law 595 = .ok (.iadd, 1) := by decide +kernel
theorem dL_law_596 : decode cL_law 596 = .ok (.iaload, 1) := by decide +kernel
theorem dL_law_597 : decode cL_law 597 = .ok (.aload_n 0, 1) := by decide +kernel
theorem dL_law_598 : decode cL_law 598 = .ok (.iload 5, 2) := by decide +kernel
theorem dL_law_600 : decode cL_law 600 = .ok (.iconst 2, 1) := by decide +kernel
theorem dL_law_601 : decode cL_law 601 = .ok (.iadd, 1) := by decide +kernel
theorem dL_law_602 : decode cL_law 602 = .ok (.iaload, 1) := by decide +kernel
theorem dL_law_603 : decode cL_law 603 = .ok (.invokevirtual 145, 3) := by decide +kernel
theorem dL_law_606 : decode cL_law 606 = .ok (.istore 7, 2) := by decide +kernel
theorem dL_law_608 : decode cL_law 608 = .ok (.aload_n 2, 1) := by decide +kernel
theorem dL_law_609 : decode cL_law 609 = .ok (.invokevirtual 113, 3) := by decide +kernel
theorem dL_law_612 : decode cL_law 612 = .ok (.iload 6, 2) := by decide +kernel
theorem dL_law_614 : decode cL_law 614 = .ok (.if_icmp .eq 5, 3) := by decide +kernel
theorem dL_law_617 : decode cL_law 617 = .ok (.iconst 0, 1) := by decide +kernel
theorem dL_law_618 : decode cL_law 618 = .ok (.ireturn, 1) := by decide +kernel
theorem dL_law_619 : decode cL_law 619 = .ok (.iload 6, 2) := by decide +kernel
theorem dL_law_621 : decode cL_law 621 = .ok (.ifCond .ne 15, 3) := by decide +kernel
theorem dL_law_624 : decode cL_law 624 = .ok (.aload_n 3, 1) := by decide +kernel
theorem dL_law_625 : decode cL_law 625 = .ok (.iconst 0, 1) := by decide +kernel
theorem dL_law_626 : decode cL_law 626 = .ok (.laload, 1) := by decide +kernel
theorem dL_law_627 : decode cL_law 627 = .ok (.iload 7, 2) := by decide +kernel
theorem dL_law_629 : decode cL_law 629 = .ok (.i2l, 1) := by decide +kernel
theorem dL_law_630 : decode cL_law 630 = .ok (.lcmp, 1) := by decide +kernel
theorem dL_law_631 : decode cL_law 631 = .ok (.ifCond .eq 5, 3) := by decide +kernel
theorem dL_law_634 : decode cL_law 634 = .ok (.iconst 0, 1) := by decide +kernel
theorem dL_law_635 : decode cL_law 635 = .ok (.ireturn, 1) := by decide +kernel
theorem dL_law_636 : decode cL_law 636 = .ok (.goto 1389, 3) := by decide +kernel
theorem dL_law_639 : decode cL_law 639 = .ok (.aload_n 1, 1) := by decide +kernel
theorem dL_law_640 : decode cL_law 640 = .ok (.aload_n 0, 1) := by decide +kernel
theorem dL_law_641 : decode cL_law 641 = .ok (.iload 5, 2) := by decide +kernel
theorem dL_law_643 : decode cL_law 643 = .ok (.iconst 1, 1) := by decide +kernel
theorem dL_law_644 : decode cL_law 644 = .ok (.iadd, 1) := by decide +kernel
theorem dL_law_645 : decode cL_law 645 = .ok (.iaload, 1) := by decide +kernel
theorem dL_law_646 : decode cL_law 646 = .ok (.invokestatic 146, 3) := by decide +kernel
theorem dL_law_649 : decode cL_law 649 = .ok (.istore 6, 2) := by decide +kernel
theorem dL_law_651 : decode cL_law 651 = .ok (.aload_n 2, 1) := by decide +kernel
theorem dL_law_652 : decode cL_law 652 = .ok (.aload_n 0, 1) := by decide +kernel
theorem dL_law_653 : decode cL_law 653 = .ok (.iload 5, 2) := by decide +kernel
theorem dL_law_655 : decode cL_law 655 = .ok (.iconst 1, 1) := by decide +kernel
theorem dL_law_656 : decode cL_law 656 = .ok (.iadd, 1) := by decide +kernel
theorem dL_law_657 : decode cL_law 657 = .ok (.iaload, 1) := by decide +kernel
theorem dL_law_658 : decode cL_law 658 = .ok (.invokevirtual 149, 3) := by decide +kernel
theorem dL_law_661 : decode cL_law 661 = .ok (.aload_n 2, 1) := by decide +kernel
theorem dL_law_662 : decode cL_law 662 = .ok (.invokevirtual 113, 3) := by decide +kernel
theorem dL_law_665 : decode cL_law 665 = .ok (.iload 6, 2) := by decide +kernel
theorem dL_law_667 : decode cL_law 667 = .ok (.if_icmp .eq 5, 3) := by decide +kernel
theorem dL_law_670 : decode cL_law 670 = .ok (.iconst 0, 1) := by decide +kernel
theorem dL_law_671 : decode cL_law 671 = .ok (.ireturn, 1) := by decide +kernel
theorem dL_law_672 : decode cL_law 672 = .ok (.goto 1353, 3) := by decide +kernel
theorem dL_law_675 : decode cL_law 675 = .ok (.aload_n 1, 1) := by decide +kernel
theorem dL_law_676 : decode cL_law 676 = .ok (.aload_n 0, 1) := by decide +kernel
theorem dL_law_677 : decode cL_law 677 = .ok (.iload 5, 2) := by decide +kernel
theorem dL_law_679 : decode cL_law 679 = .ok (.iconst 1, 1) := by decide +kernel
theorem dL_law_680 : decode cL_law 680 = .ok (.iadd, 1) := by decide +kernel
theorem dL_law_681 : decode cL_law 681 = .ok (.iaload, 1) := by decide +kernel
theorem dL_law_682 : decode cL_law 682 = .ok (.aload_n 0, 1) := by decide +kernel
theorem dL_law_683 : decode cL_law 683 = .ok (.iload 5, 2) := by decide +kernel
theorem dL_law_685 : decode cL_law 685 = .ok (.iconst 2, 1) := by decide +kernel
theorem dL_law_686 : decode cL_law 686 = .ok (.iadd, 1) := by decide +kernel
theorem dL_law_687 : decode cL_law 687 = .ok (.iaload, 1) := by decide +kernel
theorem dL_law_688 : decode cL_law 688 = .ok (.ifCond .eq 7, 3) := by decide +kernel
theorem dL_law_691 : decode cL_law 691 = .ok (.iconst 1, 1) := by decide +kernel
theorem dL_law_692 : decode cL_law 692 = .ok (.goto 4, 3) := by decide +kernel
theorem dL_law_695 : decode cL_law 695 = .ok (.iconst 0, 1) := by decide +kernel
theorem dL_law_696 : decode cL_law 696 = .ok (.aload_n 3, 1) := by decide +kernel
theorem dL_law_697 : decode cL_law 697 = .ok (.invokestatic 150, 3) := by decide +kernel
theorem dL_law_700 : decode cL_law 700 = .ok (.istore 6, 2) := by decide +kernel
theorem dL_law_702 : decode cL_law 702 = .ok (.aload_n 2, 1) := by decide +kernel
theorem dL_law_703 : decode cL_law 703 = .ok (.aload_n 0, 1) := by decide +kernel
theorem dL_law_704 : decode cL_law 704 = .ok (.iload 5, 2) := by decide +kernel
theorem dL_law_706 : decode cL_law 706 = .ok (.iconst 1, 1) := by decide +kernel
theorem dL_law_707 : decode cL_law 707 = .ok (.iadd, 1) := by decide +kernel
theorem dL_law_708 : decode cL_law 708 = .ok (.iaload, 1) := by decide +kernel
theorem dL_law_709 : decode cL_law 709 = .ok (.aload_n 0, 1) := by decide +kernel
theorem dL_law_710 : decode cL_law 710 = .ok (.iload 5, 2) := by decide +kernel
theorem dL_law_712 : decode cL_law 712 = .ok (.iconst 2, 1) := by decide +kernel
theorem dL_law_713 : decode cL_law 713 = .ok (.iadd, 1) := by decide +kernel
theorem dL_law_714 : decode cL_law 714 = .ok (.iaload, 1) := by decide +kernel
theorem dL_law_715 : decode cL_law 715 = .ok (.ifCond .eq 7, 3) := by decide +kernel
theorem dL_law_718 : decode cL_law 718 = .ok (.iconst 1, 1) := by decide +kernel
theorem dL_law_719 : decode cL_law 719 = .ok (.goto 4, 3) := by decide +kernel
theorem dL_law_722 : decode cL_law 722 = .ok (.iconst 0, 1) := by decide +kernel
theorem dL_law_723 : decode cL_law 723 = .ok (.invokevirtual 153, 3) := by decide +kernel
theorem dL_law_726 : decode cL_law 726 = .ok (.istore 7, 2) := by decide +kernel
theorem dL_law_728 : decode cL_law 728 = .ok (.aload_n 2, 1) := by decide +kernel
theorem dL_law_729 : decode cL_law 729 = .ok (.invokevirtual 113, 3) := by decide +kernel
theorem dL_law_732 : decode cL_law 732 = .ok (.iload 6, 2) := by decide +kernel
theorem dL_law_734 : decode cL_law 734 = .ok (.if_icmp .eq 5, 3) := by decide +kernel
theorem dL_law_737 : decode cL_law 737 = .ok (.iconst 0, 1) := by decide +kernel
theorem dL_law_738 : decode cL_law 738 = .ok (.ireturn, 1) := by decide +kernel
theorem dL_law_739 : decode cL_law 739 = .ok (.iload 6, 2) := by decide +kernel
theorem dL_law_741 : decode cL_law 741 = .ok (.ifCond .ne 22, 3) := by decide +kernel
theorem dL_law_744 : decode cL_law 744 = .ok (.aload_n 3, 1) := by decide +kernel
theorem dL_law_745 : decode cL_law 745 = .ok (.iconst 0, 1) := by decide +kernel
theorem dL_law_746 : decode cL_law 746 = .ok (.laload, 1) := by decide +kernel
theorem dL_law_747 : decode cL_law 747 = .ok (.iload 7, 2) := by decide +kernel
theorem dL_law_749 : decode cL_law 749 = .ok (.ifCond .eq 7, 3) := by decide +kernel
theorem dL_law_752 : decode cL_law 752 = .ok (.lconst 1, 1) := by decide +kernel
theorem dL_law_753 : decode cL_law 753 = .ok (.goto 4, 3) := by decide +kernel
theorem dL_law_756 : decode cL_law 756 = .ok (.lconst 0, 1) := by decide +kernel
theorem dL_law_757 : decode cL_law 757 = .ok (.lcmp, 1) := by decide +kernel
theorem dL_law_758 : decode cL_law 758 = .ok (.ifCond .eq 5, 3) := by decide +kernel
theorem dL_law_761 : decode cL_law 761 = .ok (.iconst 0, 1) := by decide +kernel
theorem dL_law_762 : decode cL_law 762 = .ok (.ireturn, 1) := by decide +kernel
theorem dL_law_763 : decode cL_law 763 = .ok (.goto 1262, 3) := by decide +kernel
theorem dL_law_766 : decode cL_law 766 = .ok (.aload_n 1, 1) := by decide +kernel
theorem dL_law_767 : decode cL_law 767 = .ok (.aload_n 0, 1) := by decide +kernel
theorem dL_law_768 : decode cL_law 768 = .ok (.iload 5, 2) := by decide +kernel
theorem dL_law_770 : decode cL_law 770 = .ok (.iconst 1, 1) := by decide +kernel
theorem dL_law_771 : decode cL_law 771 = .ok (.iadd, 1) := by decide +kernel
theorem dL_law_772 : decode cL_law 772 = .ok (.iaload, 1) := by decide +kernel
theorem dL_law_773 : decode cL_law 773 = .ok (.aload_n 3, 1) := by decide +kernel
theorem dL_law_774 : decode cL_law 774 = .ok (.invokestatic 154, 3) := by decide +kernel
theorem dL_law_777 : decode cL_law 777 = .ok (.istore 6, 2) := by decide +kernel
theorem dL_law_779 : decode cL_law 779 = .ok (.aload_n 2, 1) := by decide +kernel
theorem dL_law_780 : decode cL_law 780 = .ok (.aload_n 0, 1) := by decide +kernel
theorem dL_law_781 : decode cL_law 781 = .ok (.iload 5, 2) := by decide +kernel
theorem dL_law_783 : decode cL_law 783 = .ok (.iconst 1, 1) := by decide +kernel
theorem dL_law_784 : decode cL_law 784 = .ok (.iadd, 1) := by decide +kernel
theorem dL_law_785 : decode cL_law 785 = .ok (.iaload, 1) := by decide +kernel
theorem dL_law_786 : decode cL_law 786 = .ok (.invokevirtual 156, 3) := by decide +kernel
theorem dL_law_789 : decode cL_law 789 = .ok (.istore 7, 2) := by decide +kernel
theorem dL_law_791 : decode cL_law 791 = .ok (.aload_n 2, 1) := by decide +kernel
theorem dL_law_792 : decode cL_law 792 = .ok (.invokevirtual 113, 3) := by decide +kernel
theorem dL_law_795 : decode cL_law 795 = .ok (.iload 6, 2) := by decide +kernel
theorem dL_law_797 : decode cL_law 797 = .ok (.if_icmp .eq 5, 3) := by decide +kernel
theorem dL_law_800 : decode cL_law 800 = .ok (.iconst 0, 1) := by decide +kernel
theorem dL_law_801 : decode cL_law 801 = .ok (.ireturn, 1) := by decide +kernel
theorem dL_law_802 : decode cL_law 802 = .ok (.iload 6, 2) := by decide +kernel
theorem dL_law_804 : decode cL_law 804 = .ok (.ifCond .ne 15, 3) := by decide +kernel
theorem dL_law_807 : decode cL_law 807 = .ok (.aload_n 3, 1) := by decide +kernel
theorem dL_law_808 : decode cL_law 808 = .ok (.iconst 0, 1) := by decide +kernel
theorem dL_law_809 : decode cL_law 809 = .ok (.laload, 1) := by decide +kernel
theorem dL_law_810 : decode cL_law 810 = .ok (.iload 7, 2) := by decide +kernel
theorem dL_law_812 : decode cL_law 812 = .ok (.i2l, 1) := by decide +kernel
theorem dL_law_813 : decode cL_law 813 = .ok (.lcmp, 1) := by decide +kernel
theorem dL_law_814 : decode cL_law 814 = .ok (.ifCond .eq 5, 3) := by decide +kernel
theorem dL_law_817 : decode cL_law 817 = .ok (.iconst 0, 1) := by decide +kernel
theorem dL_law_818 : decode cL_law 818 = .ok (.ireturn, 1) := by decide +kernel
theorem dL_law_819 : decode cL_law 819 = .ok (.goto 1206, 3) := by decide +kernel
theorem dL_law_822 : decode cL_law 822 = .ok (.aload_n 1, 1) := by decide +kernel
theorem dL_law_823 : decode cL_law 823 = .ok (.aload_n 0, 1) := by decide +kernel
theorem dL_law_824 : decode cL_law 824 = .ok (.iload 5, 2) := by decide +kernel
theorem dL_law_826 : decode cL_law 826 = .ok (.iconst 1, 1) := by decide +kernel
theorem dL_law_827 : decode cL_law 827 = .ok (.iadd, 1) := by decide +kernel
theorem dL_law_828 : decode cL_law 828 = .ok (.iaload, 1) := by decide +kernel
theorem dL_law_829 : decode cL_law 829 = .ok (.aload_n 0, 1) := by decide +kernel
theorem dL_law_830 : decode cL_law 830 = .ok (.iload 5, 2) := by decide +kernel
theorem dL_law_832 : decode cL_law 832 = .ok (.iconst 2, 1) := by decide +kernel
theorem dL_law_833 : decode cL_law 833 = .ok (.iadd, 1) := by decide +kernel
theorem dL_law_834 : decode cL_law 834 = .ok (.iaload, 1) := by decide +kernel
theorem dL_law_835 : decode cL_law 835 = .ok (.aload_n 3, 1) := by decide +kernel
theorem dL_law_836 : decode cL_law 836 = .ok (.invokestatic 157, 3) := by decide +kernel
theorem dL_law_839 : decode cL_law 839 = .ok (.istore 6, 2) := by decide +kernel
theorem dL_law_841 : decode cL_law 841 = .ok (.aload_n 2, 1) := by decide +kernel
theorem dL_law_842 : decode cL_law 842 = .ok (.aload_n 0, 1) := by decide +kernel
theorem dL_law_843 : decode cL_law 843 = .ok (.iload 5, 2) := by decide +kernel
theorem dL_law_845 : decode cL_law 845 = .ok (.iconst 1, 1) := by decide +kernel
theorem dL_law_846 : decode cL_law 846 = .ok (.iadd, 1) := by decide +kernel
theorem dL_law_847 : decode cL_law 847 = .ok (.iaload, 1) := by decide +kernel
theorem dL_law_848 : decode cL_law 848 = .ok (.aload_n 0, 1) := by decide +kernel
theorem dL_law_849 : decode cL_law 849 = .ok (.iload 5, 2) := by decide +kernel
theorem dL_law_851 : decode cL_law 851 = .ok (.iconst 2, 1) := by decide +kernel
theorem dL_law_852 : decode cL_law 852 = .ok (.iadd, 1) := by decide +kernel
theorem dL_law_853 : decode cL_law 853 = .ok (.iaload, 1) := by decide +kernel
theorem dL_law_854 : decode cL_law 854 = .ok (.invokevirtual 159, 3) := by decide +kernel
theorem dL_law_857 : decode cL_law 857 = .ok (.istore 7, 2) := by decide +kernel
theorem dL_law_859 : decode cL_law 859 = .ok (.aload_n 2, 1) := by decide +kernel
theorem dL_law_860 : decode cL_law 860 = .ok (.invokevirtual 113, 3) := by decide +kernel
theorem dL_law_863 : decode cL_law 863 = .ok (.iload 6, 2) := by decide +kernel
theorem dL_law_865 : decode cL_law 865 = .ok (.if_icmp .eq 5, 3) := by decide +kernel
theorem dL_law_868 : decode cL_law 868 = .ok (.iconst 0, 1) := by decide +kernel
theorem dL_law_869 : decode cL_law 869 = .ok (.ireturn, 1) := by decide +kernel
theorem dL_law_870 : decode cL_law 870 = .ok (.iload 6, 2) := by decide +kernel
theorem dL_law_872 : decode cL_law 872 = .ok (.ifCond .ne 15, 3) := by decide +kernel
theorem dL_law_875 : decode cL_law 875 = .ok (.aload_n 3, 1) := by decide +kernel
theorem dL_law_876 : decode cL_law 876 = .ok (.iconst 0, 1) := by decide +kernel
theorem dL_law_877 : decode cL_law 877 = .ok (.laload, 1) := by decide +kernel
theorem dL_law_878 : decode cL_law 878 = .ok (.iload 7, 2) := by decide +kernel
theorem dL_law_880 : decode cL_law 880 = .ok (.i2l, 1) := by decide +kernel
theorem dL_law_881 : decode cL_law 881 = .ok (.lcmp, 1) := by decide +kernel
theorem dL_law_882 : decode cL_law 882 = .ok (.ifCond .eq 5, 3) := by decide +kernel
theorem dL_law_885 : decode cL_law 885 = .ok (.iconst 0, 1) := by decide +kernel
theorem dL_law_886 : decode cL_law 886 = .ok (.ireturn, 1) := by decide +kernel
theorem dL_law_887 : decode cL_law 887 = .ok (.goto 1138, 3) := by decide +kernel
theorem dL_law_890 : decode cL_law 890 = .ok (.aload_n 1, 1) := by decide +kernel
theorem dL_law_891 : decode cL_law 891 = .ok (.aload_n 0, 1) := by decide +kernel
theorem dL_law_892 : decode cL_law 892 = .ok (.iload 5, 2) := by decide +kernel
theorem dL_law_894 : decode cL_law 894 = .ok (.iconst 1, 1) := by decide +kernel
theorem dL_law_895 : decode cL_law 895 = .ok (.iadd, 1) := by decide +kernel
theorem dL_law_896 : decode cL_law 896 = .ok (.iaload, 1) := by decide +kernel
theorem dL_law_897 : decode cL_law 897 = .ok (.aload_n 0, 1) := by decide +kernel
theorem dL_law_898 : decode cL_law 898 = .ok (.iload 5, 2) := by decide +kernel
theorem dL_law_900 : decode cL_law 900 = .ok (.iconst 2, 1) := by decide +kernel
theorem dL_law_901 : decode cL_law 901 = .ok (.iadd, 1) := by decide +kernel
theorem dL_law_902 : decode cL_law 902 = .ok (.iaload, 1) := by decide +kernel
theorem dL_law_903 : decode cL_law 903 = .ok (.aload_n 0, 1) := by decide +kernel
theorem dL_law_904 : decode cL_law 904 = .ok (.iload 5, 2) := by decide +kernel
theorem dL_law_906 : decode cL_law 906 = .ok (.iconst 3, 1) := by decide +kernel
theorem dL_law_907 : decode cL_law 907 = .ok (.iadd, 1) := by decide +kernel
theorem dL_law_908 : decode cL_law 908 = .ok (.iaload, 1) := by decide +kernel
theorem dL_law_909 : decode cL_law 909 = .ok (.aload_n 3, 1) := by decide +kernel
theorem dL_law_910 : decode cL_law 910 = .ok (.invokestatic 160, 3) := by decide +kernel
theorem dL_law_913 : decode cL_law 913 = .ok (.istore 6, 2) := by decide +kernel
theorem dL_law_915 : decode cL_law 915 = .ok (.aload_n 2, 1) := by decide +kernel
theorem dL_law_916 : decode cL_law 916 = .ok (.aload_n 0, 1) := by decide +kernel
theorem dL_law_917 : decode cL_law 917 = .ok (.iload 5, 2) := by decide +kernel
theorem dL_law_919 : decode cL_law 919 = .ok (.iconst 1, 1) := by decide +kernel
theorem dL_law_920 : decode cL_law 920 = .ok (.iadd, 1) := by decide +kernel
theorem dL_law_921 : decode cL_law 921 = .ok (.iaload, 1) := by decide +kernel
theorem dL_law_922 : decode cL_law 922 = .ok (.aload_n 0, 1) := by decide +kernel
theorem dL_law_923 : decode cL_law 923 = .ok (.iload 5, 2) := by decide +kernel
theorem dL_law_925 : decode cL_law 925 = .ok (.iconst 2, 1) := by decide +kernel
theorem dL_law_926 : decode cL_law 926 = .ok (.iadd, 1) := by decide +kernel
theorem dL_law_927 : decode cL_law 927 = .ok (.iaload, 1) := by decide +kernel
theorem dL_law_928 : decode cL_law 928 = .ok (.aload_n 0, 1) := by decide +kernel
theorem dL_law_929 : decode cL_law 929 = .ok (.iload 5, 2) := by decide +kernel
theorem dL_law_931 : decode cL_law 931 = .ok (.iconst 3, 1) := by decide +kernel
theorem dL_law_932 : decode cL_law 932 = .ok (.iadd, 1) := by decide +kernel
theorem dL_law_933 : decode cL_law 933 = .ok (.iaload, 1) := by decide +kernel
theorem dL_law_934 : decode cL_law 934 = .ok (.invokevirtual 162, 3) := by decide +kernel
theorem dL_law_937 : decode cL_law 937 = .ok (.istore 7, 2) := by decide +kernel
theorem dL_law_939 : decode cL_law 939 = .ok (.aload_n 2, 1) := by decide +kernel
theorem dL_law_940 : decode cL_law 940 = .ok (.invokevirtual 113, 3) := by decide +kernel
theorem dL_law_943 : decode cL_law 943 = .ok (.iload 6, 2) := by decide +kernel
theorem dL_law_945 : decode cL_law 945 = .ok (.if_icmp .eq 5, 3) := by decide +kernel
theorem dL_law_948 : decode cL_law 948 = .ok (.iconst 0, 1) := by decide +kernel
theorem dL_law_949 : decode cL_law 949 = .ok (.ireturn, 1) := by decide +kernel
theorem dL_law_950 : decode cL_law 950 = .ok (.iload 6, 2) := by decide +kernel
theorem dL_law_952 : decode cL_law 952 = .ok (.ifCond .ne 15, 3) := by decide +kernel
theorem dL_law_955 : decode cL_law 955 = .ok (.aload_n 3, 1) := by decide +kernel
theorem dL_law_956 : decode cL_law 956 = .ok (.iconst 0, 1) := by decide +kernel
theorem dL_law_957 : decode cL_law 957 = .ok (.laload, 1) := by decide +kernel
theorem dL_law_958 : decode cL_law 958 = .ok (.iload 7, 2) := by decide +kernel
theorem dL_law_960 : decode cL_law 960 = .ok (.i2l, 1) := by decide +kernel
theorem dL_law_961 : decode cL_law 961 = .ok (.lcmp, 1) := by decide +kernel
theorem dL_law_962 : decode cL_law 962 = .ok (.ifCond .eq 5, 3) := by decide +kernel
theorem dL_law_965 : decode cL_law 965 = .ok (.iconst 0, 1) := by decide +kernel
theorem dL_law_966 : decode cL_law 966 = .ok (.ireturn, 1) := by decide +kernel
theorem dL_law_967 : decode cL_law 967 = .ok (.goto 1058, 3) := by decide +kernel
theorem dL_law_970 : decode cL_law 970 = .ok (.aload_n 1, 1) := by decide +kernel
theorem dL_law_971 : decode cL_law 971 = .ok (.aload_n 0, 1) := by decide +kernel
theorem dL_law_972 : decode cL_law 972 = .ok (.iload 5, 2) := by decide +kernel
theorem dL_law_974 : decode cL_law 974 = .ok (.iconst 1, 1) := by decide +kernel
theorem dL_law_975 : decode cL_law 975 = .ok (.iadd, 1) := by decide +kernel
theorem dL_law_976 : decode cL_law 976 = .ok (.iaload, 1) := by decide +kernel
theorem dL_law_977 : decode cL_law 977 = .ok (.aload_n 0, 1) := by decide +kernel
theorem dL_law_978 : decode cL_law 978 = .ok (.iload 5, 2) := by decide +kernel
theorem dL_law_980 : decode cL_law 980 = .ok (.iconst 2, 1) := by decide +kernel
theorem dL_law_981 : decode cL_law 981 = .ok (.iadd, 1) := by decide +kernel
theorem dL_law_982 : decode cL_law 982 = .ok (.iaload, 1) := by decide +kernel
theorem dL_law_983 : decode cL_law 983 = .ok (.aload_n 3, 1) := by decide +kernel
theorem dL_law_984 : decode cL_law 984 = .ok (.invokestatic 163, 3) := by decide +kernel
theorem dL_law_987 : decode cL_law 987 = .ok (.istore 6, 2) := by decide +kernel
theorem dL_law_989 : decode cL_law 989 = .ok (.aload_n 2, 1) := by decide +kernel
theorem dL_law_990 : decode cL_law 990 = .ok (.aload_n 0, 1) := by decide +kernel
theorem dL_law_991 : decode cL_law 991 = .ok (.iload 5, 2) := by decide +kernel
theorem dL_law_993 : decode cL_law 993 = .ok (.iconst 1, 1) := by decide +kernel
theorem dL_law_994 : decode cL_law 994 = .ok (.iadd, 1) := by decide +kernel
theorem dL_law_995 : decode cL_law 995 = .ok (.iaload, 1) := by decide +kernel
theorem dL_law_996 : decode cL_law 996 = .ok (.aload_n 0, 1) := by decide +kernel
theorem dL_law_997 : decode cL_law 997 = .ok (.iload 5, 2) := by decide +kernel
theorem dL_law_999 : decode cL_law 999 = .ok (.iconst 2, 1) := by decide +kernel
theorem dL_law_1000 : decode cL_law 1000 = .ok (.iadd, 1) := by decide +kernel
theorem dL_law_1001 : decode cL_law 1001 = .ok (.iaload, 1) := by decide +kernel
theorem dL_law_1002 : decode cL_law 1002 = .ok (.invokevirtual 165, 3) := by decide +kernel
theorem dL_law_1005 : decode cL_law 1005 = .ok (.istore 7, 2) := by decide +kernel
theorem dL_law_1007 : decode cL_law 1007 = .ok (.aload_n 2, 1) := by decide +kernel
theorem dL_law_1008 : decode cL_law 1008 = .ok (.invokevirtual 113, 3) := by decide +kernel
theorem dL_law_1011 : decode cL_law 1011 = .ok (.iload 6, 2) := by decide +kernel
theorem dL_law_1013 : decode cL_law 1013 = .ok (.if_icmp .eq 5, 3) := by decide +kernel
theorem dL_law_1016 : decode cL_law 1016 = .ok (.iconst 0, 1) := by decide +kernel
theorem dL_law_1017 : decode cL_law 1017 = .ok (.ireturn, 1) := by decide +kernel
theorem dL_law_1018 : decode cL_law 1018 = .ok (.iload 6, 2) := by decide +kernel
theorem dL_law_1020 : decode cL_law 1020 = .ok (.ifCond .ne 15, 3) := by decide +kernel
theorem dL_law_1023 : decode cL_law 1023 = .ok (.aload_n 3, 1) := by decide +kernel
theorem dL_law_1024 : decode cL_law 1024 = .ok (.iconst 0, 1) := by decide +kernel
theorem dL_law_1025 : decode cL_law 1025 = .ok (.laload, 1) := by decide +kernel
theorem dL_law_1026 : decode cL_law 1026 = .ok (.iload 7, 2) := by decide +kernel
theorem dL_law_1028 : decode cL_law 1028 = .ok (.i2l, 1) := by decide +kernel
theorem dL_law_1029 : decode cL_law 1029 = .ok (.lcmp, 1) := by decide +kernel
theorem dL_law_1030 : decode cL_law 1030 = .ok (.ifCond .eq 5, 3) := by decide +kernel
theorem dL_law_1033 : decode cL_law 1033 = .ok (.iconst 0, 1) := by decide +kernel
theorem dL_law_1034 : decode cL_law 1034 = .ok (.ireturn, 1) := by decide +kernel
theorem dL_law_1035 : decode cL_law 1035 = .ok (.goto 990, 3) := by decide +kernel
theorem dL_law_1038 : decode cL_law 1038 = .ok (.aload_n 1, 1) := by decide +kernel
theorem dL_law_1039 : decode cL_law 1039 = .ok (.aload_n 0, 1) := by decide +kernel
theorem dL_law_1040 : decode cL_law 1040 = .ok (.iload 5, 2) := by decide +kernel
theorem dL_law_1042 : decode cL_law 1042 = .ok (.iconst 1, 1) := by decide +kernel
theorem dL_law_1043 : decode cL_law 1043 = .ok (.iadd, 1) := by decide +kernel
theorem dL_law_1044 : decode cL_law 1044 = .ok (.iaload, 1) := by decide +kernel
theorem dL_law_1045 : decode cL_law 1045 = .ok (.aload_n 3, 1) := by decide +kernel
theorem dL_law_1046 : decode cL_law 1046 = .ok (.invokestatic 166, 3) := by decide +kernel
theorem dL_law_1049 : decode cL_law 1049 = .ok (.istore 6, 2) := by decide +kernel
theorem dL_law_1051 : decode cL_law 1051 = .ok (.aload_n 2, 1) := by decide +kernel
theorem dL_law_1052 : decode cL_law 1052 = .ok (.aload_n 0, 1) := by decide +kernel
theorem dL_law_1053 : decode cL_law 1053 = .ok (.iload 5, 2) := by decide +kernel
theorem dL_law_1055 : decode cL_law 1055 = .ok (.iconst 1, 1) := by decide +kernel
theorem dL_law_1056 : decode cL_law 1056 = .ok (.iadd, 1) := by decide +kernel
theorem dL_law_1057 : decode cL_law 1057 = .ok (.iaload, 1) := by decide +kernel
theorem dL_law_1058 : decode cL_law 1058 = .ok (.invokevirtual 168, 3) := by decide +kernel
theorem dL_law_1061 : decode cL_law 1061 = .ok (.istore 7, 2) := by decide +kernel
theorem dL_law_1063 : decode cL_law 1063 = .ok (.aload_n 2, 1) := by decide +kernel
theorem dL_law_1064 : decode cL_law 1064 = .ok (.invokevirtual 113, 3) := by decide +kernel
theorem dL_law_1067 : decode cL_law 1067 = .ok (.iload 6, 2) := by decide +kernel
theorem dL_law_1069 : decode cL_law 1069 = .ok (.if_icmp .eq 5, 3) := by decide +kernel
theorem dL_law_1072 : decode cL_law 1072 = .ok (.iconst 0, 1) := by decide +kernel
theorem dL_law_1073 : decode cL_law 1073 = .ok (.ireturn, 1) := by decide +kernel
theorem dL_law_1074 : decode cL_law 1074 = .ok (.iload 6, 2) := by decide +kernel
theorem dL_law_1076 : decode cL_law 1076 = .ok (.ifCond .ne 22, 3) := by decide +kernel
theorem dL_law_1079 : decode cL_law 1079 = .ok (.aload_n 3, 1) := by decide +kernel
theorem dL_law_1080 : decode cL_law 1080 = .ok (.iconst 0, 1) := by decide +kernel
theorem dL_law_1081 : decode cL_law 1081 = .ok (.laload, 1) := by decide +kernel
theorem dL_law_1082 : decode cL_law 1082 = .ok (.iload 7, 2) := by decide +kernel
theorem dL_law_1084 : decode cL_law 1084 = .ok (.ifCond .eq 7, 3) := by decide +kernel
theorem dL_law_1087 : decode cL_law 1087 = .ok (.lconst 1, 1) := by decide +kernel
theorem dL_law_1088 : decode cL_law 1088 = .ok (.goto 4, 3) := by decide +kernel
theorem dL_law_1091 : decode cL_law 1091 = .ok (.lconst 0, 1) := by decide +kernel
theorem dL_law_1092 : decode cL_law 1092 = .ok (.lcmp, 1) := by decide +kernel
theorem dL_law_1093 : decode cL_law 1093 = .ok (.ifCond .eq 5, 3) := by decide +kernel
theorem dL_law_1096 : decode cL_law 1096 = .ok (.iconst 0, 1) := by decide +kernel
theorem dL_law_1097 : decode cL_law 1097 = .ok (.ireturn, 1) := by decide +kernel
theorem dL_law_1098 : decode cL_law 1098 = .ok (.goto 927, 3) := by decide +kernel
theorem dL_law_1101 : decode cL_law 1101 = .ok (.aload_n 1, 1) := by decide +kernel
theorem dL_law_1102 : decode cL_law 1102 = .ok (.aload_n 0, 1) := by decide +kernel
theorem dL_law_1103 : decode cL_law 1103 = .ok (.iload 5, 2) := by decide +kernel
theorem dL_law_1105 : decode cL_law 1105 = .ok (.iconst 1, 1) := by decide +kernel
theorem dL_law_1106 : decode cL_law 1106 = .ok (.iadd, 1) := by decide +kernel
theorem dL_law_1107 : decode cL_law 1107 = .ok (.iaload, 1) := by decide +kernel
theorem dL_law_1108 : decode cL_law 1108 = .ok (.aload_n 0, 1) := by decide +kernel
theorem dL_law_1109 : decode cL_law 1109 = .ok (.iload 5, 2) := by decide +kernel
theorem dL_law_1111 : decode cL_law 1111 = .ok (.iconst 2, 1) := by decide +kernel
theorem dL_law_1112 : decode cL_law 1112 = .ok (.iadd, 1) := by decide +kernel
theorem dL_law_1113 : decode cL_law 1113 = .ok (.iaload, 1) := by decide +kernel
theorem dL_law_1114 : decode cL_law 1114 = .ok (.aload_n 3, 1) := by decide +kernel
theorem dL_law_1115 : decode cL_law 1115 = .ok (.invokestatic 169, 3) := by decide +kernel
theorem dL_law_1118 : decode cL_law 1118 = .ok (.istore 6, 2) := by decide +kernel
theorem dL_law_1120 : decode cL_law 1120 = .ok (.aload_n 2, 1) := by decide +kernel
theorem dL_law_1121 : decode cL_law 1121 = .ok (.aload_n 0, 1) := by decide +kernel
theorem dL_law_1122 : decode cL_law 1122 = .ok (.iload 5, 2) := by decide +kernel
theorem dL_law_1124 : decode cL_law 1124 = .ok (.iconst 1, 1) := by decide +kernel
theorem dL_law_1125 : decode cL_law 1125 = .ok (.iadd, 1) := by decide +kernel
theorem dL_law_1126 : decode cL_law 1126 = .ok (.iaload, 1) := by decide +kernel
theorem dL_law_1127 : decode cL_law 1127 = .ok (.aload_n 0, 1) := by decide +kernel
theorem dL_law_1128 : decode cL_law 1128 = .ok (.iload 5, 2) := by decide +kernel
theorem dL_law_1130 : decode cL_law 1130 = .ok (.iconst 2, 1) := by decide +kernel
theorem dL_law_1131 : decode cL_law 1131 = .ok (.iadd, 1) := by decide +kernel
theorem dL_law_1132 : decode cL_law 1132 = .ok (.iaload, 1) := by decide +kernel
theorem dL_law_1133 : decode cL_law 1133 = .ok (.invokevirtual 171, 3) := by decide +kernel
theorem dL_law_1136 : decode cL_law 1136 = .ok (.istore 7, 2) := by decide +kernel
theorem dL_law_1138 : decode cL_law 1138 = .ok (.aload_n 2, 1) := by decide +kernel
theorem dL_law_1139 : decode cL_law 1139 = .ok (.invokevirtual 113, 3) := by decide +kernel
theorem dL_law_1142 : decode cL_law 1142 = .ok (.iload 6, 2) := by decide +kernel
theorem dL_law_1144 : decode cL_law 1144 = .ok (.if_icmp .eq 5, 3) := by decide +kernel
theorem dL_law_1147 : decode cL_law 1147 = .ok (.iconst 0, 1) := by decide +kernel
theorem dL_law_1148 : decode cL_law 1148 = .ok (.ireturn, 1) := by decide +kernel
theorem dL_law_1149 : decode cL_law 1149 = .ok (.iload 6, 2) := by decide +kernel
theorem dL_law_1151 : decode cL_law 1151 = .ok (.ifCond .ne 15, 3) := by decide +kernel
theorem dL_law_1154 : decode cL_law 1154 = .ok (.aload_n 3, 1) := by decide +kernel
theorem dL_law_1155 : decode cL_law 1155 = .ok (.iconst 0, 1) := by decide +kernel
theorem dL_law_1156 : decode cL_law 1156 = .ok (.laload, 1) := by decide +kernel
theorem dL_law_1157 : decode cL_law 1157 = .ok (.iload 7, 2) := by decide +kernel
theorem dL_law_1159 : decode cL_law 1159 = .ok (.i2l, 1) := by decide +kernel
theorem dL_law_1160 : decode cL_law 1160 = .ok (.lcmp, 1) := by decide +kernel
theorem dL_law_1161 : decode cL_law 1161 = .ok (.ifCond .eq 5, 3) := by decide +kernel
theorem dL_law_1164 : decode cL_law 1164 = .ok (.iconst 0, 1) := by decide +kernel
theorem dL_law_1165 : decode cL_law 1165 = .ok (.ireturn, 1) := by decide +kernel
theorem dL_law_1166 : decode cL_law 1166 = .ok (.goto 859, 3) := by decide +kernel
theorem dL_law_1169 : decode cL_law 1169 = .ok (.aload_n 1, 1) := by decide +kernel
theorem dL_law_1170 : decode cL_law 1170 = .ok (.aload_n 0, 1) := by decide +kernel
theorem dL_law_1171 : decode cL_law 1171 = .ok (.iload 5, 2) := by decide +kernel
theorem dL_law_1173 : decode cL_law 1173 = .ok (.iconst 1, 1) := by decide +kernel
theorem dL_law_1174 : decode cL_law 1174 = .ok (.iadd, 1) := by decide +kernel
theorem dL_law_1175 : decode cL_law 1175 = .ok (.iaload, 1) := by decide +kernel
theorem dL_law_1176 : decode cL_law 1176 = .ok (.aload_n 0, 1) := by decide +kernel
theorem dL_law_1177 : decode cL_law 1177 = .ok (.iload 5, 2) := by decide +kernel
theorem dL_law_1179 : decode cL_law 1179 = .ok (.iconst 2, 1) := by decide +kernel
theorem dL_law_1180 : decode cL_law 1180 = .ok (.iadd, 1) := by decide +kernel
theorem dL_law_1181 : decode cL_law 1181 = .ok (.iaload, 1) := by decide +kernel
theorem dL_law_1182 : decode cL_law 1182 = .ok (.aload_n 3, 1) := by decide +kernel
theorem dL_law_1183 : decode cL_law 1183 = .ok (.invokestatic 172, 3) := by decide +kernel
theorem dL_law_1186 : decode cL_law 1186 = .ok (.istore 6, 2) := by decide +kernel
theorem dL_law_1188 : decode cL_law 1188 = .ok (.aload_n 2, 1) := by decide +kernel
theorem dL_law_1189 : decode cL_law 1189 = .ok (.aload_n 0, 1) := by decide +kernel
theorem dL_law_1190 : decode cL_law 1190 = .ok (.iload 5, 2) := by decide +kernel
theorem dL_law_1192 : decode cL_law 1192 = .ok (.iconst 1, 1) := by decide +kernel
theorem dL_law_1193 : decode cL_law 1193 = .ok (.iadd, 1) := by decide +kernel
theorem dL_law_1194 : decode cL_law 1194 = .ok (.iaload, 1) := by decide +kernel
theorem dL_law_1195 : decode cL_law 1195 = .ok (.aload_n 0, 1) := by decide +kernel
theorem dL_law_1196 : decode cL_law 1196 = .ok (.iload 5, 2) := by decide +kernel
theorem dL_law_1198 : decode cL_law 1198 = .ok (.iconst 2, 1) := by decide +kernel
theorem dL_law_1199 : decode cL_law 1199 = .ok (.iadd, 1) := by decide +kernel
theorem dL_law_1200 : decode cL_law 1200 = .ok (.iaload, 1) := by decide +kernel
theorem dL_law_1201 : decode cL_law 1201 = .ok (.invokevirtual 174, 3) := by decide +kernel
theorem dL_law_1204 : decode cL_law 1204 = .ok (.istore 7, 2) := by decide +kernel
theorem dL_law_1206 : decode cL_law 1206 = .ok (.aload_n 2, 1) := by decide +kernel
theorem dL_law_1207 : decode cL_law 1207 = .ok (.invokevirtual 113, 3) := by decide +kernel
theorem dL_law_1210 : decode cL_law 1210 = .ok (.iload 6, 2) := by decide +kernel
theorem dL_law_1212 : decode cL_law 1212 = .ok (.if_icmp .eq 5, 3) := by decide +kernel
theorem dL_law_1215 : decode cL_law 1215 = .ok (.iconst 0, 1) := by decide +kernel
theorem dL_law_1216 : decode cL_law 1216 = .ok (.ireturn, 1) := by decide +kernel
theorem dL_law_1217 : decode cL_law 1217 = .ok (.iload 6, 2) := by decide +kernel
theorem dL_law_1219 : decode cL_law 1219 = .ok (.ifCond .ne 15, 3) := by decide +kernel
theorem dL_law_1222 : decode cL_law 1222 = .ok (.aload_n 3, 1) := by decide +kernel
theorem dL_law_1223 : decode cL_law 1223 = .ok (.iconst 0, 1) := by decide +kernel
theorem dL_law_1224 : decode cL_law 1224 = .ok (.laload, 1) := by decide +kernel
theorem dL_law_1225 : decode cL_law 1225 = .ok (.iload 7, 2) := by decide +kernel
theorem dL_law_1227 : decode cL_law 1227 = .ok (.i2l, 1) := by decide +kernel
theorem dL_law_1228 : decode cL_law 1228 = .ok (.lcmp, 1) := by decide +kernel
theorem dL_law_1229 : decode cL_law 1229 = .ok (.ifCond .eq 5, 3) := by decide +kernel
theorem dL_law_1232 : decode cL_law 1232 = .ok (.iconst 0, 1) := by decide +kernel
theorem dL_law_1233 : decode cL_law 1233 = .ok (.ireturn, 1) := by decide +kernel
theorem dL_law_1234 : decode cL_law 1234 = .ok (.goto 791, 3) := by decide +kernel
theorem dL_law_1237 : decode cL_law 1237 = .ok (.aload_n 1, 1) := by decide +kernel
theorem dL_law_1238 : decode cL_law 1238 = .ok (.aload_n 0, 1) := by decide +kernel
theorem dL_law_1239 : decode cL_law 1239 = .ok (.iload 5, 2) := by decide +kernel
theorem dL_law_1241 : decode cL_law 1241 = .ok (.iconst 1, 1) := by decide +kernel
theorem dL_law_1242 : decode cL_law 1242 = .ok (.iadd, 1) := by decide +kernel
theorem dL_law_1243 : decode cL_law 1243 = .ok (.iaload, 1) := by decide +kernel
theorem dL_law_1244 : decode cL_law 1244 = .ok (.aload_n 3, 1) := by decide +kernel
theorem dL_law_1245 : decode cL_law 1245 = .ok (.invokestatic 175, 3) := by decide +kernel
theorem dL_law_1248 : decode cL_law 1248 = .ok (.istore 6, 2) := by decide +kernel
theorem dL_law_1250 : decode cL_law 1250 = .ok (.aload_n 2, 1) := by decide +kernel
theorem dL_law_1251 : decode cL_law 1251 = .ok (.aload_n 0, 1) := by decide +kernel
theorem dL_law_1252 : decode cL_law 1252 = .ok (.iload 5, 2) := by decide +kernel
theorem dL_law_1254 : decode cL_law 1254 = .ok (.iconst 1, 1) := by decide +kernel
theorem dL_law_1255 : decode cL_law 1255 = .ok (.iadd, 1) := by decide +kernel
theorem dL_law_1256 : decode cL_law 1256 = .ok (.iaload, 1) := by decide +kernel
theorem dL_law_1257 : decode cL_law 1257 = .ok (.invokevirtual 177, 3) := by decide +kernel
theorem dL_law_1260 : decode cL_law 1260 = .ok (.istore 7, 2) := by decide +kernel
theorem dL_law_1262 : decode cL_law 1262 = .ok (.aload_n 2, 1) := by decide +kernel
theorem dL_law_1263 : decode cL_law 1263 = .ok (.invokevirtual 113, 3) := by decide +kernel
theorem dL_law_1266 : decode cL_law 1266 = .ok (.iload 6, 2) := by decide +kernel
theorem dL_law_1268 : decode cL_law 1268 = .ok (.if_icmp .eq 5, 3) := by decide +kernel
theorem dL_law_1271 : decode cL_law 1271 = .ok (.iconst 0, 1) := by decide +kernel
theorem dL_law_1272 : decode cL_law 1272 = .ok (.ireturn, 1) := by decide +kernel
theorem dL_law_1273 : decode cL_law 1273 = .ok (.iload 6, 2) := by decide +kernel
theorem dL_law_1275 : decode cL_law 1275 = .ok (.ifCond .ne 15, 3) := by decide +kernel
theorem dL_law_1278 : decode cL_law 1278 = .ok (.aload_n 3, 1) := by decide +kernel
theorem dL_law_1279 : decode cL_law 1279 = .ok (.iconst 0, 1) := by decide +kernel
theorem dL_law_1280 : decode cL_law 1280 = .ok (.laload, 1) := by decide +kernel
theorem dL_law_1281 : decode cL_law 1281 = .ok (.iload 7, 2) := by decide +kernel
theorem dL_law_1283 : decode cL_law 1283 = .ok (.i2l, 1) := by decide +kernel
theorem dL_law_1284 : decode cL_law 1284 = .ok (.lcmp, 1) := by decide +kernel
theorem dL_law_1285 : decode cL_law 1285 = .ok (.ifCond .eq 5, 3) := by decide +kernel
theorem dL_law_1288 : decode cL_law 1288 = .ok (.iconst 0, 1) := by decide +kernel
theorem dL_law_1289 : decode cL_law 1289 = .ok (.ireturn, 1) := by decide +kernel
theorem dL_law_1290 : decode cL_law 1290 = .ok (.goto 735, 3) := by decide +kernel
theorem dL_law_1293 : decode cL_law 1293 = .ok (.aload_n 1, 1) := by decide +kernel
theorem dL_law_1294 : decode cL_law 1294 = .ok (.aload_n 0, 1) := by decide +kernel
theorem dL_law_1295 : decode cL_law 1295 = .ok (.iload 5, 2) := by decide +kernel
theorem dL_law_1297 : decode cL_law 1297 = .ok (.iconst 1, 1) := by decide +kernel
theorem dL_law_1298 : decode cL_law 1298 = .ok (.iadd, 1) := by decide +kernel
theorem dL_law_1299 : decode cL_law 1299 = .ok (.iaload, 1) := by decide +kernel
theorem dL_law_1300 : decode cL_law 1300 = .ok (.aload_n 3, 1) := by decide +kernel
theorem dL_law_1301 : decode cL_law 1301 = .ok (.invokestatic 178, 3) := by decide +kernel
theorem dL_law_1304 : decode cL_law 1304 = .ok (.istore 6, 2) := by decide +kernel
theorem dL_law_1306 : decode cL_law 1306 = .ok (.aload_n 2, 1) := by decide +kernel
theorem dL_law_1307 : decode cL_law 1307 = .ok (.aload_n 0, 1) := by decide +kernel
theorem dL_law_1308 : decode cL_law 1308 = .ok (.iload 5, 2) := by decide +kernel
theorem dL_law_1310 : decode cL_law 1310 = .ok (.iconst 1, 1) := by decide +kernel
theorem dL_law_1311 : decode cL_law 1311 = .ok (.iadd, 1) := by decide +kernel
theorem dL_law_1312 : decode cL_law 1312 = .ok (.iaload, 1) := by decide +kernel
theorem dL_law_1313 : decode cL_law 1313 = .ok (.invokevirtual 180, 3) := by decide +kernel
theorem dL_law_1316 : decode cL_law 1316 = .ok (.istore 7, 2) := by decide +kernel
theorem dL_law_1318 : decode cL_law 1318 = .ok (.aload_n 2, 1) := by decide +kernel
theorem dL_law_1319 : decode cL_law 1319 = .ok (.invokevirtual 113, 3) := by decide +kernel
theorem dL_law_1322 : decode cL_law 1322 = .ok (.iload 6, 2) := by decide +kernel
theorem dL_law_1324 : decode cL_law 1324 = .ok (.if_icmp .eq 5, 3) := by decide +kernel
theorem dL_law_1327 : decode cL_law 1327 = .ok (.iconst 0, 1) := by decide +kernel
theorem dL_law_1328 : decode cL_law 1328 = .ok (.ireturn, 1) := by decide +kernel
theorem dL_law_1329 : decode cL_law 1329 = .ok (.iload 6, 2) := by decide +kernel
theorem dL_law_1331 : decode cL_law 1331 = .ok (.ifCond .ne 15, 3) := by decide +kernel
theorem dL_law_1334 : decode cL_law 1334 = .ok (.aload_n 3, 1) := by decide +kernel
theorem dL_law_1335 : decode cL_law 1335 = .ok (.iconst 0, 1) := by decide +kernel
theorem dL_law_1336 : decode cL_law 1336 = .ok (.laload, 1) := by decide +kernel
theorem dL_law_1337 : decode cL_law 1337 = .ok (.iload 7, 2) := by decide +kernel
theorem dL_law_1339 : decode cL_law 1339 = .ok (.i2l, 1) := by decide +kernel
theorem dL_law_1340 : decode cL_law 1340 = .ok (.lcmp, 1) := by decide +kernel
theorem dL_law_1341 : decode cL_law 1341 = .ok (.ifCond .eq 5, 3) := by decide +kernel
theorem dL_law_1344 : decode cL_law 1344 = .ok (.iconst 0, 1) := by decide +kernel
theorem dL_law_1345 : decode cL_law 1345 = .ok (.ireturn, 1) := by decide +kernel
theorem dL_law_1346 : decode cL_law 1346 = .ok (.goto 679, 3) := by decide +kernel
theorem dL_law_1349 : decode cL_law 1349 = .ok (.aload_n 1, 1) := by decide +kernel
theorem dL_law_1350 : decode cL_law 1350 = .ok (.aload_n 0, 1) := by decide +kernel
theorem dL_law_1351 : decode cL_law 1351 = .ok (.iload 5, 2) := by decide +kernel
theorem dL_law_1353 : decode cL_law 1353 = .ok (.iconst 1, 1) := by decide +kernel
theorem dL_law_1354 : decode cL_law 1354 = .ok (.iadd, 1) := by decide +kernel
theorem dL_law_1355 : decode cL_law 1355 = .ok (.iaload, 1) := by decide +kernel
theorem dL_law_1356 : decode cL_law 1356 = .ok (.aload_n 3, 1) := by decide +kernel
theorem dL_law_1357 : decode cL_law 1357 = .ok (.invokestatic 181, 3) := by decide +kernel
theorem dL_law_1360 : decode cL_law 1360 = .ok (.istore 6, 2) := by decide +kernel
theorem dL_law_1362 : decode cL_law 1362 = .ok (.aload_n 2, 1) := by decide +kernel
theorem dL_law_1363 : decode cL_law 1363 = .ok (.aload_n 0, 1) := by decide +kernel
theorem dL_law_1364 : decode cL_law 1364 = .ok (.iload 5, 2) := by decide +kernel
theorem dL_law_1366 : decode cL_law 1366 = .ok (.iconst 1, 1) := by decide +kernel
theorem dL_law_1367 : decode cL_law 1367 = .ok (.iadd, 1) := by decide +kernel
theorem dL_law_1368 : decode cL_law 1368 = .ok (.iaload, 1) := by decide +kernel
theorem dL_law_1369 : decode cL_law 1369 = .ok (.invokevirtual 183, 3) := by decide +kernel
theorem dL_law_1372 : decode cL_law 1372 = .ok (.istore 7, 2) := by decide +kernel
theorem dL_law_1374 : decode cL_law 1374 = .ok (.aload_n 2, 1) := by decide +kernel
theorem dL_law_1375 : decode cL_law 1375 = .ok (.invokevirtual 113, 3) := by decide +kernel
theorem dL_law_1378 : decode cL_law 1378 = .ok (.iload 6, 2) := by decide +kernel
theorem dL_law_1380 : decode cL_law 1380 = .ok (.if_icmp .eq 5, 3) := by decide +kernel
theorem dL_law_1383 : decode cL_law 1383 = .ok (.iconst 0, 1) := by decide +kernel
theorem dL_law_1384 : decode cL_law 1384 = .ok (.ireturn, 1) := by decide +kernel
theorem dL_law_1385 : decode cL_law 1385 = .ok (.iload 6, 2) := by decide +kernel
theorem dL_law_1387 : decode cL_law 1387 = .ok (.ifCond .ne 22, 3) := by decide +kernel
theorem dL_law_1390 : decode cL_law 1390 = .ok (.aload_n 3, 1) := by decide +kernel
theorem dL_law_1391 : decode cL_law 1391 = .ok (.iconst 0, 1) := by decide +kernel
theorem dL_law_1392 : decode cL_law 1392 = .ok (.laload, 1) := by decide +kernel
theorem dL_law_1393 : decode cL_law 1393 = .ok (.iload 7, 2) := by decide +kernel
theorem dL_law_1395 : decode cL_law 1395 = .ok (.ifCond .eq 7, 3) := by decide +kernel
theorem dL_law_1398 : decode cL_law 1398 = .ok (.lconst 1, 1) := by decide +kernel
theorem dL_law_1399 : decode cL_law 1399 = .ok (.goto 4, 3) := by decide +kernel
theorem dL_law_1402 : decode cL_law 1402 = .ok (.lconst 0, 1) := by decide +kernel
theorem dL_law_1403 : decode cL_law 1403 = .ok (.lcmp, 1) := by decide +kernel
theorem dL_law_1404 : decode cL_law 1404 = .ok (.ifCond .eq 5, 3) := by decide +kernel
theorem dL_law_1407 : decode cL_law 1407 = .ok (.iconst 0, 1) := by decide +kernel
theorem dL_law_1408 : decode cL_law 1408 = .ok (.ireturn, 1) := by decide +kernel
theorem dL_law_1409 : decode cL_law 1409 = .ok (.goto 616, 3) := by decide +kernel
theorem dL_law_1412 : decode cL_law 1412 = .ok (.aload_n 1, 1) := by decide +kernel
theorem dL_law_1413 : decode cL_law 1413 = .ok (.aload_n 0, 1) := by decide +kernel
theorem dL_law_1414 : decode cL_law 1414 = .ok (.iload 5, 2) := by decide +kernel
theorem dL_law_1416 : decode cL_law 1416 = .ok (.iconst 1, 1) := by decide +kernel
theorem dL_law_1417 : decode cL_law 1417 = .ok (.iadd, 1) := by decide +kernel
theorem dL_law_1418 : decode cL_law 1418 = .ok (.iaload, 1) := by decide +kernel
theorem dL_law_1419 : decode cL_law 1419 = .ok (.aload_n 3, 1) := by decide +kernel
theorem dL_law_1420 : decode cL_law 1420 = .ok (.invokestatic 184, 3) := by decide +kernel
theorem dL_law_1423 : decode cL_law 1423 = .ok (.istore 6, 2) := by decide +kernel
theorem dL_law_1425 : decode cL_law 1425 = .ok (.aload_n 2, 1) := by decide +kernel
theorem dL_law_1426 : decode cL_law 1426 = .ok (.aload_n 0, 1) := by decide +kernel
theorem dL_law_1427 : decode cL_law 1427 = .ok (.iload 5, 2) := by decide +kernel
theorem dL_law_1429 : decode cL_law 1429 = .ok (.iconst 1, 1) := by decide +kernel
theorem dL_law_1430 : decode cL_law 1430 = .ok (.iadd, 1) := by decide +kernel
theorem dL_law_1431 : decode cL_law 1431 = .ok (.iaload, 1) := by decide +kernel
theorem dL_law_1432 : decode cL_law 1432 = .ok (.invokevirtual 186, 3) := by decide +kernel
theorem dL_law_1435 : decode cL_law 1435 = .ok (.istore 7, 2) := by decide +kernel
theorem dL_law_1437 : decode cL_law 1437 = .ok (.aload_n 2, 1) := by decide +kernel
theorem dL_law_1438 : decode cL_law 1438 = .ok (.invokevirtual 113, 3) := by decide +kernel
theorem dL_law_1441 : decode cL_law 1441 = .ok (.iload 6, 2) := by decide +kernel
theorem dL_law_1443 : decode cL_law 1443 = .ok (.if_icmp .eq 5, 3) := by decide +kernel
theorem dL_law_1446 : decode cL_law 1446 = .ok (.iconst 0, 1) := by decide +kernel
theorem dL_law_1447 : decode cL_law 1447 = .ok (.ireturn, 1) := by decide +kernel
theorem dL_law_1448 : decode cL_law 1448 = .ok (.iload 6, 2) := by decide +kernel
theorem dL_law_1450 : decode cL_law 1450 = .ok (.ifCond .ne 15, 3) := by decide +kernel
theorem dL_law_1453 : decode cL_law 1453 = .ok (.aload_n 3, 1) := by decide +kernel
theorem dL_law_1454 : decode cL_law 1454 = .ok (.iconst 0, 1) := by decide +kernel
theorem dL_law_1455 : decode cL_law 1455 = .ok (.laload, 1) := by decide +kernel
theorem dL_law_1456 : decode cL_law 1456 = .ok (.iload 7, 2) := by decide +kernel
theorem dL_law_1458 : decode cL_law 1458 = .ok (.i2l, 1) := by decide +kernel
theorem dL_law_1459 : decode cL_law 1459 = .ok (.lcmp, 1) := by decide +kernel
theorem dL_law_1460 : decode cL_law 1460 = .ok (.ifCond .eq 5, 3) := by decide +kernel
theorem dL_law_1463 : decode cL_law 1463 = .ok (.iconst 0, 1) := by decide +kernel
theorem dL_law_1464 : decode cL_law 1464 = .ok (.ireturn, 1) := by decide +kernel
theorem dL_law_1465 : decode cL_law 1465 = .ok (.goto 560, 3) := by decide +kernel
theorem dL_law_1468 : decode cL_law 1468 = .ok (.aload_n 1, 1) := by decide +kernel
theorem dL_law_1469 : decode cL_law 1469 = .ok (.invokevirtual 187, 3) := by decide +kernel
theorem dL_law_1472 : decode cL_law 1472 = .ok (.aload_n 2, 1) := by decide +kernel
theorem dL_law_1473 : decode cL_law 1473 = .ok (.invokevirtual 190, 3) := by decide +kernel
theorem dL_law_1476 : decode cL_law 1476 = .ok (.if_icmp .eq 549, 3) := by decide +kernel
theorem dL_law_1479 : decode cL_law 1479 = .ok (.iconst 0, 1) := by decide +kernel
theorem dL_law_1480 : decode cL_law 1480 = .ok (.ireturn, 1) := by decide +kernel
theorem dL_law_1481 : decode cL_law 1481 = .ok (.aload_n 1, 1) := by decide +kernel
theorem dL_law_1482 : decode cL_law 1482 = .ok (.aload_n 0, 1) := by decide +kernel
theorem dL_law_1483 : decode cL_law 1483 = .ok (.iload 5, 2) := by decide +kernel
theorem dL_law_1485 : decode cL_law 1485 = .ok (.iconst 1, 1) := by decide +kernel
theorem dL_law_1486 : decode cL_law 1486 = .ok (.iadd, 1) := by decide +kernel
theorem dL_law_1487 : decode cL_law 1487 = .ok (.iaload, 1) := by decide +kernel
theorem dL_law_1488 : decode cL_law 1488 = .ok (.aload_n 0, 1) := by decide +kernel
theorem dL_law_1489 : decode cL_law 1489 = .ok (.iload 5, 2) := by decide +kernel
theorem dL_law_1491 : decode cL_law 1491 = .ok (.iconst 2, 1) := by decide +kernel
theorem dL_law_1492 : decode cL_law 1492 = .ok (.iadd, 1) := by decide +kernel
theorem dL_law_1493 : decode cL_law 1493 = .ok (.iaload, 1) := by decide +kernel
theorem dL_law_1494 : decode cL_law 1494 = .ok (.aload_n 3, 1) := by decide +kernel
theorem dL_law_1495 : decode cL_law 1495 = .ok (.invokestatic 191, 3) := by decide +kernel
theorem dL_law_1498 : decode cL_law 1498 = .ok (.istore 6, 2) := by decide +kernel
theorem dL_law_1500 : decode cL_law 1500 = .ok (.aload_n 2, 1) := by decide +kernel
theorem dL_law_1501 : decode cL_law 1501 = .ok (.aload_n 0, 1) := by decide +kernel
theorem dL_law_1502 : decode cL_law 1502 = .ok (.iload 5, 2) := by decide +kernel
theorem dL_law_1504 : decode cL_law 1504 = .ok (.iconst 1, 1) := by decide +kernel
theorem dL_law_1505 : decode cL_law 1505 = .ok (.iadd, 1) := by decide +kernel
theorem dL_law_1506 : decode cL_law 1506 = .ok (.iaload, 1) := by decide +kernel
theorem dL_law_1507 : decode cL_law 1507 = .ok (.aload_n 0, 1) := by decide +kernel
theorem dL_law_1508 : decode cL_law 1508 = .ok (.iload 5, 2) := by decide +kernel
theorem dL_law_1510 : decode cL_law 1510 = .ok (.iconst 2, 1) := by decide +kernel
theorem dL_law_1511 : decode cL_law 1511 = .ok (.iadd, 1) := by decide +kernel
theorem dL_law_1512 : decode cL_law 1512 = .ok (.iaload, 1) := by decide +kernel
theorem dL_law_1513 : decode cL_law 1513 = .ok (.invokevirtual 193, 3) := by decide +kernel
theorem dL_law_1516 : decode cL_law 1516 = .ok (.istore 7, 2) := by decide +kernel
theorem dL_law_1518 : decode cL_law 1518 = .ok (.aload_n 2, 1) := by decide +kernel
theorem dL_law_1519 : decode cL_law 1519 = .ok (.invokevirtual 113, 3) := by decide +kernel
theorem dL_law_1522 : decode cL_law 1522 = .ok (.iload 6, 2) := by decide +kernel
theorem dL_law_1524 : decode cL_law 1524 = .ok (.if_icmp .eq 5, 3) := by decide +kernel
theorem dL_law_1527 : decode cL_law 1527 = .ok (.iconst 0, 1) := by decide +kernel
theorem dL_law_1528 : decode cL_law 1528 = .ok (.ireturn, 1) := by decide +kernel
theorem dL_law_1529 : decode cL_law 1529 = .ok (.iload 6, 2) := by decide +kernel
theorem dL_law_1531 : decode cL_law 1531 = .ok (.ifCond .ne 15, 3) := by decide +kernel
theorem dL_law_1534 : decode cL_law 1534 = .ok (.aload_n 3, 1) := by decide +kernel
theorem dL_law_1535 : decode cL_law 1535 = .ok (.iconst 0, 1) := by decide +kernel
theorem dL_law_1536 : decode cL_law 1536 = .ok (.laload, 1) := by decide +kernel
theorem dL_law_1537 : decode cL_law 1537 = .ok (.iload 7, 2) := by decide +kernel
theorem dL_law_1539 : decode cL_law 1539 = .ok (.i2l, 1) := by decide +kernel
theorem dL_law_1540 : decode cL_law 1540 = .ok (.lcmp, 1) := by decide +kernel
theorem dL_law_1541 : decode cL_law 1541 = .ok (.ifCond .eq 5, 3) := by decide +kernel
theorem dL_law_1544 : decode cL_law 1544 = .ok (.iconst 0, 1) := by decide +kernel
theorem dL_law_1545 : decode cL_law 1545 = .ok (.ireturn, 1) := by decide +kernel
theorem dL_law_1546 : decode cL_law 1546 = .ok (.goto 479, 3) := by decide +kernel
theorem dL_law_1549 : decode cL_law 1549 = .ok (.aload_n 1, 1) := by decide +kernel
theorem dL_law_1550 : decode cL_law 1550 = .ok (.invokevirtual 194, 3) := by decide +kernel
theorem dL_law_1553 : decode cL_law 1553 = .ok (.aload_n 2, 1) := by decide +kernel
theorem dL_law_1554 : decode cL_law 1554 = .ok (.invokevirtual 197, 3) := by decide +kernel
theorem dL_law_1557 : decode cL_law 1557 = .ok (.if_icmp .eq 468, 3) := by decide +kernel
theorem dL_law_1560 : decode cL_law 1560 = .ok (.iconst 0, 1) := by decide +kernel
theorem dL_law_1561 : decode cL_law 1561 = .ok (.ireturn, 1) := by decide +kernel
theorem dL_law_1562 : decode cL_law 1562 = .ok (.aload_n 1, 1) := by decide +kernel
theorem dL_law_1563 : decode cL_law 1563 = .ok (.aload_n 0, 1) := by decide +kernel
theorem dL_law_1564 : decode cL_law 1564 = .ok (.iload 5, 2) := by decide +kernel
theorem dL_law_1566 : decode cL_law 1566 = .ok (.iconst 1, 1) := by decide +kernel
theorem dL_law_1567 : decode cL_law 1567 = .ok (.iadd, 1) := by decide +kernel
theorem dL_law_1568 : decode cL_law 1568 = .ok (.iaload, 1) := by decide +kernel
theorem dL_law_1569 : decode cL_law 1569 = .ok (.aload 4, 2) := by decide +kernel
theorem dL_law_1571 : decode cL_law 1571 = .ok (.invokestatic 198, 3) := by decide +kernel
theorem dL_law_1574 : decode cL_law 1574 = .ok (.istore 6, 2) := by decide +kernel
theorem dL_law_1576 : decode cL_law 1576 = .ok (.aload_n 2, 1) := by decide +kernel
theorem dL_law_1577 : decode cL_law 1577 = .ok (.aload_n 0, 1) := by decide +kernel
theorem dL_law_1578 : decode cL_law 1578 = .ok (.iload 5, 2) := by decide +kernel
theorem dL_law_1580 : decode cL_law 1580 = .ok (.iconst 1, 1) := by decide +kernel
theorem dL_law_1581 : decode cL_law 1581 = .ok (.iadd, 1) := by decide +kernel
theorem dL_law_1582 : decode cL_law 1582 = .ok (.iaload, 1) := by decide +kernel
theorem dL_law_1583 : decode cL_law 1583 = .ok (.invokevirtual 201, 3) := by decide +kernel
theorem dL_law_1586 : decode cL_law 1586 = .ok (.fstore 7, 2) := by decide +kernel
theorem dL_law_1588 : decode cL_law 1588 = .ok (.aload_n 2, 1) := by decide +kernel
theorem dL_law_1589 : decode cL_law 1589 = .ok (.invokevirtual 113, 3) := by decide +kernel
theorem dL_law_1592 : decode cL_law 1592 = .ok (.iload 6, 2) := by decide +kernel
theorem dL_law_1594 : decode cL_law 1594 = .ok (.if_icmp .eq 5, 3) := by decide +kernel
theorem dL_law_1597 : decode cL_law 1597 = .ok (.iconst 0, 1) := by decide +kernel
theorem dL_law_1598 : decode cL_law 1598 = .ok (.ireturn, 1) := by decide +kernel
theorem dL_law_1599 : decode cL_law 1599 = .ok (.iload 6, 2) := by decide +kernel
theorem dL_law_1601 : decode cL_law 1601 = .ok (.ifCond .ne 36, 3) := by decide +kernel
theorem dL_law_1604 : decode cL_law 1604 = .ok (.aload 4, 2) := by decide +kernel
theorem dL_law_1606 : decode cL_law 1606 = .ok (.iconst 0, 1) := by decide +kernel
theorem dL_law_1607 : decode cL_law 1607 = .ok (.daload, 1) := by decide +kernel
theorem dL_law_1608 : decode cL_law 1608 = .ok (.fload 7, 2) := by decide +kernel
theorem dL_law_1610 : decode cL_law 1610 = .ok (.f2d, 1) := by decide +kernel
theorem dL_law_1611 : decode cL_law 1611 = .ok (.dcmp .l, 1) := by decide +kernel
theorem dL_law_1612 : decode cL_law 1612 = .ok (.ifCond .eq 25, 3) := by decide +kernel
theorem dL_law_1615 : decode cL_law 1615 = .ok (.aload 4, 2) := by decide +kernel
theorem dL_law_1617 : decode cL_law 1617 = .ok (.iconst 0, 1) := by decide +kernel
theorem dL_law_1618 : decode cL_law 1618 = .ok (.daload, 1) := by decide +kernel
theorem dL_law_1619 : decode cL_law 1619 = .ok (.aload 4, 2) := by decide +kernel
theorem dL_law_1621 : decode cL_law 1621 = .ok (.iconst 0, 1) := by decide +kernel
theorem dL_law_1622 : decode cL_law 1622 = .ok (.daload, 1) := by decide +kernel
theorem dL_law_1623 : decode cL_law 1623 = .ok (.dcmp .l, 1) := by decide +kernel
theorem dL_law_1624 : decode cL_law 1624 = .ok (.ifCond .eq 11, 3) := by decide +kernel
theorem dL_law_1627 : decode cL_law 1627 = .ok (.fload 7, 2) := by decide +kernel
theorem dL_law_1629 : decode cL_law 1629 = .ok (.fload 7, 2) := by decide +kernel
theorem dL_law_1631 : decode cL_law 1631 = .ok (.fcmp .l, 1) := by decide +kernel
theorem dL_law_1632 : decode cL_law 1632 = .ok (.ifCond .ne 5, 3) := by decide +kernel
theorem dL_law_1635 : decode cL_law 1635 = .ok (.iconst 0, 1) := by decide +kernel
theorem dL_law_1636 : decode cL_law 1636 = .ok (.ireturn, 1) := by decide +kernel
theorem dL_law_1637 : decode cL_law 1637 = .ok (.goto 388, 3) := by decide +kernel
theorem dL_law_1640 : decode cL_law 1640 = .ok (.aload_n 1, 1) := by decide +kernel
theorem dL_law_1641 : decode cL_law 1641 = .ok (.invokevirtual 202, 3) := by decide +kernel
theorem dL_law_1644 : decode cL_law 1644 = .ok (.dstore 6, 2) := by decide +kernel
theorem dL_law_1646 : decode cL_law 1646 = .ok (.aload_n 2, 1) := by decide +kernel
theorem dL_law_1647 : decode cL_law 1647 = .ok (.invokevirtual 206, 3) := by decide +kernel
theorem dL_law_1650 : decode cL_law 1650 = .ok (.dstore 8, 2) := by decide +kernel
theorem dL_law_1652 : decode cL_law 1652 = .ok (.dload 6, 2) := by decide +kernel
theorem dL_law_1654 : decode cL_law 1654 = .ok (.dload 8, 2) := by decide +kernel
theorem dL_law_1656 : decode cL_law 1656 = .ok (.dcmp .l, 1) := by decide +kernel
theorem dL_law_1657 : decode cL_law 1657 = .ok (.ifCond .eq 21, 3) := by decide +kernel
theorem dL_law_1660 : decode cL_law 1660 = .ok (.dload 6, 2) := by decide +kernel
theorem dL_law_1662 : decode cL_law 1662 = .ok (.dload 6, 2) := by decide +kernel
theorem dL_law_1664 : decode cL_law 1664 = .ok (.dcmp .l, 1) := by decide +kernel
theorem dL_law_1665 : decode cL_law 1665 = .ok (.ifCond .eq 11, 3) := by decide +kernel
theorem dL_law_1668 : decode cL_law 1668 = .ok (.dload 8, 2) := by decide +kernel
theorem dL_law_1670 : decode cL_law 1670 = .ok (.dload 8, 2) := by decide +kernel
theorem dL_law_1672 : decode cL_law 1672 = .ok (.dcmp .l, 1) := by decide +kernel
theorem dL_law_1673 : decode cL_law 1673 = .ok (.ifCond .ne 5, 3) := by decide +kernel
theorem dL_law_1676 : decode cL_law 1676 = .ok (.iconst 0, 1) := by decide +kernel
theorem dL_law_1677 : decode cL_law 1677 = .ok (.ireturn, 1) := by decide +kernel
theorem dL_law_1678 : decode cL_law 1678 = .ok (.goto 347, 3) := by decide +kernel
theorem dL_law_1681 : decode cL_law 1681 = .ok (.aload_n 1, 1) := by decide +kernel
theorem dL_law_1682 : decode cL_law 1682 = .ok (.aload_n 0, 1) := by decide +kernel
theorem dL_law_1683 : decode cL_law 1683 = .ok (.iload 5, 2) := by decide +kernel
theorem dL_law_1685 : decode cL_law 1685 = .ok (.iconst 1, 1) := by decide +kernel
theorem dL_law_1686 : decode cL_law 1686 = .ok (.iadd, 1) := by decide +kernel
theorem dL_law_1687 : decode cL_law 1687 = .ok (.iaload, 1) := by decide +kernel
theorem dL_law_1688 : decode cL_law 1688 = .ok (.aload_n 0, 1) := by decide +kernel
theorem dL_law_1689 : decode cL_law 1689 = .ok (.iload 5, 2) := by decide +kernel
theorem dL_law_1691 : decode cL_law 1691 = .ok (.iconst 2, 1) := by decide +kernel
theorem dL_law_1692 : decode cL_law 1692 = .ok (.iadd, 1) := by decide +kernel
theorem dL_law_1693 : decode cL_law 1693 = .ok (.iaload, 1) := by decide +kernel
theorem dL_law_1694 : decode cL_law 1694 = .ok (.aload_n 3, 1) := by decide +kernel
theorem dL_law_1695 : decode cL_law 1695 = .ok (.invokestatic 207, 3) := by decide +kernel
theorem dL_law_1698 : decode cL_law 1698 = .ok (.istore 6, 2) := by decide +kernel
theorem dL_law_1700 : decode cL_law 1700 = .ok (.aload_n 2, 1) := by decide +kernel
theorem dL_law_1701 : decode cL_law 1701 = .ok (.aload_n 0, 1) := by decide +kernel
theorem dL_law_1702 : decode cL_law 1702 = .ok (.iload 5, 2) := by decide +kernel
theorem dL_law_1704 : decode cL_law 1704 = .ok (.iconst 1, 1) := by decide +kernel
theorem dL_law_1705 : decode cL_law 1705 = .ok (.iadd, 1) := by decide +kernel
theorem dL_law_1706 : decode cL_law 1706 = .ok (.iaload, 1) := by decide +kernel
theorem dL_law_1707 : decode cL_law 1707 = .ok (.aload_n 0, 1) := by decide +kernel
theorem dL_law_1708 : decode cL_law 1708 = .ok (.iload 5, 2) := by decide +kernel
theorem dL_law_1710 : decode cL_law 1710 = .ok (.iconst 2, 1) := by decide +kernel
theorem dL_law_1711 : decode cL_law 1711 = .ok (.iadd, 1) := by decide +kernel
theorem dL_law_1712 : decode cL_law 1712 = .ok (.iaload, 1) := by decide +kernel
theorem dL_law_1713 : decode cL_law 1713 = .ok (.invokevirtual 209, 3) := by decide +kernel
theorem dL_law_1716 : decode cL_law 1716 = .ok (.istore 7, 2) := by decide +kernel
theorem dL_law_1718 : decode cL_law 1718 = .ok (.aload_n 2, 1) := by decide +kernel
theorem dL_law_1719 : decode cL_law 1719 = .ok (.invokevirtual 113, 3) := by decide +kernel
theorem dL_law_1722 : decode cL_law 1722 = .ok (.iload 6, 2) := by decide +kernel
theorem dL_law_1724 : decode cL_law 1724 = .ok (.if_icmp .eq 5, 3) := by decide +kernel
theorem dL_law_1727 : decode cL_law 1727 = .ok (.iconst 0, 1) := by decide +kernel
theorem dL_law_1728 : decode cL_law 1728 = .ok (.ireturn, 1) := by decide +kernel
theorem dL_law_1729 : decode cL_law 1729 = .ok (.iload 6, 2) := by decide +kernel
theorem dL_law_1731 : decode cL_law 1731 = .ok (.ifCond .ne 15, 3) := by decide +kernel
theorem dL_law_1734 : decode cL_law 1734 = .ok (.aload_n 3, 1) := by decide +kernel
theorem dL_law_1735 : decode cL_law 1735 = .ok (.iconst 0, 1) := by decide +kernel
theorem dL_law_1736 : decode cL_law 1736 = .ok (.laload, 1) := by decide +kernel
theorem dL_law_1737 : decode cL_law 1737 = .ok (.iload 7, 2) := by decide +kernel
theorem dL_law_1739 : decode cL_law 1739 = .ok (.i2l, 1) := by decide +kernel
theorem dL_law_1740 : decode cL_law 1740 = .ok (.lcmp, 1) := by decide +kernel
theorem dL_law_1741 : decode cL_law 1741 = .ok (.ifCond .eq 5, 3) := by decide +kernel
theorem dL_law_1744 : decode cL_law 1744 = .ok (.iconst 0, 1) := by decide +kernel
theorem dL_law_1745 : decode cL_law 1745 = .ok (.ireturn, 1) := by decide +kernel
theorem dL_law_1746 : decode cL_law 1746 = .ok (.goto 279, 3) := by decide +kernel
theorem dL_law_1749 : decode cL_law 1749 = .ok (.aload_n 1, 1) := by decide +kernel
theorem dL_law_1750 : decode cL_law 1750 = .ok (.aload_n 0, 1) := by decide +kernel
theorem dL_law_1751 : decode cL_law 1751 = .ok (.iload 5, 2) := by decide +kernel
theorem dL_law_1753 : decode cL_law 1753 = .ok (.iconst 1, 1) := by decide +kernel
theorem dL_law_1754 : decode cL_law 1754 = .ok (.iadd, 1) := by decide +kernel
theorem dL_law_1755 : decode cL_law 1755 = .ok (.iaload, 1) := by decide +kernel
theorem dL_law_1756 : decode cL_law 1756 = .ok (.aload_n 0, 1) := by decide +kernel
theorem dL_law_1757 : decode cL_law 1757 = .ok (.iload 5, 2) := by decide +kernel
theorem dL_law_1759 : decode cL_law 1759 = .ok (.iconst 2, 1) := by decide +kernel
theorem dL_law_1760 : decode cL_law 1760 = .ok (.iadd, 1) := by decide +kernel
theorem dL_law_1761 : decode cL_law 1761 = .ok (.iaload, 1) := by decide +kernel
theorem dL_law_1762 : decode cL_law 1762 = .ok (.aload_n 3, 1) := by decide +kernel
theorem dL_law_1763 : decode cL_law 1763 = .ok (.invokestatic 210, 3) := by decide +kernel
theorem dL_law_1766 : decode cL_law 1766 = .ok (.istore 6, 2) := by decide +kernel
theorem dL_law_1768 : decode cL_law 1768 = .ok (.aload_n 2, 1) := by decide +kernel
theorem dL_law_1769 : decode cL_law 1769 = .ok (.aload_n 0, 1) := by decide +kernel
theorem dL_law_1770 : decode cL_law 1770 = .ok (.iload 5, 2) := by decide +kernel
theorem dL_law_1772 : decode cL_law 1772 = .ok (.iconst 1, 1) := by decide +kernel
theorem dL_law_1773 : decode cL_law 1773 = .ok (.iadd, 1) := by decide +kernel
theorem dL_law_1774 : decode cL_law 1774 = .ok (.iaload, 1) := by decide +kernel
theorem dL_law_1775 : decode cL_law 1775 = .ok (.aload_n 0, 1) := by decide +kernel
theorem dL_law_1776 : decode cL_law 1776 = .ok (.iload 5, 2) := by decide +kernel
theorem dL_law_1778 : decode cL_law 1778 = .ok (.iconst 2, 1) := by decide +kernel
theorem dL_law_1779 : decode cL_law 1779 = .ok (.iadd, 1) := by decide +kernel
theorem dL_law_1780 : decode cL_law 1780 = .ok (.iaload, 1) := by decide +kernel
theorem dL_law_1781 : decode cL_law 1781 = .ok (.invokevirtual 212, 3) := by decide +kernel
theorem dL_law_1784 : decode cL_law 1784 = .ok (.istore 7, 2) := by decide +kernel
theorem dL_law_1786 : decode cL_law 1786 = .ok (.aload_n 2, 1) := by decide +kernel
theorem dL_law_1787 : decode cL_law 1787 = .ok (.invokevirtual 113, 3) := by decide +kernel
theorem dL_law_1790 : decode cL_law 1790 = .ok (.iload 6, 2) := by decide +kernel
theorem dL_law_1792 : decode cL_law 1792 = .ok (.if_icmp .eq 5, 3) := by decide +kernel
theorem dL_law_1795 : decode cL_law 1795 = .ok (.iconst 0, 1) := by decide +kernel
theorem dL_law_1796 : decode cL_law 1796 = .ok (.ireturn, 1) := by decide +kernel
theorem dL_law_1797 : decode cL_law 1797 = .ok (.iload 6, 2) := by decide +kernel
theorem dL_law_1799 : decode cL_law 1799 = .ok (.ifCond .ne 15, 3) := by decide +kernel
theorem dL_law_1802 : decode cL_law 1802 = .ok (.aload_n 3, 1) := by decide +kernel
theorem dL_law_1803 : decode cL_law 1803 = .ok (.iconst 0, 1) := by decide +kernel
theorem dL_law_1804 : decode cL_law 1804 = .ok (.laload, 1) := by decide +kernel
theorem dL_law_1805 : decode cL_law 1805 = .ok (.iload 7, 2) := by decide +kernel
theorem dL_law_1807 : decode cL_law 1807 = .ok (.i2l, 1) := by decide +kernel
theorem dL_law_1808 : decode cL_law 1808 = .ok (.lcmp, 1) := by decide +kernel
theorem dL_law_1809 : decode cL_law 1809 = .ok (.ifCond .eq 5, 3) := by decide +kernel
theorem dL_law_1812 : decode cL_law 1812 = .ok (.iconst 0, 1) := by decide +kernel
theorem dL_law_1813 : decode cL_law 1813 = .ok (.ireturn, 1) := by decide +kernel
theorem dL_law_1814 : decode cL_law 1814 = .ok (.goto 211, 3) := by decide +kernel
theorem dL_law_1817 : decode cL_law 1817 = .ok (.aload_n 1, 1) := by decide +kernel
theorem dL_law_1818 : decode cL_law 1818 = .ok (.aload_n 0, 1) := by decide +kernel
theorem dL_law_1819 : decode cL_law 1819 = .ok (.iload 5, 2) := by decide +kernel
theorem dL_law_1821 : decode cL_law 1821 = .ok (.iconst 1, 1) := by decide +kernel
theorem dL_law_1822 : decode cL_law 1822 = .ok (.iadd, 1) := by decide +kernel
theorem dL_law_1823 : decode cL_law 1823 = .ok (.iaload, 1) := by decide +kernel
theorem dL_law_1824 : decode cL_law 1824 = .ok (.aload_n 0, 1) := by decide +kernel
theorem dL_law_1825 : decode cL_law 1825 = .ok (.iload 5, 2) := by decide +kernel
theorem dL_law_1827 : decode cL_law 1827 = .ok (.iconst 2, 1) := by decide +kernel
theorem dL_law_1828 : decode cL_law 1828 = .ok (.iadd, 1) := by decide +kernel
theorem dL_law_1829 : decode cL_law 1829 = .ok (.iaload, 1) := by decide +kernel
theorem dL_law_1830 : decode cL_law 1830 = .ok (.aload_n 3, 1) := by decide +kernel
theorem dL_law_1831 : decode cL_law 1831 = .ok (.invokestatic 213, 3) := by decide +kernel
theorem dL_law_1834 : decode cL_law 1834 = .ok (.istore 6, 2) := by decide +kernel
theorem dL_law_1836 : decode cL_law 1836 = .ok (.aload_n 2, 1) := by decide +kernel
theorem dL_law_1837 : decode cL_law 1837 = .ok (.aload_n 0, 1) := by decide +kernel
theorem dL_law_1838 : decode cL_law 1838 = .ok (.iload 5, 2) := by decide +kernel
theorem dL_law_1840 : decode cL_law 1840 = .ok (.iconst 1, 1) := by decide +kernel
theorem dL_law_1841 : decode cL_law 1841 = .ok (.iadd, 1) := by decide +kernel
theorem dL_law_1842 : decode cL_law 1842 = .ok (.iaload, 1) := by decide +kernel
theorem dL_law_1843 : decode cL_law 1843 = .ok (.aload_n 0, 1) := by decide +kernel
theorem dL_law_1844 : decode cL_law 1844 = .ok (.iload 5, 2) := by decide +kernel
theorem dL_law_1846 : decode cL_law 1846 = .ok (.iconst 2, 1) := by decide +kernel
theorem dL_law_1847 : decode cL_law 1847 = .ok (.iadd, 1) := by decide +kernel
theorem dL_law_1848 : decode cL_law 1848 = .ok (.iaload, 1) := by decide +kernel
theorem dL_law_1849 : decode cL_law 1849 = .ok (.invokevirtual 215, 3) := by decide +kernel
theorem dL_law_1852 : decode cL_law 1852 = .ok (.istore 7, 2) := by decide +kernel
theorem dL_law_1854 : decode cL_law 1854 = .ok (.aload_n 2, 1) := by decide +kernel
theorem dL_law_1855 : decode cL_law 1855 = .ok (.invokevirtual 113, 3) := by decide +kernel
theorem dL_law_1858 : decode cL_law 1858 = .ok (.iload 6, 2) := by decide +kernel
theorem dL_law_1860 : decode cL_law 1860 = .ok (.if_icmp .eq 5, 3) := by decide +kernel
theorem dL_law_1863 : decode cL_law 1863 = .ok (.iconst 0, 1) := by decide +kernel
theorem dL_law_1864 : decode cL_law 1864 = .ok (.ireturn, 1) := by decide +kernel
theorem dL_law_1865 : decode cL_law 1865 = .ok (.iload 6, 2) := by decide +kernel
theorem dL_law_1867 : decode cL_law 1867 = .ok (.ifCond .ne 15, 3) := by decide +kernel
theorem dL_law_1870 : decode cL_law 1870 = .ok (.aload_n 3, 1) := by decide +kernel
theorem dL_law_1871 : decode cL_law 1871 = .ok (.iconst 0, 1) := by decide +kernel
theorem dL_law_1872 : decode cL_law 1872 = .ok (.laload, 1) := by decide +kernel
theorem dL_law_1873 : decode cL_law 1873 = .ok (.iload 7, 2) := by decide +kernel
theorem dL_law_1875 : decode cL_law 1875 = .ok (.i2l, 1) := by decide +kernel
theorem dL_law_1876 : decode cL_law 1876 = .ok (.lcmp, 1) := by decide +kernel
theorem dL_law_1877 : decode cL_law 1877 = .ok (.ifCond .eq 5, 3) := by decide +kernel
theorem dL_law_1880 : decode cL_law 1880 = .ok (.iconst 0, 1) := by decide +kernel
theorem dL_law_1881 : decode cL_law 1881 = .ok (.ireturn, 1) := by decide +kernel
theorem dL_law_1882 : decode cL_law 1882 = .ok (.goto 143, 3) := by decide +kernel
theorem dL_law_1885 : decode cL_law 1885 = .ok (.aload_n 1, 1) := by decide +kernel
theorem dL_law_1886 : decode cL_law 1886 = .ok (.aload_n 0, 1) := by decide +kernel
theorem dL_law_1887 : decode cL_law 1887 = .ok (.iload 5, 2) := by decide +kernel
theorem dL_law_1889 : decode cL_law 1889 = .ok (.iconst 1, 1) := by decide +kernel
theorem dL_law_1890 : decode cL_law 1890 = .ok (.iadd, 1) := by decide +kernel
theorem dL_law_1891 : decode cL_law 1891 = .ok (.iaload, 1) := by decide +kernel
theorem dL_law_1892 : decode cL_law 1892 = .ok (.aload_n 0, 1) := by decide +kernel
theorem dL_law_1893 : decode cL_law 1893 = .ok (.iload 5, 2) := by decide +kernel
theorem dL_law_1895 : decode cL_law 1895 = .ok (.iconst 2, 1) := by decide +kernel
theorem dL_law_1896 : decode cL_law 1896 = .ok (.iadd, 1) := by decide +kernel
theorem dL_law_1897 : decode cL_law 1897 = .ok (.iaload, 1) := by decide +kernel
theorem dL_law_1898 : decode cL_law 1898 = .ok (.aload_n 3, 1) := by decide +kernel
theorem dL_law_1899 : decode cL_law 1899 = .ok (.invokestatic 216, 3) := by decide +kernel
theorem dL_law_1902 : decode cL_law 1902 = .ok (.istore 6, 2) := by decide +kernel
theorem dL_law_1904 : decode cL_law 1904 = .ok (.aload_n 2, 1) := by decide +kernel
theorem dL_law_1905 : decode cL_law 1905 = .ok (.aload_n 0, 1) := by decide +kernel
theorem dL_law_1906 : decode cL_law 1906 = .ok (.iload 5, 2) := by decide +kernel
theorem dL_law_1908 : decode cL_law 1908 = .ok (.iconst 1, 1) := by decide +kernel
theorem dL_law_1909 : decode cL_law 1909 = .ok (.iadd, 1) := by decide +kernel
theorem dL_law_1910 : decode cL_law 1910 = .ok (.iaload, 1) := by decide +kernel
theorem dL_law_1911 : decode cL_law 1911 = .ok (.aload_n 0, 1) := by decide +kernel
theorem dL_law_1912 : decode cL_law 1912 = .ok (.iload 5, 2) := by decide +kernel
theorem dL_law_1914 : decode cL_law 1914 = .ok (.iconst 2, 1) := by decide +kernel
theorem dL_law_1915 : decode cL_law 1915 = .ok (.iadd, 1) := by decide +kernel
theorem dL_law_1916 : decode cL_law 1916 = .ok (.iaload, 1) := by decide +kernel
theorem dL_law_1917 : decode cL_law 1917 = .ok (.invokevirtual 218, 3) := by decide +kernel
theorem dL_law_1920 : decode cL_law 1920 = .ok (.istore 7, 2) := by decide +kernel
theorem dL_law_1922 : decode cL_law 1922 = .ok (.aload_n 2, 1) := by decide +kernel
theorem dL_law_1923 : decode cL_law 1923 = .ok (.invokevirtual 113, 3) := by decide +kernel
theorem dL_law_1926 : decode cL_law 1926 = .ok (.iload 6, 2) := by decide +kernel
theorem dL_law_1928 : decode cL_law 1928 = .ok (.if_icmp .eq 5, 3) := by decide +kernel
theorem dL_law_1931 : decode cL_law 1931 = .ok (.iconst 0, 1) := by decide +kernel
theorem dL_law_1932 : decode cL_law 1932 = .ok (.ireturn, 1) := by decide +kernel
theorem dL_law_1933 : decode cL_law 1933 = .ok (.iload 6, 2) := by decide +kernel
theorem dL_law_1935 : decode cL_law 1935 = .ok (.ifCond .ne 15, 3) := by decide +kernel
theorem dL_law_1938 : decode cL_law 1938 = .ok (.aload_n 3, 1) := by decide +kernel
theorem dL_law_1939 : decode cL_law 1939 = .ok (.iconst 0, 1) := by decide +kernel
theorem dL_law_1940 : decode cL_law 1940 = .ok (.laload, 1) := by decide +kernel
theorem dL_law_1941 : decode cL_law 1941 = .ok (.iload 7, 2) := by decide +kernel
theorem dL_law_1943 : decode cL_law 1943 = .ok (.i2l, 1) := by decide +kernel
theorem dL_law_1944 : decode cL_law 1944 = .ok (.lcmp, 1) := by decide +kernel
theorem dL_law_1945 : decode cL_law 1945 = .ok (.ifCond .eq 5, 3) := by decide +kernel
theorem dL_law_1948 : decode cL_law 1948 = .ok (.iconst 0, 1) := by decide +kernel
theorem dL_law_1949 : decode cL_law 1949 = .ok (.ireturn, 1) := by decide +kernel
theorem dL_law_1950 : decode cL_law 1950 = .ok (.goto 75, 3) := by decide +kernel
theorem dL_law_1953 : decode cL_law 1953 = .ok (.aload_n 1, 1) := by decide +kernel
theorem dL_law_1954 : decode cL_law 1954 = .ok (.aload_n 0, 1) := by decide +kernel
theorem dL_law_1955 : decode cL_law 1955 = .ok (.iload 5, 2) := by decide +kernel
theorem dL_law_1957 : decode cL_law 1957 = .ok (.iconst 1, 1) := by decide +kernel
theorem dL_law_1958 : decode cL_law 1958 = .ok (.iadd, 1) := by decide +kernel
theorem dL_law_1959 : decode cL_law 1959 = .ok (.iaload, 1) := by decide +kernel
theorem dL_law_1960 : decode cL_law 1960 = .ok (.invokestatic 219, 3) := by decide +kernel
theorem dL_law_1963 : decode cL_law 1963 = .ok (.istore 6, 2) := by decide +kernel
theorem dL_law_1965 : decode cL_law 1965 = .ok (.aload_n 2, 1) := by decide +kernel
theorem dL_law_1966 : decode cL_law 1966 = .ok (.aload_n 0, 1) := by decide +kernel
theorem dL_law_1967 : decode cL_law 1967 = .ok (.iload 5, 2) := by decide +kernel
theorem dL_law_1969 : decode cL_law 1969 = .ok (.iconst 1, 1) := by decide +kernel
theorem dL_law_1970 : decode cL_law 1970 = .ok (.iadd, 1) := by decide +kernel
theorem dL_law_1971 : decode cL_law 1971 = .ok (.iaload, 1) := by decide +kernel
theorem dL_law_1972 : decode cL_law 1972 = .ok (.invokevirtual 221, 3) := by decide +kernel
theorem dL_law_1975 : decode cL_law 1975 = .ok (.aload_n 2, 1) := by decide +kernel
theorem dL_law_1976 : decode cL_law 1976 = .ok (.invokevirtual 113, 3) := by decide +kernel
theorem dL_law_1979 : decode cL_law 1979 = .ok (.iload 6, 2) := by decide +kernel
theorem dL_law_1981 : decode cL_law 1981 = .ok (.if_icmp .eq 5, 3) := by decide +kernel
theorem dL_law_1984 : decode cL_law 1984 = .ok (.iconst 0, 1) := by decide +kernel
theorem dL_law_1985 : decode cL_law 1985 = .ok (.ireturn, 1) := by decide +kernel
theorem dL_law_1986 : decode cL_law 1986 = .ok (.goto 39, 3) := by decide +kernel
theorem dL_law_1989 : decode cL_law 1989 = .ok (.aload_n 1, 1) := by decide +kernel
theorem dL_law_1990 : decode cL_law 1990 = .ok (.aload_n 0, 1) := by decide +kernel
theorem dL_law_1991 : decode cL_law 1991 = .ok (.iload 5, 2) := by decide +kernel
theorem dL_law_1993 : decode cL_law 1993 = .ok (.iconst 1, 1) := by decide +kernel
theorem dL_law_1994 : decode cL_law 1994 = .ok (.iadd, 1) := by decide +kernel
theorem dL_law_1995 : decode cL_law 1995 = .ok (.iaload, 1) := by decide +kernel
theorem dL_law_1996 : decode cL_law 1996 = .ok (.invokestatic 222, 3) := by decide +kernel
theorem dL_law_1999 : decode cL_law 1999 = .ok (.istore 6, 2) := by decide +kernel
theorem dL_law_2001 : decode cL_law 2001 = .ok (.aload_n 2, 1) := by decide +kernel
theorem dL_law_2002 : decode cL_law 2002 = .ok (.aload_n 0, 1) := by decide +kernel
theorem dL_law_2003 : decode cL_law 2003 = .ok (.iload 5, 2) := by decide +kernel
theorem dL_law_2005 : decode cL_law 2005 = .ok (.iconst 1, 1) := by decide +kernel
theorem dL_law_2006 : decode cL_law 2006 = .ok (.iadd, 1) := by decide +kernel
theorem dL_law_2007 : decode cL_law 2007 = .ok (.iaload, 1) := by decide +kernel
theorem dL_law_2008 : decode cL_law 2008 = .ok (.invokevirtual 224, 3) := by decide +kernel
theorem dL_law_2011 : decode cL_law 2011 = .ok (.aload_n 2, 1) := by decide +kernel
theorem dL_law_2012 : decode cL_law 2012 = .ok (.invokevirtual 113, 3) := by decide +kernel
theorem dL_law_2015 : decode cL_law 2015 = .ok (.iload 6, 2) := by decide +kernel
theorem dL_law_2017 : decode cL_law 2017 = .ok (.if_icmp .eq 5, 3) := by decide +kernel
theorem dL_law_2020 : decode cL_law 2020 = .ok (.iconst 0, 1) := by decide +kernel
theorem dL_law_2021 : decode cL_law 2021 = .ok (.ireturn, 1) := by decide +kernel
theorem dL_law_2022 : decode cL_law 2022 = .ok (.goto 3, 3) := by decide +kernel
theorem dL_law_2025 : decode cL_law 2025 = .ok (.iinc 5 4, 3) := by decide +kernel
theorem dL_law_2028 : decode cL_law 2028 = .ok (.goto (-2000), 3) := by decide +kernel
theorem dL_law_2031 : decode cL_law 2031 = .ok (.iconst 1, 1) := by decide +kernel
theorem dL_law_2032 : decode cL_law 2032 = .ok (.ireturn, 1) := by decide +kernel
