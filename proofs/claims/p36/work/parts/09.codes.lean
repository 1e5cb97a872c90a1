/-! ===== the codes, instruction by instruction (printed of the program) ===== -/
theorem dX1_init_0 : decode cX1_init 0 = .ok (.aload_n 0, 1) := by decide +kernel
theorem dX1_init_1 : decode cX1_init 1 = .ok (.invokespecial 3, 3) := by decide +kernel
theorem dX1_init_4 : decode cX1_init 4 = .ok (.aload_n 0, 1) := by decide +kernel
theorem dX1_init_5 : decode cX1_init 5 = .ok (.bipush 6, 2) := by decide +kernel
theorem dX1_init_7 : decode cX1_init 7 = .ok (.newarray .int, 2) := by decide +kernel
theorem dX1_init_9 : decode cX1_init 9 = .ok (.putfield 9, 3) := by decide +kernel
theorem dX1_init_12 : decode cX1_init 12 = .ok (.aload_n 0, 1) := by decide +kernel
theorem dX1_init_13 : decode cX1_init 13 = .ok (.bipush 60, 2) := by decide +kernel
theorem dX1_init_15 : decode cX1_init 15 = .ok (.newarray .int, 2) := by decide +kernel
theorem dX1_init_17 : decode cX1_init 17 = .ok (.putfield 15, 3) := by decide +kernel
theorem dX1_init_20 : decode cX1_init 20 = .ok (.aload_n 0, 1) := by decide +kernel
theorem dX1_init_21 : decode cX1_init 21 = .ok (.bipush 6, 2) := by decide +kernel
theorem dX1_init_23 : decode cX1_init 23 = .ok (.newarray .int, 2) := by decide +kernel
theorem dX1_init_25 : decode cX1_init 25 = .ok (.putfield 18, 3) := by decide +kernel
theorem dX1_init_28 : decode cX1_init 28 = .ok (.return_, 1) := by decide +kernel
theorem dX1_clear_0 : decode cX1_clear 0 = .ok (.iconst 0, 1) := by decide +kernel
theorem dX1_clear_1 : decode cX1_clear 1 = .ok (.istore_n 1, 1) := by decide +kernel
theorem dX1_clear_2 : decode cX1_clear 2 = .ok (.iload_n 1, 1) := by decide +kernel
theorem dX1_clear_3 : decode cX1_clear 3 = .ok (.bipush 6, 2) := by decide +kernel
theorem dX1_clear_5 : decode cX1_clear 5 = .ok (.if_icmp .ge 23, 3) := by decide +kernel
theorem dX1_clear_8 : decode cX1_clear 8 = .ok (.aload_n 0, 1) := by decide +kernel
theorem dX1_clear_9 : decode cX1_clear 9 = .ok (.getfield 9, 3) := by decide +kernel
theorem dX1_clear_12 : decode cX1_clear 12 = .ok (.iload_n 1, 1) := by decide +kernel
theorem dX1_clear_13 : decode cX1_clear 13 = .ok (.iconst (-1), 1) := by decide +kernel
theorem dX1_clear_14 : decode cX1_clear 14 = .ok (.iastore, 1) := by decide +kernel
theorem dX1_clear_15 : decode cX1_clear 15 = .ok (.aload_n 0, 1) := by decide +kernel
theorem dX1_clear_16 : decode cX1_clear 16 = .ok (.getfield 18, 3) := by decide +kernel
theorem dX1_clear_19 : decode cX1_clear 19 = .ok (.iload_n 1, 1) := by decide +kernel
theorem dX1_clear_20 : decode cX1_clear 20 = .ok (.iconst 0, 1) := by decide +kernel
theorem dX1_clear_21 : decode cX1_clear 21 = .ok (.iastore, 1) := by decide +kernel
theorem dX1_clear_22 : decode cX1_clear 22 = .ok (.iinc 1 1, 3) := by decide +kernel
theorem dX1_clear_25 : decode cX1_clear 25 = .ok (.goto (-23), 3) := by decide +kernel
theorem dX1_clear_28 : decode cX1_clear 28 = .ok (.return_, 1) := by decide +kernel
theorem dX1_copyFrom_0 : decode cX1_copyFrom 0 = .ok (.aload_n 1, 1) := by decide +kernel
theorem dX1_copyFrom_1 : decode cX1_copyFrom 1 = .ok (.getfield 9, 3) := by decide +kernel
theorem dX1_copyFrom_4 : decode cX1_copyFrom 4 = .ok (.iconst 0, 1) := by decide +kernel
theorem dX1_copyFrom_5 : decode cX1_copyFrom 5 = .ok (.aload_n 0, 1) := by decide +kernel
theorem dX1_copyFrom_6 : decode cX1_copyFrom 6 = .ok (.getfield 9, 3) := by decide +kernel
theorem dX1_copyFrom_9 : decode cX1_copyFrom 9 = .ok (.iconst 0, 1) := by decide +kernel
theorem dX1_copyFrom_10 : decode cX1_copyFrom 10 = .ok (.bipush 6, 2) := by decide +kernel
theorem dX1_copyFrom_12 : decode cX1_copyFrom 12 = .ok (.invokestatic 21, 3) := by decide +kernel
theorem dX1_copyFrom_15 : decode cX1_copyFrom 15 = .ok (.aload_n 1, 1) := by decide +kernel
theorem dX1_copyFrom_16 : decode cX1_copyFrom 16 = .ok (.getfield 15, 3) := by decide +kernel
theorem dX1_copyFrom_19 : decode cX1_copyFrom 19 = .ok (.iconst 0, 1) := by decide +kernel
theorem dX1_copyFrom_20 : decode cX1_copyFrom 20 = .ok (.aload_n 0, 1) := by decide +kernel
theorem dX1_copyFrom_21 : decode cX1_copyFrom 21 = .ok (.getfield 15, 3) := by decide +kernel
theorem dX1_copyFrom_24 : decode cX1_copyFrom 24 = .ok (.iconst 0, 1) := by decide +kernel
theorem dX1_copyFrom_25 : decode cX1_copyFrom 25 = .ok (.bipush 60, 2) := by decide +kernel
theorem dX1_copyFrom_27 : decode cX1_copyFrom 27 = .ok (.invokestatic 21, 3) := by decide +kernel
theorem dX1_copyFrom_30 : decode cX1_copyFrom 30 = .ok (.aload_n 1, 1) := by decide +kernel
theorem dX1_copyFrom_31 : decode cX1_copyFrom 31 = .ok (.getfield 18, 3) := by decide +kernel
theorem dX1_copyFrom_34 : decode cX1_copyFrom 34 = .ok (.iconst 0, 1) := by decide +kernel
theorem dX1_copyFrom_35 : decode cX1_copyFrom 35 = .ok (.aload_n 0, 1) := by decide +kernel
theorem dX1_copyFrom_36 : decode cX1_copyFrom 36 = .ok (.getfield 18, 3) := by decide +kernel
theorem dX1_copyFrom_39 : decode cX1_copyFrom 39 = .ok (.iconst 0, 1) := by decide +kernel
theorem dX1_copyFrom_40 : decode cX1_copyFrom 40 = .ok (.bipush 6, 2) := by decide +kernel
theorem dX1_copyFrom_42 : decode cX1_copyFrom 42 = .ok (.invokestatic 21, 3) := by decide +kernel
theorem dX1_copyFrom_45 : decode cX1_copyFrom 45 = .ok (.return_, 1) := by decide +kernel
theorem dX1_heldOnes_0 : decode cX1_heldOnes 0 = .ok (.iconst 0, 1) := by decide +kernel
theorem dX1_heldOnes_1 : decode cX1_heldOnes 1 = .ok (.istore_n 1, 1) := by decide +kernel
theorem dX1_heldOnes_2 : decode cX1_heldOnes 2 = .ok (.iconst 0, 1) := by decide +kernel
theorem dX1_heldOnes_3 : decode cX1_heldOnes 3 = .ok (.istore_n 2, 1) := by decide +kernel
theorem dX1_heldOnes_4 : decode cX1_heldOnes 4 = .ok (.iload_n 2, 1) := by decide +kernel
theorem dX1_heldOnes_5 : decode cX1_heldOnes 5 = .ok (.bipush 6, 2) := by decide +kernel
theorem dX1_heldOnes_7 : decode cX1_heldOnes 7 = .ok (.if_icmp .ge 25, 3) := by decide +kernel
theorem dX1_heldOnes_10 : decode cX1_heldOnes 10 = .ok (.aload_n 0, 1) := by decide +kernel
theorem dX1_heldOnes_11 : decode cX1_heldOnes 11 = .ok (.getfield 9, 3) := by decide +kernel
theorem dX1_heldOnes_14 : decode cX1_heldOnes 14 = .ok (.iload_n 2, 1) := by decide +kernel
theorem dX1_heldOnes_15 : decode cX1_heldOnes 15 = .ok (.iaload, 1) := by decide +kernel
theorem dX1_heldOnes_16 : decode cX1_heldOnes 16 = .ok (.iconst (-1), 1) := by decide +kernel
theorem dX1_heldOnes_17 : decode cX1_heldOnes 17 = .ok (.if_icmp .eq 9, 3) := by decide +kernel
theorem dX1_heldOnes_20 : decode cX1_heldOnes 20 = .ok (.iload_n 1, 1) := by decide +kernel
theorem dX1_heldOnes_21 : decode cX1_heldOnes 21 = .ok (.iconst 1, 1) := by decide +kernel
theorem dX1_heldOnes_22 : decode cX1_heldOnes 22 = .ok (.iload_n 2, 1) := by decide +kernel
theorem dX1_heldOnes_23 : decode cX1_heldOnes 23 = .ok (.ishl, 1) := by decide +kernel
theorem dX1_heldOnes_24 : decode cX1_heldOnes 24 = .ok (.ior, 1) := by decide +kernel
theorem dX1_heldOnes_25 : decode cX1_heldOnes 25 = .ok (.istore_n 1, 1) := by decide +kernel
theorem dX1_heldOnes_26 : decode cX1_heldOnes 26 = .ok (.iinc 2 1, 3) := by decide +kernel
theorem dX1_heldOnes_29 : decode cX1_heldOnes 29 = .ok (.goto (-25), 3) := by decide +kernel
theorem dX1_heldOnes_32 : decode cX1_heldOnes 32 = .ok (.iload_n 1, 1) := by decide +kernel
theorem dX1_heldOnes_33 : decode cX1_heldOnes 33 = .ok (.ireturn, 1) := by decide +kernel
theorem dX1_heldBy_0 : decode cX1_heldBy 0 = .ok (.iconst 0, 1) := by decide +kernel
theorem dX1_heldBy_1 : decode cX1_heldBy 1 = .ok (.istore_n 2, 1) := by decide +kernel
theorem dX1_heldBy_2 : decode cX1_heldBy 2 = .ok (.iconst 0, 1) := by decide +kernel
theorem dX1_heldBy_3 : decode cX1_heldBy 3 = .ok (.istore_n 3, 1) := by decide +kernel
theorem dX1_heldBy_4 : decode cX1_heldBy 4 = .ok (.iload_n 3, 1) := by decide +kernel
theorem dX1_heldBy_5 : decode cX1_heldBy 5 = .ok (.bipush 6, 2) := by decide +kernel
theorem dX1_heldBy_7 : decode cX1_heldBy 7 = .ok (.if_icmp .ge 25, 3) := by decide +kernel
theorem dX1_heldBy_10 : decode cX1_heldBy 10 = .ok (.aload_n 0, 1) := by decide +kernel
theorem dX1_heldBy_11 : decode cX1_heldBy 11 = .ok (.getfield 9, 3) := by decide +kernel
theorem dX1_heldBy_14 : decode cX1_heldBy 14 = .ok (.iload_n 3, 1) := by decide +kernel
theorem dX1_heldBy_15 : decode cX1_heldBy 15 = .ok (.iaload, 1) := by decide +kernel
theorem dX1_heldBy_16 : decode cX1_heldBy 16 = .ok (.iload_n 1, 1) := by decide +kernel
theorem dX1_heldBy_17 : decode cX1_heldBy 17 = .ok (.if_icmp .ne 9, 3) := by decide +kernel
theorem dX1_heldBy_20 : decode cX1_heldBy 20 = .ok (.iload_n 2, 1) := by decide +kernel
theorem dX1_heldBy_21 : decode cX1_heldBy 21 = .ok (.iconst 1, 1) := by decide +kernel
theorem dX1_heldBy_22 : decode cX1_heldBy 22 = .ok (.iload_n 3, 1) := by decide +kernel
theorem dX1_heldBy_23 : decode cX1_heldBy 23 = .ok (.ishl, 1) := by decide +kernel
theorem dX1_heldBy_24 : decode cX1_heldBy 24 = .ok (.ior, 1) := by decide +kernel
theorem dX1_heldBy_25 : decode cX1_heldBy 25 = .ok (.istore_n 2, 1) := by decide +kernel
theorem dX1_heldBy_26 : decode cX1_heldBy 26 = .ok (.iinc 3 1, 3) := by decide +kernel
theorem dX1_heldBy_29 : decode cX1_heldBy 29 = .ok (.goto (-25), 3) := by decide +kernel
theorem dX1_heldBy_32 : decode cX1_heldBy 32 = .ok (.iload_n 2, 1) := by decide +kernel
theorem dX1_heldBy_33 : decode cX1_heldBy 33 = .ok (.ireturn, 1) := by decide +kernel
theorem dX1_lowestHeldBy_0 : decode cX1_lowestHeldBy 0 = .ok (.iconst 0, 1) := by decide +kernel
theorem dX1_lowestHeldBy_1 : decode cX1_lowestHeldBy 1 = .ok (.istore_n 2, 1) := by decide +kernel
theorem dX1_lowestHeldBy_2 : decode cX1_lowestHeldBy 2 = .ok (.iload_n 2, 1) := by decide +kernel
theorem dX1_lowestHeldBy_3 : decode cX1_lowestHeldBy 3 = .ok (.bipush 6, 2) := by decide +kernel
theorem dX1_lowestHeldBy_5 : decode cX1_lowestHeldBy 5 = .ok (.if_icmp .ge 21, 3) := by decide +kernel
theorem dX1_lowestHeldBy_8 : decode cX1_lowestHeldBy 8 = .ok (.aload_n 0, 1) := by decide +kernel
theorem dX1_lowestHeldBy_9 : decode cX1_lowestHeldBy 9 = .ok (.getfield 9, 3) := by decide +kernel
theorem dX1_lowestHeldBy_12 : decode cX1_lowestHeldBy 12 = .ok (.iload_n 2, 1) := by decide +kernel
theorem dX1_lowestHeldBy_13 : decode cX1_lowestHeldBy 13 = .ok (.iaload, 1) := by decide +kernel
theorem dX1_lowestHeldBy_14 : decode cX1_lowestHeldBy 14 = .ok (.iload_n 1, 1) := by decide +kernel
theorem dX1_lowestHeldBy_15 : decode cX1_lowestHeldBy 15 = .ok (.if_icmp .ne 5, 3) := by decide +kernel
theorem dX1_lowestHeldBy_18 : decode cX1_lowestHeldBy 18 = .ok (.iload_n 2, 1) := by decide +kernel
theorem dX1_lowestHeldBy_19 : decode cX1_lowestHeldBy 19 = .ok (.ireturn, 1) := by decide +kernel
theorem dX1_lowestHeldBy_20 : decode cX1_lowestHeldBy 20 = .ok (.iinc 2 1, 3) := by decide +kernel
theorem dX1_lowestHeldBy_23 : decode cX1_lowestHeldBy 23 = .ok (.goto (-21), 3) := by decide +kernel
theorem dX1_lowestHeldBy_26 : decode cX1_lowestHeldBy 26 = .ok (.iconst (-1), 1) := by decide +kernel
theorem dX1_lowestHeldBy_27 : decode cX1_lowestHeldBy 27 = .ok (.ireturn, 1) := by decide +kernel
theorem dX1_waiter_0 : decode cX1_waiter 0 = .ok (.iload_n 2, 1) := by decide +kernel
theorem dX1_waiter_1 : decode cX1_waiter 1 = .ok (.aload_n 0, 1) := by decide +kernel
theorem dX1_waiter_2 : decode cX1_waiter 2 = .ok (.getfield 18, 3) := by decide +kernel
theorem dX1_waiter_5 : decode cX1_waiter 5 = .ok (.iload_n 1, 1) := by decide +kernel
theorem dX1_waiter_6 : decode cX1_waiter 6 = .ok (.iaload, 1) := by decide +kernel
theorem dX1_waiter_7 : decode cX1_waiter 7 = .ok (.if_icmp .ge 17, 3) := by decide +kernel
theorem dX1_waiter_10 : decode cX1_waiter 10 = .ok (.aload_n 0, 1) := by decide +kernel
theorem dX1_waiter_11 : decode cX1_waiter 11 = .ok (.getfield 15, 3) := by decide +kernel
theorem dX1_waiter_14 : decode cX1_waiter 14 = .ok (.iload_n 1, 1) := by decide +kernel
theorem dX1_waiter_15 : decode cX1_waiter 15 = .ok (.bipush 10, 2) := by decide +kernel
theorem dX1_waiter_17 : decode cX1_waiter 17 = .ok (.imul, 1) := by decide +kernel
theorem dX1_waiter_18 : decode cX1_waiter 18 = .ok (.iload_n 2, 1) := by decide +kernel
theorem dX1_waiter_19 : decode cX1_waiter 19 = .ok (.iadd, 1) := by decide +kernel
theorem dX1_waiter_20 : decode cX1_waiter 20 = .ok (.iaload, 1) := by decide +kernel
theorem dX1_waiter_21 : decode cX1_waiter 21 = .ok (.goto 4, 3) := by decide +kernel
theorem dX1_waiter_24 : decode cX1_waiter 24 = .ok (.iconst (-1), 1) := by decide +kernel
theorem dX1_waiter_25 : decode cX1_waiter 25 = .ok (.ireturn, 1) := by decide +kernel
theorem dX1_addWaiter_0 : decode cX1_addWaiter 0 = .ok (.aload_n 0, 1) := by decide +kernel
theorem dX1_addWaiter_1 : decode cX1_addWaiter 1 = .ok (.getfield 18, 3) := by decide +kernel
theorem dX1_addWaiter_4 : decode cX1_addWaiter 4 = .ok (.iload_n 1, 1) := by decide +kernel
theorem dX1_addWaiter_5 : decode cX1_addWaiter 5 = .ok (.iaload, 1) := by decide +kernel
theorem dX1_addWaiter_6 : decode cX1_addWaiter 6 = .ok (.bipush 10, 2) := by decide +kernel
theorem dX1_addWaiter_8 : decode cX1_addWaiter 8 = .ok (.if_icmp .ge 30, 3) := by decide +kernel
theorem dX1_addWaiter_11 : decode cX1_addWaiter 11 = .ok (.aload_n 0, 1) := by decide +kernel
theorem dX1_addWaiter_12 : decode cX1_addWaiter 12 = .ok (.getfield 15, 3) := by decide +kernel
theorem dX1_addWaiter_15 : decode cX1_addWaiter 15 = .ok (.iload_n 1, 1) := by decide +kernel
theorem dX1_addWaiter_16 : decode cX1_addWaiter 16 = .ok (.bipush 10, 2) := by decide +kernel
theorem dX1_addWaiter_18 : decode cX1_addWaiter 18 = .ok (.imul, 1) := by decide +kernel
theorem dX1_addWaiter_19 : decode cX1_addWaiter 19 = .ok (.aload_n 0, 1) := by decide +kernel
theorem dX1_addWaiter_20 : decode cX1_addWaiter 20 = .ok (.getfield 18, 3) := by decide +kernel
theorem dX1_addWaiter_23 : decode cX1_addWaiter 23 = .ok (.iload_n 1, 1) := by decide +kernel
theorem dX1_addWaiter_24 : decode cX1_addWaiter 24 = .ok (.iaload, 1) := by decide +kernel
theorem dX1_addWaiter_25 : decode cX1_addWaiter 25 = .ok (.iadd, 1) := by decide +kernel
theorem dX1_addWaiter_26 : decode cX1_addWaiter 26 = .ok (.iload_n 2, 1) := by decide +kernel
theorem dX1_addWaiter_27 : decode cX1_addWaiter 27 = .ok (.iastore, 1) := by decide +kernel
theorem dX1_addWaiter_28 : decode cX1_addWaiter 28 = .ok (.aload_n 0, 1) := by decide +kernel
theorem dX1_addWaiter_29 : decode cX1_addWaiter 29 = .ok (.getfield 18, 3) := by decide +kernel
theorem dX1_addWaiter_32 : decode cX1_addWaiter 32 = .ok (.iload_n 1, 1) := by decide +kernel
theorem dX1_addWaiter_33 : decode cX1_addWaiter 33 = .ok (.dup2, 1) := by decide +kernel
theorem dX1_addWaiter_34 : decode cX1_addWaiter 34 = .ok (.iaload, 1) := by decide +kernel
theorem dX1_addWaiter_35 : decode cX1_addWaiter 35 = .ok (.iconst 1, 1) := by decide +kernel
theorem dX1_addWaiter_36 : decode cX1_addWaiter 36 = .ok (.iadd, 1) := by decide +kernel
theorem dX1_addWaiter_37 : decode cX1_addWaiter 37 = .ok (.iastore, 1) := by decide +kernel
theorem dX1_addWaiter_38 : decode cX1_addWaiter 38 = .ok (.return_, 1) := by decide +kernel
theorem dX1_removeWaiter_0 : decode cX1_removeWaiter 0 = .ok (.iload_n 1, 1) := by decide +kernel
theorem dX1_removeWaiter_1 : decode cX1_removeWaiter 1 = .ok (.bipush 10, 2) := by decide +kernel
theorem dX1_removeWaiter_3 : decode cX1_removeWaiter 3 = .ok (.imul, 1) := by decide +kernel
theorem dX1_removeWaiter_4 : decode cX1_removeWaiter 4 = .ok (.istore_n 3, 1) := by decide +kernel
theorem dX1_removeWaiter_5 : decode cX1_removeWaiter 5 = .ok (.iconst 0, 1) := by decide +kernel
theorem dX1_removeWaiter_6 : decode cX1_removeWaiter 6 = .ok (.istore 4, 2) := by decide +kernel
theorem dX1_removeWaiter_8 : decode cX1_removeWaiter 8 = .ok (.iconst 0, 1) := by decide +kernel
theorem dX1_removeWaiter_9 : decode cX1_removeWaiter 9 = .ok (.istore 5, 2) := by decide +kernel
theorem dX1_removeWaiter_11 : decode cX1_removeWaiter 11 = .ok (.iload 5, 2) := by decide +kernel
theorem dX1_removeWaiter_13 : decode cX1_removeWaiter 13 = .ok (.aload_n 0, 1) := by decide +kernel
theorem dX1_removeWaiter_14 : decode cX1_removeWaiter 14 = .ok (.getfield 18, 3) := by decide +kernel
theorem dX1_removeWaiter_17 : decode cX1_removeWaiter 17 = .ok (.iload_n 1, 1) := by decide +kernel
theorem dX1_removeWaiter_18 : decode cX1_removeWaiter 18 = .ok (.iaload, 1) := by decide +kernel
theorem dX1_removeWaiter_19 : decode cX1_removeWaiter 19 = .ok (.if_icmp .ge 40, 3) := by decide +kernel
theorem dX1_removeWaiter_22 : decode cX1_removeWaiter 22 = .ok (.aload_n 0, 1) := by decide +kernel
theorem dX1_removeWaiter_23 : decode cX1_removeWaiter 23 = .ok (.getfield 15, 3) := by decide +kernel
theorem dX1_removeWaiter_26 : decode cX1_removeWaiter 26 = .ok (.iload_n 3, 1) := by decide +kernel
theorem dX1_removeWaiter_27 : decode cX1_removeWaiter 27 = .ok (.iload 5, 2) := by decide +kernel
theorem dX1_removeWaiter_29 : decode cX1_removeWaiter 29 = .ok (.iadd, 1) := by decide +kernel
theorem dX1_removeWaiter_30 : decode cX1_removeWaiter 30 = .ok (.iaload, 1) := by decide +kernel
theorem dX1_removeWaiter_31 : decode cX1_removeWaiter 31 = .ok (.istore 6, 2) := by decide +kernel
theorem dX1_removeWaiter_33 : decode cX1_removeWaiter 33 = .ok (.iload 6, 2) := by decide +kernel
theorem dX1_removeWaiter_35 : decode cX1_removeWaiter 35 = .ok (.iload_n 2, 1) := by decide +kernel
theorem dX1_removeWaiter_36 : decode cX1_removeWaiter 36 = .ok (.if_icmp .eq 17, 3) := by decide +kernel
theorem dX1_removeWaiter_39 : decode cX1_removeWaiter 39 = .ok (.aload_n 0, 1) := by decide +kernel
theorem dX1_removeWaiter_40 : decode cX1_removeWaiter 40 = .ok (.getfield 15, 3) := by decide +kernel
theorem dX1_removeWaiter_43 : decode cX1_removeWaiter 43 = .ok (.iload_n 3, 1) := by decide +kernel
theorem dX1_removeWaiter_44 : decode cX1_removeWaiter 44 = .ok (.iload 4, 2) := by decide +kernel
theorem dX1_removeWaiter_46 : decode cX1_removeWaiter 46 = .ok (.iadd, 1) := by decide +kernel
theorem dX1_removeWaiter_47 : decode cX1_removeWaiter 47 = .ok (.iload 6, 2) := by decide +kernel
theorem dX1_removeWaiter_49 : decode cX1_removeWaiter 49 = .ok (.iastore, 1) := by decide +kernel
theorem dX1_removeWaiter_50 : decode cX1_removeWaiter 50 = .ok (.iinc 4 1, 3) := by decide +kernel
theorem dX1_removeWaiter_53 : decode cX1_removeWaiter 53 = .ok (.iinc 5 1, 3) := by decide +kernel
theorem dX1_removeWaiter_56 : decode cX1_removeWaiter 56 = .ok (.goto (-45), 3) := by decide +kernel
theorem dX1_removeWaiter_59 : decode cX1_removeWaiter 59 = .ok (.aload_n 0, 1) := by decide +kernel
theorem dX1_removeWaiter_60 : decode cX1_removeWaiter 60 = .ok (.getfield 18, 3) := by decide +kernel
theorem dX1_removeWaiter_63 : decode cX1_removeWaiter 63 = .ok (.iload_n 1, 1) := by decide +kernel
theorem dX1_removeWaiter_64 : decode cX1_removeWaiter 64 = .ok (.iload 4, 2) := by decide +kernel
theorem dX1_removeWaiter_66 : decode cX1_removeWaiter 66 = .ok (.iastore, 1) := by decide +kernel
theorem dX1_removeWaiter_67 : decode cX1_removeWaiter 67 = .ok (.return_, 1) := by decide +kernel
theorem dX2_init_0 : decode cX2_init 0 = .ok (.aload_n 0, 1) := by decide +kernel
theorem dX2_init_1 : decode cX2_init 1 = .ok (.invokespecial 3, 3) := by decide +kernel
theorem dX2_init_4 : decode cX2_init 4 = .ok (.aload_n 0, 1) := by decide +kernel
theorem dX2_init_5 : decode cX2_init 5 = .ok (.sipush 160, 3) := by decide +kernel
theorem dX2_init_8 : decode cX2_init 8 = .ok (.newarray .int, 2) := by decide +kernel
theorem dX2_init_10 : decode cX2_init 10 = .ok (.putfield 11, 3) := by decide +kernel
theorem dX2_init_13 : decode cX2_init 13 = .ok (.return_, 1) := by decide +kernel
theorem dX2_clear_0 : decode cX2_clear 0 = .ok (.aload_n 0, 1) := by decide +kernel
theorem dX2_clear_1 : decode cX2_clear 1 = .ok (.iconst 0, 1) := by decide +kernel
theorem dX2_clear_2 : decode cX2_clear 2 = .ok (.putfield 15, 3) := by decide +kernel
theorem dX2_clear_5 : decode cX2_clear 5 = .ok (.aload_n 0, 1) := by decide +kernel
theorem dX2_clear_6 : decode cX2_clear 6 = .ok (.iconst 0, 1) := by decide +kernel
theorem dX2_clear_7 : decode cX2_clear 7 = .ok (.putfield 19, 3) := by decide +kernel
theorem dX2_clear_10 : decode cX2_clear 10 = .ok (.aload_n 0, 1) := by decide +kernel
theorem dX2_clear_11 : decode cX2_clear 11 = .ok (.iconst 0, 1) := by decide +kernel
theorem dX2_clear_12 : decode cX2_clear 12 = .ok (.putfield 22, 3) := by decide +kernel
theorem dX2_clear_15 : decode cX2_clear 15 = .ok (.return_, 1) := by decide +kernel
theorem dX2_copyFrom_0 : decode cX2_copyFrom 0 = .ok (.aload_n 1, 1) := by decide +kernel
theorem dX2_copyFrom_1 : decode cX2_copyFrom 1 = .ok (.getfield 11, 3) := by decide +kernel
theorem dX2_copyFrom_4 : decode cX2_copyFrom 4 = .ok (.iconst 0, 1) := by decide +kernel
theorem dX2_copyFrom_5 : decode cX2_copyFrom 5 = .ok (.aload_n 0, 1) := by decide +kernel
theorem dX2_copyFrom_6 : decode cX2_copyFrom 6 = .ok (.getfield 11, 3) := by decide +kernel
theorem dX2_copyFrom_9 : decode cX2_copyFrom 9 = .ok (.iconst 0, 1) := by decide +kernel
theorem dX2_copyFrom_10 : decode cX2_copyFrom 10 = .ok (.sipush 160, 3) := by decide +kernel
theorem dX2_copyFrom_13 : decode cX2_copyFrom 13 = .ok (.invokestatic 25, 3) := by decide +kernel
theorem dX2_copyFrom_16 : decode cX2_copyFrom 16 = .ok (.aload_n 0, 1) := by decide +kernel
theorem dX2_copyFrom_17 : decode cX2_copyFrom 17 = .ok (.aload_n 1, 1) := by decide +kernel
theorem dX2_copyFrom_18 : decode cX2_copyFrom 18 = .ok (.getfield 15, 3) := by decide +kernel
theorem dX2_copyFrom_21 : decode cX2_copyFrom 21 = .ok (.putfield 15, 3) := by decide +kernel
theorem dX2_copyFrom_24 : decode cX2_copyFrom 24 = .ok (.aload_n 0, 1) := by decide +kernel
theorem dX2_copyFrom_25 : decode cX2_copyFrom 25 = .ok (.aload_n 1, 1) := by decide +kernel
theorem dX2_copyFrom_26 : decode cX2_copyFrom 26 = .ok (.getfield 19, 3) := by decide +kernel
theorem dX2_copyFrom_29 : decode cX2_copyFrom 29 = .ok (.putfield 19, 3) := by decide +kernel
theorem dX2_copyFrom_32 : decode cX2_copyFrom 32 = .ok (.aload_n 0, 1) := by decide +kernel
theorem dX2_copyFrom_33 : decode cX2_copyFrom 33 = .ok (.aload_n 1, 1) := by decide +kernel
theorem dX2_copyFrom_34 : decode cX2_copyFrom 34 = .ok (.getfield 22, 3) := by decide +kernel
theorem dX2_copyFrom_37 : decode cX2_copyFrom 37 = .ok (.putfield 22, 3) := by decide +kernel
theorem dX2_copyFrom_40 : decode cX2_copyFrom 40 = .ok (.return_, 1) := by decide +kernel
theorem dX2_add_0 : decode cX2_add 0 = .ok (.aload_n 0, 1) := by decide +kernel
theorem dX2_add_1 : decode cX2_add 1 = .ok (.getfield 15, 3) := by decide +kernel
theorem dX2_add_4 : decode cX2_add 4 = .ok (.iconst 4, 1) := by decide +kernel
theorem dX2_add_5 : decode cX2_add 5 = .ok (.imul, 1) := by decide +kernel
theorem dX2_add_6 : decode cX2_add 6 = .ok (.istore 5, 2) := by decide +kernel
theorem dX2_add_8 : decode cX2_add 8 = .ok (.aload_n 0, 1) := by decide +kernel
theorem dX2_add_9 : decode cX2_add 9 = .ok (.getfield 11, 3) := by decide +kernel
theorem dX2_add_12 : decode cX2_add 12 = .ok (.iload 5, 2) := by decide +kernel
theorem dX2_add_14 : decode cX2_add 14 = .ok (.iload_n 1, 1) := by decide +kernel
theorem dX2_add_15 : decode cX2_add 15 = .ok (.iastore, 1) := by decide +kernel
theorem dX2_add_16 : decode cX2_add 16 = .ok (.aload_n 0, 1) := by decide +kernel
theorem dX2_add_17 : decode cX2_add 17 = .ok (.getfield 11, 3) := by decide +kernel
theorem dX2_add_20 : decode cX2_add 20 = .ok (.iload 5, 2) := by decide +kernel
theorem dX2_add_22 : decode cX2_add 22 = .ok (.iconst 1, 1) := by decide +kernel
theorem dX2_add_23 : decode cX2_add 23 = .ok (.iadd, 1) := by decide +kernel
theorem dX2_add_24 : decode cX2_add 24 = .ok (.iload_n 2, 1) := by decide +kernel
theorem dX2_add_25 : decode cX2_add 25 = .ok (.iastore, 1) := by decide +kernel
theorem dX2_add_26 : decode cX2_add 26 = .ok (.aload_n 0, 1) := by decide +kernel
theorem dX2_add_27 : decode cX2_add 27 = .ok (.getfield 11, 3) := by decide +kernel
theorem dX2_add_30 : decode cX2_add 30 = .ok (.iload 5, 2) := by decide +kernel
theorem dX2_add_32 : decode cX2_add 32 = .ok (.iconst 2, 1) := by decide +kernel
theorem dX2_add_33 : decode cX2_add 33 = .ok (.iadd, 1) := by decide +kernel
theorem dX2_add_34 : decode cX2_add 34 = .ok (.iload_n 3, 1) := by decide +kernel
theorem dX2_add_35 : decode cX2_add 35 = .ok (.iastore, 1) := by decide +kernel
theorem dX2_add_36 : decode cX2_add 36 = .ok (.aload_n 0, 1) := by decide +kernel
theorem dX2_add_37 : decode cX2_add 37 = .ok (.getfield 11, 3) := by decide +kernel
theorem dX2_add_40 : decode cX2_add 40 = .ok (.iload 5, 2) := by decide +kernel
theorem dX2_add_42 : decode cX2_add 42 = .ok (.iconst 3, 1) := by decide +kernel
theorem dX2_add_43 : decode cX2_add 43 = .ok (.iadd, 1) := by decide +kernel
theorem dX2_add_44 : decode cX2_add 44 = .ok (.iload 4, 2) := by decide +kernel
theorem dX2_add_46 : decode cX2_add 46 = .ok (.iastore, 1) := by decide +kernel
theorem dX2_add_47 : decode cX2_add 47 = .ok (.aload_n 0, 1) := by decide +kernel
theorem dX2_add_48 : decode cX2_add 48 = .ok (.aload_n 0, 1) := by decide +kernel
theorem dX2_add_49 : decode cX2_add 49 = .ok (.getfield 15, 3) := by decide +kernel
theorem dX2_add_52 : decode cX2_add 52 = .ok (.iconst 1, 1) := by decide +kernel
theorem dX2_add_53 : decode cX2_add 53 = .ok (.iadd, 1) := by decide +kernel
theorem dX2_add_54 : decode cX2_add 54 = .ok (.bipush 40, 2) := by decide +kernel
theorem dX2_add_56 : decode cX2_add 56 = .ok (.irem, 1) := by decide +kernel
theorem dX2_add_57 : decode cX2_add 57 = .ok (.putfield 15, 3) := by decide +kernel
theorem dX2_add_60 : decode cX2_add 60 = .ok (.aload_n 0, 1) := by decide +kernel
theorem dX2_add_61 : decode cX2_add 61 = .ok (.getfield 19, 3) := by decide +kernel
theorem dX2_add_64 : decode cX2_add 64 = .ok (.bipush 40, 2) := by decide +kernel
theorem dX2_add_66 : decode cX2_add 66 = .ok (.if_icmp .ge 13, 3) := by decide +kernel
theorem dX2_add_69 : decode cX2_add 69 = .ok (.aload_n 0, 1) := by decide +kernel
theorem dX2_add_70 : decode cX2_add 70 = .ok (.dup, 1) := by decide +kernel
theorem dX2_add_71 : decode cX2_add 71 = .ok (.getfield 19, 3) := by decide +kernel
theorem dX2_add_74 : decode cX2_add 74 = .ok (.iconst 1, 1) := by decide +kernel
theorem dX2_add_75 : decode cX2_add 75 = .ok (.iadd, 1) := by decide +kernel
theorem dX2_add_76 : decode cX2_add 76 = .ok (.putfield 19, 3) := by decide +kernel
theorem dX2_add_79 : decode cX2_add 79 = .ok (.aload_n 0, 1) := by decide +kernel
theorem dX2_add_80 : decode cX2_add 80 = .ok (.dup, 1) := by decide +kernel
theorem dX2_add_81 : decode cX2_add 81 = .ok (.getfield 22, 3) := by decide +kernel
theorem dX2_add_84 : decode cX2_add 84 = .ok (.iconst 1, 1) := by decide +kernel
theorem dX2_add_85 : decode cX2_add 85 = .ok (.iadd, 1) := by decide +kernel
theorem dX2_add_86 : decode cX2_add 86 = .ok (.putfield 22, 3) := by decide +kernel
theorem dX2_add_89 : decode cX2_add 89 = .ok (.return_, 1) := by decide +kernel
theorem dX2_cell_0 : decode cX2_cell 0 = .ok (.aload_n 0, 1) := by decide +kernel
theorem dX2_cell_1 : decode cX2_cell 1 = .ok (.getfield 11, 3) := by decide +kernel
theorem dX2_cell_4 : decode cX2_cell 4 = .ok (.aload_n 0, 1) := by decide +kernel
theorem dX2_cell_5 : decode cX2_cell 5 = .ok (.getfield 15, 3) := by decide +kernel
theorem dX2_cell_8 : decode cX2_cell 8 = .ok (.bipush 40, 2) := by decide +kernel
theorem dX2_cell_10 : decode cX2_cell 10 = .ok (.iadd, 1) := by decide +kernel
theorem dX2_cell_11 : decode cX2_cell 11 = .ok (.aload_n 0, 1) := by decide +kernel
theorem dX2_cell_12 : decode cX2_cell 12 = .ok (.getfield 19, 3) := by decide +kernel
theorem dX2_cell_15 : decode cX2_cell 15 = .ok (.isub, 1) := by decide +kernel
theorem dX2_cell_16 : decode cX2_cell 16 = .ok (.iload_n 1, 1) := by decide +kernel
theorem dX2_cell_17 : decode cX2_cell 17 = .ok (.iadd, 1) := by decide +kernel
theorem dX2_cell_18 : decode cX2_cell 18 = .ok (.bipush 40, 2) := by decide +kernel
theorem dX2_cell_20 : decode cX2_cell 20 = .ok (.irem, 1) := by decide +kernel
theorem dX2_cell_21 : decode cX2_cell 21 = .ok (.iconst 4, 1) := by decide +kernel
theorem dX2_cell_22 : decode cX2_cell 22 = .ok (.imul, 1) := by decide +kernel
theorem dX2_cell_23 : decode cX2_cell 23 = .ok (.iload_n 2, 1) := by decide +kernel
theorem dX2_cell_24 : decode cX2_cell 24 = .ok (.iadd, 1) := by decide +kernel
theorem dX2_cell_25 : decode cX2_cell 25 = .ok (.iaload, 1) := by decide +kernel
theorem dX2_cell_26 : decode cX2_cell 26 = .ok (.ireturn, 1) := by decide +kernel
theorem dX2_countOf_0 : decode cX2_countOf 0 = .ok (.iconst 0, 1) := by decide +kernel
theorem dX2_countOf_1 : decode cX2_countOf 1 = .ok (.istore_n 3, 1) := by decide +kernel
theorem dX2_countOf_2 : decode cX2_countOf 2 = .ok (.iconst 0, 1) := by decide +kernel
theorem dX2_countOf_3 : decode cX2_countOf 3 = .ok (.istore 4, 2) := by decide +kernel
theorem dX2_countOf_5 : decode cX2_countOf 5 = .ok (.iload 4, 2) := by decide +kernel
theorem dX2_countOf_7 : decode cX2_countOf 7 = .ok (.aload_n 0, 1) := by decide +kernel
theorem dX2_countOf_8 : decode cX2_countOf 8 = .ok (.getfield 19, 3) := by decide +kernel
theorem dX2_countOf_11 : decode cX2_countOf 11 = .ok (.if_icmp .ge 39, 3) := by decide +kernel
theorem dX2_countOf_14 : decode cX2_countOf 14 = .ok (.aload_n 0, 1) := by decide +kernel
theorem dX2_countOf_15 : decode cX2_countOf 15 = .ok (.iload 4, 2) := by decide +kernel
theorem dX2_countOf_17 : decode cX2_countOf 17 = .ok (.iconst 1, 1) := by decide +kernel
theorem dX2_countOf_18 : decode cX2_countOf 18 = .ok (.invokevirtual 31, 3) := by decide +kernel
theorem dX2_countOf_21 : decode cX2_countOf 21 = .ok (.iload_n 1, 1) := by decide +kernel
theorem dX2_countOf_22 : decode cX2_countOf 22 = .ok (.if_icmp .ne 22, 3) := by decide +kernel
theorem dX2_countOf_25 : decode cX2_countOf 25 = .ok (.iload_n 2, 1) := by decide +kernel
theorem dX2_countOf_26 : decode cX2_countOf 26 = .ok (.iconst (-1), 1) := by decide +kernel
theorem dX2_countOf_27 : decode cX2_countOf 27 = .ok (.if_icmp .eq 14, 3) := by decide +kernel
theorem dX2_countOf_30 : decode cX2_countOf 30 = .ok (.aload_n 0, 1) := by decide +kernel
theorem dX2_countOf_31 : decode cX2_countOf 31 = .ok (.iload 4, 2) := by decide +kernel
theorem dX2_countOf_33 : decode cX2_countOf 33 = .ok (.iconst 2, 1) := by decide +kernel
theorem dX2_countOf_34 : decode cX2_countOf 34 = .ok (.invokevirtual 31, 3) := by decide +kernel
theorem dX2_countOf_37 : decode cX2_countOf 37 = .ok (.iload_n 2, 1) := by decide +kernel
theorem dX2_countOf_38 : decode cX2_countOf 38 = .ok (.if_icmp .ne 6, 3) := by decide +kernel
theorem dX2_countOf_41 : decode cX2_countOf 41 = .ok (.iinc 3 1, 3) := by decide +kernel
theorem dX2_countOf_44 : decode cX2_countOf 44 = .ok (.iinc 4 1, 3) := by decide +kernel
theorem dX2_countOf_47 : decode cX2_countOf 47 = .ok (.goto (-42), 3) := by decide +kernel
theorem dX2_countOf_50 : decode cX2_countOf 50 = .ok (.iload_n 3, 1) := by decide +kernel
theorem dX2_countOf_51 : decode cX2_countOf 51 = .ok (.ireturn, 1) := by decide +kernel
theorem dX3_init_0 : decode cX3_init 0 = .ok (.aload_n 0, 1) := by decide +kernel
theorem dX3_init_1 : decode cX3_init 1 = .ok (.invokespecial 3, 3) := by decide +kernel
theorem dX3_init_4 : decode cX3_init 4 = .ok (.aload_n 0, 1) := by decide +kernel
theorem dX3_init_5 : decode cX3_init 5 = .ok (.bipush 10, 2) := by decide +kernel
theorem dX3_init_7 : decode cX3_init 7 = .ok (.anewarray 9, 3) := by decide +kernel
theorem dX3_init_10 : decode cX3_init 10 = .ok (.putfield 11, 3) := by decide +kernel
theorem dX3_init_13 : decode cX3_init 13 = .ok (.aload_n 0, 1) := by decide +kernel
theorem dX3_init_14 : decode cX3_init 14 = .ok (.new 17, 3) := by decide +kernel
theorem dX3_init_17 : decode cX3_init 17 = .ok (.dup, 1) := by decide +kernel
theorem dX3_init_18 : decode cX3_init 18 = .ok (.invokespecial 19, 3) := by decide +kernel
theorem dX3_init_21 : decode cX3_init 21 = .ok (.putfield 20, 3) := by decide +kernel
theorem dX3_init_24 : decode cX3_init 24 = .ok (.aload_n 0, 1) := by decide +kernel
theorem dX3_init_25 : decode cX3_init 25 = .ok (.new 24, 3) := by decide +kernel
theorem dX3_init_28 : decode cX3_init 28 = .ok (.dup, 1) := by decide +kernel
theorem dX3_init_29 : decode cX3_init 29 = .ok (.invokespecial 26, 3) := by decide +kernel
theorem dX3_init_32 : decode cX3_init 32 = .ok (.putfield 27, 3) := by decide +kernel
theorem dX3_init_35 : decode cX3_init 35 = .ok (.aload_n 0, 1) := by decide +kernel
theorem dX3_init_36 : decode cX3_init 36 = .ok (.iconst 2, 1) := by decide +kernel
theorem dX3_init_37 : decode cX3_init 37 = .ok (.newarray .int, 2) := by decide +kernel
theorem dX3_init_39 : decode cX3_init 39 = .ok (.putfield 31, 3) := by decide +kernel
theorem dX3_init_42 : decode cX3_init 42 = .ok (.aload_n 0, 1) := by decide +kernel
theorem dX3_init_43 : decode cX3_init 43 = .ok (.bipush 10, 2) := by decide +kernel
theorem dX3_init_45 : decode cX3_init 45 = .ok (.newarray .int, 2) := by decide +kernel
theorem dX3_init_47 : decode cX3_init 47 = .ok (.putfield 35, 3) := by decide +kernel
theorem dX3_init_50 : decode cX3_init 50 = .ok (.iconst 0, 1) := by decide +kernel
theorem dX3_init_51 : decode cX3_init 51 = .ok (.istore_n 1, 1) := by decide +kernel
theorem dX3_init_52 : decode cX3_init 52 = .ok (.iload_n 1, 1) := by decide +kernel
theorem dX3_init_53 : decode cX3_init 53 = .ok (.bipush 10, 2) := by decide +kernel
theorem dX3_init_55 : decode cX3_init 55 = .ok (.if_icmp .ge 22, 3) := by decide +kernel
theorem dX3_init_58 : decode cX3_init 58 = .ok (.aload_n 0, 1) := by decide +kernel
theorem dX3_init_59 : decode cX3_init 59 = .ok (.getfield 11, 3) := by decide +kernel
theorem dX3_init_62 : decode cX3_init 62 = .ok (.iload_n 1, 1) := by decide +kernel
theorem dX3_init_63 : decode cX3_init 63 = .ok (.new 9, 3) := by decide +kernel
theorem dX3_init_66 : decode cX3_init 66 = .ok (.dup, 1) := by decide +kernel
theorem dX3_init_67 : decode cX3_init 67 = .ok (.invokespecial 38, 3) := by decide +kernel
theorem dX3_init_70 : decode cX3_init 70 = .ok (.aastore, 1) := by decide +kernel
theorem dX3_init_71 : decode cX3_init 71 = .ok (.iinc 1 1, 3) := by decide +kernel
theorem dX3_init_74 : decode cX3_init 74 = .ok (.goto (-22), 3) := by decide +kernel
theorem dX3_init_77 : decode cX3_init 77 = .ok (.aload_n 0, 1) := by decide +kernel
theorem dX3_init_78 : decode cX3_init 78 = .ok (.invokevirtual 39, 3) := by decide +kernel
theorem dX3_init_81 : decode cX3_init 81 = .ok (.return_, 1) := by decide +kernel
theorem dX3_clear_0 : decode cX3_clear 0 = .ok (.aload_n 0, 1) := by decide +kernel
theorem dX3_clear_1 : decode cX3_clear 1 = .ok (.getfield 20, 3) := by decide +kernel
theorem dX3_clear_4 : decode cX3_clear 4 = .ok (.invokevirtual 42, 3) := by decide +kernel
theorem dX3_clear_7 : decode cX3_clear 7 = .ok (.aload_n 0, 1) := by decide +kernel
theorem dX3_clear_8 : decode cX3_clear 8 = .ok (.getfield 27, 3) := by decide +kernel
theorem dX3_clear_11 : decode cX3_clear 11 = .ok (.invokevirtual 43, 3) := by decide +kernel
theorem dX3_clear_14 : decode cX3_clear 14 = .ok (.aload_n 0, 1) := by decide +kernel
theorem dX3_clear_15 : decode cX3_clear 15 = .ok (.getfield 31, 3) := by decide +kernel
theorem dX3_clear_18 : decode cX3_clear 18 = .ok (.iconst 0, 1) := by decide +kernel
theorem dX3_clear_19 : decode cX3_clear 19 = .ok (.iconst 0, 1) := by decide +kernel
theorem dX3_clear_20 : decode cX3_clear 20 = .ok (.iastore, 1) := by decide +kernel
theorem dX3_clear_21 : decode cX3_clear 21 = .ok (.aload_n 0, 1) := by decide +kernel
theorem dX3_clear_22 : decode cX3_clear 22 = .ok (.getfield 31, 3) := by decide +kernel
theorem dX3_clear_25 : decode cX3_clear 25 = .ok (.iconst 1, 1) := by decide +kernel
theorem dX3_clear_26 : decode cX3_clear 26 = .ok (.iconst 1, 1) := by decide +kernel
theorem dX3_clear_27 : decode cX3_clear 27 = .ok (.iastore, 1) := by decide +kernel
theorem dX3_clear_28 : decode cX3_clear 28 = .ok (.aload_n 0, 1) := by decide +kernel
theorem dX3_clear_29 : decode cX3_clear 29 = .ok (.iconst 0, 1) := by decide +kernel
theorem dX3_clear_30 : decode cX3_clear 30 = .ok (.putfield 44, 3) := by decide +kernel
theorem dX3_clear_33 : decode cX3_clear 33 = .ok (.aload_n 0, 1) := by decide +kernel
theorem dX3_clear_34 : decode cX3_clear 34 = .ok (.iconst 0, 1) := by decide +kernel
theorem dX3_clear_35 : decode cX3_clear 35 = .ok (.putfield 48, 3) := by decide +kernel
theorem dX3_clear_38 : decode cX3_clear 38 = .ok (.aload_n 0, 1) := by decide +kernel
theorem dX3_clear_39 : decode cX3_clear 39 = .ok (.iconst 1, 1) := by decide +kernel
theorem dX3_clear_40 : decode cX3_clear 40 = .ok (.putfield 51, 3) := by decide +kernel
theorem dX3_clear_43 : decode cX3_clear 43 = .ok (.aload_n 0, 1) := by decide +kernel
theorem dX3_clear_44 : decode cX3_clear 44 = .ok (.iconst 0, 1) := by decide +kernel
theorem dX3_clear_45 : decode cX3_clear 45 = .ok (.putfield 54, 3) := by decide +kernel
theorem dX3_clear_48 : decode cX3_clear 48 = .ok (.aload_n 0, 1) := by decide +kernel
theorem dX3_clear_49 : decode cX3_clear 49 = .ok (.iconst 0, 1) := by decide +kernel
theorem dX3_clear_50 : decode cX3_clear 50 = .ok (.putfield 57, 3) := by decide +kernel
theorem dX3_clear_53 : decode cX3_clear 53 = .ok (.aload_n 0, 1) := by decide +kernel
theorem dX3_clear_54 : decode cX3_clear 54 = .ok (.iconst 0, 1) := by decide +kernel
theorem dX3_clear_55 : decode cX3_clear 55 = .ok (.putfield 60, 3) := by decide +kernel
theorem dX3_clear_58 : decode cX3_clear 58 = .ok (.aload_n 0, 1) := by decide +kernel
theorem dX3_clear_59 : decode cX3_clear 59 = .ok (.iconst 0, 1) := by decide +kernel
theorem dX3_clear_60 : decode cX3_clear 60 = .ok (.putfield 63, 3) := by decide +kernel
theorem dX3_clear_63 : decode cX3_clear 63 = .ok (.aload_n 0, 1) := by decide +kernel
theorem dX3_clear_64 : decode cX3_clear 64 = .ok (.iconst 0, 1) := by decide +kernel
theorem dX3_clear_65 : decode cX3_clear 65 = .ok (.putfield 66, 3) := by decide +kernel
theorem dX3_clear_68 : decode cX3_clear 68 = .ok (.aload_n 0, 1) := by decide +kernel
theorem dX3_clear_69 : decode cX3_clear 69 = .ok (.iconst 0, 1) := by decide +kernel
theorem dX3_clear_70 : decode cX3_clear 70 = .ok (.putfield 69, 3) := by decide +kernel
theorem dX3_clear_73 : decode cX3_clear 73 = .ok (.aload_n 0, 1) := by decide +kernel
theorem dX3_clear_74 : decode cX3_clear 74 = .ok (.iconst 1, 1) := by decide +kernel
theorem dX3_clear_75 : decode cX3_clear 75 = .ok (.putfield 72, 3) := by decide +kernel
theorem dX3_clear_78 : decode cX3_clear 78 = .ok (.aload_n 0, 1) := by decide +kernel
theorem dX3_clear_79 : decode cX3_clear 79 = .ok (.iconst 0, 1) := by decide +kernel
theorem dX3_clear_80 : decode cX3_clear 80 = .ok (.putfield 76, 3) := by decide +kernel
theorem dX3_clear_83 : decode cX3_clear 83 = .ok (.return_, 1) := by decide +kernel
theorem dX3_copyFrom_0 : decode cX3_copyFrom 0 = .ok (.iconst 0, 1) := by decide +kernel
theorem dX3_copyFrom_1 : decode cX3_copyFrom 1 = .ok (.istore_n 2, 1) := by decide +kernel
theorem dX3_copyFrom_2 : decode cX3_copyFrom 2 = .ok (.iload_n 2, 1) := by decide +kernel
theorem dX3_copyFrom_3 : decode cX3_copyFrom 3 = .ok (.aload_n 1, 1) := by decide +kernel
theorem dX3_copyFrom_4 : decode cX3_copyFrom 4 = .ok (.getfield 44, 3) := by decide +kernel
theorem dX3_copyFrom_7 : decode cX3_copyFrom 7 = .ok (.if_icmp .ge 24, 3) := by decide +kernel
theorem dX3_copyFrom_10 : decode cX3_copyFrom 10 = .ok (.aload_n 0, 1) := by decide +kernel
theorem dX3_copyFrom_11 : decode cX3_copyFrom 11 = .ok (.getfield 11, 3) := by decide +kernel
theorem dX3_copyFrom_14 : decode cX3_copyFrom 14 = .ok (.iload_n 2, 1) := by decide +kernel
theorem dX3_copyFrom_15 : decode cX3_copyFrom 15 = .ok (.aaload, 1) := by decide +kernel
theorem dX3_copyFrom_16 : decode cX3_copyFrom 16 = .ok (.aload_n 1, 1) := by decide +kernel
theorem dX3_copyFrom_17 : decode cX3_copyFrom 17 = .ok (.getfield 11, 3) := by decide +kernel
theorem dX3_copyFrom_20 : decode cX3_copyFrom 20 = .ok (.iload_n 2, 1) := by decide +kernel
theorem dX3_copyFrom_21 : decode cX3_copyFrom 21 = .ok (.aaload, 1) := by decide +kernel
theorem dX3_copyFrom_22 : decode cX3_copyFrom 22 = .ok (.invokevirtual 79, 3) := by decide +kernel
theorem dX3_copyFrom_25 : decode cX3_copyFrom 25 = .ok (.iinc 2 1, 3) := by decide +kernel
theorem dX3_copyFrom_28 : decode cX3_copyFrom 28 = .ok (.goto (-26), 3) := by decide +kernel
theorem dX3_copyFrom_31 : decode cX3_copyFrom 31 = .ok (.aload_n 0, 1) := by decide +kernel
theorem dX3_copyFrom_32 : decode cX3_copyFrom 32 = .ok (.getfield 20, 3) := by decide +kernel
theorem dX3_copyFrom_35 : decode cX3_copyFrom 35 = .ok (.aload_n 1, 1) := by decide +kernel
theorem dX3_copyFrom_36 : decode cX3_copyFrom 36 = .ok (.getfield 20, 3) := by decide +kernel
theorem dX3_copyFrom_39 : decode cX3_copyFrom 39 = .ok (.invokevirtual 83, 3) := by decide +kernel
theorem dX3_copyFrom_42 : decode cX3_copyFrom 42 = .ok (.aload_n 0, 1) := by decide +kernel
theorem dX3_copyFrom_43 : decode cX3_copyFrom 43 = .ok (.getfield 27, 3) := by decide +kernel
theorem dX3_copyFrom_46 : decode cX3_copyFrom 46 = .ok (.aload_n 1, 1) := by decide +kernel
theorem dX3_copyFrom_47 : decode cX3_copyFrom 47 = .ok (.getfield 27, 3) := by decide +kernel
theorem dX3_copyFrom_50 : decode cX3_copyFrom 50 = .ok (.invokevirtual 86, 3) := by decide +kernel
theorem dX3_copyFrom_53 : decode cX3_copyFrom 53 = .ok (.aload_n 1, 1) := by decide +kernel
theorem dX3_copyFrom_54 : decode cX3_copyFrom 54 = .ok (.getfield 31, 3) := by decide +kernel
theorem dX3_copyFrom_57 : decode cX3_copyFrom 57 = .ok (.iconst 0, 1) := by decide +kernel
theorem dX3_copyFrom_58 : decode cX3_copyFrom 58 = .ok (.aload_n 0, 1) := by decide +kernel
theorem dX3_copyFrom_59 : decode cX3_copyFrom 59 = .ok (.getfield 31, 3) := by decide +kernel
theorem dX3_copyFrom_62 : decode cX3_copyFrom 62 = .ok (.iconst 0, 1) := by decide +kernel
theorem dX3_copyFrom_63 : decode cX3_copyFrom 63 = .ok (.iconst 2, 1) := by decide +kernel
theorem dX3_copyFrom_64 : decode cX3_copyFrom 64 = .ok (.invokestatic 89, 3) := by decide +kernel
theorem dX3_copyFrom_67 : decode cX3_copyFrom 67 = .ok (.aload_n 0, 1) := by decide +kernel
theorem dX3_copyFrom_68 : decode cX3_copyFrom 68 = .ok (.aload_n 1, 1) := by decide +kernel
theorem dX3_copyFrom_69 : decode cX3_copyFrom 69 = .ok (.getfield 44, 3) := by decide +kernel
theorem dX3_copyFrom_72 : decode cX3_copyFrom 72 = .ok (.putfield 44, 3) := by decide +kernel
theorem dX3_copyFrom_75 : decode cX3_copyFrom 75 = .ok (.aload_n 0, 1) := by decide +kernel
theorem dX3_copyFrom_76 : decode cX3_copyFrom 76 = .ok (.aload_n 1, 1) := by decide +kernel
theorem dX3_copyFrom_77 : decode cX3_copyFrom 77 = .ok (.getfield 48, 3) := by decide +kernel
theorem dX3_copyFrom_80 : decode cX3_copyFrom 80 = .ok (.putfield 48, 3) := by decide +kernel
theorem dX3_copyFrom_83 : decode cX3_copyFrom 83 = .ok (.aload_n 0, 1) := by decide +kernel
theorem dX3_copyFrom_84 : decode cX3_copyFrom 84 = .ok (.aload_n 1, 1) := by decide +kernel
theorem dX3_copyFrom_85 : decode cX3_copyFrom 85 = .ok (.getfield 51, 3) := by decide +kernel
theorem dX3_copyFrom_88 : decode cX3_copyFrom 88 = .ok (.putfield 51, 3) := by decide +kernel
theorem dX3_copyFrom_91 : decode cX3_copyFrom 91 = .ok (.aload_n 0, 1) := by decide +kernel
theorem dX3_copyFrom_92 : decode cX3_copyFrom 92 = .ok (.aload_n 1, 1) := by decide +kernel
theorem dX3_copyFrom_93 : decode cX3_copyFrom 93 = .ok (.getfield 54, 3) := by decide +kernel
theorem dX3_copyFrom_96 : decode cX3_copyFrom 96 = .ok (.putfield 54, 3) := by decide +kernel
theorem dX3_copyFrom_99 : decode cX3_copyFrom 99 = .ok (.aload_n 0, 1) := by decide +kernel
theorem dX3_copyFrom_100 : decode cX3_copyFrom 100 = .ok (.aload_n 1, 1) := by decide +kernel
theorem dX3_copyFrom_101 : decode cX3_copyFrom 101 = .ok (.getfield 57, 3) := by decide +kernel
theorem dX3_copyFrom_104 : decode cX3_copyFrom 104 = .ok (.putfield 57, 3) := by decide +kernel
theorem dX3_copyFrom_107 : decode cX3_copyFrom 107 = .ok (.aload_n 0, 1) := by decide +kernel
theorem dX3_copyFrom_108 : decode cX3_copyFrom 108 = .ok (.aload_n 1, 1) := by decide +kernel
theorem dX3_copyFrom_109 : decode cX3_copyFrom 109 = .ok (.getfield 60, 3) := by decide +kernel
theorem dX3_copyFrom_112 : decode cX3_copyFrom 112 = .ok (.putfield 60, 3) := by decide +kernel
theorem dX3_copyFrom_115 : decode cX3_copyFrom 115 = .ok (.aload_n 0, 1) := by decide +kernel
theorem dX3_copyFrom_116 : decode cX3_copyFrom 116 = .ok (.aload_n 1, 1) := by decide +kernel
theorem dX3_copyFrom_117 : decode cX3_copyFrom 117 = .ok (.getfield 63, 3) := by decide +kernel
theorem dX3_copyFrom_120 : decode cX3_copyFrom 120 = .ok (.putfield 63, 3) := by decide +kernel
theorem dX3_copyFrom_123 : decode cX3_copyFrom 123 = .ok (.aload_n 0, 1) := by decide +kernel
theorem dX3_copyFrom_124 : decode cX3_copyFrom 124 = .ok (.aload_n 1, 1) := by decide +kernel
theorem dX3_copyFrom_125 : decode cX3_copyFrom 125 = .ok (.getfield 66, 3) := by decide +kernel
theorem dX3_copyFrom_128 : decode cX3_copyFrom 128 = .ok (.putfield 66, 3) := by decide +kernel
theorem dX3_copyFrom_131 : decode cX3_copyFrom 131 = .ok (.aload_n 0, 1) := by decide +kernel
theorem dX3_copyFrom_132 : decode cX3_copyFrom 132 = .ok (.aload_n 1, 1) := by decide +kernel
theorem dX3_copyFrom_133 : decode cX3_copyFrom 133 = .ok (.getfield 69, 3) := by decide +kernel
theorem dX3_copyFrom_136 : decode cX3_copyFrom 136 = .ok (.putfield 69, 3) := by decide +kernel
theorem dX3_copyFrom_139 : decode cX3_copyFrom 139 = .ok (.aload_n 0, 1) := by decide +kernel
theorem dX3_copyFrom_140 : decode cX3_copyFrom 140 = .ok (.iconst 1, 1) := by decide +kernel
theorem dX3_copyFrom_141 : decode cX3_copyFrom 141 = .ok (.putfield 72, 3) := by decide +kernel
theorem dX3_copyFrom_144 : decode cX3_copyFrom 144 = .ok (.aload_n 0, 1) := by decide +kernel
theorem dX3_copyFrom_145 : decode cX3_copyFrom 145 = .ok (.iconst 0, 1) := by decide +kernel
theorem dX3_copyFrom_146 : decode cX3_copyFrom 146 = .ok (.putfield 76, 3) := by decide +kernel
theorem dX3_copyFrom_149 : decode cX3_copyFrom 149 = .ok (.return_, 1) := by decide +kernel
theorem dX3_isFull_0 : decode cX3_isFull 0 = .ok (.aload_n 0, 1) := by decide +kernel
theorem dX3_isFull_1 : decode cX3_isFull 1 = .ok (.getfield 44, 3) := by decide +kernel
theorem dX3_isFull_4 : decode cX3_isFull 4 = .ok (.bipush 10, 2) := by decide +kernel
theorem dX3_isFull_6 : decode cX3_isFull 6 = .ok (.if_icmp .lt 7, 3) := by decide +kernel
theorem dX3_isFull_9 : decode cX3_isFull 9 = .ok (.iconst 1, 1) := by decide +kernel
theorem dX3_isFull_10 : decode cX3_isFull 10 = .ok (.goto 4, 3) := by decide +kernel
theorem dX3_isFull_13 : decode cX3_isFull 13 = .ok (.iconst 0, 1) := by decide +kernel
theorem dX3_isFull_14 : decode cX3_isFull 14 = .ok (.ireturn, 1) := by decide +kernel
theorem dX3_newThread_0 : decode cX3_newThread 0 = .ok (.aload_n 0, 1) := by decide +kernel
theorem dX3_newThread_1 : decode cX3_newThread 1 = .ok (.getfield 11, 3) := by decide +kernel
theorem dX3_newThread_4 : decode cX3_newThread 4 = .ok (.aload_n 0, 1) := by decide +kernel
theorem dX3_newThread_5 : decode cX3_newThread 5 = .ok (.getfield 44, 3) := by decide +kernel
theorem dX3_newThread_8 : decode cX3_newThread 8 = .ok (.aaload, 1) := by decide +kernel
theorem dX3_newThread_9 : decode cX3_newThread 9 = .ok (.astore_n 2, 1) := by decide +kernel
theorem dX3_newThread_10 : decode cX3_newThread 10 = .ok (.aload_n 2, 1) := by decide +kernel
theorem dX3_newThread_11 : decode cX3_newThread 11 = .ok (.iload_n 1, 1) := by decide +kernel
theorem dX3_newThread_12 : decode cX3_newThread 12 = .ok (.invokevirtual 95, 3) := by decide +kernel
theorem dX3_newThread_15 : decode cX3_newThread 15 = .ok (.aload_n 0, 1) := by decide +kernel
theorem dX3_newThread_16 : decode cX3_newThread 16 = .ok (.dup, 1) := by decide +kernel
theorem dX3_newThread_17 : decode cX3_newThread 17 = .ok (.getfield 44, 3) := by decide +kernel
theorem dX3_newThread_20 : decode cX3_newThread 20 = .ok (.iconst 1, 1) := by decide +kernel
theorem dX3_newThread_21 : decode cX3_newThread 21 = .ok (.iadd, 1) := by decide +kernel
theorem dX3_newThread_22 : decode cX3_newThread 22 = .ok (.putfield 44, 3) := by decide +kernel
theorem dX3_newThread_25 : decode cX3_newThread 25 = .ok (.aload_n 0, 1) := by decide +kernel
theorem dX3_newThread_26 : decode cX3_newThread 26 = .ok (.iconst 1, 1) := by decide +kernel
theorem dX3_newThread_27 : decode cX3_newThread 27 = .ok (.putfield 72, 3) := by decide +kernel
theorem dX3_newThread_30 : decode cX3_newThread 30 = .ok (.aload_n 2, 1) := by decide +kernel
theorem dX3_newThread_31 : decode cX3_newThread 31 = .ok (.areturn, 1) := by decide +kernel
theorem dX3_changeBase_0 : decode cX3_changeBase 0 = .ok (.aload_n 0, 1) := by decide +kernel
theorem dX3_changeBase_1 : decode cX3_changeBase 1 = .ok (.getfield 11, 3) := by decide +kernel
theorem dX3_changeBase_4 : decode cX3_changeBase 4 = .ok (.iload_n 1, 1) := by decide +kernel
theorem dX3_changeBase_5 : decode cX3_changeBase 5 = .ok (.aaload, 1) := by decide +kernel
theorem dX3_changeBase_6 : decode cX3_changeBase 6 = .ok (.iload_n 2, 1) := by decide +kernel
theorem dX3_changeBase_7 : decode cX3_changeBase 7 = .ok (.putfield 99, 3) := by decide +kernel
theorem dX3_changeBase_10 : decode cX3_changeBase 10 = .ok (.aload_n 0, 1) := by decide +kernel
theorem dX3_changeBase_11 : decode cX3_changeBase 11 = .ok (.iconst 1, 1) := by decide +kernel
theorem dX3_changeBase_12 : decode cX3_changeBase 12 = .ok (.putfield 72, 3) := by decide +kernel
theorem dX3_changeBase_15 : decode cX3_changeBase 15 = .ok (.return_, 1) := by decide +kernel
theorem dX3_changeSetting_0 : decode cX3_changeSetting 0 = .ok (.aload_n 0, 1) := by decide +kernel
theorem dX3_changeSetting_1 : decode cX3_changeSetting 1 = .ok (.getfield 31, 3) := by decide +kernel
theorem dX3_changeSetting_4 : decode cX3_changeSetting 4 = .ok (.iload_n 1, 1) := by decide +kernel
theorem dX3_changeSetting_5 : decode cX3_changeSetting 5 = .ok (.iload_n 2, 1) := by decide +kernel
theorem dX3_changeSetting_6 : decode cX3_changeSetting 6 = .ok (.iastore, 1) := by decide +kernel
theorem dX3_changeSetting_7 : decode cX3_changeSetting 7 = .ok (.aload_n 0, 1) := by decide +kernel
theorem dX3_changeSetting_8 : decode cX3_changeSetting 8 = .ok (.iconst 1, 1) := by decide +kernel
theorem dX3_changeSetting_9 : decode cX3_changeSetting 9 = .ok (.putfield 72, 3) := by decide +kernel
theorem dX3_changeSetting_12 : decode cX3_changeSetting 12 = .ok (.return_, 1) := by decide +kernel
theorem dX3_isFlagOn_0 : decode cX3_isFlagOn 0 = .ok (.aload_n 0, 1) := by decide +kernel
theorem dX3_isFlagOn_1 : decode cX3_isFlagOn 1 = .ok (.getfield 57, 3) := by decide +kernel
theorem dX3_isFlagOn_4 : decode cX3_isFlagOn 4 = .ok (.iload_n 1, 1) := by decide +kernel
theorem dX3_isFlagOn_5 : decode cX3_isFlagOn 5 = .ok (.ishr, 1) := by decide +kernel
theorem dX3_isFlagOn_6 : decode cX3_isFlagOn 6 = .ok (.iconst 1, 1) := by decide +kernel
theorem dX3_isFlagOn_7 : decode cX3_isFlagOn 7 = .ok (.iand, 1) := by decide +kernel
theorem dX3_isFlagOn_8 : decode cX3_isFlagOn 8 = .ok (.iconst 1, 1) := by decide +kernel
theorem dX3_isFlagOn_9 : decode cX3_isFlagOn 9 = .ok (.if_icmp .ne 7, 3) := by decide +kernel
theorem dX3_isFlagOn_12 : decode cX3_isFlagOn 12 = .ok (.iconst 1, 1) := by decide +kernel
theorem dX3_isFlagOn_13 : decode cX3_isFlagOn 13 = .ok (.goto 4, 3) := by decide +kernel
theorem dX3_isFlagOn_16 : decode cX3_isFlagOn 16 = .ok (.iconst 0, 1) := by decide +kernel
theorem dX3_isFlagOn_17 : decode cX3_isFlagOn 17 = .ok (.ireturn, 1) := by decide +kernel
theorem dX3_turnFlag_0 : decode cX3_turnFlag 0 = .ok (.iload_n 2, 1) := by decide +kernel
theorem dX3_turnFlag_1 : decode cX3_turnFlag 1 = .ok (.ifCond .eq 18, 3) := by decide +kernel
theorem dX3_turnFlag_4 : decode cX3_turnFlag 4 = .ok (.aload_n 0, 1) := by decide +kernel
theorem dX3_turnFlag_5 : decode cX3_turnFlag 5 = .ok (.dup, 1) := by decide +kernel
theorem dX3_turnFlag_6 : decode cX3_turnFlag 6 = .ok (.getfield 57, 3) := by decide +kernel
theorem dX3_turnFlag_9 : decode cX3_turnFlag 9 = .ok (.iconst 1, 1) := by decide +kernel
theorem dX3_turnFlag_10 : decode cX3_turnFlag 10 = .ok (.iload_n 1, 1) := by decide +kernel
theorem dX3_turnFlag_11 : decode cX3_turnFlag 11 = .ok (.ishl, 1) := by decide +kernel
theorem dX3_turnFlag_12 : decode cX3_turnFlag 12 = .ok (.ior, 1) := by decide +kernel
theorem dX3_turnFlag_13 : decode cX3_turnFlag 13 = .ok (.putfield 57, 3) := by decide +kernel
theorem dX3_turnFlag_16 : decode cX3_turnFlag 16 = .ok (.goto 17, 3) := by decide +kernel
theorem dX3_turnFlag_19 : decode cX3_turnFlag 19 = .ok (.aload_n 0, 1) := by decide +kernel
theorem dX3_turnFlag_20 : decode cX3_turnFlag 20 = .ok (.dup, 1) := by decide +kernel
theorem dX3_turnFlag_21 : decode cX3_turnFlag 21 = .ok (.getfield 57, 3) := by decide +kernel
theorem dX3_turnFlag_24 : decode cX3_turnFlag 24 = .ok (.iconst 1, 1) := by decide +kernel
theorem dX3_turnFlag_25 : decode cX3_turnFlag 25 = .ok (.iload_n 1, 1) := by decide +kernel
theorem dX3_turnFlag_26 : decode cX3_turnFlag 26 = .ok (.ishl, 1) := by decide +kernel
theorem dX3_turnFlag_27 : decode cX3_turnFlag 27 = .ok (.iconst (-1), 1) := by decide +kernel
theorem dX3_turnFlag_28 : decode cX3_turnFlag 28 = .ok (.ixor, 1) := by decide +kernel
theorem dX3_turnFlag_29 : decode cX3_turnFlag 29 = .ok (.iand, 1) := by decide +kernel
theorem dX3_turnFlag_30 : decode cX3_turnFlag 30 = .ok (.putfield 57, 3) := by decide +kernel
theorem dX3_turnFlag_33 : decode cX3_turnFlag 33 = .ok (.return_, 1) := by decide +kernel
theorem dX3_threadsIn_0 : decode cX3_threadsIn 0 = .ok (.iconst 0, 1) := by decide +kernel
theorem dX3_threadsIn_1 : decode cX3_threadsIn 1 = .ok (.istore_n 2, 1) := by decide +kernel
theorem dX3_threadsIn_2 : decode cX3_threadsIn 2 = .ok (.iconst 0, 1) := by decide +kernel
theorem dX3_threadsIn_3 : decode cX3_threadsIn 3 = .ok (.istore_n 3, 1) := by decide +kernel
theorem dX3_threadsIn_4 : decode cX3_threadsIn 4 = .ok (.iload_n 3, 1) := by decide +kernel
theorem dX3_threadsIn_5 : decode cX3_threadsIn 5 = .ok (.aload_n 0, 1) := by decide +kernel
theorem dX3_threadsIn_6 : decode cX3_threadsIn 6 = .ok (.getfield 44, 3) := by decide +kernel
theorem dX3_threadsIn_9 : decode cX3_threadsIn 9 = .ok (.if_icmp .ge 25, 3) := by decide +kernel
theorem dX3_threadsIn_12 : decode cX3_threadsIn 12 = .ok (.aload_n 0, 1) := by decide +kernel
theorem dX3_threadsIn_13 : decode cX3_threadsIn 13 = .ok (.getfield 11, 3) := by decide +kernel
theorem dX3_threadsIn_16 : decode cX3_threadsIn 16 = .ok (.iload_n 3, 1) := by decide +kernel
theorem dX3_threadsIn_17 : decode cX3_threadsIn 17 = .ok (.aaload, 1) := by decide +kernel
theorem dX3_threadsIn_18 : decode cX3_threadsIn 18 = .ok (.getfield 102, 3) := by decide +kernel
theorem dX3_threadsIn_21 : decode cX3_threadsIn 21 = .ok (.iload_n 1, 1) := by decide +kernel
theorem dX3_threadsIn_22 : decode cX3_threadsIn 22 = .ok (.if_icmp .ne 6, 3) := by decide +kernel
theorem dX3_threadsIn_25 : decode cX3_threadsIn 25 = .ok (.iinc 2 1, 3) := by decide +kernel
theorem dX3_threadsIn_28 : decode cX3_threadsIn 28 = .ok (.iinc 3 1, 3) := by decide +kernel
theorem dX3_threadsIn_31 : decode cX3_threadsIn 31 = .ok (.goto (-27), 3) := by decide +kernel
theorem dX3_threadsIn_34 : decode cX3_threadsIn 34 = .ok (.iload_n 2, 1) := by decide +kernel
theorem dX3_threadsIn_35 : decode cX3_threadsIn 35 = .ok (.ireturn, 1) := by decide +kernel
theorem dX3_allReturns_0 : decode cX3_allReturns 0 = .ok (.iconst 0, 1) := by decide +kernel
theorem dX3_allReturns_1 : decode cX3_allReturns 1 = .ok (.istore_n 1, 1) := by decide +kernel
theorem dX3_allReturns_2 : decode cX3_allReturns 2 = .ok (.iconst 0, 1) := by decide +kernel
theorem dX3_allReturns_3 : decode cX3_allReturns 3 = .ok (.istore_n 2, 1) := by decide +kernel
theorem dX3_allReturns_4 : decode cX3_allReturns 4 = .ok (.iload_n 2, 1) := by decide +kernel
theorem dX3_allReturns_5 : decode cX3_allReturns 5 = .ok (.aload_n 0, 1) := by decide +kernel
theorem dX3_allReturns_6 : decode cX3_allReturns 6 = .ok (.getfield 44, 3) := by decide +kernel
theorem dX3_allReturns_9 : decode cX3_allReturns 9 = .ok (.if_icmp .ge 21, 3) := by decide +kernel
theorem dX3_allReturns_12 : decode cX3_allReturns 12 = .ok (.iload_n 1, 1) := by decide +kernel
theorem dX3_allReturns_13 : decode cX3_allReturns 13 = .ok (.aload_n 0, 1) := by decide +kernel
theorem dX3_allReturns_14 : decode cX3_allReturns 14 = .ok (.getfield 11, 3) := by decide +kernel
theorem dX3_allReturns_17 : decode cX3_allReturns 17 = .ok (.iload_n 2, 1) := by decide +kernel
theorem dX3_allReturns_18 : decode cX3_allReturns 18 = .ok (.aaload, 1) := by decide +kernel
theorem dX3_allReturns_19 : decode cX3_allReturns 19 = .ok (.invokevirtual 105, 3) := by decide +kernel
theorem dX3_allReturns_22 : decode cX3_allReturns 22 = .ok (.iadd, 1) := by decide +kernel
theorem dX3_allReturns_23 : decode cX3_allReturns 23 = .ok (.istore_n 1, 1) := by decide +kernel
theorem dX3_allReturns_24 : decode cX3_allReturns 24 = .ok (.iinc 2 1, 3) := by decide +kernel
theorem dX3_allReturns_27 : decode cX3_allReturns 27 = .ok (.goto (-23), 3) := by decide +kernel
theorem dX3_allReturns_30 : decode cX3_allReturns 30 = .ok (.iload_n 1, 1) := by decide +kernel
theorem dX3_allReturns_31 : decode cX3_allReturns 31 = .ok (.ireturn, 1) := by decide +kernel
theorem dX3_number_0 : decode cX3_number 0 = .ok (.iload_n 1, 1) := by decide +kernel
theorem dX3_number_1 : decode cX3_number 1 = .ok (.tableswitch 183 0 16 #[83, 90, 97, 102, 107, 112, 118, 124, 130, 136, 142, 147, 155, 160, 168, 173, 178], 83) := by decide +kernel
theorem dX3_number_84 : decode cX3_number 84 = .ok (.aload_n 0, 1) := by decide +kernel
theorem dX3_number_85 : decode cX3_number 85 = .ok (.getfield 31, 3) := by decide +kernel
theorem dX3_number_88 : decode cX3_number 88 = .ok (.iconst 0, 1) := by decide +kernel
theorem dX3_number_89 : decode cX3_number 89 = .ok (.iaload, 1) := by decide +kernel
theorem dX3_number_90 : decode cX3_number 90 = .ok (.ireturn, 1) := by decide +kernel
theorem dX3_number_91 : decode cX3_number 91 = .ok (.aload_n 0, 1) := by decide +kernel
theorem dX3_number_92 : decode cX3_number 92 = .ok (.getfield 31, 3) := by decide +kernel
theorem dX3_number_95 : decode cX3_number 95 = .ok (.iconst 1, 1) := by decide +kernel
theorem dX3_number_96 : decode cX3_number 96 = .ok (.iaload, 1) := by decide +kernel
theorem dX3_number_97 : decode cX3_number 97 = .ok (.ireturn, 1) := by decide +kernel
theorem dX3_number_98 : decode cX3_number 98 = .ok (.aload_n 0, 1) := by decide +kernel
theorem dX3_number_99 : decode cX3_number 99 = .ok (.getfield 44, 3) := by decide +kernel
theorem dX3_number_102 : decode cX3_number 102 = .ok (.ireturn, 1) := by decide +kernel
theorem dX3_number_103 : decode cX3_number 103 = .ok (.aload_n 0, 1) := by decide +kernel
theorem dX3_number_104 : decode cX3_number 104 = .ok (.getfield 48, 3) := by decide +kernel
theorem dX3_number_107 : decode cX3_number 107 = .ok (.ireturn, 1) := by decide +kernel
theorem dX3_number_108 : decode cX3_number 108 = .ok (.aload_n 0, 1) := by decide +kernel
theorem dX3_number_109 : decode cX3_number 109 = .ok (.getfield 51, 3) := by decide +kernel
theorem dX3_number_112 : decode cX3_number 112 = .ok (.ireturn, 1) := by decide +kernel
theorem dX3_number_113 : decode cX3_number 113 = .ok (.aload_n 0, 1) := by decide +kernel
theorem dX3_number_114 : decode cX3_number 114 = .ok (.iconst 0, 1) := by decide +kernel
theorem dX3_number_115 : decode cX3_number 115 = .ok (.invokevirtual 109, 3) := by decide +kernel
theorem dX3_number_118 : decode cX3_number 118 = .ok (.ireturn, 1) := by decide +kernel
theorem dX3_number_119 : decode cX3_number 119 = .ok (.aload_n 0, 1) := by decide +kernel
theorem dX3_number_120 : decode cX3_number 120 = .ok (.iconst 1, 1) := by decide +kernel
theorem dX3_number_121 : decode cX3_number 121 = .ok (.invokevirtual 109, 3) := by decide +kernel
theorem dX3_number_124 : decode cX3_number 124 = .ok (.ireturn, 1) := by decide +kernel
theorem dX3_number_125 : decode cX3_number 125 = .ok (.aload_n 0, 1) := by decide +kernel
theorem dX3_number_126 : decode cX3_number 126 = .ok (.iconst 2, 1) := by decide +kernel
theorem dX3_number_127 : decode cX3_number 127 = .ok (.invokevirtual 109, 3) := by decide +kernel
theorem dX3_number_130 : decode cX3_number 130 = .ok (.ireturn, 1) := by decide +kernel
theorem dX3_number_131 : decode cX3_number 131 = .ok (.aload_n 0, 1) := by decide +kernel
theorem dX3_number_132 : decode cX3_number 132 = .ok (.iconst 3, 1) := by decide +kernel
theorem dX3_number_133 : decode cX3_number 133 = .ok (.invokevirtual 109, 3) := by decide +kernel
theorem dX3_number_136 : decode cX3_number 136 = .ok (.ireturn, 1) := by decide +kernel
theorem dX3_number_137 : decode cX3_number 137 = .ok (.aload_n 0, 1) := by decide +kernel
theorem dX3_number_138 : decode cX3_number 138 = .ok (.iconst 4, 1) := by decide +kernel
theorem dX3_number_139 : decode cX3_number 139 = .ok (.invokevirtual 109, 3) := by decide +kernel
theorem dX3_number_142 : decode cX3_number 142 = .ok (.ireturn, 1) := by decide +kernel
theorem dX3_number_143 : decode cX3_number 143 = .ok (.aload_n 0, 1) := by decide +kernel
theorem dX3_number_144 : decode cX3_number 144 = .ok (.getfield 57, 3) := by decide +kernel
theorem dX3_number_147 : decode cX3_number 147 = .ok (.ireturn, 1) := by decide +kernel
theorem dX3_number_148 : decode cX3_number 148 = .ok (.aload_n 0, 1) := by decide +kernel
theorem dX3_number_149 : decode cX3_number 149 = .ok (.getfield 20, 3) := by decide +kernel
theorem dX3_number_152 : decode cX3_number 152 = .ok (.invokevirtual 113, 3) := by decide +kernel
theorem dX3_number_155 : decode cX3_number 155 = .ok (.ireturn, 1) := by decide +kernel
theorem dX3_number_156 : decode cX3_number 156 = .ok (.aload_n 0, 1) := by decide +kernel
theorem dX3_number_157 : decode cX3_number 157 = .ok (.getfield 54, 3) := by decide +kernel
theorem dX3_number_160 : decode cX3_number 160 = .ok (.ireturn, 1) := by decide +kernel
theorem dX3_number_161 : decode cX3_number 161 = .ok (.aload_n 0, 1) := by decide +kernel
theorem dX3_number_162 : decode cX3_number 162 = .ok (.getfield 27, 3) := by decide +kernel
theorem dX3_number_165 : decode cX3_number 165 = .ok (.getfield 116, 3) := by decide +kernel
theorem dX3_number_168 : decode cX3_number 168 = .ok (.ireturn, 1) := by decide +kernel
theorem dX3_number_169 : decode cX3_number 169 = .ok (.aload_n 0, 1) := by decide +kernel
theorem dX3_number_170 : decode cX3_number 170 = .ok (.getfield 60, 3) := by decide +kernel
theorem dX3_number_173 : decode cX3_number 173 = .ok (.ireturn, 1) := by decide +kernel
theorem dX3_number_174 : decode cX3_number 174 = .ok (.aload_n 0, 1) := by decide +kernel
theorem dX3_number_175 : decode cX3_number 175 = .ok (.getfield 63, 3) := by decide +kernel
theorem dX3_number_178 : decode cX3_number 178 = .ok (.ireturn, 1) := by decide +kernel
theorem dX3_number_179 : decode cX3_number 179 = .ok (.aload_n 0, 1) := by decide +kernel
theorem dX3_number_180 : decode cX3_number 180 = .ok (.getfield 66, 3) := by decide +kernel
theorem dX3_number_183 : decode cX3_number 183 = .ok (.ireturn, 1) := by decide +kernel
theorem dX3_number_184 : decode cX3_number 184 = .ok (.aload_n 0, 1) := by decide +kernel
theorem dX3_number_185 : decode cX3_number 185 = .ok (.getfield 69, 3) := by decide +kernel
theorem dX3_number_188 : decode cX3_number 188 = .ok (.ireturn, 1) := by decide +kernel
theorem dX3_blockerOf_0 : decode cX3_blockerOf 0 = .ok (.aload_n 0, 1) := by decide +kernel
theorem dX3_blockerOf_1 : decode cX3_blockerOf 1 = .ok (.getfield 11, 3) := by decide +kernel
theorem dX3_blockerOf_4 : decode cX3_blockerOf 4 = .ok (.iload_n 1, 1) := by decide +kernel
theorem dX3_blockerOf_5 : decode cX3_blockerOf 5 = .ok (.aaload, 1) := by decide +kernel
theorem dX3_blockerOf_6 : decode cX3_blockerOf 6 = .ok (.getfield 119, 3) := by decide +kernel
theorem dX3_blockerOf_9 : decode cX3_blockerOf 9 = .ok (.istore_n 2, 1) := by decide +kernel
theorem dX3_blockerOf_10 : decode cX3_blockerOf 10 = .ok (.iload_n 2, 1) := by decide +kernel
theorem dX3_blockerOf_11 : decode cX3_blockerOf 11 = .ok (.iconst (-1), 1) := by decide +kernel
theorem dX3_blockerOf_12 : decode cX3_blockerOf 12 = .ok (.if_icmp .ne 7, 3) := by decide +kernel
theorem dX3_blockerOf_15 : decode cX3_blockerOf 15 = .ok (.iconst (-1), 1) := by decide +kernel
theorem dX3_blockerOf_16 : decode cX3_blockerOf 16 = .ok (.goto 12, 3) := by decide +kernel
theorem dX3_blockerOf_19 : decode cX3_blockerOf 19 = .ok (.aload_n 0, 1) := by decide +kernel
theorem dX3_blockerOf_20 : decode cX3_blockerOf 20 = .ok (.getfield 20, 3) := by decide +kernel
theorem dX3_blockerOf_23 : decode cX3_blockerOf 23 = .ok (.getfield 122, 3) := by decide +kernel
theorem dX3_blockerOf_26 : decode cX3_blockerOf 26 = .ok (.iload_n 2, 1) := by decide +kernel
theorem dX3_blockerOf_27 : decode cX3_blockerOf 27 = .ok (.iaload, 1) := by decide +kernel
theorem dX3_blockerOf_28 : decode cX3_blockerOf 28 = .ok (.ireturn, 1) := by decide +kernel
theorem dX3_blockerInChain_0 : decode cX3_blockerInChain 0 = .ok (.iconst 1, 1) := by decide +kernel
theorem dX3_blockerInChain_1 : decode cX3_blockerInChain 1 = .ok (.iload_n 1, 1) := by decide +kernel
theorem dX3_blockerInChain_2 : decode cX3_blockerInChain 2 = .ok (.ishl, 1) := by decide +kernel
theorem dX3_blockerInChain_3 : decode cX3_blockerInChain 3 = .ok (.istore_n 3, 1) := by decide +kernel
theorem dX3_blockerInChain_4 : decode cX3_blockerInChain 4 = .ok (.aload_n 0, 1) := by decide +kernel
theorem dX3_blockerInChain_5 : decode cX3_blockerInChain 5 = .ok (.iload_n 1, 1) := by decide +kernel
theorem dX3_blockerInChain_6 : decode cX3_blockerInChain 6 = .ok (.invokevirtual 125, 3) := by decide +kernel
theorem dX3_blockerInChain_9 : decode cX3_blockerInChain 9 = .ok (.istore 4, 2) := by decide +kernel
theorem dX3_blockerInChain_11 : decode cX3_blockerInChain 11 = .ok (.iconst 0, 1) := by decide +kernel
theorem dX3_blockerInChain_12 : decode cX3_blockerInChain 12 = .ok (.istore 5, 2) := by decide +kernel
theorem dX3_blockerInChain_14 : decode cX3_blockerInChain 14 = .ok (.iload 5, 2) := by decide +kernel
theorem dX3_blockerInChain_16 : decode cX3_blockerInChain 16 = .ok (.bipush 10, 2) := by decide +kernel
theorem dX3_blockerInChain_18 : decode cX3_blockerInChain 18 = .ok (.if_icmp .ge 48, 3) := by decide +kernel
theorem dX3_blockerInChain_21 : decode cX3_blockerInChain 21 = .ok (.iload 4, 2) := by decide +kernel
theorem dX3_blockerInChain_23 : decode cX3_blockerInChain 23 = .ok (.iconst (-1), 1) := by decide +kernel
theorem dX3_blockerInChain_24 : decode cX3_blockerInChain 24 = .ok (.if_icmp .eq 42, 3) := by decide +kernel
theorem dX3_blockerInChain_27 : decode cX3_blockerInChain 27 = .ok (.iload_n 3, 1) := by decide +kernel
theorem dX3_blockerInChain_28 : decode cX3_blockerInChain 28 = .ok (.iload 4, 2) := by decide +kernel
theorem dX3_blockerInChain_30 : decode cX3_blockerInChain 30 = .ok (.ishr, 1) := by decide +kernel
theorem dX3_blockerInChain_31 : decode cX3_blockerInChain 31 = .ok (.iconst 1, 1) := by decide +kernel
theorem dX3_blockerInChain_32 : decode cX3_blockerInChain 32 = .ok (.iand, 1) := by decide +kernel
theorem dX3_blockerInChain_33 : decode cX3_blockerInChain 33 = .ok (.ifCond .ne 33, 3) := by decide +kernel
theorem dX3_blockerInChain_36 : decode cX3_blockerInChain 36 = .ok (.iload 5, 2) := by decide +kernel
theorem dX3_blockerInChain_38 : decode cX3_blockerInChain 38 = .ok (.iload_n 2, 1) := by decide +kernel
theorem dX3_blockerInChain_39 : decode cX3_blockerInChain 39 = .ok (.if_icmp .ne 6, 3) := by decide +kernel
theorem dX3_blockerInChain_42 : decode cX3_blockerInChain 42 = .ok (.iload 4, 2) := by decide +kernel
theorem dX3_blockerInChain_44 : decode cX3_blockerInChain 44 = .ok (.ireturn, 1) := by decide +kernel
theorem dX3_blockerInChain_45 : decode cX3_blockerInChain 45 = .ok (.iload_n 3, 1) := by decide +kernel
theorem dX3_blockerInChain_46 : decode cX3_blockerInChain 46 = .ok (.iconst 1, 1) := by decide +kernel
theorem dX3_blockerInChain_47 : decode cX3_blockerInChain 47 = .ok (.iload 4, 2) := by decide +kernel
theorem dX3_blockerInChain_49 : decode cX3_blockerInChain 49 = .ok (.ishl, 1) := by decide +kernel
theorem dX3_blockerInChain_50 : decode cX3_blockerInChain 50 = .ok (.ior, 1) := by decide +kernel
theorem dX3_blockerInChain_51 : decode cX3_blockerInChain 51 = .ok (.istore_n 3, 1) := by decide +kernel
theorem dX3_blockerInChain_52 : decode cX3_blockerInChain 52 = .ok (.aload_n 0, 1) := by decide +kernel
theorem dX3_blockerInChain_53 : decode cX3_blockerInChain 53 = .ok (.iload 4, 2) := by decide +kernel
theorem dX3_blockerInChain_55 : decode cX3_blockerInChain 55 = .ok (.invokevirtual 125, 3) := by decide +kernel
theorem dX3_blockerInChain_58 : decode cX3_blockerInChain 58 = .ok (.istore 4, 2) := by decide +kernel
theorem dX3_blockerInChain_60 : decode cX3_blockerInChain 60 = .ok (.iinc 5 1, 3) := by decide +kernel
theorem dX3_blockerInChain_63 : decode cX3_blockerInChain 63 = .ok (.goto (-49), 3) := by decide +kernel
theorem dX3_blockerInChain_66 : decode cX3_blockerInChain 66 = .ok (.iconst (-1), 1) := by decide +kernel
theorem dX3_blockerInChain_67 : decode cX3_blockerInChain 67 = .ok (.ireturn, 1) := by decide +kernel
theorem dX3_isStuck_0 : decode cX3_isStuck 0 = .ok (.iload_n 1, 1) := by decide +kernel
theorem dX3_isStuck_1 : decode cX3_isStuck 1 = .ok (.istore_n 2, 1) := by decide +kernel
theorem dX3_isStuck_2 : decode cX3_isStuck 2 = .ok (.iconst 0, 1) := by decide +kernel
theorem dX3_isStuck_3 : decode cX3_isStuck 3 = .ok (.istore_n 3, 1) := by decide +kernel
theorem dX3_isStuck_4 : decode cX3_isStuck 4 = .ok (.iload_n 3, 1) := by decide +kernel
theorem dX3_isStuck_5 : decode cX3_isStuck 5 = .ok (.bipush 10, 2) := by decide +kernel
theorem dX3_isStuck_7 : decode cX3_isStuck 7 = .ok (.if_icmp .ge 35, 3) := by decide +kernel
theorem dX3_isStuck_10 : decode cX3_isStuck 10 = .ok (.aload_n 0, 1) := by decide +kernel
theorem dX3_isStuck_11 : decode cX3_isStuck 11 = .ok (.iload_n 2, 1) := by decide +kernel
theorem dX3_isStuck_12 : decode cX3_isStuck 12 = .ok (.invokevirtual 125, 3) := by decide +kernel
theorem dX3_isStuck_15 : decode cX3_isStuck 15 = .ok (.istore 4, 2) := by decide +kernel
theorem dX3_isStuck_17 : decode cX3_isStuck 17 = .ok (.iload 4, 2) := by decide +kernel
theorem dX3_isStuck_19 : decode cX3_isStuck 19 = .ok (.iconst (-1), 1) := by decide +kernel
theorem dX3_isStuck_20 : decode cX3_isStuck 20 = .ok (.if_icmp .ne 13, 3) := by decide +kernel
theorem dX3_isStuck_23 : decode cX3_isStuck 23 = .ok (.aload_n 0, 1) := by decide +kernel
theorem dX3_isStuck_24 : decode cX3_isStuck 24 = .ok (.getfield 11, 3) := by decide +kernel
theorem dX3_isStuck_27 : decode cX3_isStuck 27 = .ok (.iload_n 2, 1) := by decide +kernel
theorem dX3_isStuck_28 : decode cX3_isStuck 28 = .ok (.aaload, 1) := by decide +kernel
theorem dX3_isStuck_29 : decode cX3_isStuck 29 = .ok (.invokevirtual 128, 3) := by decide +kernel
theorem dX3_isStuck_32 : decode cX3_isStuck 32 = .ok (.ireturn, 1) := by decide +kernel
theorem dX3_isStuck_33 : decode cX3_isStuck 33 = .ok (.iload 4, 2) := by decide +kernel
theorem dX3_isStuck_35 : decode cX3_isStuck 35 = .ok (.istore_n 2, 1) := by decide +kernel
theorem dX3_isStuck_36 : decode cX3_isStuck 36 = .ok (.iinc 3 1, 3) := by decide +kernel
theorem dX3_isStuck_39 : decode cX3_isStuck 39 = .ok (.goto (-35), 3) := by decide +kernel
theorem dX3_isStuck_42 : decode cX3_isStuck 42 = .ok (.iconst 1, 1) := by decide +kernel
theorem dX3_isStuck_43 : decode cX3_isStuck 43 = .ok (.ireturn, 1) := by decide +kernel
theorem dX3_refreshPriorities_0 : decode cX3_refreshPriorities 0 = .ok (.aload_n 0, 1) := by decide +kernel
theorem dX3_refreshPriorities_1 : decode cX3_refreshPriorities 1 = .ok (.getfield 72, 3) := by decide +kernel
theorem dX3_refreshPriorities_4 : decode cX3_refreshPriorities 4 = .ok (.ifCond .ne 4, 3) := by decide +kernel
theorem dX3_refreshPriorities_7 : decode cX3_refreshPriorities 7 = .ok (.return_, 1) := by decide +kernel
theorem dX3_refreshPriorities_8 : decode cX3_refreshPriorities 8 = .ok (.iconst 0, 1) := by decide +kernel
theorem dX3_refreshPriorities_9 : decode cX3_refreshPriorities 9 = .ok (.istore_n 1, 1) := by decide +kernel
theorem dX3_refreshPriorities_10 : decode cX3_refreshPriorities 10 = .ok (.iload_n 1, 1) := by decide +kernel
theorem dX3_refreshPriorities_11 : decode cX3_refreshPriorities 11 = .ok (.aload_n 0, 1) := by decide +kernel
theorem dX3_refreshPriorities_12 : decode cX3_refreshPriorities 12 = .ok (.getfield 44, 3) := by decide +kernel
theorem dX3_refreshPriorities_15 : decode cX3_refreshPriorities 15 = .ok (.if_icmp .ge 27, 3) := by decide +kernel
theorem dX3_refreshPriorities_18 : decode cX3_refreshPriorities 18 = .ok (.aload_n 0, 1) := by decide +kernel
theorem dX3_refreshPriorities_19 : decode cX3_refreshPriorities 19 = .ok (.getfield 11, 3) := by decide +kernel
theorem dX3_refreshPriorities_22 : decode cX3_refreshPriorities 22 = .ok (.iload_n 1, 1) := by decide +kernel
theorem dX3_refreshPriorities_23 : decode cX3_refreshPriorities 23 = .ok (.aaload, 1) := by decide +kernel
theorem dX3_refreshPriorities_24 : decode cX3_refreshPriorities 24 = .ok (.aload_n 0, 1) := by decide +kernel
theorem dX3_refreshPriorities_25 : decode cX3_refreshPriorities 25 = .ok (.getfield 11, 3) := by decide +kernel
theorem dX3_refreshPriorities_28 : decode cX3_refreshPriorities 28 = .ok (.iload_n 1, 1) := by decide +kernel
theorem dX3_refreshPriorities_29 : decode cX3_refreshPriorities 29 = .ok (.aaload, 1) := by decide +kernel
theorem dX3_refreshPriorities_30 : decode cX3_refreshPriorities 30 = .ok (.getfield 99, 3) := by decide +kernel
theorem dX3_refreshPriorities_33 : decode cX3_refreshPriorities 33 = .ok (.putfield 132, 3) := by decide +kernel
theorem dX3_refreshPriorities_36 : decode cX3_refreshPriorities 36 = .ok (.iinc 1 1, 3) := by decide +kernel
theorem dX3_refreshPriorities_39 : decode cX3_refreshPriorities 39 = .ok (.goto (-29), 3) := by decide +kernel
theorem dX3_refreshPriorities_42 : decode cX3_refreshPriorities 42 = .ok (.aload_n 0, 1) := by decide +kernel
theorem dX3_refreshPriorities_43 : decode cX3_refreshPriorities 43 = .ok (.getfield 31, 3) := by decide +kernel
theorem dX3_refreshPriorities_46 : decode cX3_refreshPriorities 46 = .ok (.iconst 1, 1) := by decide +kernel
theorem dX3_refreshPriorities_47 : decode cX3_refreshPriorities 47 = .ok (.iaload, 1) := by decide +kernel
theorem dX3_refreshPriorities_48 : decode cX3_refreshPriorities 48 = .ok (.iconst 1, 1) := by decide +kernel
theorem dX3_refreshPriorities_49 : decode cX3_refreshPriorities 49 = .ok (.if_icmp .ne 80, 3) := by decide +kernel
theorem dX3_refreshPriorities_52 : decode cX3_refreshPriorities 52 = .ok (.iconst 0, 1) := by decide +kernel
theorem dX3_refreshPriorities_53 : decode cX3_refreshPriorities 53 = .ok (.istore_n 1, 1) := by decide +kernel
theorem dX3_refreshPriorities_54 : decode cX3_refreshPriorities 54 = .ok (.iload_n 1, 1) := by decide +kernel
theorem dX3_refreshPriorities_55 : decode cX3_refreshPriorities 55 = .ok (.aload_n 0, 1) := by decide +kernel
theorem dX3_refreshPriorities_56 : decode cX3_refreshPriorities 56 = .ok (.getfield 44, 3) := by decide +kernel
theorem dX3_refreshPriorities_59 : decode cX3_refreshPriorities 59 = .ok (.if_icmp .ge 70, 3) := by decide +kernel
theorem dX3_refreshPriorities_62 : decode cX3_refreshPriorities 62 = .ok (.aload_n 0, 1) := by decide +kernel
theorem dX3_refreshPriorities_63 : decode cX3_refreshPriorities 63 = .ok (.iload_n 1, 1) := by decide +kernel
theorem dX3_refreshPriorities_64 : decode cX3_refreshPriorities 64 = .ok (.invokevirtual 125, 3) := by decide +kernel
theorem dX3_refreshPriorities_67 : decode cX3_refreshPriorities 67 = .ok (.istore_n 2, 1) := by decide +kernel
theorem dX3_refreshPriorities_68 : decode cX3_refreshPriorities 68 = .ok (.iconst 0, 1) := by decide +kernel
theorem dX3_refreshPriorities_69 : decode cX3_refreshPriorities 69 = .ok (.istore_n 3, 1) := by decide +kernel
theorem dX3_refreshPriorities_70 : decode cX3_refreshPriorities 70 = .ok (.iload_n 3, 1) := by decide +kernel
theorem dX3_refreshPriorities_71 : decode cX3_refreshPriorities 71 = .ok (.bipush 10, 2) := by decide +kernel
theorem dX3_refreshPriorities_73 : decode cX3_refreshPriorities 73 = .ok (.if_icmp .ge 50, 3) := by decide +kernel
theorem dX3_refreshPriorities_76 : decode cX3_refreshPriorities 76 = .ok (.iload_n 2, 1) := by decide +kernel
theorem dX3_refreshPriorities_77 : decode cX3_refreshPriorities 77 = .ok (.iconst (-1), 1) := by decide +kernel
theorem dX3_refreshPriorities_78 : decode cX3_refreshPriorities 78 = .ok (.if_icmp .eq 45, 3) := by decide +kernel
theorem dX3_refreshPriorities_81 : decode cX3_refreshPriorities 81 = .ok (.aload_n 0, 1) := by decide +kernel
theorem dX3_refreshPriorities_82 : decode cX3_refreshPriorities 82 = .ok (.getfield 11, 3) := by decide +kernel
theorem dX3_refreshPriorities_85 : decode cX3_refreshPriorities 85 = .ok (.iload_n 2, 1) := by decide +kernel
theorem dX3_refreshPriorities_86 : decode cX3_refreshPriorities 86 = .ok (.aaload, 1) := by decide +kernel
theorem dX3_refreshPriorities_87 : decode cX3_refreshPriorities 87 = .ok (.aload_n 0, 1) := by decide +kernel
theorem dX3_refreshPriorities_88 : decode cX3_refreshPriorities 88 = .ok (.getfield 11, 3) := by decide +kernel
theorem dX3_refreshPriorities_91 : decode cX3_refreshPriorities 91 = .ok (.iload_n 2, 1) := by decide +kernel
theorem dX3_refreshPriorities_92 : decode cX3_refreshPriorities 92 = .ok (.aaload, 1) := by decide +kernel
theorem dX3_refreshPriorities_93 : decode cX3_refreshPriorities 93 = .ok (.getfield 132, 3) := by decide +kernel
theorem dX3_refreshPriorities_96 : decode cX3_refreshPriorities 96 = .ok (.aload_n 0, 1) := by decide +kernel
theorem dX3_refreshPriorities_97 : decode cX3_refreshPriorities 97 = .ok (.getfield 11, 3) := by decide +kernel
theorem dX3_refreshPriorities_100 : decode cX3_refreshPriorities 100 = .ok (.iload_n 1, 1) := by decide +kernel
theorem dX3_refreshPriorities_101 : decode cX3_refreshPriorities 101 = .ok (.aaload, 1) := by decide +kernel
theorem dX3_refreshPriorities_102 : decode cX3_refreshPriorities 102 = .ok (.getfield 99, 3) := by decide +kernel
theorem dX3_refreshPriorities_105 : decode cX3_refreshPriorities 105 = .ok (.invokestatic 135, 3) := by decide +kernel
theorem dX3_refreshPriorities_108 : decode cX3_refreshPriorities 108 = .ok (.putfield 132, 3) := by decide +kernel
theorem dX3_refreshPriorities_111 : decode cX3_refreshPriorities 111 = .ok (.aload_n 0, 1) := by decide +kernel
theorem dX3_refreshPriorities_112 : decode cX3_refreshPriorities 112 = .ok (.iload_n 2, 1) := by decide +kernel
theorem dX3_refreshPriorities_113 : decode cX3_refreshPriorities 113 = .ok (.invokevirtual 125, 3) := by decide +kernel
theorem dX3_refreshPriorities_116 : decode cX3_refreshPriorities 116 = .ok (.istore_n 2, 1) := by decide +kernel
theorem dX3_refreshPriorities_117 : decode cX3_refreshPriorities 117 = .ok (.iinc 3 1, 3) := by decide +kernel
theorem dX3_refreshPriorities_120 : decode cX3_refreshPriorities 120 = .ok (.goto (-50), 3) := by decide +kernel
theorem dX3_refreshPriorities_123 : decode cX3_refreshPriorities 123 = .ok (.iinc 1 1, 3) := by decide +kernel
theorem dX3_refreshPriorities_126 : decode cX3_refreshPriorities 126 = .ok (.goto (-72), 3) := by decide +kernel
theorem dX3_refreshPriorities_129 : decode cX3_refreshPriorities 129 = .ok (.aload_n 0, 1) := by decide +kernel
theorem dX3_refreshPriorities_130 : decode cX3_refreshPriorities 130 = .ok (.iconst 0, 1) := by decide +kernel
theorem dX3_refreshPriorities_131 : decode cX3_refreshPriorities 131 = .ok (.putfield 72, 3) := by decide +kernel
theorem dX3_refreshPriorities_134 : decode cX3_refreshPriorities 134 = .ok (.return_, 1) := by decide +kernel
theorem dX3_tick_0 : decode cX3_tick 0 = .ok (.aload_n 0, 1) := by decide +kernel
theorem dX3_tick_1 : decode cX3_tick 1 = .ok (.invokevirtual 141, 3) := by decide +kernel
theorem dX3_tick_4 : decode cX3_tick 4 = .ok (.aload_n 0, 1) := by decide +kernel
theorem dX3_tick_5 : decode cX3_tick 5 = .ok (.invokevirtual 144, 3) := by decide +kernel
theorem dX3_tick_8 : decode cX3_tick 8 = .ok (.istore_n 1, 1) := by decide +kernel
theorem dX3_tick_9 : decode cX3_tick 9 = .ok (.iconst 0, 1) := by decide +kernel
theorem dX3_tick_10 : decode cX3_tick 10 = .ok (.istore_n 2, 1) := by decide +kernel
theorem dX3_tick_11 : decode cX3_tick 11 = .ok (.iload_n 2, 1) := by decide +kernel
theorem dX3_tick_12 : decode cX3_tick 12 = .ok (.bipush 10, 2) := by decide +kernel
theorem dX3_tick_14 : decode cX3_tick 14 = .ok (.if_icmp .ge 29, 3) := by decide +kernel
theorem dX3_tick_17 : decode cX3_tick 17 = .ok (.iload_n 1, 1) := by decide +kernel
theorem dX3_tick_18 : decode cX3_tick 18 = .ok (.iconst (-1), 1) := by decide +kernel
theorem dX3_tick_19 : decode cX3_tick 19 = .ok (.if_icmp .eq 24, 3) := by decide +kernel
theorem dX3_tick_22 : decode cX3_tick 22 = .ok (.aload_n 0, 1) := by decide +kernel
theorem dX3_tick_23 : decode cX3_tick 23 = .ok (.iload_n 1, 1) := by decide +kernel
theorem dX3_tick_24 : decode cX3_tick 24 = .ok (.iconst 2, 1) := by decide +kernel
theorem dX3_tick_25 : decode cX3_tick 25 = .ok (.invokevirtual 147, 3) := by decide +kernel
theorem dX3_tick_28 : decode cX3_tick 28 = .ok (.aload_n 0, 1) := by decide +kernel
theorem dX3_tick_29 : decode cX3_tick 29 = .ok (.invokevirtual 151, 3) := by decide +kernel
theorem dX3_tick_32 : decode cX3_tick 32 = .ok (.aload_n 0, 1) := by decide +kernel
theorem dX3_tick_33 : decode cX3_tick 33 = .ok (.invokevirtual 144, 3) := by decide +kernel
theorem dX3_tick_36 : decode cX3_tick 36 = .ok (.istore_n 1, 1) := by decide +kernel
theorem dX3_tick_37 : decode cX3_tick 37 = .ok (.iinc 2 1, 3) := by decide +kernel
theorem dX3_tick_40 : decode cX3_tick 40 = .ok (.goto (-29), 3) := by decide +kernel
theorem dX3_tick_43 : decode cX3_tick 43 = .ok (.aload_n 0, 1) := by decide +kernel
theorem dX3_tick_44 : decode cX3_tick 44 = .ok (.getfield 31, 3) := by decide +kernel
theorem dX3_tick_47 : decode cX3_tick 47 = .ok (.iconst 0, 1) := by decide +kernel
theorem dX3_tick_48 : decode cX3_tick 48 = .ok (.iaload, 1) := by decide +kernel
theorem dX3_tick_49 : decode cX3_tick 49 = .ok (.ifCond .le 55, 3) := by decide +kernel
theorem dX3_tick_52 : decode cX3_tick 52 = .ok (.iconst 0, 1) := by decide +kernel
theorem dX3_tick_53 : decode cX3_tick 53 = .ok (.istore_n 2, 1) := by decide +kernel
theorem dX3_tick_54 : decode cX3_tick 54 = .ok (.iload_n 2, 1) := by decide +kernel
theorem dX3_tick_55 : decode cX3_tick 55 = .ok (.aload_n 0, 1) := by decide +kernel
theorem dX3_tick_56 : decode cX3_tick 56 = .ok (.getfield 44, 3) := by decide +kernel
theorem dX3_tick_59 : decode cX3_tick 59 = .ok (.if_icmp .ge 45, 3) := by decide +kernel
theorem dX3_tick_62 : decode cX3_tick 62 = .ok (.aload_n 0, 1) := by decide +kernel
theorem dX3_tick_63 : decode cX3_tick 63 = .ok (.getfield 11, 3) := by decide +kernel
theorem dX3_tick_66 : decode cX3_tick 66 = .ok (.iload_n 2, 1) := by decide +kernel
theorem dX3_tick_67 : decode cX3_tick 67 = .ok (.aaload, 1) := by decide +kernel
theorem dX3_tick_68 : decode cX3_tick 68 = .ok (.getfield 102, 3) := by decide +kernel
theorem dX3_tick_71 : decode cX3_tick 71 = .ok (.iconst 1, 1) := by decide +kernel
theorem dX3_tick_72 : decode cX3_tick 72 = .ok (.if_icmp .ne 26, 3) := by decide +kernel
theorem dX3_tick_75 : decode cX3_tick 75 = .ok (.aload_n 0, 1) := by decide +kernel
theorem dX3_tick_76 : decode cX3_tick 76 = .ok (.invokevirtual 154, 3) := by decide +kernel
theorem dX3_tick_79 : decode cX3_tick 79 = .ok (.aload_n 0, 1) := by decide +kernel
theorem dX3_tick_80 : decode cX3_tick 80 = .ok (.getfield 31, 3) := by decide +kernel
theorem dX3_tick_83 : decode cX3_tick 83 = .ok (.iconst 0, 1) := by decide +kernel
theorem dX3_tick_84 : decode cX3_tick 84 = .ok (.iaload, 1) := by decide +kernel
theorem dX3_tick_85 : decode cX3_tick 85 = .ok (.if_icmp .ge 13, 3) := by decide +kernel
theorem dX3_tick_88 : decode cX3_tick 88 = .ok (.aload_n 0, 1) := by decide +kernel
theorem dX3_tick_89 : decode cX3_tick 89 = .ok (.iload_n 2, 1) := by decide +kernel
theorem dX3_tick_90 : decode cX3_tick 90 = .ok (.iconst 3, 1) := by decide +kernel
theorem dX3_tick_91 : decode cX3_tick 91 = .ok (.invokevirtual 147, 3) := by decide +kernel
theorem dX3_tick_94 : decode cX3_tick 94 = .ok (.aload_n 0, 1) := by decide +kernel
theorem dX3_tick_95 : decode cX3_tick 95 = .ok (.invokevirtual 151, 3) := by decide +kernel
theorem dX3_tick_98 : decode cX3_tick 98 = .ok (.iinc 2 1, 3) := by decide +kernel
theorem dX3_tick_101 : decode cX3_tick 101 = .ok (.goto (-47), 3) := by decide +kernel
theorem dX3_tick_104 : decode cX3_tick 104 = .ok (.aload_n 0, 1) := by decide +kernel
theorem dX3_tick_105 : decode cX3_tick 105 = .ok (.invokevirtual 157, 3) := by decide +kernel
theorem dX3_tick_108 : decode cX3_tick 108 = .ok (.istore_n 2, 1) := by decide +kernel
theorem dX3_tick_109 : decode cX3_tick 109 = .ok (.iload_n 2, 1) := by decide +kernel
theorem dX3_tick_110 : decode cX3_tick 110 = .ok (.iconst (-1), 1) := by decide +kernel
theorem dX3_tick_111 : decode cX3_tick 111 = .ok (.if_icmp .ne 16, 3) := by decide +kernel
theorem dX3_tick_114 : decode cX3_tick 114 = .ok (.aload_n 0, 1) := by decide +kernel
theorem dX3_tick_115 : decode cX3_tick 115 = .ok (.dup, 1) := by decide +kernel
theorem dX3_tick_116 : decode cX3_tick 116 = .ok (.getfield 54, 3) := by decide +kernel
theorem dX3_tick_119 : decode cX3_tick 119 = .ok (.iconst 1, 1) := by decide +kernel
theorem dX3_tick_120 : decode cX3_tick 120 = .ok (.iadd, 1) := by decide +kernel
theorem dX3_tick_121 : decode cX3_tick 121 = .ok (.putfield 54, 3) := by decide +kernel
theorem dX3_tick_124 : decode cX3_tick 124 = .ok (.goto 26, 3) := by decide +kernel
theorem dX3_tick_127 : decode cX3_tick 127 = .ok (.aload_n 0, 1) := by decide +kernel
theorem dX3_tick_128 : decode cX3_tick 128 = .ok (.iload_n 2, 1) := by decide +kernel
theorem dX3_tick_129 : decode cX3_tick 129 = .ok (.invokevirtual 160, 3) := by decide +kernel
theorem dX3_tick_132 : decode cX3_tick 132 = .ok (.istore_n 3, 1) := by decide +kernel
theorem dX3_tick_133 : decode cX3_tick 133 = .ok (.aload_n 0, 1) := by decide +kernel
theorem dX3_tick_134 : decode cX3_tick 134 = .ok (.invokevirtual 151, 3) := by decide +kernel
theorem dX3_tick_137 : decode cX3_tick 137 = .ok (.iload_n 3, 1) := by decide +kernel
theorem dX3_tick_138 : decode cX3_tick 138 = .ok (.ifCond .eq 12, 3) := by decide +kernel
theorem dX3_tick_141 : decode cX3_tick 141 = .ok (.aload_n 0, 1) := by decide +kernel
theorem dX3_tick_142 : decode cX3_tick 142 = .ok (.iload_n 2, 1) := by decide +kernel
theorem dX3_tick_143 : decode cX3_tick 143 = .ok (.invokevirtual 164, 3) := by decide +kernel
theorem dX3_tick_146 : decode cX3_tick 146 = .ok (.aload_n 0, 1) := by decide +kernel
theorem dX3_tick_147 : decode cX3_tick 147 = .ok (.invokevirtual 151, 3) := by decide +kernel
theorem dX3_tick_150 : decode cX3_tick 150 = .ok (.aload_n 0, 1) := by decide +kernel
theorem dX3_tick_151 : decode cX3_tick 151 = .ok (.dup, 1) := by decide +kernel
theorem dX3_tick_152 : decode cX3_tick 152 = .ok (.getfield 48, 3) := by decide +kernel
theorem dX3_tick_155 : decode cX3_tick 155 = .ok (.iconst 1, 1) := by decide +kernel
theorem dX3_tick_156 : decode cX3_tick 156 = .ok (.iadd, 1) := by decide +kernel
theorem dX3_tick_157 : decode cX3_tick 157 = .ok (.putfield 48, 3) := by decide +kernel
theorem dX3_tick_160 : decode cX3_tick 160 = .ok (.iload_n 2, 1) := by decide +kernel
theorem dX3_tick_161 : decode cX3_tick 161 = .ok (.ireturn, 1) := by decide +kernel
theorem dX3_noteGreatestPriorities_0 : decode cX3_noteGreatestPriorities 0 = .ok (.aload_n 0, 1) := by decide +kernel
theorem dX3_noteGreatestPriorities_1 : decode cX3_noteGreatestPriorities 1 = .ok (.invokevirtual 167, 3) := by decide +kernel
theorem dX3_noteGreatestPriorities_4 : decode cX3_noteGreatestPriorities 4 = .ok (.iconst 0, 1) := by decide +kernel
theorem dX3_noteGreatestPriorities_5 : decode cX3_noteGreatestPriorities 5 = .ok (.istore_n 1, 1) := by decide +kernel
theorem dX3_noteGreatestPriorities_6 : decode cX3_noteGreatestPriorities 6 = .ok (.iload_n 1, 1) := by decide +kernel
theorem dX3_noteGreatestPriorities_7 : decode cX3_noteGreatestPriorities 7 = .ok (.aload_n 0, 1) := by decide +kernel
theorem dX3_noteGreatestPriorities_8 : decode cX3_noteGreatestPriorities 8 = .ok (.getfield 44, 3) := by decide +kernel
theorem dX3_noteGreatestPriorities_11 : decode cX3_noteGreatestPriorities 11 = .ok (.if_icmp .ge 31, 3) := by decide +kernel
theorem dX3_noteGreatestPriorities_14 : decode cX3_noteGreatestPriorities 14 = .ok (.aload_n 0, 1) := by decide +kernel
theorem dX3_noteGreatestPriorities_15 : decode cX3_noteGreatestPriorities 15 = .ok (.getfield 11, 3) := by decide +kernel
theorem dX3_noteGreatestPriorities_18 : decode cX3_noteGreatestPriorities 18 = .ok (.iload_n 1, 1) := by decide +kernel
theorem dX3_noteGreatestPriorities_19 : decode cX3_noteGreatestPriorities 19 = .ok (.aaload, 1) := by decide +kernel
theorem dX3_noteGreatestPriorities_20 : decode cX3_noteGreatestPriorities 20 = .ok (.astore_n 2, 1) := by decide +kernel
theorem dX3_noteGreatestPriorities_21 : decode cX3_noteGreatestPriorities 21 = .ok (.aload_n 2, 1) := by decide +kernel
theorem dX3_noteGreatestPriorities_22 : decode cX3_noteGreatestPriorities 22 = .ok (.aload_n 2, 1) := by decide +kernel
theorem dX3_noteGreatestPriorities_23 : decode cX3_noteGreatestPriorities 23 = .ok (.getfield 170, 3) := by decide +kernel
theorem dX3_noteGreatestPriorities_26 : decode cX3_noteGreatestPriorities 26 = .ok (.aload_n 2, 1) := by decide +kernel
theorem dX3_noteGreatestPriorities_27 : decode cX3_noteGreatestPriorities 27 = .ok (.getfield 132, 3) := by decide +kernel
theorem dX3_noteGreatestPriorities_30 : decode cX3_noteGreatestPriorities 30 = .ok (.invokestatic 135, 3) := by decide +kernel
theorem dX3_noteGreatestPriorities_33 : decode cX3_noteGreatestPriorities 33 = .ok (.putfield 170, 3) := by decide +kernel
theorem dX3_noteGreatestPriorities_36 : decode cX3_noteGreatestPriorities 36 = .ok (.iinc 1 1, 3) := by decide +kernel
theorem dX3_noteGreatestPriorities_39 : decode cX3_noteGreatestPriorities 39 = .ok (.goto (-33), 3) := by decide +kernel
theorem dX3_noteGreatestPriorities_42 : decode cX3_noteGreatestPriorities 42 = .ok (.return_, 1) := by decide +kernel
theorem dX3_firstLate_0 : decode cX3_firstLate 0 = .ok (.iconst (-1), 1) := by decide +kernel
theorem dX3_firstLate_1 : decode cX3_firstLate 1 = .ok (.istore_n 1, 1) := by decide +kernel
theorem dX3_firstLate_2 : decode cX3_firstLate 2 = .ok (.aload_n 0, 1) := by decide +kernel
theorem dX3_firstLate_3 : decode cX3_firstLate 3 = .ok (.getfield 48, 3) := by decide +kernel
theorem dX3_firstLate_6 : decode cX3_firstLate 6 = .ok (.iconst 1, 1) := by decide +kernel
theorem dX3_firstLate_7 : decode cX3_firstLate 7 = .ok (.iadd, 1) := by decide +kernel
theorem dX3_firstLate_8 : decode cX3_firstLate 8 = .ok (.istore_n 2, 1) := by decide +kernel
theorem dX3_firstLate_9 : decode cX3_firstLate 9 = .ok (.iconst 0, 1) := by decide +kernel
theorem dX3_firstLate_10 : decode cX3_firstLate 10 = .ok (.istore_n 3, 1) := by decide +kernel
theorem dX3_firstLate_11 : decode cX3_firstLate 11 = .ok (.iload_n 3, 1) := by decide +kernel
theorem dX3_firstLate_12 : decode cX3_firstLate 12 = .ok (.aload_n 0, 1) := by decide +kernel
theorem dX3_firstLate_13 : decode cX3_firstLate 13 = .ok (.getfield 44, 3) := by decide +kernel
theorem dX3_firstLate_16 : decode cX3_firstLate 16 = .ok (.if_icmp .ge 52, 3) := by decide +kernel
theorem dX3_firstLate_19 : decode cX3_firstLate 19 = .ok (.aload_n 0, 1) := by decide +kernel
theorem dX3_firstLate_20 : decode cX3_firstLate 20 = .ok (.getfield 11, 3) := by decide +kernel
theorem dX3_firstLate_23 : decode cX3_firstLate 23 = .ok (.iload_n 3, 1) := by decide +kernel
theorem dX3_firstLate_24 : decode cX3_firstLate 24 = .ok (.aaload, 1) := by decide +kernel
theorem dX3_firstLate_25 : decode cX3_firstLate 25 = .ok (.astore 4, 2) := by decide +kernel
theorem dX3_firstLate_27 : decode cX3_firstLate 27 = .ok (.aload 4, 2) := by decide +kernel
theorem dX3_firstLate_29 : decode cX3_firstLate 29 = .ok (.getfield 102, 3) := by decide +kernel
theorem dX3_firstLate_32 : decode cX3_firstLate 32 = .ok (.iconst 1, 1) := by decide +kernel
theorem dX3_firstLate_33 : decode cX3_firstLate 33 = .ok (.if_icmp .ne 29, 3) := by decide +kernel
theorem dX3_firstLate_36 : decode cX3_firstLate 36 = .ok (.aload 4, 2) := by decide +kernel
theorem dX3_firstLate_38 : decode cX3_firstLate 38 = .ok (.getfield 173, 3) := by decide +kernel
theorem dX3_firstLate_41 : decode cX3_firstLate 41 = .ok (.iconst (-1), 1) := by decide +kernel
theorem dX3_firstLate_42 : decode cX3_firstLate 42 = .ok (.if_icmp .eq 20, 3) := by decide +kernel
theorem dX3_firstLate_45 : decode cX3_firstLate 45 = .ok (.aload 4, 2) := by decide +kernel
theorem dX3_firstLate_47 : decode cX3_firstLate 47 = .ok (.getfield 173, 3) := by decide +kernel
theorem dX3_firstLate_50 : decode cX3_firstLate 50 = .ok (.iload_n 2, 1) := by decide +kernel
theorem dX3_firstLate_51 : decode cX3_firstLate 51 = .ok (.if_icmp .ge 11, 3) := by decide +kernel
theorem dX3_firstLate_54 : decode cX3_firstLate 54 = .ok (.iload_n 3, 1) := by decide +kernel
theorem dX3_firstLate_55 : decode cX3_firstLate 55 = .ok (.istore_n 1, 1) := by decide +kernel
theorem dX3_firstLate_56 : decode cX3_firstLate 56 = .ok (.aload 4, 2) := by decide +kernel
theorem dX3_firstLate_58 : decode cX3_firstLate 58 = .ok (.getfield 173, 3) := by decide +kernel
theorem dX3_firstLate_61 : decode cX3_firstLate 61 = .ok (.istore_n 2, 1) := by decide +kernel
theorem dX3_firstLate_62 : decode cX3_firstLate 62 = .ok (.iinc 3 1, 3) := by decide +kernel
theorem dX3_firstLate_65 : decode cX3_firstLate 65 = .ok (.goto (-54), 3) := by decide +kernel
theorem dX3_firstLate_68 : decode cX3_firstLate 68 = .ok (.iload_n 1, 1) := by decide +kernel
theorem dX3_firstLate_69 : decode cX3_firstLate 69 = .ok (.ireturn, 1) := by decide +kernel
theorem dX3_drawOfThousand_0 : decode cX3_drawOfThousand 0 = .ok (.aload_n 0, 1) := by decide +kernel
theorem dX3_drawOfThousand_1 : decode cX3_drawOfThousand 1 = .ok (.sipush 1103, 3) := by decide +kernel
theorem dX3_drawOfThousand_4 : decode cX3_drawOfThousand 4 = .ok (.aload_n 0, 1) := by decide +kernel
theorem dX3_drawOfThousand_5 : decode cX3_drawOfThousand 5 = .ok (.getfield 51, 3) := by decide +kernel
theorem dX3_drawOfThousand_8 : decode cX3_drawOfThousand 8 = .ok (.imul, 1) := by decide +kernel
theorem dX3_drawOfThousand_9 : decode cX3_drawOfThousand 9 = .ok (.sipush 12345, 3) := by decide +kernel
theorem dX3_drawOfThousand_12 : decode cX3_drawOfThousand 12 = .ok (.iadd, 1) := by decide +kernel
theorem dX3_drawOfThousand_13 : decode cX3_drawOfThousand 13 = .ok (.ldc 176, 2) := by decide +kernel
theorem dX3_drawOfThousand_15 : decode cX3_drawOfThousand 15 = .ok (.irem, 1) := by decide +kernel
theorem dX3_drawOfThousand_16 : decode cX3_drawOfThousand 16 = .ok (.putfield 51, 3) := by decide +kernel
theorem dX3_drawOfThousand_19 : decode cX3_drawOfThousand 19 = .ok (.aload_n 0, 1) := by decide +kernel
theorem dX3_drawOfThousand_20 : decode cX3_drawOfThousand 20 = .ok (.getfield 51, 3) := by decide +kernel
theorem dX3_drawOfThousand_23 : decode cX3_drawOfThousand 23 = .ok (.sipush 1000, 3) := by decide +kernel
theorem dX3_drawOfThousand_26 : decode cX3_drawOfThousand 26 = .ok (.irem, 1) := by decide +kernel
theorem dX3_drawOfThousand_27 : decode cX3_drawOfThousand 27 = .ok (.ireturn, 1) := by decide +kernel
theorem dX3_firstReady_0 : decode cX3_firstReady 0 = .ok (.aload_n 0, 1) := by decide +kernel
theorem dX3_firstReady_1 : decode cX3_firstReady 1 = .ok (.invokevirtual 167, 3) := by decide +kernel
theorem dX3_firstReady_4 : decode cX3_firstReady 4 = .ok (.iconst (-1), 1) := by decide +kernel
theorem dX3_firstReady_5 : decode cX3_firstReady 5 = .ok (.istore_n 1, 1) := by decide +kernel
theorem dX3_firstReady_6 : decode cX3_firstReady 6 = .ok (.iconst 0, 1) := by decide +kernel
theorem dX3_firstReady_7 : decode cX3_firstReady 7 = .ok (.istore_n 2, 1) := by decide +kernel
theorem dX3_firstReady_8 : decode cX3_firstReady 8 = .ok (.iload_n 2, 1) := by decide +kernel
theorem dX3_firstReady_9 : decode cX3_firstReady 9 = .ok (.aload_n 0, 1) := by decide +kernel
theorem dX3_firstReady_10 : decode cX3_firstReady 10 = .ok (.getfield 44, 3) := by decide +kernel
theorem dX3_firstReady_13 : decode cX3_firstReady 13 = .ok (.if_icmp .ge 46, 3) := by decide +kernel
theorem dX3_firstReady_16 : decode cX3_firstReady 16 = .ok (.aload_n 0, 1) := by decide +kernel
theorem dX3_firstReady_17 : decode cX3_firstReady 17 = .ok (.getfield 11, 3) := by decide +kernel
theorem dX3_firstReady_20 : decode cX3_firstReady 20 = .ok (.iload_n 2, 1) := by decide +kernel
theorem dX3_firstReady_21 : decode cX3_firstReady 21 = .ok (.aaload, 1) := by decide +kernel
theorem dX3_firstReady_22 : decode cX3_firstReady 22 = .ok (.getfield 102, 3) := by decide +kernel
theorem dX3_firstReady_25 : decode cX3_firstReady 25 = .ok (.ifCond .ne 28, 3) := by decide +kernel
theorem dX3_firstReady_28 : decode cX3_firstReady 28 = .ok (.iload_n 1, 1) := by decide +kernel
theorem dX3_firstReady_29 : decode cX3_firstReady 29 = .ok (.iconst (-1), 1) := by decide +kernel
theorem dX3_firstReady_30 : decode cX3_firstReady 30 = .ok (.if_icmp .eq 21, 3) := by decide +kernel
theorem dX3_firstReady_33 : decode cX3_firstReady 33 = .ok (.aload_n 0, 1) := by decide +kernel
theorem dX3_firstReady_34 : decode cX3_firstReady 34 = .ok (.getfield 11, 3) := by decide +kernel
theorem dX3_firstReady_37 : decode cX3_firstReady 37 = .ok (.iload_n 2, 1) := by decide +kernel
theorem dX3_firstReady_38 : decode cX3_firstReady 38 = .ok (.aaload, 1) := by decide +kernel
theorem dX3_firstReady_39 : decode cX3_firstReady 39 = .ok (.aload_n 0, 1) := by decide +kernel
theorem dX3_firstReady_40 : decode cX3_firstReady 40 = .ok (.getfield 11, 3) := by decide +kernel
theorem dX3_firstReady_43 : decode cX3_firstReady 43 = .ok (.iload_n 1, 1) := by decide +kernel
theorem dX3_firstReady_44 : decode cX3_firstReady 44 = .ok (.aaload, 1) := by decide +kernel
theorem dX3_firstReady_45 : decode cX3_firstReady 45 = .ok (.invokestatic 177, 3) := by decide +kernel
theorem dX3_firstReady_48 : decode cX3_firstReady 48 = .ok (.ifCond .eq 5, 3) := by decide +kernel
theorem dX3_firstReady_51 : decode cX3_firstReady 51 = .ok (.iload_n 2, 1) := by decide +kernel
theorem dX3_firstReady_52 : decode cX3_firstReady 52 = .ok (.istore_n 1, 1) := by decide +kernel
theorem dX3_firstReady_53 : decode cX3_firstReady 53 = .ok (.iinc 2 1, 3) := by decide +kernel
theorem dX3_firstReady_56 : decode cX3_firstReady 56 = .ok (.goto (-48), 3) := by decide +kernel
theorem dX3_firstReady_59 : decode cX3_firstReady 59 = .ok (.iload_n 1, 1) := by decide +kernel
theorem dX3_firstReady_60 : decode cX3_firstReady 60 = .ok (.ireturn, 1) := by decide +kernel
theorem dX3_isAheadOf_0 : decode cX3_isAheadOf 0 = .ok (.aload_n 0, 1) := by decide +kernel
theorem dX3_isAheadOf_1 : decode cX3_isAheadOf 1 = .ok (.getfield 132, 3) := by decide +kernel
theorem dX3_isAheadOf_4 : decode cX3_isAheadOf 4 = .ok (.aload_n 1, 1) := by decide +kernel
theorem dX3_isAheadOf_5 : decode cX3_isAheadOf 5 = .ok (.getfield 132, 3) := by decide +kernel
theorem dX3_isAheadOf_8 : decode cX3_isAheadOf 8 = .ok (.if_icmp .eq 20, 3) := by decide +kernel
theorem dX3_isAheadOf_11 : decode cX3_isAheadOf 11 = .ok (.aload_n 0, 1) := by decide +kernel
theorem dX3_isAheadOf_12 : decode cX3_isAheadOf 12 = .ok (.getfield 132, 3) := by decide +kernel
theorem dX3_isAheadOf_15 : decode cX3_isAheadOf 15 = .ok (.aload_n 1, 1) := by decide +kernel
theorem dX3_isAheadOf_16 : decode cX3_isAheadOf 16 = .ok (.getfield 132, 3) := by decide +kernel
theorem dX3_isAheadOf_19 : decode cX3_isAheadOf 19 = .ok (.if_icmp .le 7, 3) := by decide +kernel
theorem dX3_isAheadOf_22 : decode cX3_isAheadOf 22 = .ok (.iconst 1, 1) := by decide +kernel
theorem dX3_isAheadOf_23 : decode cX3_isAheadOf 23 = .ok (.goto 4, 3) := by decide +kernel
theorem dX3_isAheadOf_26 : decode cX3_isAheadOf 26 = .ok (.iconst 0, 1) := by decide +kernel
theorem dX3_isAheadOf_27 : decode cX3_isAheadOf 27 = .ok (.ireturn, 1) := by decide +kernel
theorem dX3_isAheadOf_28 : decode cX3_isAheadOf 28 = .ok (.aload_n 0, 1) := by decide +kernel
theorem dX3_isAheadOf_29 : decode cX3_isAheadOf 29 = .ok (.getfield 181, 3) := by decide +kernel
theorem dX3_isAheadOf_32 : decode cX3_isAheadOf 32 = .ok (.aload_n 1, 1) := by decide +kernel
theorem dX3_isAheadOf_33 : decode cX3_isAheadOf 33 = .ok (.getfield 181, 3) := by decide +kernel
theorem dX3_isAheadOf_36 : decode cX3_isAheadOf 36 = .ok (.if_icmp .ge 7, 3) := by decide +kernel
theorem dX3_isAheadOf_39 : decode cX3_isAheadOf 39 = .ok (.iconst 1, 1) := by decide +kernel
theorem dX3_isAheadOf_40 : decode cX3_isAheadOf 40 = .ok (.goto 4, 3) := by decide +kernel
theorem dX3_isAheadOf_43 : decode cX3_isAheadOf 43 = .ok (.iconst 0, 1) := by decide +kernel
theorem dX3_isAheadOf_44 : decode cX3_isAheadOf 44 = .ok (.ireturn, 1) := by decide +kernel
theorem dX3_perform_0 : decode cX3_perform 0 = .ok (.aload_n 0, 1) := by decide +kernel
theorem dX3_perform_1 : decode cX3_perform 1 = .ok (.getfield 11, 3) := by decide +kernel
theorem dX3_perform_4 : decode cX3_perform 4 = .ok (.iload_n 1, 1) := by decide +kernel
theorem dX3_perform_5 : decode cX3_perform 5 = .ok (.aaload, 1) := by decide +kernel
theorem dX3_perform_6 : decode cX3_perform 6 = .ok (.astore_n 2, 1) := by decide +kernel
theorem dX3_perform_7 : decode cX3_perform 7 = .ok (.aload_n 2, 1) := by decide +kernel
theorem dX3_perform_8 : decode cX3_perform 8 = .ok (.dup, 1) := by decide +kernel
theorem dX3_perform_9 : decode cX3_perform 9 = .ok (.getfield 184, 3) := by decide +kernel
theorem dX3_perform_12 : decode cX3_perform 12 = .ok (.iconst 1, 1) := by decide +kernel
theorem dX3_perform_13 : decode cX3_perform 13 = .ok (.iadd, 1) := by decide +kernel
theorem dX3_perform_14 : decode cX3_perform 14 = .ok (.putfield 184, 3) := by decide +kernel
theorem dX3_perform_17 : decode cX3_perform 17 = .ok (.aload_n 2, 1) := by decide +kernel
theorem dX3_perform_18 : decode cX3_perform 18 = .ok (.aload_n 0, 1) := by decide +kernel
theorem dX3_perform_19 : decode cX3_perform 19 = .ok (.getfield 48, 3) := by decide +kernel
theorem dX3_perform_22 : decode cX3_perform 22 = .ok (.putfield 181, 3) := by decide +kernel
theorem dX3_perform_25 : decode cX3_perform 25 = .ok (.aload_n 2, 1) := by decide +kernel
theorem dX3_perform_26 : decode cX3_perform 26 = .ok (.getfield 187, 3) := by decide +kernel
theorem dX3_perform_29 : decode cX3_perform 29 = .ok (.aload_n 2, 1) := by decide +kernel
theorem dX3_perform_30 : decode cX3_perform 30 = .ok (.getfield 190, 3) := by decide +kernel
theorem dX3_perform_33 : decode cX3_perform 33 = .ok (.if_icmp .lt 5, 3) := by decide +kernel
theorem dX3_perform_36 : decode cX3_perform 36 = .ok (.iconst 0, 1) := by decide +kernel
theorem dX3_perform_37 : decode cX3_perform 37 = .ok (.ireturn, 1) := by decide +kernel
theorem dX3_perform_38 : decode cX3_perform 38 = .ok (.aload_n 2, 1) := by decide +kernel
theorem dX3_perform_39 : decode cX3_perform 39 = .ok (.getfield 193, 3) := by decide +kernel
theorem dX3_perform_42 : decode cX3_perform 42 = .ok (.aload_n 2, 1) := by decide +kernel
theorem dX3_perform_43 : decode cX3_perform 43 = .ok (.getfield 187, 3) := by decide +kernel
theorem dX3_perform_46 : decode cX3_perform 46 = .ok (.iaload, 1) := by decide +kernel
theorem dX3_perform_47 : decode cX3_perform 47 = .ok (.istore_n 3, 1) := by decide +kernel
theorem dX3_perform_48 : decode cX3_perform 48 = .ok (.getstatic 196, 3) := by decide +kernel
theorem dX3_perform_51 : decode cX3_perform 51 = .ok (.getstatic 201, 3) := by decide +kernel
theorem dX3_perform_54 : decode cX3_perform 54 = .ok (.aload_n 2, 1) := by decide +kernel
theorem dX3_perform_55 : decode cX3_perform 55 = .ok (.getfield 205, 3) := by decide +kernel
theorem dX3_perform_58 : decode cX3_perform 58 = .ok (.aload_n 2, 1) := by decide +kernel
theorem dX3_perform_59 : decode cX3_perform 59 = .ok (.getfield 187, 3) := by decide +kernel
theorem dX3_perform_62 : decode cX3_perform 62 = .ok (.iaload, 1) := by decide +kernel
theorem dX3_perform_63 : decode cX3_perform 63 = .ok (.aaload, 1) := by decide +kernel
theorem dX3_perform_64 : decode cX3_perform 64 = .ok (.invokevirtual 208, 3) := by decide +kernel
theorem dX3_perform_67 : decode cX3_perform 67 = .ok (.iaload, 1) := by decide +kernel
theorem dX3_perform_68 : decode cX3_perform 68 = .ok (.tableswitch 175 1 10 #[56, 80, 88, 101, 119, 127, 135, 152, 160, 168], 56) := by decide +kernel
theorem dX3_perform_124 : decode cX3_perform 124 = .ok (.aload_n 2, 1) := by decide +kernel
theorem dX3_perform_125 : decode cX3_perform 125 = .ok (.dup, 1) := by decide +kernel
theorem dX3_perform_126 : decode cX3_perform 126 = .ok (.getfield 213, 3) := by decide +kernel
theorem dX3_perform_129 : decode cX3_perform 129 = .ok (.iconst 1, 1) := by decide +kernel
theorem dX3_perform_130 : decode cX3_perform 130 = .ok (.iadd, 1) := by decide +kernel
theorem dX3_perform_131 : decode cX3_perform 131 = .ok (.putfield 213, 3) := by decide +kernel
theorem dX3_perform_134 : decode cX3_perform 134 = .ok (.aload_n 2, 1) := by decide +kernel
theorem dX3_perform_135 : decode cX3_perform 135 = .ok (.getfield 213, 3) := by decide +kernel
theorem dX3_perform_138 : decode cX3_perform 138 = .ok (.iload_n 3, 1) := by decide +kernel
theorem dX3_perform_139 : decode cX3_perform 139 = .ok (.if_icmp .lt 7, 3) := by decide +kernel
theorem dX3_perform_142 : decode cX3_perform 142 = .ok (.iconst 1, 1) := by decide +kernel
theorem dX3_perform_143 : decode cX3_perform 143 = .ok (.goto 4, 3) := by decide +kernel
theorem dX3_perform_146 : decode cX3_perform 146 = .ok (.iconst 0, 1) := by decide +kernel
theorem dX3_perform_147 : decode cX3_perform 147 = .ok (.ireturn, 1) := by decide +kernel
theorem dX3_perform_148 : decode cX3_perform 148 = .ok (.aload_n 0, 1) := by decide +kernel
theorem dX3_perform_149 : decode cX3_perform 149 = .ok (.iload_n 1, 1) := by decide +kernel
theorem dX3_perform_150 : decode cX3_perform 150 = .ok (.iconst (-1), 1) := by decide +kernel
theorem dX3_perform_151 : decode cX3_perform 151 = .ok (.invokevirtual 216, 3) := by decide +kernel
theorem dX3_perform_154 : decode cX3_perform 154 = .ok (.iconst 1, 1) := by decide +kernel
theorem dX3_perform_155 : decode cX3_perform 155 = .ok (.ireturn, 1) := by decide +kernel
theorem dX3_perform_156 : decode cX3_perform 156 = .ok (.aload_n 0, 1) := by decide +kernel
theorem dX3_perform_157 : decode cX3_perform 157 = .ok (.iload_n 1, 1) := by decide +kernel
theorem dX3_perform_158 : decode cX3_perform 158 = .ok (.aload_n 0, 1) := by decide +kernel
theorem dX3_perform_159 : decode cX3_perform 159 = .ok (.getfield 48, 3) := by decide +kernel
theorem dX3_perform_162 : decode cX3_perform 162 = .ok (.iload_n 3, 1) := by decide +kernel
theorem dX3_perform_163 : decode cX3_perform 163 = .ok (.iadd, 1) := by decide +kernel
theorem dX3_perform_164 : decode cX3_perform 164 = .ok (.invokevirtual 216, 3) := by decide +kernel
theorem dX3_perform_167 : decode cX3_perform 167 = .ok (.iconst 1, 1) := by decide +kernel
theorem dX3_perform_168 : decode cX3_perform 168 = .ok (.ireturn, 1) := by decide +kernel
theorem dX3_perform_169 : decode cX3_perform 169 = .ok (.aload_n 0, 1) := by decide +kernel
theorem dX3_perform_170 : decode cX3_perform 170 = .ok (.iload_n 3, 1) := by decide +kernel
theorem dX3_perform_171 : decode cX3_perform 171 = .ok (.invokevirtual 219, 3) := by decide +kernel
theorem dX3_perform_174 : decode cX3_perform 174 = .ok (.ifCond .eq 5, 3) := by decide +kernel
theorem dX3_perform_177 : decode cX3_perform 177 = .ok (.iconst 1, 1) := by decide +kernel
theorem dX3_perform_178 : decode cX3_perform 178 = .ok (.ireturn, 1) := by decide +kernel
theorem dX3_perform_179 : decode cX3_perform 179 = .ok (.aload_n 0, 1) := by decide +kernel
theorem dX3_perform_180 : decode cX3_perform 180 = .ok (.iload_n 1, 1) := by decide +kernel
theorem dX3_perform_181 : decode cX3_perform 181 = .ok (.iconst (-1), 1) := by decide +kernel
theorem dX3_perform_182 : decode cX3_perform 182 = .ok (.invokevirtual 216, 3) := by decide +kernel
theorem dX3_perform_185 : decode cX3_perform 185 = .ok (.iconst 0, 1) := by decide +kernel
theorem dX3_perform_186 : decode cX3_perform 186 = .ok (.ireturn, 1) := by decide +kernel
theorem dX3_perform_187 : decode cX3_perform 187 = .ok (.aload_n 0, 1) := by decide +kernel
theorem dX3_perform_188 : decode cX3_perform 188 = .ok (.iload_n 3, 1) := by decide +kernel
theorem dX3_perform_189 : decode cX3_perform 189 = .ok (.iconst 1, 1) := by decide +kernel
theorem dX3_perform_190 : decode cX3_perform 190 = .ok (.invokevirtual 222, 3) := by decide +kernel
theorem dX3_perform_193 : decode cX3_perform 193 = .ok (.iconst 1, 1) := by decide +kernel
theorem dX3_perform_194 : decode cX3_perform 194 = .ok (.ireturn, 1) := by decide +kernel
theorem dX3_perform_195 : decode cX3_perform 195 = .ok (.aload_n 0, 1) := by decide +kernel
theorem dX3_perform_196 : decode cX3_perform 196 = .ok (.iload_n 3, 1) := by decide +kernel
theorem dX3_perform_197 : decode cX3_perform 197 = .ok (.iconst 0, 1) := by decide +kernel
theorem dX3_perform_198 : decode cX3_perform 198 = .ok (.invokevirtual 222, 3) := by decide +kernel
theorem dX3_perform_201 : decode cX3_perform 201 = .ok (.iconst 1, 1) := by decide +kernel
theorem dX3_perform_202 : decode cX3_perform 202 = .ok (.ireturn, 1) := by decide +kernel
theorem dX3_perform_203 : decode cX3_perform 203 = .ok (.iload_n 3, 1) := by decide +kernel
theorem dX3_perform_204 : decode cX3_perform 204 = .ok (.aload_n 0, 1) := by decide +kernel
theorem dX3_perform_205 : decode cX3_perform 205 = .ok (.getfield 44, 3) := by decide +kernel
theorem dX3_perform_208 : decode cX3_perform 208 = .ok (.if_icmp .ge 10, 3) := by decide +kernel
theorem dX3_perform_211 : decode cX3_perform 211 = .ok (.aload_n 0, 1) := by decide +kernel
theorem dX3_perform_212 : decode cX3_perform 212 = .ok (.iload_n 3, 1) := by decide +kernel
theorem dX3_perform_213 : decode cX3_perform 213 = .ok (.iload_n 1, 1) := by decide +kernel
theorem dX3_perform_214 : decode cX3_perform 214 = .ok (.invokevirtual 226, 3) := by decide +kernel
theorem dX3_perform_217 : decode cX3_perform 217 = .ok (.pop, 1) := by decide +kernel
theorem dX3_perform_218 : decode cX3_perform 218 = .ok (.iconst 1, 1) := by decide +kernel
theorem dX3_perform_219 : decode cX3_perform 219 = .ok (.ireturn, 1) := by decide +kernel
theorem dX3_perform_220 : decode cX3_perform 220 = .ok (.aload_n 0, 1) := by decide +kernel
theorem dX3_perform_221 : decode cX3_perform 221 = .ok (.iload_n 1, 1) := by decide +kernel
theorem dX3_perform_222 : decode cX3_perform 222 = .ok (.iload_n 3, 1) := by decide +kernel
theorem dX3_perform_223 : decode cX3_perform 223 = .ok (.invokevirtual 229, 3) := by decide +kernel
theorem dX3_perform_226 : decode cX3_perform 226 = .ok (.iconst 1, 1) := by decide +kernel
theorem dX3_perform_227 : decode cX3_perform 227 = .ok (.ireturn, 1) := by decide +kernel
theorem dX3_perform_228 : decode cX3_perform 228 = .ok (.aload_n 0, 1) := by decide +kernel
theorem dX3_perform_229 : decode cX3_perform 229 = .ok (.iload_n 1, 1) := by decide +kernel
theorem dX3_perform_230 : decode cX3_perform 230 = .ok (.iload_n 3, 1) := by decide +kernel
theorem dX3_perform_231 : decode cX3_perform 231 = .ok (.invokevirtual 232, 3) := by decide +kernel
theorem dX3_perform_234 : decode cX3_perform 234 = .ok (.iconst 1, 1) := by decide +kernel
theorem dX3_perform_235 : decode cX3_perform 235 = .ok (.ireturn, 1) := by decide +kernel
theorem dX3_perform_236 : decode cX3_perform 236 = .ok (.aload_n 0, 1) := by decide +kernel
theorem dX3_perform_237 : decode cX3_perform 237 = .ok (.iload_n 1, 1) := by decide +kernel
theorem dX3_perform_238 : decode cX3_perform 238 = .ok (.iload_n 3, 1) := by decide +kernel
theorem dX3_perform_239 : decode cX3_perform 239 = .ok (.invokevirtual 235, 3) := by decide +kernel
theorem dX3_perform_242 : decode cX3_perform 242 = .ok (.ireturn, 1) := by decide +kernel
theorem dX3_perform_243 : decode cX3_perform 243 = .ok (.aload_n 0, 1) := by decide +kernel
theorem dX3_perform_244 : decode cX3_perform 244 = .ok (.iload_n 1, 1) := by decide +kernel
theorem dX3_perform_245 : decode cX3_perform 245 = .ok (.iload_n 3, 1) := by decide +kernel
theorem dX3_perform_246 : decode cX3_perform 246 = .ok (.invokevirtual 239, 3) := by decide +kernel
theorem dX3_perform_249 : decode cX3_perform 249 = .ok (.ireturn, 1) := by decide +kernel
theorem dX3_park_0 : decode cX3_park 0 = .ok (.aload_n 0, 1) := by decide +kernel
theorem dX3_park_1 : decode cX3_park 1 = .ok (.getfield 11, 3) := by decide +kernel
theorem dX3_park_4 : decode cX3_park 4 = .ok (.iload_n 1, 1) := by decide +kernel
theorem dX3_park_5 : decode cX3_park 5 = .ok (.aaload, 1) := by decide +kernel
theorem dX3_park_6 : decode cX3_park 6 = .ok (.astore_n 3, 1) := by decide +kernel
theorem dX3_park_7 : decode cX3_park 7 = .ok (.aload_n 3, 1) := by decide +kernel
theorem dX3_park_8 : decode cX3_park 8 = .ok (.getfield 242, 3) := by decide +kernel
theorem dX3_park_11 : decode cX3_park 11 = .ok (.ifCond .eq 16, 3) := by decide +kernel
theorem dX3_park_14 : decode cX3_park 14 = .ok (.aload_n 3, 1) := by decide +kernel
theorem dX3_park_15 : decode cX3_park 15 = .ok (.iconst 0, 1) := by decide +kernel
theorem dX3_park_16 : decode cX3_park 16 = .ok (.putfield 242, 3) := by decide +kernel
theorem dX3_park_19 : decode cX3_park 19 = .ok (.aload_n 3, 1) := by decide +kernel
theorem dX3_park_20 : decode cX3_park 20 = .ok (.iconst 4, 1) := by decide +kernel
theorem dX3_park_21 : decode cX3_park 21 = .ok (.putfield 245, 3) := by decide +kernel
theorem dX3_park_24 : decode cX3_park 24 = .ok (.goto 57, 3) := by decide +kernel
theorem dX3_park_27 : decode cX3_park 27 = .ok (.aload_n 3, 1) := by decide +kernel
theorem dX3_park_28 : decode cX3_park 28 = .ok (.getfield 248, 3) := by decide +kernel
theorem dX3_park_31 : decode cX3_park 31 = .ok (.ifCond .eq 16, 3) := by decide +kernel
theorem dX3_park_34 : decode cX3_park 34 = .ok (.aload_n 3, 1) := by decide +kernel
theorem dX3_park_35 : decode cX3_park 35 = .ok (.iconst 0, 1) := by decide +kernel
theorem dX3_park_36 : decode cX3_park 36 = .ok (.putfield 248, 3) := by decide +kernel
theorem dX3_park_39 : decode cX3_park 39 = .ok (.aload_n 3, 1) := by decide +kernel
theorem dX3_park_40 : decode cX3_park 40 = .ok (.iconst 1, 1) := by decide +kernel
theorem dX3_park_41 : decode cX3_park 41 = .ok (.putfield 245, 3) := by decide +kernel
theorem dX3_park_44 : decode cX3_park 44 = .ok (.goto 37, 3) := by decide +kernel
theorem dX3_park_47 : decode cX3_park 47 = .ok (.aload_n 3, 1) := by decide +kernel
theorem dX3_park_48 : decode cX3_park 48 = .ok (.iconst 1, 1) := by decide +kernel
theorem dX3_park_49 : decode cX3_park 49 = .ok (.putfield 102, 3) := by decide +kernel
theorem dX3_park_52 : decode cX3_park 52 = .ok (.aload_n 3, 1) := by decide +kernel
theorem dX3_park_53 : decode cX3_park 53 = .ok (.iload_n 2, 1) := by decide +kernel
theorem dX3_park_54 : decode cX3_park 54 = .ok (.putfield 173, 3) := by decide +kernel
theorem dX3_park_57 : decode cX3_park 57 = .ok (.aload_n 3, 1) := by decide +kernel
theorem dX3_park_58 : decode cX3_park 58 = .ok (.dup, 1) := by decide +kernel
theorem dX3_park_59 : decode cX3_park 59 = .ok (.getfield 251, 3) := by decide +kernel
theorem dX3_park_62 : decode cX3_park 62 = .ok (.iconst 1, 1) := by decide +kernel
theorem dX3_park_63 : decode cX3_park 63 = .ok (.iadd, 1) := by decide +kernel
theorem dX3_park_64 : decode cX3_park 64 = .ok (.putfield 251, 3) := by decide +kernel
theorem dX3_park_67 : decode cX3_park 67 = .ok (.aload_n 0, 1) := by decide +kernel
theorem dX3_park_68 : decode cX3_park 68 = .ok (.getfield 27, 3) := by decide +kernel
theorem dX3_park_71 : decode cX3_park 71 = .ok (.aload_n 0, 1) := by decide +kernel
theorem dX3_park_72 : decode cX3_park 72 = .ok (.getfield 48, 3) := by decide +kernel
theorem dX3_park_75 : decode cX3_park 75 = .ok (.iconst 0, 1) := by decide +kernel
theorem dX3_park_76 : decode cX3_park 76 = .ok (.iload_n 1, 1) := by decide +kernel
theorem dX3_park_77 : decode cX3_park 77 = .ok (.iload_n 2, 1) := by decide +kernel
theorem dX3_park_78 : decode cX3_park 78 = .ok (.invokevirtual 254, 3) := by decide +kernel
theorem dX3_park_81 : decode cX3_park 81 = .ok (.return_, 1) := by decide +kernel
theorem dX3_comeBack_0 : decode cX3_comeBack 0 = .ok (.aload_n 0, 1) := by decide +kernel
theorem dX3_comeBack_1 : decode cX3_comeBack 1 = .ok (.getfield 11, 3) := by decide +kernel
theorem dX3_comeBack_4 : decode cX3_comeBack 4 = .ok (.iload_n 1, 1) := by decide +kernel
theorem dX3_comeBack_5 : decode cX3_comeBack 5 = .ok (.aaload, 1) := by decide +kernel
theorem dX3_comeBack_6 : decode cX3_comeBack 6 = .ok (.astore_n 3, 1) := by decide +kernel
theorem dX3_comeBack_7 : decode cX3_comeBack 7 = .ok (.aload_n 3, 1) := by decide +kernel
theorem dX3_comeBack_8 : decode cX3_comeBack 8 = .ok (.iconst 0, 1) := by decide +kernel
theorem dX3_comeBack_9 : decode cX3_comeBack 9 = .ok (.putfield 102, 3) := by decide +kernel
theorem dX3_comeBack_12 : decode cX3_comeBack 12 = .ok (.aload_n 3, 1) := by decide +kernel
theorem dX3_comeBack_13 : decode cX3_comeBack 13 = .ok (.iconst (-1), 1) := by decide +kernel
theorem dX3_comeBack_14 : decode cX3_comeBack 14 = .ok (.putfield 173, 3) := by decide +kernel
theorem dX3_comeBack_17 : decode cX3_comeBack 17 = .ok (.aload_n 3, 1) := by decide +kernel
theorem dX3_comeBack_18 : decode cX3_comeBack 18 = .ok (.iload_n 2, 1) := by decide +kernel
theorem dX3_comeBack_19 : decode cX3_comeBack 19 = .ok (.putfield 245, 3) := by decide +kernel
theorem dX3_comeBack_22 : decode cX3_comeBack 22 = .ok (.aload_n 3, 1) := by decide +kernel
theorem dX3_comeBack_23 : decode cX3_comeBack 23 = .ok (.getfield 258, 3) := by decide +kernel
theorem dX3_comeBack_26 : decode cX3_comeBack 26 = .ok (.iload_n 2, 1) := by decide +kernel
theorem dX3_comeBack_27 : decode cX3_comeBack 27 = .ok (.dup2, 1) := by decide +kernel
theorem dX3_comeBack_28 : decode cX3_comeBack 28 = .ok (.iaload, 1) := by decide +kernel
theorem dX3_comeBack_29 : decode cX3_comeBack 29 = .ok (.iconst 1, 1) := by decide +kernel
theorem dX3_comeBack_30 : decode cX3_comeBack 30 = .ok (.iadd, 1) := by decide +kernel
theorem dX3_comeBack_31 : decode cX3_comeBack 31 = .ok (.iastore, 1) := by decide +kernel
theorem dX3_comeBack_32 : decode cX3_comeBack 32 = .ok (.aload_n 0, 1) := by decide +kernel
theorem dX3_comeBack_33 : decode cX3_comeBack 33 = .ok (.getfield 27, 3) := by decide +kernel
theorem dX3_comeBack_36 : decode cX3_comeBack 36 = .ok (.aload_n 0, 1) := by decide +kernel
theorem dX3_comeBack_37 : decode cX3_comeBack 37 = .ok (.getfield 48, 3) := by decide +kernel
theorem dX3_comeBack_40 : decode cX3_comeBack 40 = .ok (.iconst 1, 1) := by decide +kernel
theorem dX3_comeBack_41 : decode cX3_comeBack 41 = .ok (.iload_n 1, 1) := by decide +kernel
theorem dX3_comeBack_42 : decode cX3_comeBack 42 = .ok (.iload_n 2, 1) := by decide +kernel
theorem dX3_comeBack_43 : decode cX3_comeBack 43 = .ok (.invokevirtual 254, 3) := by decide +kernel
theorem dX3_comeBack_46 : decode cX3_comeBack 46 = .ok (.aload_n 0, 1) := by decide +kernel
theorem dX3_comeBack_47 : decode cX3_comeBack 47 = .ok (.iload_n 1, 1) := by decide +kernel
theorem dX3_comeBack_48 : decode cX3_comeBack 48 = .ok (.invokevirtual 261, 3) := by decide +kernel
theorem dX3_comeBack_51 : decode cX3_comeBack 51 = .ok (.return_, 1) := by decide +kernel
theorem dX3_wakeUp_0 : decode cX3_wakeUp 0 = .ok (.aload_n 0, 1) := by decide +kernel
theorem dX3_wakeUp_1 : decode cX3_wakeUp 1 = .ok (.getfield 11, 3) := by decide +kernel
theorem dX3_wakeUp_4 : decode cX3_wakeUp 4 = .ok (.iload_n 1, 1) := by decide +kernel
theorem dX3_wakeUp_5 : decode cX3_wakeUp 5 = .ok (.aaload, 1) := by decide +kernel
theorem dX3_wakeUp_6 : decode cX3_wakeUp 6 = .ok (.astore_n 3, 1) := by decide +kernel
theorem dX3_wakeUp_7 : decode cX3_wakeUp 7 = .ok (.aload_n 3, 1) := by decide +kernel
theorem dX3_wakeUp_8 : decode cX3_wakeUp 8 = .ok (.getfield 102, 3) := by decide +kernel
theorem dX3_wakeUp_11 : decode cX3_wakeUp 11 = .ok (.iconst 1, 1) := by decide +kernel
theorem dX3_wakeUp_12 : decode cX3_wakeUp 12 = .ok (.if_icmp .ne 11, 3) := by decide +kernel
theorem dX3_wakeUp_15 : decode cX3_wakeUp 15 = .ok (.aload_n 0, 1) := by decide +kernel
theorem dX3_wakeUp_16 : decode cX3_wakeUp 16 = .ok (.iload_n 1, 1) := by decide +kernel
theorem dX3_wakeUp_17 : decode cX3_wakeUp 17 = .ok (.iconst 1, 1) := by decide +kernel
theorem dX3_wakeUp_18 : decode cX3_wakeUp 18 = .ok (.invokevirtual 147, 3) := by decide +kernel
theorem dX3_wakeUp_21 : decode cX3_wakeUp 21 = .ok (.iconst 0, 1) := by decide +kernel
theorem dX3_wakeUp_22 : decode cX3_wakeUp 22 = .ok (.ireturn, 1) := by decide +kernel
theorem dX3_wakeUp_23 : decode cX3_wakeUp 23 = .ok (.aload_n 3, 1) := by decide +kernel
theorem dX3_wakeUp_24 : decode cX3_wakeUp 24 = .ok (.invokevirtual 128, 3) := by decide +kernel
theorem dX3_wakeUp_27 : decode cX3_wakeUp 27 = .ok (.ifCond .eq 15, 3) := by decide +kernel
theorem dX3_wakeUp_30 : decode cX3_wakeUp 30 = .ok (.aload_n 0, 1) := by decide +kernel
theorem dX3_wakeUp_31 : decode cX3_wakeUp 31 = .ok (.dup, 1) := by decide +kernel
theorem dX3_wakeUp_32 : decode cX3_wakeUp 32 = .ok (.getfield 63, 3) := by decide +kernel
theorem dX3_wakeUp_35 : decode cX3_wakeUp 35 = .ok (.iconst 1, 1) := by decide +kernel
theorem dX3_wakeUp_36 : decode cX3_wakeUp 36 = .ok (.iadd, 1) := by decide +kernel
theorem dX3_wakeUp_37 : decode cX3_wakeUp 37 = .ok (.putfield 63, 3) := by decide +kernel
theorem dX3_wakeUp_40 : decode cX3_wakeUp 40 = .ok (.iconst 3, 1) := by decide +kernel
theorem dX3_wakeUp_41 : decode cX3_wakeUp 41 = .ok (.ireturn, 1) := by decide +kernel
theorem dX3_wakeUp_42 : decode cX3_wakeUp 42 = .ok (.aload_n 3, 1) := by decide +kernel
theorem dX3_wakeUp_43 : decode cX3_wakeUp 43 = .ok (.getfield 248, 3) := by decide +kernel
theorem dX3_wakeUp_46 : decode cX3_wakeUp 46 = .ok (.ifCond .eq 30, 3) := by decide +kernel
theorem dX3_wakeUp_49 : decode cX3_wakeUp 49 = .ok (.aload_n 0, 1) := by decide +kernel
theorem dX3_wakeUp_50 : decode cX3_wakeUp 50 = .ok (.dup, 1) := by decide +kernel
theorem dX3_wakeUp_51 : decode cX3_wakeUp 51 = .ok (.getfield 60, 3) := by decide +kernel
theorem dX3_wakeUp_54 : decode cX3_wakeUp 54 = .ok (.iconst 1, 1) := by decide +kernel
theorem dX3_wakeUp_55 : decode cX3_wakeUp 55 = .ok (.iadd, 1) := by decide +kernel
theorem dX3_wakeUp_56 : decode cX3_wakeUp 56 = .ok (.putfield 60, 3) := by decide +kernel
theorem dX3_wakeUp_59 : decode cX3_wakeUp 59 = .ok (.aload_n 0, 1) := by decide +kernel
theorem dX3_wakeUp_60 : decode cX3_wakeUp 60 = .ok (.getfield 27, 3) := by decide +kernel
theorem dX3_wakeUp_63 : decode cX3_wakeUp 63 = .ok (.aload_n 0, 1) := by decide +kernel
theorem dX3_wakeUp_64 : decode cX3_wakeUp 64 = .ok (.getfield 48, 3) := by decide +kernel
theorem dX3_wakeUp_67 : decode cX3_wakeUp 67 = .ok (.bipush 7, 2) := by decide +kernel
theorem dX3_wakeUp_69 : decode cX3_wakeUp 69 = .ok (.iload_n 1, 1) := by decide +kernel
theorem dX3_wakeUp_70 : decode cX3_wakeUp 70 = .ok (.iload_n 2, 1) := by decide +kernel
theorem dX3_wakeUp_71 : decode cX3_wakeUp 71 = .ok (.invokevirtual 254, 3) := by decide +kernel
theorem dX3_wakeUp_74 : decode cX3_wakeUp 74 = .ok (.iconst 2, 1) := by decide +kernel
theorem dX3_wakeUp_75 : decode cX3_wakeUp 75 = .ok (.ireturn, 1) := by decide +kernel
theorem dX3_wakeUp_76 : decode cX3_wakeUp 76 = .ok (.aload_n 3, 1) := by decide +kernel
theorem dX3_wakeUp_77 : decode cX3_wakeUp 77 = .ok (.iconst 1, 1) := by decide +kernel
theorem dX3_wakeUp_78 : decode cX3_wakeUp 78 = .ok (.putfield 248, 3) := by decide +kernel
theorem dX3_wakeUp_81 : decode cX3_wakeUp 81 = .ok (.iconst 1, 1) := by decide +kernel
theorem dX3_wakeUp_82 : decode cX3_wakeUp 82 = .ok (.ireturn, 1) := by decide +kernel
theorem dX3_disturb_0 : decode cX3_disturb 0 = .ok (.aload_n 0, 1) := by decide +kernel
theorem dX3_disturb_1 : decode cX3_disturb 1 = .ok (.getfield 11, 3) := by decide +kernel
theorem dX3_disturb_4 : decode cX3_disturb 4 = .ok (.iload_n 1, 1) := by decide +kernel
theorem dX3_disturb_5 : decode cX3_disturb 5 = .ok (.aaload, 1) := by decide +kernel
theorem dX3_disturb_6 : decode cX3_disturb 6 = .ok (.astore_n 2, 1) := by decide +kernel
theorem dX3_disturb_7 : decode cX3_disturb 7 = .ok (.aload_n 2, 1) := by decide +kernel
theorem dX3_disturb_8 : decode cX3_disturb 8 = .ok (.getfield 102, 3) := by decide +kernel
theorem dX3_disturb_11 : decode cX3_disturb 11 = .ok (.iconst 1, 1) := by decide +kernel
theorem dX3_disturb_12 : decode cX3_disturb 12 = .ok (.if_icmp .ne 11, 3) := by decide +kernel
theorem dX3_disturb_15 : decode cX3_disturb 15 = .ok (.aload_n 0, 1) := by decide +kernel
theorem dX3_disturb_16 : decode cX3_disturb 16 = .ok (.iload_n 1, 1) := by decide +kernel
theorem dX3_disturb_17 : decode cX3_disturb 17 = .ok (.iconst 4, 1) := by decide +kernel
theorem dX3_disturb_18 : decode cX3_disturb 18 = .ok (.invokevirtual 147, 3) := by decide +kernel
theorem dX3_disturb_21 : decode cX3_disturb 21 = .ok (.iconst 0, 1) := by decide +kernel
theorem dX3_disturb_22 : decode cX3_disturb 22 = .ok (.ireturn, 1) := by decide +kernel
theorem dX3_disturb_23 : decode cX3_disturb 23 = .ok (.aload_n 2, 1) := by decide +kernel
theorem dX3_disturb_24 : decode cX3_disturb 24 = .ok (.invokevirtual 128, 3) := by decide +kernel
theorem dX3_disturb_27 : decode cX3_disturb 27 = .ok (.ifCond .eq 5, 3) := by decide +kernel
theorem dX3_disturb_30 : decode cX3_disturb 30 = .ok (.iconst 3, 1) := by decide +kernel
theorem dX3_disturb_31 : decode cX3_disturb 31 = .ok (.ireturn, 1) := by decide +kernel
theorem dX3_disturb_32 : decode cX3_disturb 32 = .ok (.aload_n 2, 1) := by decide +kernel
theorem dX3_disturb_33 : decode cX3_disturb 33 = .ok (.getfield 242, 3) := by decide +kernel
theorem dX3_disturb_36 : decode cX3_disturb 36 = .ok (.ifCond .eq 5, 3) := by decide +kernel
theorem dX3_disturb_39 : decode cX3_disturb 39 = .ok (.iconst 2, 1) := by decide +kernel
theorem dX3_disturb_40 : decode cX3_disturb 40 = .ok (.ireturn, 1) := by decide +kernel
theorem dX3_disturb_41 : decode cX3_disturb 41 = .ok (.aload_n 2, 1) := by decide +kernel
theorem dX3_disturb_42 : decode cX3_disturb 42 = .ok (.iconst 1, 1) := by decide +kernel
theorem dX3_disturb_43 : decode cX3_disturb 43 = .ok (.putfield 242, 3) := by decide +kernel
theorem dX3_disturb_46 : decode cX3_disturb 46 = .ok (.iconst 1, 1) := by decide +kernel
theorem dX3_disturb_47 : decode cX3_disturb 47 = .ok (.ireturn, 1) := by decide +kernel
theorem dX3_tellOn_0 : decode cX3_tellOn 0 = .ok (.aload_n 0, 1) := by decide +kernel
theorem dX3_tellOn_1 : decode cX3_tellOn 1 = .ok (.getfield 11, 3) := by decide +kernel
theorem dX3_tellOn_4 : decode cX3_tellOn 4 = .ok (.iload_n 1, 1) := by decide +kernel
theorem dX3_tellOn_5 : decode cX3_tellOn 5 = .ok (.aaload, 1) := by decide +kernel
theorem dX3_tellOn_6 : decode cX3_tellOn 6 = .ok (.getfield 245, 3) := by decide +kernel
theorem dX3_tellOn_9 : decode cX3_tellOn 9 = .ok (.iconst 1, 1) := by decide +kernel
theorem dX3_tellOn_10 : decode cX3_tellOn 10 = .ok (.if_icmp .eq 4, 3) := by decide +kernel
theorem dX3_tellOn_13 : decode cX3_tellOn 13 = .ok (.return_, 1) := by decide +kernel
theorem dX3_tellOn_14 : decode cX3_tellOn 14 = .ok (.aload_n 0, 1) := by decide +kernel
theorem dX3_tellOn_15 : decode cX3_tellOn 15 = .ok (.getfield 11, 3) := by decide +kernel
theorem dX3_tellOn_18 : decode cX3_tellOn 18 = .ok (.iload_n 1, 1) := by decide +kernel
theorem dX3_tellOn_19 : decode cX3_tellOn 19 = .ok (.aaload, 1) := by decide +kernel
theorem dX3_tellOn_20 : decode cX3_tellOn 20 = .ok (.iconst 0, 1) := by decide +kernel
theorem dX3_tellOn_21 : decode cX3_tellOn 21 = .ok (.putfield 245, 3) := by decide +kernel
theorem dX3_tellOn_24 : decode cX3_tellOn 24 = .ok (.iload_n 2, 1) := by decide +kernel
theorem dX3_tellOn_25 : decode cX3_tellOn 25 = .ok (.aload_n 0, 1) := by decide +kernel
theorem dX3_tellOn_26 : decode cX3_tellOn 26 = .ok (.getfield 44, 3) := by decide +kernel
theorem dX3_tellOn_29 : decode cX3_tellOn 29 = .ok (.if_icmp .ge 35, 3) := by decide +kernel
theorem dX3_tellOn_32 : decode cX3_tellOn 32 = .ok (.aload_n 0, 1) := by decide +kernel
theorem dX3_tellOn_33 : decode cX3_tellOn 33 = .ok (.dup, 1) := by decide +kernel
theorem dX3_tellOn_34 : decode cX3_tellOn 34 = .ok (.getfield 69, 3) := by decide +kernel
theorem dX3_tellOn_37 : decode cX3_tellOn 37 = .ok (.iconst 1, 1) := by decide +kernel
theorem dX3_tellOn_38 : decode cX3_tellOn 38 = .ok (.iadd, 1) := by decide +kernel
theorem dX3_tellOn_39 : decode cX3_tellOn 39 = .ok (.putfield 69, 3) := by decide +kernel
theorem dX3_tellOn_42 : decode cX3_tellOn 42 = .ok (.aload_n 0, 1) := by decide +kernel
theorem dX3_tellOn_43 : decode cX3_tellOn 43 = .ok (.getfield 27, 3) := by decide +kernel
theorem dX3_tellOn_46 : decode cX3_tellOn 46 = .ok (.aload_n 0, 1) := by decide +kernel
theorem dX3_tellOn_47 : decode cX3_tellOn 47 = .ok (.getfield 48, 3) := by decide +kernel
theorem dX3_tellOn_50 : decode cX3_tellOn 50 = .ok (.bipush 9, 2) := by decide +kernel
theorem dX3_tellOn_52 : decode cX3_tellOn 52 = .ok (.iload_n 1, 1) := by decide +kernel
theorem dX3_tellOn_53 : decode cX3_tellOn 53 = .ok (.iload_n 2, 1) := by decide +kernel
theorem dX3_tellOn_54 : decode cX3_tellOn 54 = .ok (.invokevirtual 254, 3) := by decide +kernel
theorem dX3_tellOn_57 : decode cX3_tellOn 57 = .ok (.aload_n 0, 1) := by decide +kernel
theorem dX3_tellOn_58 : decode cX3_tellOn 58 = .ok (.iload_n 2, 1) := by decide +kernel
theorem dX3_tellOn_59 : decode cX3_tellOn 59 = .ok (.iload_n 1, 1) := by decide +kernel
theorem dX3_tellOn_60 : decode cX3_tellOn 60 = .ok (.invokevirtual 226, 3) := by decide +kernel
theorem dX3_tellOn_63 : decode cX3_tellOn 63 = .ok (.pop, 1) := by decide +kernel
theorem dX3_tellOn_64 : decode cX3_tellOn 64 = .ok (.return_, 1) := by decide +kernel
theorem dX3_stealPermit_0 : decode cX3_stealPermit 0 = .ok (.iload_n 2, 1) := by decide +kernel
theorem dX3_stealPermit_1 : decode cX3_stealPermit 1 = .ok (.aload_n 0, 1) := by decide +kernel
theorem dX3_stealPermit_2 : decode cX3_stealPermit 2 = .ok (.getfield 44, 3) := by decide +kernel
theorem dX3_stealPermit_5 : decode cX3_stealPermit 5 = .ok (.if_icmp .ge 20, 3) := by decide +kernel
theorem dX3_stealPermit_8 : decode cX3_stealPermit 8 = .ok (.iload_n 2, 1) := by decide +kernel
theorem dX3_stealPermit_9 : decode cX3_stealPermit 9 = .ok (.iload_n 1, 1) := by decide +kernel
theorem dX3_stealPermit_10 : decode cX3_stealPermit 10 = .ok (.if_icmp .eq 15, 3) := by decide +kernel
theorem dX3_stealPermit_13 : decode cX3_stealPermit 13 = .ok (.aload_n 0, 1) := by decide +kernel
theorem dX3_stealPermit_14 : decode cX3_stealPermit 14 = .ok (.getfield 11, 3) := by decide +kernel
theorem dX3_stealPermit_17 : decode cX3_stealPermit 17 = .ok (.iload_n 2, 1) := by decide +kernel
theorem dX3_stealPermit_18 : decode cX3_stealPermit 18 = .ok (.aaload, 1) := by decide +kernel
theorem dX3_stealPermit_19 : decode cX3_stealPermit 19 = .ok (.getfield 248, 3) := by decide +kernel
theorem dX3_stealPermit_22 : decode cX3_stealPermit 22 = .ok (.ifCond .ne 4, 3) := by decide +kernel
theorem dX3_stealPermit_25 : decode cX3_stealPermit 25 = .ok (.return_, 1) := by decide +kernel
theorem dX3_stealPermit_26 : decode cX3_stealPermit 26 = .ok (.aload_n 0, 1) := by decide +kernel
theorem dX3_stealPermit_27 : decode cX3_stealPermit 27 = .ok (.getfield 11, 3) := by decide +kernel
theorem dX3_stealPermit_30 : decode cX3_stealPermit 30 = .ok (.iload_n 2, 1) := by decide +kernel
theorem dX3_stealPermit_31 : decode cX3_stealPermit 31 = .ok (.aaload, 1) := by decide +kernel
theorem dX3_stealPermit_32 : decode cX3_stealPermit 32 = .ok (.iconst 0, 1) := by decide +kernel
theorem dX3_stealPermit_33 : decode cX3_stealPermit 33 = .ok (.putfield 248, 3) := by decide +kernel
theorem dX3_stealPermit_36 : decode cX3_stealPermit 36 = .ok (.aload_n 0, 1) := by decide +kernel
theorem dX3_stealPermit_37 : decode cX3_stealPermit 37 = .ok (.getfield 11, 3) := by decide +kernel
theorem dX3_stealPermit_40 : decode cX3_stealPermit 40 = .ok (.iload_n 1, 1) := by decide +kernel
theorem dX3_stealPermit_41 : decode cX3_stealPermit 41 = .ok (.aaload, 1) := by decide +kernel
theorem dX3_stealPermit_42 : decode cX3_stealPermit 42 = .ok (.iconst 1, 1) := by decide +kernel
theorem dX3_stealPermit_43 : decode cX3_stealPermit 43 = .ok (.putfield 248, 3) := by decide +kernel
theorem dX3_stealPermit_46 : decode cX3_stealPermit 46 = .ok (.aload_n 0, 1) := by decide +kernel
theorem dX3_stealPermit_47 : decode cX3_stealPermit 47 = .ok (.dup, 1) := by decide +kernel
theorem dX3_stealPermit_48 : decode cX3_stealPermit 48 = .ok (.getfield 66, 3) := by decide +kernel
theorem dX3_stealPermit_51 : decode cX3_stealPermit 51 = .ok (.iconst 1, 1) := by decide +kernel
theorem dX3_stealPermit_52 : decode cX3_stealPermit 52 = .ok (.iadd, 1) := by decide +kernel
theorem dX3_stealPermit_53 : decode cX3_stealPermit 53 = .ok (.putfield 66, 3) := by decide +kernel
theorem dX3_stealPermit_56 : decode cX3_stealPermit 56 = .ok (.aload_n 0, 1) := by decide +kernel
theorem dX3_stealPermit_57 : decode cX3_stealPermit 57 = .ok (.getfield 27, 3) := by decide +kernel
theorem dX3_stealPermit_60 : decode cX3_stealPermit 60 = .ok (.aload_n 0, 1) := by decide +kernel
theorem dX3_stealPermit_61 : decode cX3_stealPermit 61 = .ok (.getfield 48, 3) := by decide +kernel
theorem dX3_stealPermit_64 : decode cX3_stealPermit 64 = .ok (.bipush 8, 2) := by decide +kernel
theorem dX3_stealPermit_66 : decode cX3_stealPermit 66 = .ok (.iload_n 1, 1) := by decide +kernel
theorem dX3_stealPermit_67 : decode cX3_stealPermit 67 = .ok (.iload_n 2, 1) := by decide +kernel
theorem dX3_stealPermit_68 : decode cX3_stealPermit 68 = .ok (.invokevirtual 254, 3) := by decide +kernel
theorem dX3_stealPermit_71 : decode cX3_stealPermit 71 = .ok (.return_, 1) := by decide +kernel
theorem dX3_takeLock_0 : decode cX3_takeLock 0 = .ok (.aload_n 0, 1) := by decide +kernel
theorem dX3_takeLock_1 : decode cX3_takeLock 1 = .ok (.getfield 11, 3) := by decide +kernel
theorem dX3_takeLock_4 : decode cX3_takeLock 4 = .ok (.iload_n 1, 1) := by decide +kernel
theorem dX3_takeLock_5 : decode cX3_takeLock 5 = .ok (.aaload, 1) := by decide +kernel
theorem dX3_takeLock_6 : decode cX3_takeLock 6 = .ok (.astore_n 3, 1) := by decide +kernel
theorem dX3_takeLock_7 : decode cX3_takeLock 7 = .ok (.aload_n 0, 1) := by decide +kernel
theorem dX3_takeLock_8 : decode cX3_takeLock 8 = .ok (.getfield 20, 3) := by decide +kernel
theorem dX3_takeLock_11 : decode cX3_takeLock 11 = .ok (.getfield 122, 3) := by decide +kernel
theorem dX3_takeLock_14 : decode cX3_takeLock 14 = .ok (.iload_n 2, 1) := by decide +kernel
theorem dX3_takeLock_15 : decode cX3_takeLock 15 = .ok (.iaload, 1) := by decide +kernel
theorem dX3_takeLock_16 : decode cX3_takeLock 16 = .ok (.iconst (-1), 1) := by decide +kernel
theorem dX3_takeLock_17 : decode cX3_takeLock 17 = .ok (.if_icmp .ne 29, 3) := by decide +kernel
theorem dX3_takeLock_20 : decode cX3_takeLock 20 = .ok (.aload_n 0, 1) := by decide +kernel
theorem dX3_takeLock_21 : decode cX3_takeLock 21 = .ok (.getfield 20, 3) := by decide +kernel
theorem dX3_takeLock_24 : decode cX3_takeLock 24 = .ok (.getfield 122, 3) := by decide +kernel
theorem dX3_takeLock_27 : decode cX3_takeLock 27 = .ok (.iload_n 2, 1) := by decide +kernel
theorem dX3_takeLock_28 : decode cX3_takeLock 28 = .ok (.iload_n 1, 1) := by decide +kernel
theorem dX3_takeLock_29 : decode cX3_takeLock 29 = .ok (.iastore, 1) := by decide +kernel
theorem dX3_takeLock_30 : decode cX3_takeLock 30 = .ok (.aload_n 0, 1) := by decide +kernel
theorem dX3_takeLock_31 : decode cX3_takeLock 31 = .ok (.getfield 27, 3) := by decide +kernel
theorem dX3_takeLock_34 : decode cX3_takeLock 34 = .ok (.aload_n 0, 1) := by decide +kernel
theorem dX3_takeLock_35 : decode cX3_takeLock 35 = .ok (.getfield 48, 3) := by decide +kernel
theorem dX3_takeLock_38 : decode cX3_takeLock 38 = .ok (.iconst 3, 1) := by decide +kernel
theorem dX3_takeLock_39 : decode cX3_takeLock 39 = .ok (.iload_n 1, 1) := by decide +kernel
theorem dX3_takeLock_40 : decode cX3_takeLock 40 = .ok (.iload_n 2, 1) := by decide +kernel
theorem dX3_takeLock_41 : decode cX3_takeLock 41 = .ok (.invokevirtual 254, 3) := by decide +kernel
theorem dX3_takeLock_44 : decode cX3_takeLock 44 = .ok (.iconst 1, 1) := by decide +kernel
theorem dX3_takeLock_45 : decode cX3_takeLock 45 = .ok (.ireturn, 1) := by decide +kernel
theorem dX3_takeLock_46 : decode cX3_takeLock 46 = .ok (.aload_n 0, 1) := by decide +kernel
theorem dX3_takeLock_47 : decode cX3_takeLock 47 = .ok (.getfield 20, 3) := by decide +kernel
theorem dX3_takeLock_50 : decode cX3_takeLock 50 = .ok (.getfield 122, 3) := by decide +kernel
theorem dX3_takeLock_53 : decode cX3_takeLock 53 = .ok (.iload_n 2, 1) := by decide +kernel
theorem dX3_takeLock_54 : decode cX3_takeLock 54 = .ok (.iaload, 1) := by decide +kernel
theorem dX3_takeLock_55 : decode cX3_takeLock 55 = .ok (.iload_n 1, 1) := by decide +kernel
theorem dX3_takeLock_56 : decode cX3_takeLock 56 = .ok (.if_icmp .ne 10, 3) := by decide +kernel
theorem dX3_takeLock_59 : decode cX3_takeLock 59 = .ok (.aload_n 0, 1) := by decide +kernel
theorem dX3_takeLock_60 : decode cX3_takeLock 60 = .ok (.iload_n 1, 1) := by decide +kernel
theorem dX3_takeLock_61 : decode cX3_takeLock 61 = .ok (.invokevirtual 264, 3) := by decide +kernel
theorem dX3_takeLock_64 : decode cX3_takeLock 64 = .ok (.iconst 0, 1) := by decide +kernel
theorem dX3_takeLock_65 : decode cX3_takeLock 65 = .ok (.ireturn, 1) := by decide +kernel
theorem dX3_takeLock_66 : decode cX3_takeLock 66 = .ok (.aload_n 3, 1) := by decide +kernel
theorem dX3_takeLock_67 : decode cX3_takeLock 67 = .ok (.iconst 2, 1) := by decide +kernel
theorem dX3_takeLock_68 : decode cX3_takeLock 68 = .ok (.putfield 102, 3) := by decide +kernel
theorem dX3_takeLock_71 : decode cX3_takeLock 71 = .ok (.aload_n 3, 1) := by decide +kernel
theorem dX3_takeLock_72 : decode cX3_takeLock 72 = .ok (.iload_n 2, 1) := by decide +kernel
theorem dX3_takeLock_73 : decode cX3_takeLock 73 = .ok (.putfield 119, 3) := by decide +kernel
theorem dX3_takeLock_76 : decode cX3_takeLock 76 = .ok (.aload_n 0, 1) := by decide +kernel
theorem dX3_takeLock_77 : decode cX3_takeLock 77 = .ok (.getfield 20, 3) := by decide +kernel
theorem dX3_takeLock_80 : decode cX3_takeLock 80 = .ok (.iload_n 2, 1) := by decide +kernel
theorem dX3_takeLock_81 : decode cX3_takeLock 81 = .ok (.iload_n 1, 1) := by decide +kernel
theorem dX3_takeLock_82 : decode cX3_takeLock 82 = .ok (.invokevirtual 267, 3) := by decide +kernel
theorem dX3_takeLock_85 : decode cX3_takeLock 85 = .ok (.aload_n 0, 1) := by decide +kernel
theorem dX3_takeLock_86 : decode cX3_takeLock 86 = .ok (.iconst 1, 1) := by decide +kernel
theorem dX3_takeLock_87 : decode cX3_takeLock 87 = .ok (.putfield 72, 3) := by decide +kernel
theorem dX3_takeLock_90 : decode cX3_takeLock 90 = .ok (.aload_n 0, 1) := by decide +kernel
theorem dX3_takeLock_91 : decode cX3_takeLock 91 = .ok (.getfield 27, 3) := by decide +kernel
theorem dX3_takeLock_94 : decode cX3_takeLock 94 = .ok (.aload_n 0, 1) := by decide +kernel
theorem dX3_takeLock_95 : decode cX3_takeLock 95 = .ok (.getfield 48, 3) := by decide +kernel
theorem dX3_takeLock_98 : decode cX3_takeLock 98 = .ok (.iconst 2, 1) := by decide +kernel
theorem dX3_takeLock_99 : decode cX3_takeLock 99 = .ok (.iload_n 1, 1) := by decide +kernel
theorem dX3_takeLock_100 : decode cX3_takeLock 100 = .ok (.iload_n 2, 1) := by decide +kernel
theorem dX3_takeLock_101 : decode cX3_takeLock 101 = .ok (.invokevirtual 254, 3) := by decide +kernel
theorem dX3_takeLock_104 : decode cX3_takeLock 104 = .ok (.iconst 0, 1) := by decide +kernel
theorem dX3_takeLock_105 : decode cX3_takeLock 105 = .ok (.ireturn, 1) := by decide +kernel
theorem dX3_unlock_0 : decode cX3_unlock 0 = .ok (.aload_n 0, 1) := by decide +kernel
theorem dX3_unlock_1 : decode cX3_unlock 1 = .ok (.getfield 20, 3) := by decide +kernel
theorem dX3_unlock_4 : decode cX3_unlock 4 = .ok (.getfield 122, 3) := by decide +kernel
theorem dX3_unlock_7 : decode cX3_unlock 7 = .ok (.iload_n 2, 1) := by decide +kernel
theorem dX3_unlock_8 : decode cX3_unlock 8 = .ok (.iaload, 1) := by decide +kernel
theorem dX3_unlock_9 : decode cX3_unlock 9 = .ok (.iload_n 1, 1) := by decide +kernel
theorem dX3_unlock_10 : decode cX3_unlock 10 = .ok (.if_icmp .eq 10, 3) := by decide +kernel
theorem dX3_unlock_13 : decode cX3_unlock 13 = .ok (.aload_n 0, 1) := by decide +kernel
theorem dX3_unlock_14 : decode cX3_unlock 14 = .ok (.iload_n 1, 1) := by decide +kernel
theorem dX3_unlock_15 : decode cX3_unlock 15 = .ok (.invokevirtual 264, 3) := by decide +kernel
theorem dX3_unlock_18 : decode cX3_unlock 18 = .ok (.iconst 0, 1) := by decide +kernel
theorem dX3_unlock_19 : decode cX3_unlock 19 = .ok (.ireturn, 1) := by decide +kernel
theorem dX3_unlock_20 : decode cX3_unlock 20 = .ok (.aload_n 0, 1) := by decide +kernel
theorem dX3_unlock_21 : decode cX3_unlock 21 = .ok (.iload_n 2, 1) := by decide +kernel
theorem dX3_unlock_22 : decode cX3_unlock 22 = .ok (.invokevirtual 270, 3) := by decide +kernel
theorem dX3_unlock_25 : decode cX3_unlock 25 = .ok (.iconst 1, 1) := by decide +kernel
theorem dX3_unlock_26 : decode cX3_unlock 26 = .ok (.ireturn, 1) := by decide +kernel
theorem dX3_fail_0 : decode cX3_fail 0 = .ok (.aload_n 0, 1) := by decide +kernel
theorem dX3_fail_1 : decode cX3_fail 1 = .ok (.getfield 11, 3) := by decide +kernel
theorem dX3_fail_4 : decode cX3_fail 4 = .ok (.iload_n 1, 1) := by decide +kernel
theorem dX3_fail_5 : decode cX3_fail 5 = .ok (.aaload, 1) := by decide +kernel
theorem dX3_fail_6 : decode cX3_fail 6 = .ok (.iconst 4, 1) := by decide +kernel
theorem dX3_fail_7 : decode cX3_fail 7 = .ok (.putfield 102, 3) := by decide +kernel
theorem dX3_fail_10 : decode cX3_fail 10 = .ok (.aload_n 0, 1) := by decide +kernel
theorem dX3_fail_11 : decode cX3_fail 11 = .ok (.getfield 27, 3) := by decide +kernel
theorem dX3_fail_14 : decode cX3_fail 14 = .ok (.aload_n 0, 1) := by decide +kernel
theorem dX3_fail_15 : decode cX3_fail 15 = .ok (.getfield 48, 3) := by decide +kernel
theorem dX3_fail_18 : decode cX3_fail 18 = .ok (.bipush 6, 2) := by decide +kernel
theorem dX3_fail_20 : decode cX3_fail 20 = .ok (.iload_n 1, 1) := by decide +kernel
theorem dX3_fail_21 : decode cX3_fail 21 = .ok (.aload_n 0, 1) := by decide +kernel
theorem dX3_fail_22 : decode cX3_fail 22 = .ok (.getfield 11, 3) := by decide +kernel
theorem dX3_fail_25 : decode cX3_fail 25 = .ok (.iload_n 1, 1) := by decide +kernel
theorem dX3_fail_26 : decode cX3_fail 26 = .ok (.aaload, 1) := by decide +kernel
theorem dX3_fail_27 : decode cX3_fail 27 = .ok (.getfield 187, 3) := by decide +kernel
theorem dX3_fail_30 : decode cX3_fail 30 = .ok (.invokevirtual 254, 3) := by decide +kernel
theorem dX3_fail_33 : decode cX3_fail 33 = .ok (.return_, 1) := by decide +kernel
theorem dX3_giveUp_0 : decode cX3_giveUp 0 = .ok (.aload_n 0, 1) := by decide +kernel
theorem dX3_giveUp_1 : decode cX3_giveUp 1 = .ok (.invokevirtual 167, 3) := by decide +kernel
theorem dX3_giveUp_4 : decode cX3_giveUp 4 = .ok (.aload_n 0, 1) := by decide +kernel
theorem dX3_giveUp_5 : decode cX3_giveUp 5 = .ok (.iload_n 1, 1) := by decide +kernel
theorem dX3_giveUp_6 : decode cX3_giveUp 6 = .ok (.invokevirtual 273, 3) := by decide +kernel
theorem dX3_giveUp_9 : decode cX3_giveUp 9 = .ok (.istore_n 2, 1) := by decide +kernel
theorem dX3_giveUp_10 : decode cX3_giveUp 10 = .ok (.aload_n 0, 1) := by decide +kernel
theorem dX3_giveUp_11 : decode cX3_giveUp 11 = .ok (.getfield 27, 3) := by decide +kernel
theorem dX3_giveUp_14 : decode cX3_giveUp 14 = .ok (.aload_n 0, 1) := by decide +kernel
theorem dX3_giveUp_15 : decode cX3_giveUp 15 = .ok (.getfield 48, 3) := by decide +kernel
theorem dX3_giveUp_18 : decode cX3_giveUp 18 = .ok (.iconst 4, 1) := by decide +kernel
theorem dX3_giveUp_19 : decode cX3_giveUp 19 = .ok (.aload_n 0, 1) := by decide +kernel
theorem dX3_giveUp_20 : decode cX3_giveUp 20 = .ok (.getfield 20, 3) := by decide +kernel
theorem dX3_giveUp_23 : decode cX3_giveUp 23 = .ok (.getfield 122, 3) := by decide +kernel
theorem dX3_giveUp_26 : decode cX3_giveUp 26 = .ok (.iload_n 1, 1) := by decide +kernel
theorem dX3_giveUp_27 : decode cX3_giveUp 27 = .ok (.iaload, 1) := by decide +kernel
theorem dX3_giveUp_28 : decode cX3_giveUp 28 = .ok (.iload_n 1, 1) := by decide +kernel
theorem dX3_giveUp_29 : decode cX3_giveUp 29 = .ok (.invokevirtual 254, 3) := by decide +kernel
theorem dX3_giveUp_32 : decode cX3_giveUp 32 = .ok (.aload_n 0, 1) := by decide +kernel
theorem dX3_giveUp_33 : decode cX3_giveUp 33 = .ok (.getfield 20, 3) := by decide +kernel
theorem dX3_giveUp_36 : decode cX3_giveUp 36 = .ok (.getfield 122, 3) := by decide +kernel
theorem dX3_giveUp_39 : decode cX3_giveUp 39 = .ok (.iload_n 1, 1) := by decide +kernel
theorem dX3_giveUp_40 : decode cX3_giveUp 40 = .ok (.iload_n 2, 1) := by decide +kernel
theorem dX3_giveUp_41 : decode cX3_giveUp 41 = .ok (.iastore, 1) := by decide +kernel
theorem dX3_giveUp_42 : decode cX3_giveUp 42 = .ok (.iload_n 2, 1) := by decide +kernel
theorem dX3_giveUp_43 : decode cX3_giveUp 43 = .ok (.iconst (-1), 1) := by decide +kernel
theorem dX3_giveUp_44 : decode cX3_giveUp 44 = .ok (.if_icmp .ne 4, 3) := by decide +kernel
theorem dX3_giveUp_47 : decode cX3_giveUp 47 = .ok (.return_, 1) := by decide +kernel
theorem dX3_giveUp_48 : decode cX3_giveUp 48 = .ok (.aload_n 0, 1) := by decide +kernel
theorem dX3_giveUp_49 : decode cX3_giveUp 49 = .ok (.getfield 20, 3) := by decide +kernel
theorem dX3_giveUp_52 : decode cX3_giveUp 52 = .ok (.iload_n 1, 1) := by decide +kernel
theorem dX3_giveUp_53 : decode cX3_giveUp 53 = .ok (.iload_n 2, 1) := by decide +kernel
theorem dX3_giveUp_54 : decode cX3_giveUp 54 = .ok (.invokevirtual 276, 3) := by decide +kernel
theorem dX3_giveUp_57 : decode cX3_giveUp 57 = .ok (.aload_n 0, 1) := by decide +kernel
theorem dX3_giveUp_58 : decode cX3_giveUp 58 = .ok (.getfield 11, 3) := by decide +kernel
theorem dX3_giveUp_61 : decode cX3_giveUp 61 = .ok (.iload_n 2, 1) := by decide +kernel
theorem dX3_giveUp_62 : decode cX3_giveUp 62 = .ok (.aaload, 1) := by decide +kernel
theorem dX3_giveUp_63 : decode cX3_giveUp 63 = .ok (.iconst 0, 1) := by decide +kernel
theorem dX3_giveUp_64 : decode cX3_giveUp 64 = .ok (.putfield 102, 3) := by decide +kernel
theorem dX3_giveUp_67 : decode cX3_giveUp 67 = .ok (.aload_n 0, 1) := by decide +kernel
theorem dX3_giveUp_68 : decode cX3_giveUp 68 = .ok (.getfield 11, 3) := by decide +kernel
theorem dX3_giveUp_71 : decode cX3_giveUp 71 = .ok (.iload_n 2, 1) := by decide +kernel
theorem dX3_giveUp_72 : decode cX3_giveUp 72 = .ok (.aaload, 1) := by decide +kernel
theorem dX3_giveUp_73 : decode cX3_giveUp 73 = .ok (.iconst (-1), 1) := by decide +kernel
theorem dX3_giveUp_74 : decode cX3_giveUp 74 = .ok (.putfield 119, 3) := by decide +kernel
theorem dX3_giveUp_77 : decode cX3_giveUp 77 = .ok (.aload_n 0, 1) := by decide +kernel
theorem dX3_giveUp_78 : decode cX3_giveUp 78 = .ok (.iconst 1, 1) := by decide +kernel
theorem dX3_giveUp_79 : decode cX3_giveUp 79 = .ok (.putfield 72, 3) := by decide +kernel
theorem dX3_giveUp_82 : decode cX3_giveUp 82 = .ok (.aload_n 0, 1) := by decide +kernel
theorem dX3_giveUp_83 : decode cX3_giveUp 83 = .ok (.getfield 27, 3) := by decide +kernel
theorem dX3_giveUp_86 : decode cX3_giveUp 86 = .ok (.aload_n 0, 1) := by decide +kernel
theorem dX3_giveUp_87 : decode cX3_giveUp 87 = .ok (.getfield 48, 3) := by decide +kernel
theorem dX3_giveUp_90 : decode cX3_giveUp 90 = .ok (.iconst 3, 1) := by decide +kernel
theorem dX3_giveUp_91 : decode cX3_giveUp 91 = .ok (.iload_n 2, 1) := by decide +kernel
theorem dX3_giveUp_92 : decode cX3_giveUp 92 = .ok (.iload_n 1, 1) := by decide +kernel
theorem dX3_giveUp_93 : decode cX3_giveUp 93 = .ok (.invokevirtual 254, 3) := by decide +kernel
theorem dX3_giveUp_96 : decode cX3_giveUp 96 = .ok (.aload_n 0, 1) := by decide +kernel
theorem dX3_giveUp_97 : decode cX3_giveUp 97 = .ok (.iload_n 2, 1) := by decide +kernel
theorem dX3_giveUp_98 : decode cX3_giveUp 98 = .ok (.invokevirtual 164, 3) := by decide +kernel
theorem dX3_giveUp_101 : decode cX3_giveUp 101 = .ok (.return_, 1) := by decide +kernel
theorem dX3_firstWaiter_0 : decode cX3_firstWaiter 0 = .ok (.aload_n 0, 1) := by decide +kernel
theorem dX3_firstWaiter_1 : decode cX3_firstWaiter 1 = .ok (.getfield 20, 3) := by decide +kernel
theorem dX3_firstWaiter_4 : decode cX3_firstWaiter 4 = .ok (.iload_n 1, 1) := by decide +kernel
theorem dX3_firstWaiter_5 : decode cX3_firstWaiter 5 = .ok (.iconst 0, 1) := by decide +kernel
theorem dX3_firstWaiter_6 : decode cX3_firstWaiter 6 = .ok (.invokevirtual 279, 3) := by decide +kernel
theorem dX3_firstWaiter_9 : decode cX3_firstWaiter 9 = .ok (.istore_n 2, 1) := by decide +kernel
theorem dX3_firstWaiter_10 : decode cX3_firstWaiter 10 = .ok (.iconst 1, 1) := by decide +kernel
theorem dX3_firstWaiter_11 : decode cX3_firstWaiter 11 = .ok (.istore_n 3, 1) := by decide +kernel
theorem dX3_firstWaiter_12 : decode cX3_firstWaiter 12 = .ok (.iload_n 3, 1) := by decide +kernel
theorem dX3_firstWaiter_13 : decode cX3_firstWaiter 13 = .ok (.bipush 10, 2) := by decide +kernel
theorem dX3_firstWaiter_15 : decode cX3_firstWaiter 15 = .ok (.if_icmp .ge 56, 3) := by decide +kernel
theorem dX3_firstWaiter_18 : decode cX3_firstWaiter 18 = .ok (.aload_n 0, 1) := by decide +kernel
theorem dX3_firstWaiter_19 : decode cX3_firstWaiter 19 = .ok (.getfield 20, 3) := by decide +kernel
theorem dX3_firstWaiter_22 : decode cX3_firstWaiter 22 = .ok (.iload_n 1, 1) := by decide +kernel
theorem dX3_firstWaiter_23 : decode cX3_firstWaiter 23 = .ok (.iload_n 3, 1) := by decide +kernel
theorem dX3_firstWaiter_24 : decode cX3_firstWaiter 24 = .ok (.invokevirtual 279, 3) := by decide +kernel
theorem dX3_firstWaiter_27 : decode cX3_firstWaiter 27 = .ok (.istore 4, 2) := by decide +kernel
theorem dX3_firstWaiter_29 : decode cX3_firstWaiter 29 = .ok (.iload 4, 2) := by decide +kernel
theorem dX3_firstWaiter_31 : decode cX3_firstWaiter 31 = .ok (.iconst (-1), 1) := by decide +kernel
theorem dX3_firstWaiter_32 : decode cX3_firstWaiter 32 = .ok (.if_icmp .eq 33, 3) := by decide +kernel
theorem dX3_firstWaiter_35 : decode cX3_firstWaiter 35 = .ok (.iload_n 2, 1) := by decide +kernel
theorem dX3_firstWaiter_36 : decode cX3_firstWaiter 36 = .ok (.iconst (-1), 1) := by decide +kernel
theorem dX3_firstWaiter_37 : decode cX3_firstWaiter 37 = .ok (.if_icmp .eq 28, 3) := by decide +kernel
theorem dX3_firstWaiter_40 : decode cX3_firstWaiter 40 = .ok (.aload_n 0, 1) := by decide +kernel
theorem dX3_firstWaiter_41 : decode cX3_firstWaiter 41 = .ok (.getfield 11, 3) := by decide +kernel
theorem dX3_firstWaiter_44 : decode cX3_firstWaiter 44 = .ok (.iload 4, 2) := by decide +kernel
theorem dX3_firstWaiter_46 : decode cX3_firstWaiter 46 = .ok (.aaload, 1) := by decide +kernel
theorem dX3_firstWaiter_47 : decode cX3_firstWaiter 47 = .ok (.getfield 132, 3) := by decide +kernel
theorem dX3_firstWaiter_50 : decode cX3_firstWaiter 50 = .ok (.aload_n 0, 1) := by decide +kernel
theorem dX3_firstWaiter_51 : decode cX3_firstWaiter 51 = .ok (.getfield 11, 3) := by decide +kernel
theorem dX3_firstWaiter_54 : decode cX3_firstWaiter 54 = .ok (.iload_n 2, 1) := by decide +kernel
theorem dX3_firstWaiter_55 : decode cX3_firstWaiter 55 = .ok (.aaload, 1) := by decide +kernel
theorem dX3_firstWaiter_56 : decode cX3_firstWaiter 56 = .ok (.getfield 132, 3) := by decide +kernel
theorem dX3_firstWaiter_59 : decode cX3_firstWaiter 59 = .ok (.if_icmp .le 6, 3) := by decide +kernel
theorem dX3_firstWaiter_62 : decode cX3_firstWaiter 62 = .ok (.iload 4, 2) := by decide +kernel
theorem dX3_firstWaiter_64 : decode cX3_firstWaiter 64 = .ok (.istore_n 2, 1) := by decide +kernel
theorem dX3_firstWaiter_65 : decode cX3_firstWaiter 65 = .ok (.iinc 3 1, 3) := by decide +kernel
theorem dX3_firstWaiter_68 : decode cX3_firstWaiter 68 = .ok (.goto (-56), 3) := by decide +kernel
theorem dX3_firstWaiter_71 : decode cX3_firstWaiter 71 = .ok (.iload_n 2, 1) := by decide +kernel
theorem dX3_firstWaiter_72 : decode cX3_firstWaiter 72 = .ok (.ireturn, 1) := by decide +kernel
theorem dX3_advance_0 : decode cX3_advance 0 = .ok (.aload_n 0, 1) := by decide +kernel
theorem dX3_advance_1 : decode cX3_advance 1 = .ok (.getfield 11, 3) := by decide +kernel
theorem dX3_advance_4 : decode cX3_advance 4 = .ok (.iload_n 1, 1) := by decide +kernel
theorem dX3_advance_5 : decode cX3_advance 5 = .ok (.aaload, 1) := by decide +kernel
theorem dX3_advance_6 : decode cX3_advance 6 = .ok (.dup, 1) := by decide +kernel
theorem dX3_advance_7 : decode cX3_advance 7 = .ok (.getfield 187, 3) := by decide +kernel
theorem dX3_advance_10 : decode cX3_advance 10 = .ok (.iconst 1, 1) := by decide +kernel
theorem dX3_advance_11 : decode cX3_advance 11 = .ok (.iadd, 1) := by decide +kernel
theorem dX3_advance_12 : decode cX3_advance 12 = .ok (.putfield 187, 3) := by decide +kernel
theorem dX3_advance_15 : decode cX3_advance 15 = .ok (.aload_n 0, 1) := by decide +kernel
theorem dX3_advance_16 : decode cX3_advance 16 = .ok (.getfield 11, 3) := by decide +kernel
theorem dX3_advance_19 : decode cX3_advance 19 = .ok (.iload_n 1, 1) := by decide +kernel
theorem dX3_advance_20 : decode cX3_advance 20 = .ok (.aaload, 1) := by decide +kernel
theorem dX3_advance_21 : decode cX3_advance 21 = .ok (.iconst 0, 1) := by decide +kernel
theorem dX3_advance_22 : decode cX3_advance 22 = .ok (.putfield 213, 3) := by decide +kernel
theorem dX3_advance_25 : decode cX3_advance 25 = .ok (.aload_n 0, 1) := by decide +kernel
theorem dX3_advance_26 : decode cX3_advance 26 = .ok (.iload_n 1, 1) := by decide +kernel
theorem dX3_advance_27 : decode cX3_advance 27 = .ok (.invokevirtual 261, 3) := by decide +kernel
theorem dX3_advance_30 : decode cX3_advance 30 = .ok (.return_, 1) := by decide +kernel
theorem dX3_endIfThrough_0 : decode cX3_endIfThrough 0 = .ok (.aload_n 0, 1) := by decide +kernel
theorem dX3_endIfThrough_1 : decode cX3_endIfThrough 1 = .ok (.getfield 11, 3) := by decide +kernel
theorem dX3_endIfThrough_4 : decode cX3_endIfThrough 4 = .ok (.iload_n 1, 1) := by decide +kernel
theorem dX3_endIfThrough_5 : decode cX3_endIfThrough 5 = .ok (.aaload, 1) := by decide +kernel
theorem dX3_endIfThrough_6 : decode cX3_endIfThrough 6 = .ok (.astore_n 2, 1) := by decide +kernel
theorem dX3_endIfThrough_7 : decode cX3_endIfThrough 7 = .ok (.aload_n 2, 1) := by decide +kernel
theorem dX3_endIfThrough_8 : decode cX3_endIfThrough 8 = .ok (.getfield 102, 3) := by decide +kernel
theorem dX3_endIfThrough_11 : decode cX3_endIfThrough 11 = .ok (.ifCond .ne 43, 3) := by decide +kernel
theorem dX3_endIfThrough_14 : decode cX3_endIfThrough 14 = .ok (.aload_n 2, 1) := by decide +kernel
theorem dX3_endIfThrough_15 : decode cX3_endIfThrough 15 = .ok (.getfield 187, 3) := by decide +kernel
theorem dX3_endIfThrough_18 : decode cX3_endIfThrough 18 = .ok (.aload_n 2, 1) := by decide +kernel
theorem dX3_endIfThrough_19 : decode cX3_endIfThrough 19 = .ok (.getfield 190, 3) := by decide +kernel
theorem dX3_endIfThrough_22 : decode cX3_endIfThrough 22 = .ok (.if_icmp .lt 32, 3) := by decide +kernel
theorem dX3_endIfThrough_25 : decode cX3_endIfThrough 25 = .ok (.aload_n 0, 1) := by decide +kernel
theorem dX3_endIfThrough_26 : decode cX3_endIfThrough 26 = .ok (.getfield 76, 3) := by decide +kernel
theorem dX3_endIfThrough_29 : decode cX3_endIfThrough 29 = .ok (.bipush 10, 2) := by decide +kernel
theorem dX3_endIfThrough_31 : decode cX3_endIfThrough 31 = .ok (.if_icmp .ge 23, 3) := by decide +kernel
theorem dX3_endIfThrough_34 : decode cX3_endIfThrough 34 = .ok (.aload_n 0, 1) := by decide +kernel
theorem dX3_endIfThrough_35 : decode cX3_endIfThrough 35 = .ok (.getfield 35, 3) := by decide +kernel
theorem dX3_endIfThrough_38 : decode cX3_endIfThrough 38 = .ok (.aload_n 0, 1) := by decide +kernel
theorem dX3_endIfThrough_39 : decode cX3_endIfThrough 39 = .ok (.getfield 76, 3) := by decide +kernel
theorem dX3_endIfThrough_42 : decode cX3_endIfThrough 42 = .ok (.iload_n 1, 1) := by decide +kernel
theorem dX3_endIfThrough_43 : decode cX3_endIfThrough 43 = .ok (.iastore, 1) := by decide +kernel
theorem dX3_endIfThrough_44 : decode cX3_endIfThrough 44 = .ok (.aload_n 0, 1) := by decide +kernel
theorem dX3_endIfThrough_45 : decode cX3_endIfThrough 45 = .ok (.dup, 1) := by decide +kernel
theorem dX3_endIfThrough_46 : decode cX3_endIfThrough 46 = .ok (.getfield 76, 3) := by decide +kernel
theorem dX3_endIfThrough_49 : decode cX3_endIfThrough 49 = .ok (.iconst 1, 1) := by decide +kernel
theorem dX3_endIfThrough_50 : decode cX3_endIfThrough 50 = .ok (.iadd, 1) := by decide +kernel
theorem dX3_endIfThrough_51 : decode cX3_endIfThrough 51 = .ok (.putfield 76, 3) := by decide +kernel
theorem dX3_endIfThrough_54 : decode cX3_endIfThrough 54 = .ok (.return_, 1) := by decide +kernel
theorem dX3_settle_0 : decode cX3_settle 0 = .ok (.iconst 0, 1) := by decide +kernel
theorem dX3_settle_1 : decode cX3_settle 1 = .ok (.istore_n 1, 1) := by decide +kernel
theorem dX3_settle_2 : decode cX3_settle 2 = .ok (.iload_n 1, 1) := by decide +kernel
theorem dX3_settle_3 : decode cX3_settle 3 = .ok (.sipush 1000, 3) := by decide +kernel
theorem dX3_settle_6 : decode cX3_settle 6 = .ok (.if_icmp .ge 100, 3) := by decide +kernel
theorem dX3_settle_9 : decode cX3_settle 9 = .ok (.aload_n 0, 1) := by decide +kernel
theorem dX3_settle_10 : decode cX3_settle 10 = .ok (.getfield 76, 3) := by decide +kernel
theorem dX3_settle_13 : decode cX3_settle 13 = .ok (.ifCond .le 93, 3) := by decide +kernel
theorem dX3_settle_16 : decode cX3_settle 16 = .ok (.aload_n 0, 1) := by decide +kernel
theorem dX3_settle_17 : decode cX3_settle 17 = .ok (.getfield 35, 3) := by decide +kernel
theorem dX3_settle_20 : decode cX3_settle 20 = .ok (.aload_n 0, 1) := by decide +kernel
theorem dX3_settle_21 : decode cX3_settle 21 = .ok (.getfield 76, 3) := by decide +kernel
theorem dX3_settle_24 : decode cX3_settle 24 = .ok (.iconst 1, 1) := by decide +kernel
theorem dX3_settle_25 : decode cX3_settle 25 = .ok (.isub, 1) := by decide +kernel
theorem dX3_settle_26 : decode cX3_settle 26 = .ok (.iaload, 1) := by decide +kernel
theorem dX3_settle_27 : decode cX3_settle 27 = .ok (.istore_n 2, 1) := by decide +kernel
theorem dX3_settle_28 : decode cX3_settle 28 = .ok (.aload_n 0, 1) := by decide +kernel
theorem dX3_settle_29 : decode cX3_settle 29 = .ok (.getfield 20, 3) := by decide +kernel
theorem dX3_settle_32 : decode cX3_settle 32 = .ok (.iload_n 2, 1) := by decide +kernel
theorem dX3_settle_33 : decode cX3_settle 33 = .ok (.invokevirtual 282, 3) := by decide +kernel
theorem dX3_settle_36 : decode cX3_settle 36 = .ok (.istore_n 3, 1) := by decide +kernel
theorem dX3_settle_37 : decode cX3_settle 37 = .ok (.aload_n 0, 1) := by decide +kernel
theorem dX3_settle_38 : decode cX3_settle 38 = .ok (.getfield 11, 3) := by decide +kernel
theorem dX3_settle_41 : decode cX3_settle 41 = .ok (.iload_n 2, 1) := by decide +kernel
theorem dX3_settle_42 : decode cX3_settle 42 = .ok (.aaload, 1) := by decide +kernel
theorem dX3_settle_43 : decode cX3_settle 43 = .ok (.getfield 102, 3) := by decide +kernel
theorem dX3_settle_46 : decode cX3_settle 46 = .ok (.iconst 3, 1) := by decide +kernel
theorem dX3_settle_47 : decode cX3_settle 47 = .ok (.if_icmp .eq 30, 3) := by decide +kernel
theorem dX3_settle_50 : decode cX3_settle 50 = .ok (.aload_n 0, 1) := by decide +kernel
theorem dX3_settle_51 : decode cX3_settle 51 = .ok (.getfield 11, 3) := by decide +kernel
theorem dX3_settle_54 : decode cX3_settle 54 = .ok (.iload_n 2, 1) := by decide +kernel
theorem dX3_settle_55 : decode cX3_settle 55 = .ok (.aaload, 1) := by decide +kernel
theorem dX3_settle_56 : decode cX3_settle 56 = .ok (.iconst 3, 1) := by decide +kernel
theorem dX3_settle_57 : decode cX3_settle 57 = .ok (.putfield 102, 3) := by decide +kernel
theorem dX3_settle_60 : decode cX3_settle 60 = .ok (.aload_n 0, 1) := by decide +kernel
theorem dX3_settle_61 : decode cX3_settle 61 = .ok (.getfield 27, 3) := by decide +kernel
theorem dX3_settle_64 : decode cX3_settle 64 = .ok (.aload_n 0, 1) := by decide +kernel
theorem dX3_settle_65 : decode cX3_settle 65 = .ok (.getfield 48, 3) := by decide +kernel
theorem dX3_settle_68 : decode cX3_settle 68 = .ok (.iconst 5, 1) := by decide +kernel
theorem dX3_settle_69 : decode cX3_settle 69 = .ok (.iload_n 2, 1) := by decide +kernel
theorem dX3_settle_70 : decode cX3_settle 70 = .ok (.iconst 0, 1) := by decide +kernel
theorem dX3_settle_71 : decode cX3_settle 71 = .ok (.invokevirtual 254, 3) := by decide +kernel
theorem dX3_settle_74 : decode cX3_settle 74 = .ok (.goto 26, 3) := by decide +kernel
theorem dX3_settle_77 : decode cX3_settle 77 = .ok (.iload_n 3, 1) := by decide +kernel
theorem dX3_settle_78 : decode cX3_settle 78 = .ok (.iconst (-1), 1) := by decide +kernel
theorem dX3_settle_79 : decode cX3_settle 79 = .ok (.if_icmp .eq 11, 3) := by decide +kernel
theorem dX3_settle_82 : decode cX3_settle 82 = .ok (.aload_n 0, 1) := by decide +kernel
theorem dX3_settle_83 : decode cX3_settle 83 = .ok (.iload_n 3, 1) := by decide +kernel
theorem dX3_settle_84 : decode cX3_settle 84 = .ok (.invokevirtual 270, 3) := by decide +kernel
theorem dX3_settle_87 : decode cX3_settle 87 = .ok (.goto 13, 3) := by decide +kernel
theorem dX3_settle_90 : decode cX3_settle 90 = .ok (.aload_n 0, 1) := by decide +kernel
theorem dX3_settle_91 : decode cX3_settle 91 = .ok (.dup, 1) := by decide +kernel
theorem dX3_settle_92 : decode cX3_settle 92 = .ok (.getfield 76, 3) := by decide +kernel
theorem dX3_settle_95 : decode cX3_settle 95 = .ok (.iconst 1, 1) := by decide +kernel
theorem dX3_settle_96 : decode cX3_settle 96 = .ok (.isub, 1) := by decide +kernel
theorem dX3_settle_97 : decode cX3_settle 97 = .ok (.putfield 76, 3) := by decide +kernel
theorem dX3_settle_100 : decode cX3_settle 100 = .ok (.iinc 1 1, 3) := by decide +kernel
theorem dX3_settle_103 : decode cX3_settle 103 = .ok (.goto (-101), 3) := by decide +kernel
theorem dX3_settle_106 : decode cX3_settle 106 = .ok (.return_, 1) := by decide +kernel
theorem dX5_init_0 : decode cX5_init 0 = .ok (.aload_n 0, 1) := by decide +kernel
theorem dX5_init_1 : decode cX5_init 1 = .ok (.invokespecial 3, 3) := by decide +kernel
theorem dX5_init_4 : decode cX5_init 4 = .ok (.aload_n 0, 1) := by decide +kernel
theorem dX5_init_5 : decode cX5_init 5 = .ok (.sipush 800, 3) := by decide +kernel
theorem dX5_init_8 : decode cX5_init 8 = .ok (.newarray .byte, 2) := by decide +kernel
theorem dX5_init_10 : decode cX5_init 10 = .ok (.putfield 9, 3) := by decide +kernel
theorem dX5_init_13 : decode cX5_init 13 = .ok (.aload_n 0, 1) := by decide +kernel
theorem dX5_init_14 : decode cX5_init 14 = .ok (.iconst (-1), 1) := by decide +kernel
theorem dX5_init_15 : decode cX5_init 15 = .ok (.putfield 15, 3) := by decide +kernel
theorem dX5_init_18 : decode cX5_init 18 = .ok (.return_, 1) := by decide +kernel
theorem dX6_init_0 : decode cX6_init 0 = .ok (.aload_n 0, 1) := by decide +kernel
theorem dX6_init_1 : decode cX6_init 1 = .ok (.invokespecial 3, 3) := by decide +kernel
theorem dX6_init_4 : decode cX6_init 4 = .ok (.aload_n 0, 1) := by decide +kernel
theorem dX6_init_5 : decode cX6_init 5 = .ok (.bipush 16, 2) := by decide +kernel
theorem dX6_init_7 : decode cX6_init 7 = .ok (.newarray .int, 2) := by decide +kernel
theorem dX6_init_9 : decode cX6_init 9 = .ok (.putfield 9, 3) := by decide +kernel
theorem dX6_init_12 : decode cX6_init 12 = .ok (.aload_n 0, 1) := by decide +kernel
theorem dX6_init_13 : decode cX6_init 13 = .ok (.bipush 16, 2) := by decide +kernel
theorem dX6_init_15 : decode cX6_init 15 = .ok (.newarray .int, 2) := by decide +kernel
theorem dX6_init_17 : decode cX6_init 17 = .ok (.putfield 15, 3) := by decide +kernel
theorem dX6_init_20 : decode cX6_init 20 = .ok (.aload_n 0, 1) := by decide +kernel
theorem dX6_init_21 : decode cX6_init 21 = .ok (.iconst 5, 1) := by decide +kernel
theorem dX6_init_22 : decode cX6_init 22 = .ok (.newarray .int, 2) := by decide +kernel
theorem dX6_init_24 : decode cX6_init 24 = .ok (.putfield 18, 3) := by decide +kernel
theorem dX6_init_27 : decode cX6_init 27 = .ok (.return_, 1) := by decide +kernel
theorem dX6_start_0 : decode cX6_start 0 = .ok (.iconst 0, 1) := by decide +kernel
theorem dX6_start_1 : decode cX6_start 1 = .ok (.istore_n 2, 1) := by decide +kernel
theorem dX6_start_2 : decode cX6_start 2 = .ok (.iload_n 2, 1) := by decide +kernel
theorem dX6_start_3 : decode cX6_start 3 = .ok (.iconst 5, 1) := by decide +kernel
theorem dX6_start_4 : decode cX6_start 4 = .ok (.if_icmp .ge 16, 3) := by decide +kernel
theorem dX6_start_7 : decode cX6_start 7 = .ok (.aload_n 0, 1) := by decide +kernel
theorem dX6_start_8 : decode cX6_start 8 = .ok (.getfield 18, 3) := by decide +kernel
theorem dX6_start_11 : decode cX6_start 11 = .ok (.iload_n 2, 1) := by decide +kernel
theorem dX6_start_12 : decode cX6_start 12 = .ok (.iconst 0, 1) := by decide +kernel
theorem dX6_start_13 : decode cX6_start 13 = .ok (.iastore, 1) := by decide +kernel
theorem dX6_start_14 : decode cX6_start 14 = .ok (.iinc 2 1, 3) := by decide +kernel
theorem dX6_start_17 : decode cX6_start 17 = .ok (.goto (-15), 3) := by decide +kernel
theorem dX6_start_20 : decode cX6_start 20 = .ok (.aload_n 0, 1) := by decide +kernel
theorem dX6_start_21 : decode cX6_start 21 = .ok (.iconst 0, 1) := by decide +kernel
theorem dX6_start_22 : decode cX6_start 22 = .ok (.putfield 21, 3) := by decide +kernel
theorem dX6_start_25 : decode cX6_start 25 = .ok (.aload_n 0, 1) := by decide +kernel
theorem dX6_start_26 : decode cX6_start 26 = .ok (.iload_n 1, 1) := by decide +kernel
theorem dX6_start_27 : decode cX6_start 27 = .ok (.putfield 25, 3) := by decide +kernel
theorem dX6_start_30 : decode cX6_start 30 = .ok (.aload_n 0, 1) := by decide +kernel
theorem dX6_start_31 : decode cX6_start 31 = .ok (.iload_n 1, 1) := by decide +kernel
theorem dX6_start_32 : decode cX6_start 32 = .ok (.putfield 28, 3) := by decide +kernel
theorem dX6_start_35 : decode cX6_start 35 = .ok (.aload_n 0, 1) := by decide +kernel
theorem dX6_start_36 : decode cX6_start 36 = .ok (.iconst 0, 1) := by decide +kernel
theorem dX6_start_37 : decode cX6_start 37 = .ok (.putfield 31, 3) := by decide +kernel
theorem dX6_start_40 : decode cX6_start 40 = .ok (.aload_n 0, 1) := by decide +kernel
theorem dX6_start_41 : decode cX6_start 41 = .ok (.iconst 0, 1) := by decide +kernel
theorem dX6_start_42 : decode cX6_start 42 = .ok (.putfield 34, 3) := by decide +kernel
theorem dX6_start_45 : decode cX6_start 45 = .ok (.aload_n 0, 1) := by decide +kernel
theorem dX6_start_46 : decode cX6_start 46 = .ok (.iconst 0, 1) := by decide +kernel
theorem dX6_start_47 : decode cX6_start 47 = .ok (.putfield 37, 3) := by decide +kernel
theorem dX6_start_50 : decode cX6_start 50 = .ok (.aload_n 0, 1) := by decide +kernel
theorem dX6_start_51 : decode cX6_start 51 = .ok (.iconst 0, 1) := by decide +kernel
theorem dX6_start_52 : decode cX6_start 52 = .ok (.putfield 40, 3) := by decide +kernel
theorem dX6_start_55 : decode cX6_start 55 = .ok (.aload_n 0, 1) := by decide +kernel
theorem dX6_start_56 : decode cX6_start 56 = .ok (.iconst 0, 1) := by decide +kernel
theorem dX6_start_57 : decode cX6_start 57 = .ok (.putfield 43, 3) := by decide +kernel
theorem dX6_start_60 : decode cX6_start 60 = .ok (.aload_n 0, 1) := by decide +kernel
theorem dX6_start_61 : decode cX6_start 61 = .ok (.iconst 0, 1) := by decide +kernel
theorem dX6_start_62 : decode cX6_start 62 = .ok (.putfield 47, 3) := by decide +kernel
theorem dX6_start_65 : decode cX6_start 65 = .ok (.aload_n 0, 1) := by decide +kernel
theorem dX6_start_66 : decode cX6_start 66 = .ok (.iconst 0, 1) := by decide +kernel
theorem dX6_start_67 : decode cX6_start 67 = .ok (.putfield 50, 3) := by decide +kernel
theorem dX6_start_70 : decode cX6_start 70 = .ok (.aload_n 0, 1) := by decide +kernel
theorem dX6_start_71 : decode cX6_start 71 = .ok (.iconst (-1), 1) := by decide +kernel
theorem dX6_start_72 : decode cX6_start 72 = .ok (.putfield 53, 3) := by decide +kernel
theorem dX6_start_75 : decode cX6_start 75 = .ok (.aload_n 0, 1) := by decide +kernel
theorem dX6_start_76 : decode cX6_start 76 = .ok (.iconst (-1), 1) := by decide +kernel
theorem dX6_start_77 : decode cX6_start 77 = .ok (.putfield 56, 3) := by decide +kernel
theorem dX6_start_80 : decode cX6_start 80 = .ok (.aload_n 0, 1) := by decide +kernel
theorem dX6_start_81 : decode cX6_start 81 = .ok (.iconst 0, 1) := by decide +kernel
theorem dX6_start_82 : decode cX6_start 82 = .ok (.putfield 59, 3) := by decide +kernel
theorem dX6_start_85 : decode cX6_start 85 = .ok (.aload_n 0, 1) := by decide +kernel
theorem dX6_start_86 : decode cX6_start 86 = .ok (.iconst (-1), 1) := by decide +kernel
theorem dX6_start_87 : decode cX6_start 87 = .ok (.putfield 62, 3) := by decide +kernel
theorem dX6_start_90 : decode cX6_start 90 = .ok (.aload_n 0, 1) := by decide +kernel
theorem dX6_start_91 : decode cX6_start 91 = .ok (.iconst 0, 1) := by decide +kernel
theorem dX6_start_92 : decode cX6_start 92 = .ok (.putfield 65, 3) := by decide +kernel
theorem dX6_start_95 : decode cX6_start 95 = .ok (.return_, 1) := by decide +kernel
theorem dX6_copyFrom_0 : decode cX6_copyFrom 0 = .ok (.aload_n 1, 1) := by decide +kernel
theorem dX6_copyFrom_1 : decode cX6_copyFrom 1 = .ok (.getfield 9, 3) := by decide +kernel
theorem dX6_copyFrom_4 : decode cX6_copyFrom 4 = .ok (.iconst 0, 1) := by decide +kernel
theorem dX6_copyFrom_5 : decode cX6_copyFrom 5 = .ok (.aload_n 0, 1) := by decide +kernel
theorem dX6_copyFrom_6 : decode cX6_copyFrom 6 = .ok (.getfield 9, 3) := by decide +kernel
theorem dX6_copyFrom_9 : decode cX6_copyFrom 9 = .ok (.iconst 0, 1) := by decide +kernel
theorem dX6_copyFrom_10 : decode cX6_copyFrom 10 = .ok (.bipush 16, 2) := by decide +kernel
theorem dX6_copyFrom_12 : decode cX6_copyFrom 12 = .ok (.invokestatic 68, 3) := by decide +kernel
theorem dX6_copyFrom_15 : decode cX6_copyFrom 15 = .ok (.aload_n 1, 1) := by decide +kernel
theorem dX6_copyFrom_16 : decode cX6_copyFrom 16 = .ok (.getfield 15, 3) := by decide +kernel
theorem dX6_copyFrom_19 : decode cX6_copyFrom 19 = .ok (.iconst 0, 1) := by decide +kernel
theorem dX6_copyFrom_20 : decode cX6_copyFrom 20 = .ok (.aload_n 0, 1) := by decide +kernel
theorem dX6_copyFrom_21 : decode cX6_copyFrom 21 = .ok (.getfield 15, 3) := by decide +kernel
theorem dX6_copyFrom_24 : decode cX6_copyFrom 24 = .ok (.iconst 0, 1) := by decide +kernel
theorem dX6_copyFrom_25 : decode cX6_copyFrom 25 = .ok (.bipush 16, 2) := by decide +kernel
theorem dX6_copyFrom_27 : decode cX6_copyFrom 27 = .ok (.invokestatic 68, 3) := by decide +kernel
theorem dX6_copyFrom_30 : decode cX6_copyFrom 30 = .ok (.aload_n 1, 1) := by decide +kernel
theorem dX6_copyFrom_31 : decode cX6_copyFrom 31 = .ok (.getfield 18, 3) := by decide +kernel
theorem dX6_copyFrom_34 : decode cX6_copyFrom 34 = .ok (.iconst 0, 1) := by decide +kernel
theorem dX6_copyFrom_35 : decode cX6_copyFrom 35 = .ok (.aload_n 0, 1) := by decide +kernel
theorem dX6_copyFrom_36 : decode cX6_copyFrom 36 = .ok (.getfield 18, 3) := by decide +kernel
theorem dX6_copyFrom_39 : decode cX6_copyFrom 39 = .ok (.iconst 0, 1) := by decide +kernel
theorem dX6_copyFrom_40 : decode cX6_copyFrom 40 = .ok (.iconst 5, 1) := by decide +kernel
theorem dX6_copyFrom_41 : decode cX6_copyFrom 41 = .ok (.invokestatic 68, 3) := by decide +kernel
theorem dX6_copyFrom_44 : decode cX6_copyFrom 44 = .ok (.aload_n 0, 1) := by decide +kernel
theorem dX6_copyFrom_45 : decode cX6_copyFrom 45 = .ok (.aload_n 1, 1) := by decide +kernel
theorem dX6_copyFrom_46 : decode cX6_copyFrom 46 = .ok (.getfield 21, 3) := by decide +kernel
theorem dX6_copyFrom_49 : decode cX6_copyFrom 49 = .ok (.putfield 21, 3) := by decide +kernel
theorem dX6_copyFrom_52 : decode cX6_copyFrom 52 = .ok (.aload_n 0, 1) := by decide +kernel
theorem dX6_copyFrom_53 : decode cX6_copyFrom 53 = .ok (.aload_n 1, 1) := by decide +kernel
theorem dX6_copyFrom_54 : decode cX6_copyFrom 54 = .ok (.getfield 25, 3) := by decide +kernel
theorem dX6_copyFrom_57 : decode cX6_copyFrom 57 = .ok (.putfield 25, 3) := by decide +kernel
theorem dX6_copyFrom_60 : decode cX6_copyFrom 60 = .ok (.aload_n 0, 1) := by decide +kernel
theorem dX6_copyFrom_61 : decode cX6_copyFrom 61 = .ok (.aload_n 1, 1) := by decide +kernel
theorem dX6_copyFrom_62 : decode cX6_copyFrom 62 = .ok (.getfield 28, 3) := by decide +kernel
theorem dX6_copyFrom_65 : decode cX6_copyFrom 65 = .ok (.putfield 28, 3) := by decide +kernel
theorem dX6_copyFrom_68 : decode cX6_copyFrom 68 = .ok (.aload_n 0, 1) := by decide +kernel
theorem dX6_copyFrom_69 : decode cX6_copyFrom 69 = .ok (.aload_n 1, 1) := by decide +kernel
theorem dX6_copyFrom_70 : decode cX6_copyFrom 70 = .ok (.getfield 31, 3) := by decide +kernel
theorem dX6_copyFrom_73 : decode cX6_copyFrom 73 = .ok (.putfield 31, 3) := by decide +kernel
theorem dX6_copyFrom_76 : decode cX6_copyFrom 76 = .ok (.aload_n 0, 1) := by decide +kernel
theorem dX6_copyFrom_77 : decode cX6_copyFrom 77 = .ok (.aload_n 1, 1) := by decide +kernel
theorem dX6_copyFrom_78 : decode cX6_copyFrom 78 = .ok (.getfield 34, 3) := by decide +kernel
theorem dX6_copyFrom_81 : decode cX6_copyFrom 81 = .ok (.putfield 34, 3) := by decide +kernel
theorem dX6_copyFrom_84 : decode cX6_copyFrom 84 = .ok (.aload_n 0, 1) := by decide +kernel
theorem dX6_copyFrom_85 : decode cX6_copyFrom 85 = .ok (.aload_n 1, 1) := by decide +kernel
theorem dX6_copyFrom_86 : decode cX6_copyFrom 86 = .ok (.getfield 37, 3) := by decide +kernel
theorem dX6_copyFrom_89 : decode cX6_copyFrom 89 = .ok (.putfield 37, 3) := by decide +kernel
theorem dX6_copyFrom_92 : decode cX6_copyFrom 92 = .ok (.aload_n 0, 1) := by decide +kernel
theorem dX6_copyFrom_93 : decode cX6_copyFrom 93 = .ok (.aload_n 1, 1) := by decide +kernel
theorem dX6_copyFrom_94 : decode cX6_copyFrom 94 = .ok (.getfield 40, 3) := by decide +kernel
theorem dX6_copyFrom_97 : decode cX6_copyFrom 97 = .ok (.putfield 40, 3) := by decide +kernel
theorem dX6_copyFrom_100 : decode cX6_copyFrom 100 = .ok (.aload_n 0, 1) := by decide +kernel
theorem dX6_copyFrom_101 : decode cX6_copyFrom 101 = .ok (.aload_n 1, 1) := by decide +kernel
theorem dX6_copyFrom_102 : decode cX6_copyFrom 102 = .ok (.getfield 43, 3) := by decide +kernel
theorem dX6_copyFrom_105 : decode cX6_copyFrom 105 = .ok (.putfield 43, 3) := by decide +kernel
theorem dX6_copyFrom_108 : decode cX6_copyFrom 108 = .ok (.aload_n 0, 1) := by decide +kernel
theorem dX6_copyFrom_109 : decode cX6_copyFrom 109 = .ok (.aload_n 1, 1) := by decide +kernel
theorem dX6_copyFrom_110 : decode cX6_copyFrom 110 = .ok (.getfield 47, 3) := by decide +kernel
theorem dX6_copyFrom_113 : decode cX6_copyFrom 113 = .ok (.putfield 47, 3) := by decide +kernel
theorem dX6_copyFrom_116 : decode cX6_copyFrom 116 = .ok (.aload_n 0, 1) := by decide +kernel
theorem dX6_copyFrom_117 : decode cX6_copyFrom 117 = .ok (.aload_n 1, 1) := by decide +kernel
theorem dX6_copyFrom_118 : decode cX6_copyFrom 118 = .ok (.getfield 50, 3) := by decide +kernel
theorem dX6_copyFrom_121 : decode cX6_copyFrom 121 = .ok (.putfield 50, 3) := by decide +kernel
theorem dX6_copyFrom_124 : decode cX6_copyFrom 124 = .ok (.aload_n 0, 1) := by decide +kernel
theorem dX6_copyFrom_125 : decode cX6_copyFrom 125 = .ok (.aload_n 1, 1) := by decide +kernel
theorem dX6_copyFrom_126 : decode cX6_copyFrom 126 = .ok (.getfield 53, 3) := by decide +kernel
theorem dX6_copyFrom_129 : decode cX6_copyFrom 129 = .ok (.putfield 53, 3) := by decide +kernel
theorem dX6_copyFrom_132 : decode cX6_copyFrom 132 = .ok (.aload_n 0, 1) := by decide +kernel
theorem dX6_copyFrom_133 : decode cX6_copyFrom 133 = .ok (.aload_n 1, 1) := by decide +kernel
theorem dX6_copyFrom_134 : decode cX6_copyFrom 134 = .ok (.getfield 56, 3) := by decide +kernel
theorem dX6_copyFrom_137 : decode cX6_copyFrom 137 = .ok (.putfield 56, 3) := by decide +kernel
theorem dX6_copyFrom_140 : decode cX6_copyFrom 140 = .ok (.aload_n 0, 1) := by decide +kernel
theorem dX6_copyFrom_141 : decode cX6_copyFrom 141 = .ok (.aload_n 1, 1) := by decide +kernel
theorem dX6_copyFrom_142 : decode cX6_copyFrom 142 = .ok (.getfield 59, 3) := by decide +kernel
theorem dX6_copyFrom_145 : decode cX6_copyFrom 145 = .ok (.putfield 59, 3) := by decide +kernel
theorem dX6_copyFrom_148 : decode cX6_copyFrom 148 = .ok (.aload_n 0, 1) := by decide +kernel
theorem dX6_copyFrom_149 : decode cX6_copyFrom 149 = .ok (.aload_n 1, 1) := by decide +kernel
theorem dX6_copyFrom_150 : decode cX6_copyFrom 150 = .ok (.getfield 62, 3) := by decide +kernel
theorem dX6_copyFrom_153 : decode cX6_copyFrom 153 = .ok (.putfield 62, 3) := by decide +kernel
theorem dX6_copyFrom_156 : decode cX6_copyFrom 156 = .ok (.aload_n 0, 1) := by decide +kernel
theorem dX6_copyFrom_157 : decode cX6_copyFrom 157 = .ok (.aload_n 1, 1) := by decide +kernel
theorem dX6_copyFrom_158 : decode cX6_copyFrom 158 = .ok (.getfield 65, 3) := by decide +kernel
theorem dX6_copyFrom_161 : decode cX6_copyFrom 161 = .ok (.putfield 65, 3) := by decide +kernel
theorem dX6_copyFrom_164 : decode cX6_copyFrom 164 = .ok (.return_, 1) := by decide +kernel
theorem dX6_addStep_0 : decode cX6_addStep 0 = .ok (.aload_n 0, 1) := by decide +kernel
theorem dX6_addStep_1 : decode cX6_addStep 1 = .ok (.getfield 21, 3) := by decide +kernel
theorem dX6_addStep_4 : decode cX6_addStep 4 = .ok (.bipush 16, 2) := by decide +kernel
theorem dX6_addStep_6 : decode cX6_addStep 6 = .ok (.if_icmp .ge 33, 3) := by decide +kernel
theorem dX6_addStep_9 : decode cX6_addStep 9 = .ok (.aload_n 0, 1) := by decide +kernel
theorem dX6_addStep_10 : decode cX6_addStep 10 = .ok (.getfield 9, 3) := by decide +kernel
theorem dX6_addStep_13 : decode cX6_addStep 13 = .ok (.aload_n 0, 1) := by decide +kernel
theorem dX6_addStep_14 : decode cX6_addStep 14 = .ok (.getfield 21, 3) := by decide +kernel
theorem dX6_addStep_17 : decode cX6_addStep 17 = .ok (.iload_n 1, 1) := by decide +kernel
theorem dX6_addStep_18 : decode cX6_addStep 18 = .ok (.iastore, 1) := by decide +kernel
theorem dX6_addStep_19 : decode cX6_addStep 19 = .ok (.aload_n 0, 1) := by decide +kernel
theorem dX6_addStep_20 : decode cX6_addStep 20 = .ok (.getfield 15, 3) := by decide +kernel
theorem dX6_addStep_23 : decode cX6_addStep 23 = .ok (.aload_n 0, 1) := by decide +kernel
theorem dX6_addStep_24 : decode cX6_addStep 24 = .ok (.getfield 21, 3) := by decide +kernel
theorem dX6_addStep_27 : decode cX6_addStep 27 = .ok (.iload_n 2, 1) := by decide +kernel
theorem dX6_addStep_28 : decode cX6_addStep 28 = .ok (.iastore, 1) := by decide +kernel
theorem dX6_addStep_29 : decode cX6_addStep 29 = .ok (.aload_n 0, 1) := by decide +kernel
theorem dX6_addStep_30 : decode cX6_addStep 30 = .ok (.dup, 1) := by decide +kernel
theorem dX6_addStep_31 : decode cX6_addStep 31 = .ok (.getfield 21, 3) := by decide +kernel
theorem dX6_addStep_34 : decode cX6_addStep 34 = .ok (.iconst 1, 1) := by decide +kernel
theorem dX6_addStep_35 : decode cX6_addStep 35 = .ok (.iadd, 1) := by decide +kernel
theorem dX6_addStep_36 : decode cX6_addStep 36 = .ok (.putfield 21, 3) := by decide +kernel
theorem dX6_addStep_39 : decode cX6_addStep 39 = .ok (.return_, 1) := by decide +kernel
theorem dX6_isOver_0 : decode cX6_isOver 0 = .ok (.aload_n 0, 1) := by decide +kernel
theorem dX6_isOver_1 : decode cX6_isOver 1 = .ok (.getfield 34, 3) := by decide +kernel
theorem dX6_isOver_4 : decode cX6_isOver 4 = .ok (.iconst 3, 1) := by decide +kernel
theorem dX6_isOver_5 : decode cX6_isOver 5 = .ok (.if_icmp .eq 11, 3) := by decide +kernel
theorem dX6_isOver_8 : decode cX6_isOver 8 = .ok (.aload_n 0, 1) := by decide +kernel
theorem dX6_isOver_9 : decode cX6_isOver 9 = .ok (.getfield 34, 3) := by decide +kernel
theorem dX6_isOver_12 : decode cX6_isOver 12 = .ok (.iconst 4, 1) := by decide +kernel
theorem dX6_isOver_13 : decode cX6_isOver 13 = .ok (.if_icmp .ne 7, 3) := by decide +kernel
theorem dX6_isOver_16 : decode cX6_isOver 16 = .ok (.iconst 1, 1) := by decide +kernel
theorem dX6_isOver_17 : decode cX6_isOver 17 = .ok (.goto 4, 3) := by decide +kernel
theorem dX6_isOver_20 : decode cX6_isOver 20 = .ok (.iconst 0, 1) := by decide +kernel
theorem dX6_isOver_21 : decode cX6_isOver 21 = .ok (.ireturn, 1) := by decide +kernel
theorem dX6_allReturns_0 : decode cX6_allReturns 0 = .ok (.aload_n 0, 1) := by decide +kernel
theorem dX6_allReturns_1 : decode cX6_allReturns 1 = .ok (.getfield 18, 3) := by decide +kernel
theorem dX6_allReturns_4 : decode cX6_allReturns 4 = .ok (.iconst 1, 1) := by decide +kernel
theorem dX6_allReturns_5 : decode cX6_allReturns 5 = .ok (.iaload, 1) := by decide +kernel
theorem dX6_allReturns_6 : decode cX6_allReturns 6 = .ok (.aload_n 0, 1) := by decide +kernel
theorem dX6_allReturns_7 : decode cX6_allReturns 7 = .ok (.getfield 18, 3) := by decide +kernel
theorem dX6_allReturns_10 : decode cX6_allReturns 10 = .ok (.iconst 2, 1) := by decide +kernel
theorem dX6_allReturns_11 : decode cX6_allReturns 11 = .ok (.iaload, 1) := by decide +kernel
theorem dX6_allReturns_12 : decode cX6_allReturns 12 = .ok (.iadd, 1) := by decide +kernel
theorem dX6_allReturns_13 : decode cX6_allReturns 13 = .ok (.aload_n 0, 1) := by decide +kernel
theorem dX6_allReturns_14 : decode cX6_allReturns 14 = .ok (.getfield 18, 3) := by decide +kernel
theorem dX6_allReturns_17 : decode cX6_allReturns 17 = .ok (.iconst 3, 1) := by decide +kernel
theorem dX6_allReturns_18 : decode cX6_allReturns 18 = .ok (.iaload, 1) := by decide +kernel
theorem dX6_allReturns_19 : decode cX6_allReturns 19 = .ok (.iadd, 1) := by decide +kernel
theorem dX6_allReturns_20 : decode cX6_allReturns 20 = .ok (.aload_n 0, 1) := by decide +kernel
theorem dX6_allReturns_21 : decode cX6_allReturns 21 = .ok (.getfield 18, 3) := by decide +kernel
theorem dX6_allReturns_24 : decode cX6_allReturns 24 = .ok (.iconst 4, 1) := by decide +kernel
theorem dX6_allReturns_25 : decode cX6_allReturns 25 = .ok (.iaload, 1) := by decide +kernel
theorem dX6_allReturns_26 : decode cX6_allReturns 26 = .ok (.iadd, 1) := by decide +kernel
theorem dX6_allReturns_27 : decode cX6_allReturns 27 = .ok (.ireturn, 1) := by decide +kernel
theorem dX6_number_0 : decode cX6_number 0 = .ok (.iload_n 1, 1) := by decide +kernel
theorem dX6_number_1 : decode cX6_number 1 = .ok (.tableswitch 210 0 17 #[87, 92, 97, 102, 107, 120, 133, 138, 143, 210, 148, 153, 158, 163, 170, 177, 184, 191], 87) := by decide +kernel
theorem dX6_number_88 : decode cX6_number 88 = .ok (.aload_n 0, 1) := by decide +kernel
theorem dX6_number_89 : decode cX6_number 89 = .ok (.getfield 25, 3) := by decide +kernel
theorem dX6_number_92 : decode cX6_number 92 = .ok (.ireturn, 1) := by decide +kernel
theorem dX6_number_93 : decode cX6_number 93 = .ok (.aload_n 0, 1) := by decide +kernel
theorem dX6_number_94 : decode cX6_number 94 = .ok (.getfield 28, 3) := by decide +kernel
theorem dX6_number_97 : decode cX6_number 97 = .ok (.ireturn, 1) := by decide +kernel
theorem dX6_number_98 : decode cX6_number 98 = .ok (.aload_n 0, 1) := by decide +kernel
theorem dX6_number_99 : decode cX6_number 99 = .ok (.getfield 34, 3) := by decide +kernel
theorem dX6_number_102 : decode cX6_number 102 = .ok (.ireturn, 1) := by decide +kernel
theorem dX6_number_103 : decode cX6_number 103 = .ok (.aload_n 0, 1) := by decide +kernel
theorem dX6_number_104 : decode cX6_number 104 = .ok (.getfield 37, 3) := by decide +kernel
theorem dX6_number_107 : decode cX6_number 107 = .ok (.ireturn, 1) := by decide +kernel
theorem dX6_number_108 : decode cX6_number 108 = .ok (.aload_n 0, 1) := by decide +kernel
theorem dX6_number_109 : decode cX6_number 109 = .ok (.getfield 43, 3) := by decide +kernel
theorem dX6_number_112 : decode cX6_number 112 = .ok (.ifCond .eq 7, 3) := by decide +kernel
theorem dX6_number_115 : decode cX6_number 115 = .ok (.iconst 1, 1) := by decide +kernel
theorem dX6_number_116 : decode cX6_number 116 = .ok (.goto 4, 3) := by decide +kernel
theorem dX6_number_119 : decode cX6_number 119 = .ok (.iconst 0, 1) := by decide +kernel
theorem dX6_number_120 : decode cX6_number 120 = .ok (.ireturn, 1) := by decide +kernel
theorem dX6_number_121 : decode cX6_number 121 = .ok (.aload_n 0, 1) := by decide +kernel
theorem dX6_number_122 : decode cX6_number 122 = .ok (.getfield 47, 3) := by decide +kernel
theorem dX6_number_125 : decode cX6_number 125 = .ok (.ifCond .eq 7, 3) := by decide +kernel
theorem dX6_number_128 : decode cX6_number 128 = .ok (.iconst 1, 1) := by decide +kernel
theorem dX6_number_129 : decode cX6_number 129 = .ok (.goto 4, 3) := by decide +kernel
theorem dX6_number_132 : decode cX6_number 132 = .ok (.iconst 0, 1) := by decide +kernel
theorem dX6_number_133 : decode cX6_number 133 = .ok (.ireturn, 1) := by decide +kernel
theorem dX6_number_134 : decode cX6_number 134 = .ok (.aload_n 0, 1) := by decide +kernel
theorem dX6_number_135 : decode cX6_number 135 = .ok (.getfield 50, 3) := by decide +kernel
theorem dX6_number_138 : decode cX6_number 138 = .ok (.ireturn, 1) := by decide +kernel
theorem dX6_number_139 : decode cX6_number 139 = .ok (.aload_n 0, 1) := by decide +kernel
theorem dX6_number_140 : decode cX6_number 140 = .ok (.getfield 53, 3) := by decide +kernel
theorem dX6_number_143 : decode cX6_number 143 = .ok (.ireturn, 1) := by decide +kernel
theorem dX6_number_144 : decode cX6_number 144 = .ok (.aload_n 0, 1) := by decide +kernel
theorem dX6_number_145 : decode cX6_number 145 = .ok (.getfield 56, 3) := by decide +kernel
theorem dX6_number_148 : decode cX6_number 148 = .ok (.ireturn, 1) := by decide +kernel
theorem dX6_number_149 : decode cX6_number 149 = .ok (.aload_n 0, 1) := by decide +kernel
theorem dX6_number_150 : decode cX6_number 150 = .ok (.getfield 59, 3) := by decide +kernel
theorem dX6_number_153 : decode cX6_number 153 = .ok (.ireturn, 1) := by decide +kernel
theorem dX6_number_154 : decode cX6_number 154 = .ok (.aload_n 0, 1) := by decide +kernel
theorem dX6_number_155 : decode cX6_number 155 = .ok (.getfield 62, 3) := by decide +kernel
theorem dX6_number_158 : decode cX6_number 158 = .ok (.ireturn, 1) := by decide +kernel
theorem dX6_number_159 : decode cX6_number 159 = .ok (.aload_n 0, 1) := by decide +kernel
theorem dX6_number_160 : decode cX6_number 160 = .ok (.getfield 65, 3) := by decide +kernel
theorem dX6_number_163 : decode cX6_number 163 = .ok (.ireturn, 1) := by decide +kernel
theorem dX6_number_164 : decode cX6_number 164 = .ok (.aload_n 0, 1) := by decide +kernel
theorem dX6_number_165 : decode cX6_number 165 = .ok (.getfield 18, 3) := by decide +kernel
theorem dX6_number_168 : decode cX6_number 168 = .ok (.iconst 1, 1) := by decide +kernel
theorem dX6_number_169 : decode cX6_number 169 = .ok (.iaload, 1) := by decide +kernel
theorem dX6_number_170 : decode cX6_number 170 = .ok (.ireturn, 1) := by decide +kernel
theorem dX6_number_171 : decode cX6_number 171 = .ok (.aload_n 0, 1) := by decide +kernel
theorem dX6_number_172 : decode cX6_number 172 = .ok (.getfield 18, 3) := by decide +kernel
theorem dX6_number_175 : decode cX6_number 175 = .ok (.iconst 2, 1) := by decide +kernel
theorem dX6_number_176 : decode cX6_number 176 = .ok (.iaload, 1) := by decide +kernel
theorem dX6_number_177 : decode cX6_number 177 = .ok (.ireturn, 1) := by decide +kernel
theorem dX6_number_178 : decode cX6_number 178 = .ok (.aload_n 0, 1) := by decide +kernel
theorem dX6_number_179 : decode cX6_number 179 = .ok (.getfield 18, 3) := by decide +kernel
theorem dX6_number_182 : decode cX6_number 182 = .ok (.iconst 3, 1) := by decide +kernel
theorem dX6_number_183 : decode cX6_number 183 = .ok (.iaload, 1) := by decide +kernel
theorem dX6_number_184 : decode cX6_number 184 = .ok (.ireturn, 1) := by decide +kernel
theorem dX6_number_185 : decode cX6_number 185 = .ok (.aload_n 0, 1) := by decide +kernel
theorem dX6_number_186 : decode cX6_number 186 = .ok (.getfield 18, 3) := by decide +kernel
theorem dX6_number_189 : decode cX6_number 189 = .ok (.iconst 4, 1) := by decide +kernel
theorem dX6_number_190 : decode cX6_number 190 = .ok (.iaload, 1) := by decide +kernel
theorem dX6_number_191 : decode cX6_number 191 = .ok (.ireturn, 1) := by decide +kernel
theorem dX6_number_192 : decode cX6_number 192 = .ok (.aload_n 0, 1) := by decide +kernel
theorem dX6_number_193 : decode cX6_number 193 = .ok (.getfield 31, 3) := by decide +kernel
theorem dX6_number_196 : decode cX6_number 196 = .ok (.ifCond .ne 10, 3) := by decide +kernel
theorem dX6_number_199 : decode cX6_number 199 = .ok (.aload_n 0, 1) := by decide +kernel
theorem dX6_number_200 : decode cX6_number 200 = .ok (.getfield 25, 3) := by decide +kernel
theorem dX6_number_203 : decode cX6_number 203 = .ok (.goto 7, 3) := by decide +kernel
theorem dX6_number_206 : decode cX6_number 206 = .ok (.aload_n 0, 1) := by decide +kernel
theorem dX6_number_207 : decode cX6_number 207 = .ok (.getfield 31, 3) := by decide +kernel
theorem dX6_number_210 : decode cX6_number 210 = .ok (.ireturn, 1) := by decide +kernel
theorem dX6_number_211 : decode cX6_number 211 = .ok (.aload_n 0, 1) := by decide +kernel
theorem dX6_number_212 : decode cX6_number 212 = .ok (.getfield 21, 3) := by decide +kernel
theorem dX6_number_215 : decode cX6_number 215 = .ok (.ireturn, 1) := by decide +kernel
theorem dX7_init_0 : decode cX7_init 0 = .ok (.aload_n 0, 1) := by decide +kernel
theorem dX7_init_1 : decode cX7_init 1 = .ok (.invokespecial 1, 3) := by decide +kernel
theorem dX7_init_4 : decode cX7_init 4 = .ok (.aload_n 0, 1) := by decide +kernel
theorem dX7_init_5 : decode cX7_init 5 = .ok (.new 7, 3) := by decide +kernel
theorem dX7_init_8 : decode cX7_init 8 = .ok (.dup, 1) := by decide +kernel
theorem dX7_init_9 : decode cX7_init 9 = .ok (.invokespecial 9, 3) := by decide +kernel
theorem dX7_init_12 : decode cX7_init 12 = .ok (.putfield 10, 3) := by decide +kernel
theorem dX7_init_15 : decode cX7_init 15 = .ok (.aload_n 0, 1) := by decide +kernel
theorem dX7_init_16 : decode cX7_init 16 = .ok (.new 16, 3) := by decide +kernel
theorem dX7_init_19 : decode cX7_init 19 = .ok (.dup, 1) := by decide +kernel
theorem dX7_init_20 : decode cX7_init 20 = .ok (.invokespecial 18, 3) := by decide +kernel
theorem dX7_init_23 : decode cX7_init 23 = .ok (.putfield 19, 3) := by decide +kernel
theorem dX7_init_26 : decode cX7_init 26 = .ok (.aload_n 0, 1) := by decide +kernel
theorem dX7_init_27 : decode cX7_init 27 = .ok (.new 16, 3) := by decide +kernel
theorem dX7_init_30 : decode cX7_init 30 = .ok (.dup, 1) := by decide +kernel
theorem dX7_init_31 : decode cX7_init 31 = .ok (.invokespecial 18, 3) := by decide +kernel
theorem dX7_init_34 : decode cX7_init 34 = .ok (.putfield 23, 3) := by decide +kernel
theorem dX7_init_37 : decode cX7_init 37 = .ok (.aload_n 0, 1) := by decide +kernel
theorem dX7_init_38 : decode cX7_init 38 = .ok (.iconst 2, 1) := by decide +kernel
theorem dX7_init_39 : decode cX7_init 39 = .ok (.anewarray 16, 3) := by decide +kernel
theorem dX7_init_42 : decode cX7_init 42 = .ok (.dup, 1) := by decide +kernel
theorem dX7_init_43 : decode cX7_init 43 = .ok (.iconst 0, 1) := by decide +kernel
theorem dX7_init_44 : decode cX7_init 44 = .ok (.new 16, 3) := by decide +kernel
theorem dX7_init_47 : decode cX7_init 47 = .ok (.dup, 1) := by decide +kernel
theorem dX7_init_48 : decode cX7_init 48 = .ok (.invokespecial 18, 3) := by decide +kernel
theorem dX7_init_51 : decode cX7_init 51 = .ok (.aastore, 1) := by decide +kernel
theorem dX7_init_52 : decode cX7_init 52 = .ok (.dup, 1) := by decide +kernel
theorem dX7_init_53 : decode cX7_init 53 = .ok (.iconst 1, 1) := by decide +kernel
theorem dX7_init_54 : decode cX7_init 54 = .ok (.new 16, 3) := by decide +kernel
theorem dX7_init_57 : decode cX7_init 57 = .ok (.dup, 1) := by decide +kernel
theorem dX7_init_58 : decode cX7_init 58 = .ok (.invokespecial 18, 3) := by decide +kernel
theorem dX7_init_61 : decode cX7_init 61 = .ok (.aastore, 1) := by decide +kernel
theorem dX7_init_62 : decode cX7_init 62 = .ok (.putfield 26, 3) := by decide +kernel
theorem dX7_init_65 : decode cX7_init 65 = .ok (.aload_n 0, 1) := by decide +kernel
theorem dX7_init_66 : decode cX7_init 66 = .ok (.iconst 2, 1) := by decide +kernel
theorem dX7_init_67 : decode cX7_init 67 = .ok (.newarray .boolean, 2) := by decide +kernel
theorem dX7_init_69 : decode cX7_init 69 = .ok (.putfield 30, 3) := by decide +kernel
theorem dX7_init_72 : decode cX7_init 72 = .ok (.return_, 1) := by decide +kernel
theorem dX7_addThread_0 : decode cX7_addThread 0 = .ok (.iload_n 1, 1) := by decide +kernel
theorem dX7_addThread_1 : decode cX7_addThread 1 = .ok (.iconst 1, 1) := by decide +kernel
theorem dX7_addThread_2 : decode cX7_addThread 2 = .ok (.bipush 9, 2) := by decide +kernel
theorem dX7_addThread_4 : decode cX7_addThread 4 = .ok (.invokestatic 49, 3) := by decide +kernel
theorem dX7_addThread_7 : decode cX7_addThread 7 = .ok (.iload_n 2, 1) := by decide +kernel
theorem dX7_addThread_8 : decode cX7_addThread 8 = .ok (.iload_n 3, 1) := by decide +kernel
theorem dX7_addThread_9 : decode cX7_addThread 9 = .ok (.invokestatic 79, 3) := by decide +kernel
theorem dX7_addThread_12 : decode cX7_addThread 12 = .ok (.aload_n 0, 1) := by decide +kernel
theorem dX7_addThread_13 : decode cX7_addThread 13 = .ok (.getfield 19, 3) := by decide +kernel
theorem dX7_addThread_16 : decode cX7_addThread 16 = .ok (.invokevirtual 83, 3) := by decide +kernel
theorem dX7_addThread_19 : decode cX7_addThread 19 = .ok (.ifCond .eq 13, 3) := by decide +kernel
theorem dX7_addThread_22 : decode cX7_addThread 22 = .ok (.new 38, 3) := by decide +kernel
theorem dX7_addThread_25 : decode cX7_addThread 25 = .ok (.dup, 1) := by decide +kernel
theorem dX7_addThread_26 : decode cX7_addThread 26 = .ok (.ldc 86, 2) := by decide +kernel
theorem dX7_addThread_28 : decode cX7_addThread 28 = .ok (.invokespecial 42, 3) := by decide +kernel
theorem dX7_addThread_31 : decode cX7_addThread 31 = .ok (.athrow, 1) := by decide +kernel
theorem dX7_addThread_32 : decode cX7_addThread 32 = .ok (.aload_n 0, 1) := by decide +kernel
theorem dX7_addThread_33 : decode cX7_addThread 33 = .ok (.getfield 19, 3) := by decide +kernel
theorem dX7_addThread_36 : decode cX7_addThread 36 = .ok (.iload_n 1, 1) := by decide +kernel
theorem dX7_addThread_37 : decode cX7_addThread 37 = .ok (.invokevirtual 88, 3) := by decide +kernel
theorem dX7_addThread_40 : decode cX7_addThread 40 = .ok (.iload_n 2, 1) := by decide +kernel
theorem dX7_addThread_41 : decode cX7_addThread 41 = .ok (.iload_n 3, 1) := by decide +kernel
theorem dX7_addThread_42 : decode cX7_addThread 42 = .ok (.invokevirtual 92, 3) := by decide +kernel
theorem dX7_addThread_45 : decode cX7_addThread 45 = .ok (.aload_n 0, 1) := by decide +kernel
theorem dX7_addThread_46 : decode cX7_addThread 46 = .ok (.getfield 19, 3) := by decide +kernel
theorem dX7_addThread_49 : decode cX7_addThread 49 = .ok (.getfield 73, 3) := by decide +kernel
theorem dX7_addThread_52 : decode cX7_addThread 52 = .ok (.iconst 1, 1) := by decide +kernel
theorem dX7_addThread_53 : decode cX7_addThread 53 = .ok (.isub, 1) := by decide +kernel
theorem dX7_addThread_54 : decode cX7_addThread 54 = .ok (.ireturn, 1) := by decide +kernel
theorem dX7_addInstruction_0 : decode cX7_addInstruction 0 = .ok (.aload_n 0, 1) := by decide +kernel
theorem dX7_addInstruction_1 : decode cX7_addInstruction 1 = .ok (.iload_n 1, 1) := by decide +kernel
theorem dX7_addInstruction_2 : decode cX7_addInstruction 2 = .ok (.invokevirtual 97, 3) := by decide +kernel
theorem dX7_addInstruction_5 : decode cX7_addInstruction 5 = .ok (.iload_n 2, 1) := by decide +kernel
theorem dX7_addInstruction_6 : decode cX7_addInstruction 6 = .ok (.iload_n 3, 1) := by decide +kernel
theorem dX7_addInstruction_7 : decode cX7_addInstruction 7 = .ok (.invokestatic 79, 3) := by decide +kernel
theorem dX7_addInstruction_10 : decode cX7_addInstruction 10 = .ok (.aload_n 0, 1) := by decide +kernel
theorem dX7_addInstruction_11 : decode cX7_addInstruction 11 = .ok (.getfield 19, 3) := by decide +kernel
theorem dX7_addInstruction_14 : decode cX7_addInstruction 14 = .ok (.getfield 100, 3) := by decide +kernel
theorem dX7_addInstruction_17 : decode cX7_addInstruction 17 = .ok (.iload_n 1, 1) := by decide +kernel
theorem dX7_addInstruction_18 : decode cX7_addInstruction 18 = .ok (.aaload, 1) := by decide +kernel
theorem dX7_addInstruction_19 : decode cX7_addInstruction 19 = .ok (.astore 4, 2) := by decide +kernel
theorem dX7_addInstruction_21 : decode cX7_addInstruction 21 = .ok (.aload 4, 2) := by decide +kernel
theorem dX7_addInstruction_23 : decode cX7_addInstruction 23 = .ok (.getfield 104, 3) := by decide +kernel
theorem dX7_addInstruction_26 : decode cX7_addInstruction 26 = .ok (.bipush 16, 2) := by decide +kernel
theorem dX7_addInstruction_28 : decode cX7_addInstruction 28 = .ok (.if_icmp .ge 11, 3) := by decide +kernel
theorem dX7_addInstruction_31 : decode cX7_addInstruction 31 = .ok (.aload 4, 2) := by decide +kernel
theorem dX7_addInstruction_33 : decode cX7_addInstruction 33 = .ok (.invokevirtual 105, 3) := by decide +kernel
theorem dX7_addInstruction_36 : decode cX7_addInstruction 36 = .ok (.ifCond .eq 13, 3) := by decide +kernel
theorem dX7_addInstruction_39 : decode cX7_addInstruction 39 = .ok (.new 38, 3) := by decide +kernel
theorem dX7_addInstruction_42 : decode cX7_addInstruction 42 = .ok (.dup, 1) := by decide +kernel
theorem dX7_addInstruction_43 : decode cX7_addInstruction 43 = .ok (.ldc 108, 2) := by decide +kernel
theorem dX7_addInstruction_45 : decode cX7_addInstruction 45 = .ok (.invokespecial 42, 3) := by decide +kernel
theorem dX7_addInstruction_48 : decode cX7_addInstruction 48 = .ok (.athrow, 1) := by decide +kernel
theorem dX7_addInstruction_49 : decode cX7_addInstruction 49 = .ok (.aload 4, 2) := by decide +kernel
theorem dX7_addInstruction_51 : decode cX7_addInstruction 51 = .ok (.iload_n 2, 1) := by decide +kernel
theorem dX7_addInstruction_52 : decode cX7_addInstruction 52 = .ok (.iload_n 3, 1) := by decide +kernel
theorem dX7_addInstruction_53 : decode cX7_addInstruction 53 = .ok (.invokevirtual 92, 3) := by decide +kernel
theorem dX7_addInstruction_56 : decode cX7_addInstruction 56 = .ok (.aload 4, 2) := by decide +kernel
theorem dX7_addInstruction_58 : decode cX7_addInstruction 58 = .ok (.getfield 104, 3) := by decide +kernel
theorem dX7_addInstruction_61 : decode cX7_addInstruction 61 = .ok (.ireturn, 1) := by decide +kernel
theorem dX7_setBase_0 : decode cX7_setBase 0 = .ok (.aload_n 0, 1) := by decide +kernel
theorem dX7_setBase_1 : decode cX7_setBase 1 = .ok (.iload_n 1, 1) := by decide +kernel
theorem dX7_setBase_2 : decode cX7_setBase 2 = .ok (.invokevirtual 97, 3) := by decide +kernel
theorem dX7_setBase_5 : decode cX7_setBase 5 = .ok (.iload_n 2, 1) := by decide +kernel
theorem dX7_setBase_6 : decode cX7_setBase 6 = .ok (.iconst 1, 1) := by decide +kernel
theorem dX7_setBase_7 : decode cX7_setBase 7 = .ok (.bipush 9, 2) := by decide +kernel
theorem dX7_setBase_9 : decode cX7_setBase 9 = .ok (.invokestatic 49, 3) := by decide +kernel
theorem dX7_setBase_12 : decode cX7_setBase 12 = .ok (.aload_n 0, 1) := by decide +kernel
theorem dX7_setBase_13 : decode cX7_setBase 13 = .ok (.getfield 19, 3) := by decide +kernel
theorem dX7_setBase_16 : decode cX7_setBase 16 = .ok (.getfield 100, 3) := by decide +kernel
theorem dX7_setBase_19 : decode cX7_setBase 19 = .ok (.iload_n 1, 1) := by decide +kernel
theorem dX7_setBase_20 : decode cX7_setBase 20 = .ok (.aaload, 1) := by decide +kernel
theorem dX7_setBase_21 : decode cX7_setBase 21 = .ok (.getfield 110, 3) := by decide +kernel
theorem dX7_setBase_24 : decode cX7_setBase 24 = .ok (.istore_n 3, 1) := by decide +kernel
theorem dX7_setBase_25 : decode cX7_setBase 25 = .ok (.aload_n 0, 1) := by decide +kernel
theorem dX7_setBase_26 : decode cX7_setBase 26 = .ok (.getfield 19, 3) := by decide +kernel
theorem dX7_setBase_29 : decode cX7_setBase 29 = .ok (.iload_n 1, 1) := by decide +kernel
theorem dX7_setBase_30 : decode cX7_setBase 30 = .ok (.iload_n 2, 1) := by decide +kernel
theorem dX7_setBase_31 : decode cX7_setBase 31 = .ok (.invokevirtual 113, 3) := by decide +kernel
theorem dX7_setBase_34 : decode cX7_setBase 34 = .ok (.iload_n 3, 1) := by decide +kernel
theorem dX7_setBase_35 : decode cX7_setBase 35 = .ok (.ireturn, 1) := by decide +kernel
theorem dX7_set_0 : decode cX7_set 0 = .ok (.iload_n 1, 1) := by decide +kernel
theorem dX7_set_1 : decode cX7_set 1 = .ok (.iconst 0, 1) := by decide +kernel
theorem dX7_set_2 : decode cX7_set 2 = .ok (.iconst 1, 1) := by decide +kernel
theorem dX7_set_3 : decode cX7_set 3 = .ok (.invokestatic 49, 3) := by decide +kernel
theorem dX7_set_6 : decode cX7_set 6 = .ok (.iload_n 2, 1) := by decide +kernel
theorem dX7_set_7 : decode cX7_set 7 = .ok (.iconst 0, 1) := by decide +kernel
theorem dX7_set_8 : decode cX7_set 8 = .ok (.iload_n 1, 1) := by decide +kernel
theorem dX7_set_9 : decode cX7_set 9 = .ok (.invokestatic 116, 3) := by decide +kernel
theorem dX7_set_12 : decode cX7_set 12 = .ok (.invokestatic 49, 3) := by decide +kernel
theorem dX7_set_15 : decode cX7_set 15 = .ok (.aload_n 0, 1) := by decide +kernel
theorem dX7_set_16 : decode cX7_set 16 = .ok (.getfield 19, 3) := by decide +kernel
theorem dX7_set_19 : decode cX7_set 19 = .ok (.getfield 120, 3) := by decide +kernel
theorem dX7_set_22 : decode cX7_set 22 = .ok (.iload_n 1, 1) := by decide +kernel
theorem dX7_set_23 : decode cX7_set 23 = .ok (.iaload, 1) := by decide +kernel
theorem dX7_set_24 : decode cX7_set 24 = .ok (.istore_n 3, 1) := by decide +kernel
theorem dX7_set_25 : decode cX7_set 25 = .ok (.aload_n 0, 1) := by decide +kernel
theorem dX7_set_26 : decode cX7_set 26 = .ok (.getfield 19, 3) := by decide +kernel
theorem dX7_set_29 : decode cX7_set 29 = .ok (.iload_n 1, 1) := by decide +kernel
theorem dX7_set_30 : decode cX7_set 30 = .ok (.iload_n 2, 1) := by decide +kernel
theorem dX7_set_31 : decode cX7_set 31 = .ok (.invokevirtual 124, 3) := by decide +kernel
theorem dX7_set_34 : decode cX7_set 34 = .ok (.iload_n 3, 1) := by decide +kernel
theorem dX7_set_35 : decode cX7_set 35 = .ok (.ireturn, 1) := by decide +kernel
theorem dX7_seed_0 : decode cX7_seed 0 = .ok (.iload_n 1, 1) := by decide +kernel
theorem dX7_seed_1 : decode cX7_seed 1 = .ok (.iconst 0, 1) := by decide +kernel
theorem dX7_seed_2 : decode cX7_seed 2 = .ok (.ldc 127, 2) := by decide +kernel
theorem dX7_seed_4 : decode cX7_seed 4 = .ok (.invokestatic 49, 3) := by decide +kernel
theorem dX7_seed_7 : decode cX7_seed 7 = .ok (.aload_n 0, 1) := by decide +kernel
theorem dX7_seed_8 : decode cX7_seed 8 = .ok (.getfield 19, 3) := by decide +kernel
theorem dX7_seed_11 : decode cX7_seed 11 = .ok (.iload_n 1, 1) := by decide +kernel
theorem dX7_seed_12 : decode cX7_seed 12 = .ok (.putfield 128, 3) := by decide +kernel
theorem dX7_seed_15 : decode cX7_seed 15 = .ok (.return_, 1) := by decide +kernel
theorem dX7_setFlag_0 : decode cX7_setFlag 0 = .ok (.iload_n 1, 1) := by decide +kernel
theorem dX7_setFlag_1 : decode cX7_setFlag 1 = .ok (.bipush 8, 2) := by decide +kernel
theorem dX7_setFlag_3 : decode cX7_setFlag 3 = .ok (.invokestatic 131, 3) := by decide +kernel
theorem dX7_setFlag_6 : decode cX7_setFlag 6 = .ok (.aload_n 0, 1) := by decide +kernel
theorem dX7_setFlag_7 : decode cX7_setFlag 7 = .ok (.getfield 19, 3) := by decide +kernel
theorem dX7_setFlag_10 : decode cX7_setFlag 10 = .ok (.iload_n 1, 1) := by decide +kernel
theorem dX7_setFlag_11 : decode cX7_setFlag 11 = .ok (.invokevirtual 134, 3) := by decide +kernel
theorem dX7_setFlag_14 : decode cX7_setFlag 14 = .ok (.istore_n 3, 1) := by decide +kernel
theorem dX7_setFlag_15 : decode cX7_setFlag 15 = .ok (.aload_n 0, 1) := by decide +kernel
theorem dX7_setFlag_16 : decode cX7_setFlag 16 = .ok (.getfield 19, 3) := by decide +kernel
theorem dX7_setFlag_19 : decode cX7_setFlag 19 = .ok (.iload_n 1, 1) := by decide +kernel
theorem dX7_setFlag_20 : decode cX7_setFlag 20 = .ok (.iload_n 2, 1) := by decide +kernel
theorem dX7_setFlag_21 : decode cX7_setFlag 21 = .ok (.invokevirtual 138, 3) := by decide +kernel
theorem dX7_setFlag_24 : decode cX7_setFlag 24 = .ok (.iload_n 3, 1) := by decide +kernel
theorem dX7_setFlag_25 : decode cX7_setFlag 25 = .ok (.ireturn, 1) := by decide +kernel
theorem dX7_count_0 : decode cX7_count 0 = .ok (.iload_n 1, 1) := by decide +kernel
theorem dX7_count_1 : decode cX7_count 1 = .ok (.iconst 0, 1) := by decide +kernel
theorem dX7_count_2 : decode cX7_count 2 = .ok (.bipush 17, 2) := by decide +kernel
theorem dX7_count_4 : decode cX7_count 4 = .ok (.invokestatic 49, 3) := by decide +kernel
theorem dX7_count_7 : decode cX7_count 7 = .ok (.aload_n 0, 1) := by decide +kernel
theorem dX7_count_8 : decode cX7_count 8 = .ok (.getfield 19, 3) := by decide +kernel
theorem dX7_count_11 : decode cX7_count 11 = .ok (.iload_n 1, 1) := by decide +kernel
theorem dX7_count_12 : decode cX7_count 12 = .ok (.invokevirtual 142, 3) := by decide +kernel
theorem dX7_count_15 : decode cX7_count 15 = .ok (.ireturn, 1) := by decide +kernel
theorem dX7_thread_0 : decode cX7_thread 0 = .ok (.aload_n 0, 1) := by decide +kernel
theorem dX7_thread_1 : decode cX7_thread 1 = .ok (.iload_n 1, 1) := by decide +kernel
theorem dX7_thread_2 : decode cX7_thread 2 = .ok (.invokevirtual 97, 3) := by decide +kernel
theorem dX7_thread_5 : decode cX7_thread 5 = .ok (.iload_n 2, 1) := by decide +kernel
theorem dX7_thread_6 : decode cX7_thread 6 = .ok (.iconst 0, 1) := by decide +kernel
theorem dX7_thread_7 : decode cX7_thread 7 = .ok (.bipush 18, 2) := by decide +kernel
theorem dX7_thread_9 : decode cX7_thread 9 = .ok (.invokestatic 49, 3) := by decide +kernel
theorem dX7_thread_12 : decode cX7_thread 12 = .ok (.iload_n 2, 1) := by decide +kernel
theorem dX7_thread_13 : decode cX7_thread 13 = .ok (.bipush 9, 2) := by decide +kernel
theorem dX7_thread_15 : decode cX7_thread 15 = .ok (.if_icmp .ne 15, 3) := by decide +kernel
theorem dX7_thread_18 : decode cX7_thread 18 = .ok (.aload_n 0, 1) := by decide +kernel
theorem dX7_thread_19 : decode cX7_thread 19 = .ok (.getfield 19, 3) := by decide +kernel
theorem dX7_thread_22 : decode cX7_thread 22 = .ok (.getfield 145, 3) := by decide +kernel
theorem dX7_thread_25 : decode cX7_thread 25 = .ok (.iload_n 1, 1) := by decide +kernel
theorem dX7_thread_26 : decode cX7_thread 26 = .ok (.invokevirtual 149, 3) := by decide +kernel
theorem dX7_thread_29 : decode cX7_thread 29 = .ok (.ireturn, 1) := by decide +kernel
theorem dX7_thread_30 : decode cX7_thread 30 = .ok (.aload_n 0, 1) := by decide +kernel
theorem dX7_thread_31 : decode cX7_thread 31 = .ok (.getfield 19, 3) := by decide +kernel
theorem dX7_thread_34 : decode cX7_thread 34 = .ok (.invokevirtual 154, 3) := by decide +kernel
theorem dX7_thread_37 : decode cX7_thread 37 = .ok (.aload_n 0, 1) := by decide +kernel
theorem dX7_thread_38 : decode cX7_thread 38 = .ok (.getfield 19, 3) := by decide +kernel
theorem dX7_thread_41 : decode cX7_thread 41 = .ok (.getfield 100, 3) := by decide +kernel
theorem dX7_thread_44 : decode cX7_thread 44 = .ok (.iload_n 1, 1) := by decide +kernel
theorem dX7_thread_45 : decode cX7_thread 45 = .ok (.aaload, 1) := by decide +kernel
theorem dX7_thread_46 : decode cX7_thread 46 = .ok (.iload_n 2, 1) := by decide +kernel
theorem dX7_thread_47 : decode cX7_thread 47 = .ok (.invokevirtual 157, 3) := by decide +kernel
theorem dX7_thread_50 : decode cX7_thread 50 = .ok (.ireturn, 1) := by decide +kernel
theorem dX7_lock_0 : decode cX7_lock 0 = .ok (.iload_n 1, 1) := by decide +kernel
theorem dX7_lock_1 : decode cX7_lock 1 = .ok (.bipush 6, 2) := by decide +kernel
theorem dX7_lock_3 : decode cX7_lock 3 = .ok (.invokestatic 131, 3) := by decide +kernel
theorem dX7_lock_6 : decode cX7_lock 6 = .ok (.iload_n 2, 1) := by decide +kernel
theorem dX7_lock_7 : decode cX7_lock 7 = .ok (.invokestatic 164, 3) := by decide +kernel
theorem dX7_lock_10 : decode cX7_lock 10 = .ok (.iload_n 2, 1) := by decide +kernel
theorem dX7_lock_11 : decode cX7_lock 11 = .ok (.ifCond .ne 18, 3) := by decide +kernel
theorem dX7_lock_14 : decode cX7_lock 14 = .ok (.aload_n 0, 1) := by decide +kernel
theorem dX7_lock_15 : decode cX7_lock 15 = .ok (.getfield 19, 3) := by decide +kernel
theorem dX7_lock_18 : decode cX7_lock 18 = .ok (.getfield 145, 3) := by decide +kernel
theorem dX7_lock_21 : decode cX7_lock 21 = .ok (.getfield 167, 3) := by decide +kernel
theorem dX7_lock_24 : decode cX7_lock 24 = .ok (.iload_n 1, 1) := by decide +kernel
