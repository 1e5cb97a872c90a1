theorem dX7_lock_25 : decode cX7_lock 25 = .ok (.iaload, 1) := by decide +kernel
theorem dX7_lock_26 : decode cX7_lock 26 = .ok (.goto 17, 3) := by decide +kernel
theorem dX7_lock_29 : decode cX7_lock 29 = .ok (.aload_n 0, 1) := by decide +kernel
theorem dX7_lock_30 : decode cX7_lock 30 = .ok (.getfield 19, 3) := by decide +kernel
theorem dX7_lock_33 : decode cX7_lock 33 = .ok (.getfield 145, 3) := by decide +kernel
theorem dX7_lock_36 : decode cX7_lock 36 = .ok (.iload_n 1, 1) := by decide +kernel
theorem dX7_lock_37 : decode cX7_lock 37 = .ok (.iload_n 2, 1) := by decide +kernel
theorem dX7_lock_38 : decode cX7_lock 38 = .ok (.iconst 1, 1) := by decide +kernel
theorem dX7_lock_39 : decode cX7_lock 39 = .ok (.isub, 1) := by decide +kernel
theorem dX7_lock_40 : decode cX7_lock 40 = .ok (.invokevirtual 170, 3) := by decide +kernel
theorem dX7_lock_43 : decode cX7_lock 43 = .ok (.ireturn, 1) := by decide +kernel
theorem dX7_flag_0 : decode cX7_flag 0 = .ok (.iload_n 1, 1) := by decide +kernel
theorem dX7_flag_1 : decode cX7_flag 1 = .ok (.bipush 8, 2) := by decide +kernel
theorem dX7_flag_3 : decode cX7_flag 3 = .ok (.invokestatic 131, 3) := by decide +kernel
theorem dX7_flag_6 : decode cX7_flag 6 = .ok (.aload_n 0, 1) := by decide +kernel
theorem dX7_flag_7 : decode cX7_flag 7 = .ok (.getfield 19, 3) := by decide +kernel
theorem dX7_flag_10 : decode cX7_flag 10 = .ok (.iload_n 1, 1) := by decide +kernel
theorem dX7_flag_11 : decode cX7_flag 11 = .ok (.invokevirtual 134, 3) := by decide +kernel
theorem dX7_flag_14 : decode cX7_flag 14 = .ok (.ireturn, 1) := by decide +kernel
theorem dX7_event_0 : decode cX7_event 0 = .ok (.iload_n 1, 1) := by decide +kernel
theorem dX7_event_1 : decode cX7_event 1 = .ok (.aload_n 0, 1) := by decide +kernel
theorem dX7_event_2 : decode cX7_event 2 = .ok (.getfield 19, 3) := by decide +kernel
theorem dX7_event_5 : decode cX7_event 5 = .ok (.getfield 174, 3) := by decide +kernel
theorem dX7_event_8 : decode cX7_event 8 = .ok (.getfield 178, 3) := by decide +kernel
theorem dX7_event_11 : decode cX7_event 11 = .ok (.invokestatic 131, 3) := by decide +kernel
theorem dX7_event_14 : decode cX7_event 14 = .ok (.iload_n 2, 1) := by decide +kernel
theorem dX7_event_15 : decode cX7_event 15 = .ok (.iconst 0, 1) := by decide +kernel
theorem dX7_event_16 : decode cX7_event 16 = .ok (.iconst 3, 1) := by decide +kernel
theorem dX7_event_17 : decode cX7_event 17 = .ok (.invokestatic 49, 3) := by decide +kernel
theorem dX7_event_20 : decode cX7_event 20 = .ok (.aload_n 0, 1) := by decide +kernel
theorem dX7_event_21 : decode cX7_event 21 = .ok (.getfield 19, 3) := by decide +kernel
theorem dX7_event_24 : decode cX7_event 24 = .ok (.getfield 174, 3) := by decide +kernel
theorem dX7_event_27 : decode cX7_event 27 = .ok (.iload_n 1, 1) := by decide +kernel
theorem dX7_event_28 : decode cX7_event 28 = .ok (.iload_n 2, 1) := by decide +kernel
theorem dX7_event_29 : decode cX7_event 29 = .ok (.invokevirtual 183, 3) := by decide +kernel
theorem dX7_event_32 : decode cX7_event 32 = .ok (.ireturn, 1) := by decide +kernel
theorem dX7_events_0 : decode cX7_events 0 = .ok (.iload_n 2, 1) := by decide +kernel
theorem dX7_events_1 : decode cX7_events 1 = .ok (.iconst (-1), 1) := by decide +kernel
theorem dX7_events_2 : decode cX7_events 2 = .ok (.if_icmp .eq 8, 3) := by decide +kernel
theorem dX7_events_5 : decode cX7_events 5 = .ok (.aload_n 0, 1) := by decide +kernel
theorem dX7_events_6 : decode cX7_events 6 = .ok (.iload_n 2, 1) := by decide +kernel
theorem dX7_events_7 : decode cX7_events 7 = .ok (.invokevirtual 97, 3) := by decide +kernel
theorem dX7_events_10 : decode cX7_events 10 = .ok (.iload_n 1, 1) := by decide +kernel
theorem dX7_events_11 : decode cX7_events 11 = .ok (.iconst 0, 1) := by decide +kernel
theorem dX7_events_12 : decode cX7_events 12 = .ok (.bipush 9, 2) := by decide +kernel
theorem dX7_events_14 : decode cX7_events 14 = .ok (.invokestatic 49, 3) := by decide +kernel
theorem dX7_events_17 : decode cX7_events 17 = .ok (.aload_n 0, 1) := by decide +kernel
theorem dX7_events_18 : decode cX7_events 18 = .ok (.getfield 19, 3) := by decide +kernel
theorem dX7_events_21 : decode cX7_events 21 = .ok (.getfield 174, 3) := by decide +kernel
theorem dX7_events_24 : decode cX7_events 24 = .ok (.iload_n 1, 1) := by decide +kernel
theorem dX7_events_25 : decode cX7_events 25 = .ok (.iload_n 2, 1) := by decide +kernel
theorem dX7_events_26 : decode cX7_events 26 = .ok (.invokevirtual 186, 3) := by decide +kernel
theorem dX7_events_29 : decode cX7_events 29 = .ok (.ireturn, 1) := by decide +kernel
theorem dX7_wake_0 : decode cX7_wake 0 = .ok (.aload_n 0, 1) := by decide +kernel
theorem dX7_wake_1 : decode cX7_wake 1 = .ok (.iload_n 1, 1) := by decide +kernel
theorem dX7_wake_2 : decode cX7_wake 2 = .ok (.invokevirtual 97, 3) := by decide +kernel
theorem dX7_wake_5 : decode cX7_wake 5 = .ok (.aload_n 0, 1) := by decide +kernel
theorem dX7_wake_6 : decode cX7_wake 6 = .ok (.getfield 19, 3) := by decide +kernel
theorem dX7_wake_9 : decode cX7_wake 9 = .ok (.iload_n 1, 1) := by decide +kernel
theorem dX7_wake_10 : decode cX7_wake 10 = .ok (.iconst (-1), 1) := by decide +kernel
theorem dX7_wake_11 : decode cX7_wake 11 = .ok (.invokevirtual 189, 3) := by decide +kernel
theorem dX7_wake_14 : decode cX7_wake 14 = .ok (.istore_n 2, 1) := by decide +kernel
theorem dX7_wake_15 : decode cX7_wake 15 = .ok (.aload_n 0, 1) := by decide +kernel
theorem dX7_wake_16 : decode cX7_wake 16 = .ok (.getfield 19, 3) := by decide +kernel
theorem dX7_wake_19 : decode cX7_wake 19 = .ok (.invokevirtual 192, 3) := by decide +kernel
theorem dX7_wake_22 : decode cX7_wake 22 = .ok (.iload_n 2, 1) := by decide +kernel
theorem dX7_wake_23 : decode cX7_wake 23 = .ok (.ireturn, 1) := by decide +kernel
theorem dX7_interrupt_0 : decode cX7_interrupt 0 = .ok (.aload_n 0, 1) := by decide +kernel
theorem dX7_interrupt_1 : decode cX7_interrupt 1 = .ok (.iload_n 1, 1) := by decide +kernel
theorem dX7_interrupt_2 : decode cX7_interrupt 2 = .ok (.invokevirtual 97, 3) := by decide +kernel
theorem dX7_interrupt_5 : decode cX7_interrupt 5 = .ok (.aload_n 0, 1) := by decide +kernel
theorem dX7_interrupt_6 : decode cX7_interrupt 6 = .ok (.getfield 19, 3) := by decide +kernel
theorem dX7_interrupt_9 : decode cX7_interrupt 9 = .ok (.iload_n 1, 1) := by decide +kernel
theorem dX7_interrupt_10 : decode cX7_interrupt 10 = .ok (.invokevirtual 195, 3) := by decide +kernel
theorem dX7_interrupt_13 : decode cX7_interrupt 13 = .ok (.istore_n 2, 1) := by decide +kernel
theorem dX7_interrupt_14 : decode cX7_interrupt 14 = .ok (.aload_n 0, 1) := by decide +kernel
theorem dX7_interrupt_15 : decode cX7_interrupt 15 = .ok (.getfield 19, 3) := by decide +kernel
theorem dX7_interrupt_18 : decode cX7_interrupt 18 = .ok (.invokevirtual 192, 3) := by decide +kernel
theorem dX7_interrupt_21 : decode cX7_interrupt 21 = .ok (.iload_n 2, 1) := by decide +kernel
theorem dX7_interrupt_22 : decode cX7_interrupt 22 = .ok (.ireturn, 1) := by decide +kernel
theorem dX7_rouse_0 : decode cX7_rouse 0 = .ok (.aload_n 0, 1) := by decide +kernel
theorem dX7_rouse_1 : decode cX7_rouse 1 = .ok (.iload_n 1, 1) := by decide +kernel
theorem dX7_rouse_2 : decode cX7_rouse 2 = .ok (.invokevirtual 97, 3) := by decide +kernel
theorem dX7_rouse_5 : decode cX7_rouse 5 = .ok (.aload_n 0, 1) := by decide +kernel
theorem dX7_rouse_6 : decode cX7_rouse 6 = .ok (.getfield 19, 3) := by decide +kernel
theorem dX7_rouse_9 : decode cX7_rouse 9 = .ok (.getfield 100, 3) := by decide +kernel
theorem dX7_rouse_12 : decode cX7_rouse 12 = .ok (.iload_n 1, 1) := by decide +kernel
theorem dX7_rouse_13 : decode cX7_rouse 13 = .ok (.aaload, 1) := by decide +kernel
theorem dX7_rouse_14 : decode cX7_rouse 14 = .ok (.getfield 198, 3) := by decide +kernel
theorem dX7_rouse_17 : decode cX7_rouse 17 = .ok (.iconst 1, 1) := by decide +kernel
theorem dX7_rouse_18 : decode cX7_rouse 18 = .ok (.if_icmp .eq 5, 3) := by decide +kernel
theorem dX7_rouse_21 : decode cX7_rouse 21 = .ok (.iconst 0, 1) := by decide +kernel
theorem dX7_rouse_22 : decode cX7_rouse 22 = .ok (.ireturn, 1) := by decide +kernel
theorem dX7_rouse_23 : decode cX7_rouse 23 = .ok (.aload_n 0, 1) := by decide +kernel
theorem dX7_rouse_24 : decode cX7_rouse 24 = .ok (.getfield 19, 3) := by decide +kernel
theorem dX7_rouse_27 : decode cX7_rouse 27 = .ok (.iload_n 1, 1) := by decide +kernel
theorem dX7_rouse_28 : decode cX7_rouse 28 = .ok (.iconst 3, 1) := by decide +kernel
theorem dX7_rouse_29 : decode cX7_rouse 29 = .ok (.invokevirtual 201, 3) := by decide +kernel
theorem dX7_rouse_32 : decode cX7_rouse 32 = .ok (.aload_n 0, 1) := by decide +kernel
theorem dX7_rouse_33 : decode cX7_rouse 33 = .ok (.getfield 19, 3) := by decide +kernel
theorem dX7_rouse_36 : decode cX7_rouse 36 = .ok (.invokevirtual 192, 3) := by decide +kernel
theorem dX7_rouse_39 : decode cX7_rouse 39 = .ok (.iconst 1, 1) := by decide +kernel
theorem dX7_rouse_40 : decode cX7_rouse 40 = .ok (.ireturn, 1) := by decide +kernel
theorem dX7_run_0 : decode cX7_run 0 = .ok (.iload_n 1, 1) := by decide +kernel
theorem dX7_run_1 : decode cX7_run 1 = .ok (.iconst 1, 1) := by decide +kernel
theorem dX7_run_2 : decode cX7_run 2 = .ok (.sipush 500, 3) := by decide +kernel
theorem dX7_run_5 : decode cX7_run 5 = .ok (.invokestatic 49, 3) := by decide +kernel
theorem dX7_run_8 : decode cX7_run 8 = .ok (.aload_n 0, 1) := by decide +kernel
theorem dX7_run_9 : decode cX7_run 9 = .ok (.getfield 19, 3) := by decide +kernel
theorem dX7_run_12 : decode cX7_run 12 = .ok (.iconst 3, 1) := by decide +kernel
theorem dX7_run_13 : decode cX7_run 13 = .ok (.invokevirtual 204, 3) := by decide +kernel
theorem dX7_run_16 : decode cX7_run 16 = .ok (.istore_n 2, 1) := by decide +kernel
theorem dX7_run_17 : decode cX7_run 17 = .ok (.iconst 0, 1) := by decide +kernel
theorem dX7_run_18 : decode cX7_run 18 = .ok (.istore_n 3, 1) := by decide +kernel
theorem dX7_run_19 : decode cX7_run 19 = .ok (.iload_n 3, 1) := by decide +kernel
theorem dX7_run_20 : decode cX7_run 20 = .ok (.iload_n 1, 1) := by decide +kernel
theorem dX7_run_21 : decode cX7_run 21 = .ok (.if_icmp .ge 17, 3) := by decide +kernel
theorem dX7_run_24 : decode cX7_run 24 = .ok (.aload_n 0, 1) := by decide +kernel
theorem dX7_run_25 : decode cX7_run 25 = .ok (.getfield 19, 3) := by decide +kernel
theorem dX7_run_28 : decode cX7_run 28 = .ok (.invokevirtual 207, 3) := by decide +kernel
theorem dX7_run_31 : decode cX7_run 31 = .ok (.pop, 1) := by decide +kernel
theorem dX7_run_32 : decode cX7_run 32 = .ok (.iinc 3 1, 3) := by decide +kernel
theorem dX7_run_35 : decode cX7_run 35 = .ok (.goto (-16), 3) := by decide +kernel
theorem dX7_run_38 : decode cX7_run 38 = .ok (.aload_n 0, 1) := by decide +kernel
theorem dX7_run_39 : decode cX7_run 39 = .ok (.getfield 19, 3) := by decide +kernel
theorem dX7_run_42 : decode cX7_run 42 = .ok (.iconst 3, 1) := by decide +kernel
theorem dX7_run_43 : decode cX7_run 43 = .ok (.invokevirtual 204, 3) := by decide +kernel
theorem dX7_run_46 : decode cX7_run 46 = .ok (.iload_n 2, 1) := by decide +kernel
theorem dX7_run_47 : decode cX7_run 47 = .ok (.isub, 1) := by decide +kernel
theorem dX7_run_48 : decode cX7_run 48 = .ok (.ireturn, 1) := by decide +kernel
theorem dX7_next_0 : decode cX7_next 0 = .ok (.aload_n 0, 1) := by decide +kernel
theorem dX7_next_1 : decode cX7_next 1 = .ok (.getfield 23, 3) := by decide +kernel
theorem dX7_next_4 : decode cX7_next 4 = .ok (.aload_n 0, 1) := by decide +kernel
theorem dX7_next_5 : decode cX7_next 5 = .ok (.getfield 19, 3) := by decide +kernel
theorem dX7_next_8 : decode cX7_next 8 = .ok (.invokevirtual 70, 3) := by decide +kernel
theorem dX7_next_11 : decode cX7_next 11 = .ok (.aload_n 0, 1) := by decide +kernel
theorem dX7_next_12 : decode cX7_next 12 = .ok (.getfield 23, 3) := by decide +kernel
theorem dX7_next_15 : decode cX7_next 15 = .ok (.invokevirtual 207, 3) := by decide +kernel
theorem dX7_next_18 : decode cX7_next 18 = .ok (.ireturn, 1) := by decide +kernel
theorem dX7_chain_0 : decode cX7_chain 0 = .ok (.aload_n 0, 1) := by decide +kernel
theorem dX7_chain_1 : decode cX7_chain 1 = .ok (.iload_n 1, 1) := by decide +kernel
theorem dX7_chain_2 : decode cX7_chain 2 = .ok (.invokevirtual 97, 3) := by decide +kernel
theorem dX7_chain_5 : decode cX7_chain 5 = .ok (.iload_n 2, 1) := by decide +kernel
theorem dX7_chain_6 : decode cX7_chain 6 = .ok (.invokestatic 164, 3) := by decide +kernel
theorem dX7_chain_9 : decode cX7_chain 9 = .ok (.aload_n 0, 1) := by decide +kernel
theorem dX7_chain_10 : decode cX7_chain 10 = .ok (.getfield 19, 3) := by decide +kernel
theorem dX7_chain_13 : decode cX7_chain 13 = .ok (.iload_n 1, 1) := by decide +kernel
theorem dX7_chain_14 : decode cX7_chain 14 = .ok (.iload_n 2, 1) := by decide +kernel
theorem dX7_chain_15 : decode cX7_chain 15 = .ok (.invokevirtual 211, 3) := by decide +kernel
theorem dX7_chain_18 : decode cX7_chain 18 = .ok (.ireturn, 1) := by decide +kernel
theorem dX7_stuck_0 : decode cX7_stuck 0 = .ok (.iconst 0, 1) := by decide +kernel
theorem dX7_stuck_1 : decode cX7_stuck 1 = .ok (.istore_n 1, 1) := by decide +kernel
theorem dX7_stuck_2 : decode cX7_stuck 2 = .ok (.iconst 0, 1) := by decide +kernel
theorem dX7_stuck_3 : decode cX7_stuck 3 = .ok (.istore_n 2, 1) := by decide +kernel
theorem dX7_stuck_4 : decode cX7_stuck 4 = .ok (.iload_n 2, 1) := by decide +kernel
theorem dX7_stuck_5 : decode cX7_stuck 5 = .ok (.aload_n 0, 1) := by decide +kernel
theorem dX7_stuck_6 : decode cX7_stuck 6 = .ok (.getfield 19, 3) := by decide +kernel
theorem dX7_stuck_9 : decode cX7_stuck 9 = .ok (.getfield 73, 3) := by decide +kernel
theorem dX7_stuck_12 : decode cX7_stuck 12 = .ok (.if_icmp .ge 26, 3) := by decide +kernel
theorem dX7_stuck_15 : decode cX7_stuck 15 = .ok (.aload_n 0, 1) := by decide +kernel
theorem dX7_stuck_16 : decode cX7_stuck 16 = .ok (.getfield 19, 3) := by decide +kernel
theorem dX7_stuck_19 : decode cX7_stuck 19 = .ok (.iload_n 2, 1) := by decide +kernel
theorem dX7_stuck_20 : decode cX7_stuck 20 = .ok (.invokevirtual 214, 3) := by decide +kernel
theorem dX7_stuck_23 : decode cX7_stuck 23 = .ok (.ifCond .eq 9, 3) := by decide +kernel
theorem dX7_stuck_26 : decode cX7_stuck 26 = .ok (.iload_n 1, 1) := by decide +kernel
theorem dX7_stuck_27 : decode cX7_stuck 27 = .ok (.iconst 1, 1) := by decide +kernel
theorem dX7_stuck_28 : decode cX7_stuck 28 = .ok (.iload_n 2, 1) := by decide +kernel
theorem dX7_stuck_29 : decode cX7_stuck 29 = .ok (.ishl, 1) := by decide +kernel
theorem dX7_stuck_30 : decode cX7_stuck 30 = .ok (.ior, 1) := by decide +kernel
theorem dX7_stuck_31 : decode cX7_stuck 31 = .ok (.istore_n 1, 1) := by decide +kernel
theorem dX7_stuck_32 : decode cX7_stuck 32 = .ok (.iinc 2 1, 3) := by decide +kernel
theorem dX7_stuck_35 : decode cX7_stuck 35 = .ok (.goto (-31), 3) := by decide +kernel
theorem dX7_stuck_38 : decode cX7_stuck 38 = .ok (.iload_n 1, 1) := by decide +kernel
theorem dX7_stuck_39 : decode cX7_stuck 39 = .ok (.ireturn, 1) := by decide +kernel
theorem dX7_lent_0 : decode cX7_lent 0 = .ok (.aload_n 0, 1) := by decide +kernel
theorem dX7_lent_1 : decode cX7_lent 1 = .ok (.iload_n 1, 1) := by decide +kernel
theorem dX7_lent_2 : decode cX7_lent 2 = .ok (.invokevirtual 97, 3) := by decide +kernel
theorem dX7_lent_5 : decode cX7_lent 5 = .ok (.aload_n 0, 1) := by decide +kernel
theorem dX7_lent_6 : decode cX7_lent 6 = .ok (.getfield 19, 3) := by decide +kernel
theorem dX7_lent_9 : decode cX7_lent 9 = .ok (.invokevirtual 154, 3) := by decide +kernel
theorem dX7_lent_12 : decode cX7_lent 12 = .ok (.aload_n 0, 1) := by decide +kernel
theorem dX7_lent_13 : decode cX7_lent 13 = .ok (.getfield 19, 3) := by decide +kernel
theorem dX7_lent_16 : decode cX7_lent 16 = .ok (.getfield 100, 3) := by decide +kernel
theorem dX7_lent_19 : decode cX7_lent 19 = .ok (.iload_n 1, 1) := by decide +kernel
theorem dX7_lent_20 : decode cX7_lent 20 = .ok (.aaload, 1) := by decide +kernel
theorem dX7_lent_21 : decode cX7_lent 21 = .ok (.astore_n 2, 1) := by decide +kernel
theorem dX7_lent_22 : decode cX7_lent 22 = .ok (.aload_n 2, 1) := by decide +kernel
theorem dX7_lent_23 : decode cX7_lent 23 = .ok (.getfield 217, 3) := by decide +kernel
theorem dX7_lent_26 : decode cX7_lent 26 = .ok (.i2f, 1) := by decide +kernel
theorem dX7_lent_27 : decode cX7_lent 27 = .ok (.aload_n 2, 1) := by decide +kernel
theorem dX7_lent_28 : decode cX7_lent 28 = .ok (.getfield 110, 3) := by decide +kernel
theorem dX7_lent_31 : decode cX7_lent 31 = .ok (.i2f, 1) := by decide +kernel
theorem dX7_lent_32 : decode cX7_lent 32 = .ok (.fdiv, 1) := by decide +kernel
theorem dX7_lent_33 : decode cX7_lent 33 = .ok (.freturn, 1) := by decide +kernel
theorem dX7_doneIn_0 : decode cX7_doneIn 0 = .ok (.aload_n 0, 1) := by decide +kernel
theorem dX7_doneIn_1 : decode cX7_doneIn 1 = .ok (.iload_n 1, 1) := by decide +kernel
theorem dX7_doneIn_2 : decode cX7_doneIn 2 = .ok (.invokevirtual 97, 3) := by decide +kernel
theorem dX7_doneIn_5 : decode cX7_doneIn 5 = .ok (.iload_n 2, 1) := by decide +kernel
theorem dX7_doneIn_6 : decode cX7_doneIn 6 = .ok (.iconst 1, 1) := by decide +kernel
theorem dX7_doneIn_7 : decode cX7_doneIn 7 = .ok (.sipush 500, 3) := by decide +kernel
theorem dX7_doneIn_10 : decode cX7_doneIn 10 = .ok (.invokestatic 49, 3) := by decide +kernel
theorem dX7_doneIn_13 : decode cX7_doneIn 13 = .ok (.aload_n 0, 1) := by decide +kernel
theorem dX7_doneIn_14 : decode cX7_doneIn 14 = .ok (.getfield 23, 3) := by decide +kernel
theorem dX7_doneIn_17 : decode cX7_doneIn 17 = .ok (.aload_n 0, 1) := by decide +kernel
theorem dX7_doneIn_18 : decode cX7_doneIn 18 = .ok (.getfield 19, 3) := by decide +kernel
theorem dX7_doneIn_21 : decode cX7_doneIn 21 = .ok (.invokevirtual 70, 3) := by decide +kernel
theorem dX7_doneIn_24 : decode cX7_doneIn 24 = .ok (.aload_n 0, 1) := by decide +kernel
theorem dX7_doneIn_25 : decode cX7_doneIn 25 = .ok (.getfield 23, 3) := by decide +kernel
theorem dX7_doneIn_28 : decode cX7_doneIn 28 = .ok (.getfield 100, 3) := by decide +kernel
theorem dX7_doneIn_31 : decode cX7_doneIn 31 = .ok (.iload_n 1, 1) := by decide +kernel
theorem dX7_doneIn_32 : decode cX7_doneIn 32 = .ok (.aaload, 1) := by decide +kernel
theorem dX7_doneIn_33 : decode cX7_doneIn 33 = .ok (.astore_n 3, 1) := by decide +kernel
theorem dX7_doneIn_34 : decode cX7_doneIn 34 = .ok (.iconst 0, 1) := by decide +kernel
theorem dX7_doneIn_35 : decode cX7_doneIn 35 = .ok (.istore 4, 2) := by decide +kernel
theorem dX7_doneIn_37 : decode cX7_doneIn 37 = .ok (.iload 4, 2) := by decide +kernel
theorem dX7_doneIn_39 : decode cX7_doneIn 39 = .ok (.iload_n 2, 1) := by decide +kernel
theorem dX7_doneIn_40 : decode cX7_doneIn 40 = .ok (.if_icmp .gt 28, 3) := by decide +kernel
theorem dX7_doneIn_43 : decode cX7_doneIn 43 = .ok (.aload_n 3, 1) := by decide +kernel
theorem dX7_doneIn_44 : decode cX7_doneIn 44 = .ok (.getfield 198, 3) := by decide +kernel
theorem dX7_doneIn_47 : decode cX7_doneIn 47 = .ok (.iconst 3, 1) := by decide +kernel
theorem dX7_doneIn_48 : decode cX7_doneIn 48 = .ok (.if_icmp .ne 6, 3) := by decide +kernel
theorem dX7_doneIn_51 : decode cX7_doneIn 51 = .ok (.iload 4, 2) := by decide +kernel
theorem dX7_doneIn_53 : decode cX7_doneIn 53 = .ok (.ireturn, 1) := by decide +kernel
theorem dX7_doneIn_54 : decode cX7_doneIn 54 = .ok (.aload_n 0, 1) := by decide +kernel
theorem dX7_doneIn_55 : decode cX7_doneIn 55 = .ok (.getfield 23, 3) := by decide +kernel
theorem dX7_doneIn_58 : decode cX7_doneIn 58 = .ok (.invokevirtual 207, 3) := by decide +kernel
theorem dX7_doneIn_61 : decode cX7_doneIn 61 = .ok (.pop, 1) := by decide +kernel
theorem dX7_doneIn_62 : decode cX7_doneIn 62 = .ok (.iinc 4 1, 3) := by decide +kernel
theorem dX7_doneIn_65 : decode cX7_doneIn 65 = .ok (.goto (-28), 3) := by decide +kernel
theorem dX7_doneIn_68 : decode cX7_doneIn 68 = .ok (.iconst (-1), 1) := by decide +kernel
theorem dX7_doneIn_69 : decode cX7_doneIn 69 = .ok (.ireturn, 1) := by decide +kernel
theorem dX7_returnsIn_0 : decode cX7_returnsIn 0 = .ok (.aload_n 0, 1) := by decide +kernel
theorem dX7_returnsIn_1 : decode cX7_returnsIn 1 = .ok (.iload_n 1, 1) := by decide +kernel
theorem dX7_returnsIn_2 : decode cX7_returnsIn 2 = .ok (.invokevirtual 97, 3) := by decide +kernel
theorem dX7_returnsIn_5 : decode cX7_returnsIn 5 = .ok (.iload_n 2, 1) := by decide +kernel
theorem dX7_returnsIn_6 : decode cX7_returnsIn 6 = .ok (.iconst 1, 1) := by decide +kernel
theorem dX7_returnsIn_7 : decode cX7_returnsIn 7 = .ok (.sipush 500, 3) := by decide +kernel
theorem dX7_returnsIn_10 : decode cX7_returnsIn 10 = .ok (.invokestatic 49, 3) := by decide +kernel
theorem dX7_returnsIn_13 : decode cX7_returnsIn 13 = .ok (.aload_n 0, 1) := by decide +kernel
theorem dX7_returnsIn_14 : decode cX7_returnsIn 14 = .ok (.getfield 23, 3) := by decide +kernel
theorem dX7_returnsIn_17 : decode cX7_returnsIn 17 = .ok (.aload_n 0, 1) := by decide +kernel
theorem dX7_returnsIn_18 : decode cX7_returnsIn 18 = .ok (.getfield 19, 3) := by decide +kernel
theorem dX7_returnsIn_21 : decode cX7_returnsIn 21 = .ok (.invokevirtual 70, 3) := by decide +kernel
theorem dX7_returnsIn_24 : decode cX7_returnsIn 24 = .ok (.aload_n 0, 1) := by decide +kernel
theorem dX7_returnsIn_25 : decode cX7_returnsIn 25 = .ok (.getfield 23, 3) := by decide +kernel
theorem dX7_returnsIn_28 : decode cX7_returnsIn 28 = .ok (.getfield 100, 3) := by decide +kernel
theorem dX7_returnsIn_31 : decode cX7_returnsIn 31 = .ok (.iload_n 1, 1) := by decide +kernel
theorem dX7_returnsIn_32 : decode cX7_returnsIn 32 = .ok (.aaload, 1) := by decide +kernel
theorem dX7_returnsIn_33 : decode cX7_returnsIn 33 = .ok (.astore_n 3, 1) := by decide +kernel
theorem dX7_returnsIn_34 : decode cX7_returnsIn 34 = .ok (.aload_n 3, 1) := by decide +kernel
theorem dX7_returnsIn_35 : decode cX7_returnsIn 35 = .ok (.invokevirtual 226, 3) := by decide +kernel
theorem dX7_returnsIn_38 : decode cX7_returnsIn 38 = .ok (.istore 4, 2) := by decide +kernel
theorem dX7_returnsIn_40 : decode cX7_returnsIn 40 = .ok (.iconst 1, 1) := by decide +kernel
theorem dX7_returnsIn_41 : decode cX7_returnsIn 41 = .ok (.istore 5, 2) := by decide +kernel
theorem dX7_returnsIn_43 : decode cX7_returnsIn 43 = .ok (.iload 5, 2) := by decide +kernel
theorem dX7_returnsIn_45 : decode cX7_returnsIn 45 = .ok (.iload_n 2, 1) := by decide +kernel
theorem dX7_returnsIn_46 : decode cX7_returnsIn 46 = .ok (.if_icmp .gt 29, 3) := by decide +kernel
theorem dX7_returnsIn_49 : decode cX7_returnsIn 49 = .ok (.aload_n 0, 1) := by decide +kernel
theorem dX7_returnsIn_50 : decode cX7_returnsIn 50 = .ok (.getfield 23, 3) := by decide +kernel
theorem dX7_returnsIn_53 : decode cX7_returnsIn 53 = .ok (.invokevirtual 207, 3) := by decide +kernel
theorem dX7_returnsIn_56 : decode cX7_returnsIn 56 = .ok (.pop, 1) := by decide +kernel
theorem dX7_returnsIn_57 : decode cX7_returnsIn 57 = .ok (.aload_n 3, 1) := by decide +kernel
theorem dX7_returnsIn_58 : decode cX7_returnsIn 58 = .ok (.invokevirtual 226, 3) := by decide +kernel
theorem dX7_returnsIn_61 : decode cX7_returnsIn 61 = .ok (.iload 4, 2) := by decide +kernel
theorem dX7_returnsIn_63 : decode cX7_returnsIn 63 = .ok (.if_icmp .eq 6, 3) := by decide +kernel
theorem dX7_returnsIn_66 : decode cX7_returnsIn 66 = .ok (.iload 5, 2) := by decide +kernel
theorem dX7_returnsIn_68 : decode cX7_returnsIn 68 = .ok (.ireturn, 1) := by decide +kernel
theorem dX7_returnsIn_69 : decode cX7_returnsIn 69 = .ok (.iinc 5 1, 3) := by decide +kernel
theorem dX7_returnsIn_72 : decode cX7_returnsIn 72 = .ok (.goto (-29), 3) := by decide +kernel
theorem dX7_returnsIn_75 : decode cX7_returnsIn 75 = .ok (.iconst (-1), 1) := by decide +kernel
theorem dX7_returnsIn_76 : decode cX7_returnsIn 76 = .ok (.ireturn, 1) := by decide +kernel
theorem dX7_ahead_0 : decode cX7_ahead 0 = .ok (.iload_n 1, 1) := by decide +kernel
theorem dX7_ahead_1 : decode cX7_ahead 1 = .ok (.iconst 1, 1) := by decide +kernel
theorem dX7_ahead_2 : decode cX7_ahead 2 = .ok (.sipush 500, 3) := by decide +kernel
theorem dX7_ahead_5 : decode cX7_ahead 5 = .ok (.invokestatic 49, 3) := by decide +kernel
theorem dX7_ahead_8 : decode cX7_ahead 8 = .ok (.iload_n 2, 1) := by decide +kernel
theorem dX7_ahead_9 : decode cX7_ahead 9 = .ok (.iconst 0, 1) := by decide +kernel
theorem dX7_ahead_10 : decode cX7_ahead 10 = .ok (.iconst 3, 1) := by decide +kernel
theorem dX7_ahead_11 : decode cX7_ahead 11 = .ok (.invokestatic 49, 3) := by decide +kernel
theorem dX7_ahead_14 : decode cX7_ahead 14 = .ok (.aload_n 0, 1) := by decide +kernel
theorem dX7_ahead_15 : decode cX7_ahead 15 = .ok (.getfield 23, 3) := by decide +kernel
theorem dX7_ahead_18 : decode cX7_ahead 18 = .ok (.aload_n 0, 1) := by decide +kernel
theorem dX7_ahead_19 : decode cX7_ahead 19 = .ok (.getfield 19, 3) := by decide +kernel
theorem dX7_ahead_22 : decode cX7_ahead 22 = .ok (.invokevirtual 70, 3) := by decide +kernel
theorem dX7_ahead_25 : decode cX7_ahead 25 = .ok (.iconst 0, 1) := by decide +kernel
theorem dX7_ahead_26 : decode cX7_ahead 26 = .ok (.istore_n 3, 1) := by decide +kernel
theorem dX7_ahead_27 : decode cX7_ahead 27 = .ok (.iload_n 3, 1) := by decide +kernel
theorem dX7_ahead_28 : decode cX7_ahead 28 = .ok (.iload_n 1, 1) := by decide +kernel
theorem dX7_ahead_29 : decode cX7_ahead 29 = .ok (.if_icmp .ge 17, 3) := by decide +kernel
theorem dX7_ahead_32 : decode cX7_ahead 32 = .ok (.aload_n 0, 1) := by decide +kernel
theorem dX7_ahead_33 : decode cX7_ahead 33 = .ok (.getfield 23, 3) := by decide +kernel
theorem dX7_ahead_36 : decode cX7_ahead 36 = .ok (.invokevirtual 207, 3) := by decide +kernel
theorem dX7_ahead_39 : decode cX7_ahead 39 = .ok (.pop, 1) := by decide +kernel
theorem dX7_ahead_40 : decode cX7_ahead 40 = .ok (.iinc 3 1, 3) := by decide +kernel
theorem dX7_ahead_43 : decode cX7_ahead 43 = .ok (.goto (-16), 3) := by decide +kernel
theorem dX7_ahead_46 : decode cX7_ahead 46 = .ok (.iload_n 2, 1) := by decide +kernel
theorem dX7_ahead_47 : decode cX7_ahead 47 = .ok (.tableswitch 66 0 2 #[25, 34, 50], 25) := by decide +kernel
theorem dX7_ahead_72 : decode cX7_ahead 72 = .ok (.aload_n 0, 1) := by decide +kernel
theorem dX7_ahead_73 : decode cX7_ahead 73 = .ok (.getfield 23, 3) := by decide +kernel
theorem dX7_ahead_76 : decode cX7_ahead 76 = .ok (.iconst 3, 1) := by decide +kernel
theorem dX7_ahead_77 : decode cX7_ahead 77 = .ok (.invokevirtual 204, 3) := by decide +kernel
theorem dX7_ahead_80 : decode cX7_ahead 80 = .ok (.ireturn, 1) := by decide +kernel
theorem dX7_ahead_81 : decode cX7_ahead 81 = .ok (.aload_n 0, 1) := by decide +kernel
theorem dX7_ahead_82 : decode cX7_ahead 82 = .ok (.getfield 23, 3) := by decide +kernel
theorem dX7_ahead_85 : decode cX7_ahead 85 = .ok (.getfield 223, 3) := by decide +kernel
theorem dX7_ahead_88 : decode cX7_ahead 88 = .ok (.aload_n 0, 1) := by decide +kernel
theorem dX7_ahead_89 : decode cX7_ahead 89 = .ok (.getfield 19, 3) := by decide +kernel
theorem dX7_ahead_92 : decode cX7_ahead 92 = .ok (.getfield 223, 3) := by decide +kernel
theorem dX7_ahead_95 : decode cX7_ahead 95 = .ok (.isub, 1) := by decide +kernel
theorem dX7_ahead_96 : decode cX7_ahead 96 = .ok (.ireturn, 1) := by decide +kernel
theorem dX7_ahead_97 : decode cX7_ahead 97 = .ok (.aload_n 0, 1) := by decide +kernel
theorem dX7_ahead_98 : decode cX7_ahead 98 = .ok (.getfield 23, 3) := by decide +kernel
theorem dX7_ahead_101 : decode cX7_ahead 101 = .ok (.invokevirtual 229, 3) := by decide +kernel
theorem dX7_ahead_104 : decode cX7_ahead 104 = .ok (.aload_n 0, 1) := by decide +kernel
theorem dX7_ahead_105 : decode cX7_ahead 105 = .ok (.getfield 19, 3) := by decide +kernel
theorem dX7_ahead_108 : decode cX7_ahead 108 = .ok (.invokevirtual 229, 3) := by decide +kernel
theorem dX7_ahead_111 : decode cX7_ahead 111 = .ok (.isub, 1) := by decide +kernel
theorem dX7_ahead_112 : decode cX7_ahead 112 = .ok (.ireturn, 1) := by decide +kernel
theorem dX7_ahead_113 : decode cX7_ahead 113 = .ok (.aload_n 0, 1) := by decide +kernel
theorem dX7_ahead_114 : decode cX7_ahead 114 = .ok (.getfield 23, 3) := by decide +kernel
theorem dX7_ahead_117 : decode cX7_ahead 117 = .ok (.getfield 174, 3) := by decide +kernel
theorem dX7_ahead_120 : decode cX7_ahead 120 = .ok (.getfield 230, 3) := by decide +kernel
theorem dX7_ahead_123 : decode cX7_ahead 123 = .ok (.aload_n 0, 1) := by decide +kernel
theorem dX7_ahead_124 : decode cX7_ahead 124 = .ok (.getfield 19, 3) := by decide +kernel
theorem dX7_ahead_127 : decode cX7_ahead 127 = .ok (.getfield 174, 3) := by decide +kernel
theorem dX7_ahead_130 : decode cX7_ahead 130 = .ok (.getfield 230, 3) := by decide +kernel
theorem dX7_ahead_133 : decode cX7_ahead 133 = .ok (.isub, 1) := by decide +kernel
theorem dX7_ahead_134 : decode cX7_ahead 134 = .ok (.ireturn, 1) := by decide +kernel
theorem dX7_bestBase_0 : decode cX7_bestBase 0 = .ok (.aload_n 0, 1) := by decide +kernel
theorem dX7_bestBase_1 : decode cX7_bestBase 1 = .ok (.iload_n 1, 1) := by decide +kernel
theorem dX7_bestBase_2 : decode cX7_bestBase 2 = .ok (.invokevirtual 97, 3) := by decide +kernel
theorem dX7_bestBase_5 : decode cX7_bestBase 5 = .ok (.iload_n 2, 1) := by decide +kernel
theorem dX7_bestBase_6 : decode cX7_bestBase 6 = .ok (.iconst 1, 1) := by decide +kernel
theorem dX7_bestBase_7 : decode cX7_bestBase 7 = .ok (.sipush 200, 3) := by decide +kernel
theorem dX7_bestBase_10 : decode cX7_bestBase 10 = .ok (.invokestatic 49, 3) := by decide +kernel
theorem dX7_bestBase_13 : decode cX7_bestBase 13 = .ok (.aload_n 0, 1) := by decide +kernel
theorem dX7_bestBase_14 : decode cX7_bestBase 14 = .ok (.getfield 23, 3) := by decide +kernel
theorem dX7_bestBase_17 : decode cX7_bestBase 17 = .ok (.getfield 100, 3) := by decide +kernel
theorem dX7_bestBase_20 : decode cX7_bestBase 20 = .ok (.iload_n 1, 1) := by decide +kernel
theorem dX7_bestBase_21 : decode cX7_bestBase 21 = .ok (.aaload, 1) := by decide +kernel
theorem dX7_bestBase_22 : decode cX7_bestBase 22 = .ok (.astore_n 3, 1) := by decide +kernel
theorem dX7_bestBase_23 : decode cX7_bestBase 23 = .ok (.iconst (-1), 1) := by decide +kernel
theorem dX7_bestBase_24 : decode cX7_bestBase 24 = .ok (.istore 4, 2) := by decide +kernel
theorem dX7_bestBase_26 : decode cX7_bestBase 26 = .ok (.iload_n 2, 1) := by decide +kernel
theorem dX7_bestBase_27 : decode cX7_bestBase 27 = .ok (.iconst 1, 1) := by decide +kernel
theorem dX7_bestBase_28 : decode cX7_bestBase 28 = .ok (.iadd, 1) := by decide +kernel
theorem dX7_bestBase_29 : decode cX7_bestBase 29 = .ok (.istore 5, 2) := by decide +kernel
theorem dX7_bestBase_31 : decode cX7_bestBase 31 = .ok (.iconst 1, 1) := by decide +kernel
theorem dX7_bestBase_32 : decode cX7_bestBase 32 = .ok (.istore 6, 2) := by decide +kernel
theorem dX7_bestBase_34 : decode cX7_bestBase 34 = .ok (.iload 6, 2) := by decide +kernel
theorem dX7_bestBase_36 : decode cX7_bestBase 36 = .ok (.bipush 9, 2) := by decide +kernel
theorem dX7_bestBase_38 : decode cX7_bestBase 38 = .ok (.if_icmp .gt 77, 3) := by decide +kernel
theorem dX7_bestBase_41 : decode cX7_bestBase 41 = .ok (.aload_n 0, 1) := by decide +kernel
theorem dX7_bestBase_42 : decode cX7_bestBase 42 = .ok (.getfield 23, 3) := by decide +kernel
theorem dX7_bestBase_45 : decode cX7_bestBase 45 = .ok (.aload_n 0, 1) := by decide +kernel
theorem dX7_bestBase_46 : decode cX7_bestBase 46 = .ok (.getfield 19, 3) := by decide +kernel
theorem dX7_bestBase_49 : decode cX7_bestBase 49 = .ok (.invokevirtual 70, 3) := by decide +kernel
theorem dX7_bestBase_52 : decode cX7_bestBase 52 = .ok (.aload_n 0, 1) := by decide +kernel
theorem dX7_bestBase_53 : decode cX7_bestBase 53 = .ok (.getfield 23, 3) := by decide +kernel
theorem dX7_bestBase_56 : decode cX7_bestBase 56 = .ok (.iload_n 1, 1) := by decide +kernel
theorem dX7_bestBase_57 : decode cX7_bestBase 57 = .ok (.iload 6, 2) := by decide +kernel
theorem dX7_bestBase_59 : decode cX7_bestBase 59 = .ok (.invokevirtual 113, 3) := by decide +kernel
theorem dX7_bestBase_62 : decode cX7_bestBase 62 = .ok (.iconst 0, 1) := by decide +kernel
theorem dX7_bestBase_63 : decode cX7_bestBase 63 = .ok (.istore 7, 2) := by decide +kernel
theorem dX7_bestBase_65 : decode cX7_bestBase 65 = .ok (.iload 7, 2) := by decide +kernel
theorem dX7_bestBase_67 : decode cX7_bestBase 67 = .ok (.iload 5, 2) := by decide +kernel
theorem dX7_bestBase_69 : decode cX7_bestBase 69 = .ok (.if_icmp .ge 25, 3) := by decide +kernel
theorem dX7_bestBase_72 : decode cX7_bestBase 72 = .ok (.aload_n 3, 1) := by decide +kernel
theorem dX7_bestBase_73 : decode cX7_bestBase 73 = .ok (.getfield 198, 3) := by decide +kernel
theorem dX7_bestBase_76 : decode cX7_bestBase 76 = .ok (.iconst 3, 1) := by decide +kernel
theorem dX7_bestBase_77 : decode cX7_bestBase 77 = .ok (.if_icmp .eq 17, 3) := by decide +kernel
theorem dX7_bestBase_80 : decode cX7_bestBase 80 = .ok (.aload_n 0, 1) := by decide +kernel
theorem dX7_bestBase_81 : decode cX7_bestBase 81 = .ok (.getfield 23, 3) := by decide +kernel
theorem dX7_bestBase_84 : decode cX7_bestBase 84 = .ok (.invokevirtual 207, 3) := by decide +kernel
theorem dX7_bestBase_87 : decode cX7_bestBase 87 = .ok (.pop, 1) := by decide +kernel
theorem dX7_bestBase_88 : decode cX7_bestBase 88 = .ok (.iinc 7 1, 3) := by decide +kernel
theorem dX7_bestBase_91 : decode cX7_bestBase 91 = .ok (.goto (-26), 3) := by decide +kernel
theorem dX7_bestBase_94 : decode cX7_bestBase 94 = .ok (.iload 7, 2) := by decide +kernel
theorem dX7_bestBase_96 : decode cX7_bestBase 96 = .ok (.iload 5, 2) := by decide +kernel
theorem dX7_bestBase_98 : decode cX7_bestBase 98 = .ok (.if_icmp .ge 11, 3) := by decide +kernel
theorem dX7_bestBase_101 : decode cX7_bestBase 101 = .ok (.iload 7, 2) := by decide +kernel
theorem dX7_bestBase_103 : decode cX7_bestBase 103 = .ok (.istore 5, 2) := by decide +kernel
theorem dX7_bestBase_105 : decode cX7_bestBase 105 = .ok (.iload 6, 2) := by decide +kernel
theorem dX7_bestBase_107 : decode cX7_bestBase 107 = .ok (.istore 4, 2) := by decide +kernel
theorem dX7_bestBase_109 : decode cX7_bestBase 109 = .ok (.iinc 6 1, 3) := by decide +kernel
theorem dX7_bestBase_112 : decode cX7_bestBase 112 = .ok (.goto (-78), 3) := by decide +kernel
theorem dX7_bestBase_115 : decode cX7_bestBase 115 = .ok (.iload 4, 2) := by decide +kernel
theorem dX7_bestBase_117 : decode cX7_bestBase 117 = .ok (.ireturn, 1) := by decide +kernel
theorem dX7_save_0 : decode cX7_save 0 = .ok (.iload_n 1, 1) := by decide +kernel
theorem dX7_save_1 : decode cX7_save 1 = .ok (.iconst 0, 1) := by decide +kernel
theorem dX7_save_2 : decode cX7_save 2 = .ok (.iconst 1, 1) := by decide +kernel
theorem dX7_save_3 : decode cX7_save 3 = .ok (.invokestatic 49, 3) := by decide +kernel
theorem dX7_save_6 : decode cX7_save 6 = .ok (.aload_n 0, 1) := by decide +kernel
theorem dX7_save_7 : decode cX7_save 7 = .ok (.getfield 26, 3) := by decide +kernel
theorem dX7_save_10 : decode cX7_save 10 = .ok (.iload_n 1, 1) := by decide +kernel
theorem dX7_save_11 : decode cX7_save 11 = .ok (.aaload, 1) := by decide +kernel
theorem dX7_save_12 : decode cX7_save 12 = .ok (.aload_n 0, 1) := by decide +kernel
theorem dX7_save_13 : decode cX7_save 13 = .ok (.getfield 19, 3) := by decide +kernel
theorem dX7_save_16 : decode cX7_save 16 = .ok (.invokevirtual 70, 3) := by decide +kernel
theorem dX7_save_19 : decode cX7_save 19 = .ok (.aload_n 0, 1) := by decide +kernel
theorem dX7_save_20 : decode cX7_save 20 = .ok (.getfield 30, 3) := by decide +kernel
theorem dX7_save_23 : decode cX7_save 23 = .ok (.iload_n 1, 1) := by decide +kernel
theorem dX7_save_24 : decode cX7_save 24 = .ok (.iconst 1, 1) := by decide +kernel
theorem dX7_save_25 : decode cX7_save 25 = .ok (.bastore, 1) := by decide +kernel
theorem dX7_save_26 : decode cX7_save 26 = .ok (.return_, 1) := by decide +kernel
theorem dX7_restore_0 : decode cX7_restore 0 = .ok (.iload_n 1, 1) := by decide +kernel
theorem dX7_restore_1 : decode cX7_restore 1 = .ok (.iconst 0, 1) := by decide +kernel
theorem dX7_restore_2 : decode cX7_restore 2 = .ok (.iconst 1, 1) := by decide +kernel
theorem dX7_restore_3 : decode cX7_restore 3 = .ok (.invokestatic 49, 3) := by decide +kernel
theorem dX7_restore_6 : decode cX7_restore 6 = .ok (.aload_n 0, 1) := by decide +kernel
theorem dX7_restore_7 : decode cX7_restore 7 = .ok (.getfield 30, 3) := by decide +kernel
theorem dX7_restore_10 : decode cX7_restore 10 = .ok (.iload_n 1, 1) := by decide +kernel
theorem dX7_restore_11 : decode cX7_restore 11 = .ok (.baload, 1) := by decide +kernel
theorem dX7_restore_12 : decode cX7_restore 12 = .ok (.ifCond .ne 13, 3) := by decide +kernel
theorem dX7_restore_15 : decode cX7_restore 15 = .ok (.new 38, 3) := by decide +kernel
theorem dX7_restore_18 : decode cX7_restore 18 = .ok (.dup, 1) := by decide +kernel
theorem dX7_restore_19 : decode cX7_restore 19 = .ok (.ldc 233, 2) := by decide +kernel
theorem dX7_restore_21 : decode cX7_restore 21 = .ok (.invokespecial 42, 3) := by decide +kernel
theorem dX7_restore_24 : decode cX7_restore 24 = .ok (.athrow, 1) := by decide +kernel
theorem dX7_restore_25 : decode cX7_restore 25 = .ok (.aload_n 0, 1) := by decide +kernel
theorem dX7_restore_26 : decode cX7_restore 26 = .ok (.getfield 19, 3) := by decide +kernel
theorem dX7_restore_29 : decode cX7_restore 29 = .ok (.aload_n 0, 1) := by decide +kernel
theorem dX7_restore_30 : decode cX7_restore 30 = .ok (.getfield 26, 3) := by decide +kernel
theorem dX7_restore_33 : decode cX7_restore 33 = .ok (.iload_n 1, 1) := by decide +kernel
theorem dX7_restore_34 : decode cX7_restore 34 = .ok (.aaload, 1) := by decide +kernel
theorem dX7_restore_35 : decode cX7_restore 35 = .ok (.invokevirtual 70, 3) := by decide +kernel
theorem dX7_restore_38 : decode cX7_restore 38 = .ok (.return_, 1) := by decide +kernel
theorem dX7_needThread_0 : decode cX7_needThread 0 = .ok (.iload_n 1, 1) := by decide +kernel
theorem dX7_needThread_1 : decode cX7_needThread 1 = .ok (.aload_n 0, 1) := by decide +kernel
theorem dX7_needThread_2 : decode cX7_needThread 2 = .ok (.getfield 19, 3) := by decide +kernel
theorem dX7_needThread_5 : decode cX7_needThread 5 = .ok (.getfield 73, 3) := by decide +kernel
theorem dX7_needThread_8 : decode cX7_needThread 8 = .ok (.invokestatic 131, 3) := by decide +kernel
theorem dX7_needThread_11 : decode cX7_needThread 11 = .ok (.return_, 1) := by decide +kernel
theorem dX7_needIndex_0 : decode cX7_needIndex 0 = .ok (.iload_n 0, 1) := by decide +kernel
theorem dX7_needIndex_1 : decode cX7_needIndex 1 = .ok (.ifCond .lt 8, 3) := by decide +kernel
theorem dX7_needIndex_4 : decode cX7_needIndex 4 = .ok (.iload_n 0, 1) := by decide +kernel
theorem dX7_needIndex_5 : decode cX7_needIndex 5 = .ok (.iload_n 1, 1) := by decide +kernel
theorem dX7_needIndex_6 : decode cX7_needIndex 6 = .ok (.if_icmp .lt 13, 3) := by decide +kernel
theorem dX7_needIndex_9 : decode cX7_needIndex 9 = .ok (.new 235, 3) := by decide +kernel
theorem dX7_needIndex_12 : decode cX7_needIndex 12 = .ok (.dup, 1) := by decide +kernel
theorem dX7_needIndex_13 : decode cX7_needIndex 13 = .ok (.ldc 237, 2) := by decide +kernel
theorem dX7_needIndex_15 : decode cX7_needIndex 15 = .ok (.invokespecial 239, 3) := by decide +kernel
theorem dX7_needIndex_18 : decode cX7_needIndex 18 = .ok (.athrow, 1) := by decide +kernel
theorem dX7_needIndex_19 : decode cX7_needIndex 19 = .ok (.return_, 1) := by decide +kernel
theorem dX7_needNotNegative_0 : decode cX7_needNotNegative 0 = .ok (.iload_n 0, 1) := by decide +kernel
theorem dX7_needNotNegative_1 : decode cX7_needNotNegative 1 = .ok (.ifCond .ge 13, 3) := by decide +kernel
theorem dX7_needNotNegative_4 : decode cX7_needNotNegative 4 = .ok (.new 235, 3) := by decide +kernel
theorem dX7_needNotNegative_7 : decode cX7_needNotNegative 7 = .ok (.dup, 1) := by decide +kernel
theorem dX7_needNotNegative_8 : decode cX7_needNotNegative 8 = .ok (.ldc 240, 2) := by decide +kernel
theorem dX7_needNotNegative_10 : decode cX7_needNotNegative 10 = .ok (.invokespecial 239, 3) := by decide +kernel
theorem dX7_needNotNegative_13 : decode cX7_needNotNegative 13 = .ok (.athrow, 1) := by decide +kernel
theorem dX7_needNotNegative_14 : decode cX7_needNotNegative 14 = .ok (.return_, 1) := by decide +kernel
theorem dX7_needInRange_0 : decode cX7_needInRange 0 = .ok (.iload_n 0, 1) := by decide +kernel
theorem dX7_needInRange_1 : decode cX7_needInRange 1 = .ok (.iload_n 1, 1) := by decide +kernel
theorem dX7_needInRange_2 : decode cX7_needInRange 2 = .ok (.if_icmp .lt 8, 3) := by decide +kernel
theorem dX7_needInRange_5 : decode cX7_needInRange 5 = .ok (.iload_n 0, 1) := by decide +kernel
theorem dX7_needInRange_6 : decode cX7_needInRange 6 = .ok (.iload_n 2, 1) := by decide +kernel
theorem dX7_needInRange_7 : decode cX7_needInRange 7 = .ok (.if_icmp .le 13, 3) := by decide +kernel
theorem dX7_needInRange_10 : decode cX7_needInRange 10 = .ok (.new 242, 3) := by decide +kernel
theorem dX7_needInRange_13 : decode cX7_needInRange 13 = .ok (.dup, 1) := by decide +kernel
theorem dX7_needInRange_14 : decode cX7_needInRange 14 = .ok (.ldc 244, 2) := by decide +kernel
theorem dX7_needInRange_16 : decode cX7_needInRange 16 = .ok (.invokespecial 246, 3) := by decide +kernel
theorem dX7_needInRange_19 : decode cX7_needInRange 19 = .ok (.athrow, 1) := by decide +kernel
theorem dX7_needInRange_20 : decode cX7_needInRange 20 = .ok (.return_, 1) := by decide +kernel
theorem dX7_needInstruction_0 : decode cX7_needInstruction 0 = .ok (.iload_n 0, 1) := by decide +kernel
theorem dX7_needInstruction_1 : decode cX7_needInstruction 1 = .ok (.iconst 0, 1) := by decide +kernel
theorem dX7_needInstruction_2 : decode cX7_needInstruction 2 = .ok (.getstatic 247, 3) := by decide +kernel
theorem dX7_needInstruction_5 : decode cX7_needInstruction 5 = .ok (.arraylength, 1) := by decide +kernel
theorem dX7_needInstruction_6 : decode cX7_needInstruction 6 = .ok (.iconst 1, 1) := by decide +kernel
theorem dX7_needInstruction_7 : decode cX7_needInstruction 7 = .ok (.isub, 1) := by decide +kernel
theorem dX7_needInstruction_8 : decode cX7_needInstruction 8 = .ok (.invokestatic 49, 3) := by decide +kernel
theorem dX7_needInstruction_11 : decode cX7_needInstruction 11 = .ok (.iload_n 1, 1) := by decide +kernel
theorem dX7_needInstruction_12 : decode cX7_needInstruction 12 = .ok (.getstatic 247, 3) := by decide +kernel
theorem dX7_needInstruction_15 : decode cX7_needInstruction 15 = .ok (.iload_n 0, 1) := by decide +kernel
theorem dX7_needInstruction_16 : decode cX7_needInstruction 16 = .ok (.aaload, 1) := by decide +kernel
theorem dX7_needInstruction_17 : decode cX7_needInstruction 17 = .ok (.getfield 251, 3) := by decide +kernel
theorem dX7_needInstruction_20 : decode cX7_needInstruction 20 = .ok (.getstatic 247, 3) := by decide +kernel
theorem dX7_needInstruction_23 : decode cX7_needInstruction 23 = .ok (.iload_n 0, 1) := by decide +kernel
theorem dX7_needInstruction_24 : decode cX7_needInstruction 24 = .ok (.aaload, 1) := by decide +kernel
theorem dX7_needInstruction_25 : decode cX7_needInstruction 25 = .ok (.getfield 256, 3) := by decide +kernel
theorem dX7_needInstruction_28 : decode cX7_needInstruction 28 = .ok (.invokestatic 49, 3) := by decide +kernel
theorem dX7_needInstruction_31 : decode cX7_needInstruction 31 = .ok (.return_, 1) := by decide +kernel
theorem dX7_settingMost_0 : decode cX7_settingMost 0 = .ok (.iload_n 0, 1) := by decide +kernel
theorem dX7_settingMost_1 : decode cX7_settingMost 1 = .ok (.ifCond .ne 9, 3) := by decide +kernel
theorem dX7_settingMost_4 : decode cX7_settingMost 4 = .ok (.sipush 1000, 3) := by decide +kernel
theorem dX7_settingMost_7 : decode cX7_settingMost 7 = .ok (.goto 4, 3) := by decide +kernel
theorem dX7_settingMost_10 : decode cX7_settingMost 10 = .ok (.iconst 1, 1) := by decide +kernel
theorem dX7_settingMost_11 : decode cX7_settingMost 11 = .ok (.ireturn, 1) := by decide +kernel
theorem dJx29ce0_ordinal_8abf5_0 : decode cJx29ce0_ordinal_8abf5 0 = .ok (.aload_n 0, 1) := by decide +kernel
theorem dJx29ce0_ordinal_8abf5_1 : decode cJx29ce0_ordinal_8abf5 1 = .ok (.getfield 7, 3) := by decide +kernel
theorem dJx29ce0_ordinal_8abf5_4 : decode cJx29ce0_ordinal_8abf5 4 = .ok (.ireturn, 1) := by decide +kernel
theorem dJ9_max_7cf53_0 : decode cJ9_max_7cf53 0 = .ok (.iload_n 0, 1) := by decide +kernel
theorem dJ9_max_7cf53_1 : decode cJ9_max_7cf53 1 = .ok (.iload_n 1, 1) := by decide +kernel
theorem dJ9_max_7cf53_2 : decode cJ9_max_7cf53 2 = .ok (.if_icmp .lt 7, 3) := by decide +kernel
theorem dJ9_max_7cf53_5 : decode cJ9_max_7cf53 5 = .ok (.iload_n 0, 1) := by decide +kernel
theorem dJ9_max_7cf53_6 : decode cJ9_max_7cf53 6 = .ok (.goto 4, 3) := by decide +kernel
theorem dJ9_max_7cf53_9 : decode cJ9_max_7cf53 9 = .ok (.iload_n 1, 1) := by decide +kernel
theorem dJ9_max_7cf53_10 : decode cJ9_max_7cf53 10 = .ok (.ireturn, 1) := by decide +kernel
theorem dL_init_0 : decode cL_init 0 = .ok (.aload_n 0, 1) := by decide +kernel
theorem dL_init_1 : decode cL_init 1 = .ok (.invokespecial 1, 3) := by decide +kernel
theorem dL_init_4 : decode cL_init 4 = .ok (.aload_n 0, 1) := by decide +kernel
theorem dL_init_5 : decode cL_init 5 = .ok (.new 7, 3) := by decide +kernel
theorem dL_init_8 : decode cL_init 8 = .ok (.dup, 1) := by decide +kernel
theorem dL_init_9 : decode cL_init 9 = .ok (.invokespecial 9, 3) := by decide +kernel
theorem dL_init_12 : decode cL_init 12 = .ok (.putfield 10, 3) := by decide +kernel
theorem dL_init_15 : decode cL_init 15 = .ok (.return_, 1) := by decide +kernel
theorem dL_at_0 : decode cL_at 0 = .ok (.iload_n 1, 1) := by decide +kernel
theorem dL_at_1 : decode cL_at 1 = .ok (.aload_n 0, 1) := by decide +kernel
theorem dL_at_2 : decode cL_at 2 = .ok (.arraylength, 1) := by decide +kernel
theorem dL_at_3 : decode cL_at 3 = .ok (.if_icmp .ge 9, 3) := by decide +kernel
theorem dL_at_6 : decode cL_at 6 = .ok (.aload_n 0, 1) := by decide +kernel
theorem dL_at_7 : decode cL_at 7 = .ok (.iload_n 1, 1) := by decide +kernel
theorem dL_at_8 : decode cL_at 8 = .ok (.iaload, 1) := by decide +kernel
theorem dL_at_9 : decode cL_at 9 = .ok (.goto 4, 3) := by decide +kernel
theorem dL_at_12 : decode cL_at 12 = .ok (.iconst 0, 1) := by decide +kernel
theorem dL_at_13 : decode cL_at 13 = .ok (.istore_n 2, 1) := by decide +kernel
theorem dL_at_14 : decode cL_at 14 = .ok (.iload_n 2, 1) := by decide +kernel
theorem dL_at_15 : decode cL_at 15 = .ok (.ifCond .le 22, 3) := by decide +kernel
theorem dL_at_18 : decode cL_at 18 = .ok (.iload_n 2, 1) := by decide +kernel
theorem dL_at_19 : decode cL_at 19 = .ok (.sipush 512, 3) := by decide +kernel
theorem dL_at_22 : decode cL_at 22 = .ok (.if_icmp .ge 15, 3) := by decide +kernel
theorem dL_at_25 : decode cL_at 25 = .ok (.iload_n 2, 1) := by decide +kernel
theorem dL_at_26 : decode cL_at 26 = .ok (.ldc 16, 2) := by decide +kernel
theorem dL_at_28 : decode cL_at 28 = .ok (.imul, 1) := by decide +kernel
theorem dL_at_29 : decode cL_at 29 = .ok (.iload_n 1, 1) := by decide +kernel
theorem dL_at_30 : decode cL_at 30 = .ok (.ldc 17, 2) := by decide +kernel
theorem dL_at_32 : decode cL_at 32 = .ok (.imul, 1) := by decide +kernel
theorem dL_at_33 : decode cL_at 33 = .ok (.ixor, 1) := by decide +kernel
theorem dL_at_34 : decode cL_at 34 = .ok (.goto 4, 3) := by decide +kernel
theorem dL_at_37 : decode cL_at 37 = .ok (.iload_n 2, 1) := by decide +kernel
theorem dL_at_38 : decode cL_at 38 = .ok (.ireturn, 1) := by decide +kernel
theorem dL_draw_0 : decode cL_draw 0 = .ok (.aload_n 0, 1) := by decide +kernel
theorem dL_draw_1 : decode cL_draw 1 = .ok (.getfield 18, 3) := by decide +kernel
theorem dL_draw_4 : decode cL_draw 4 = .ok (.aload_n 0, 1) := by decide +kernel
theorem dL_draw_5 : decode cL_draw 5 = .ok (.getfield 22, 3) := by decide +kernel
theorem dL_draw_8 : decode cL_draw 8 = .ok (.iconst 1, 1) := by decide +kernel
theorem dL_draw_9 : decode cL_draw 9 = .ok (.aload_n 0, 1) := by decide +kernel
theorem dL_draw_10 : decode cL_draw 10 = .ok (.getfield 18, 3) := by decide +kernel
theorem dL_draw_13 : decode cL_draw 13 = .ok (.arraylength, 1) := by decide +kernel
theorem dL_draw_14 : decode cL_draw 14 = .ok (.invokestatic 26, 3) := by decide +kernel
theorem dL_draw_17 : decode cL_draw 17 = .ok (.irem, 1) := by decide +kernel
theorem dL_draw_18 : decode cL_draw 18 = .ok (.invokestatic 32, 3) := by decide +kernel
theorem dL_draw_21 : decode cL_draw 21 = .ok (.aload_n 0, 1) := by decide +kernel
theorem dL_draw_22 : decode cL_draw 22 = .ok (.getfield 22, 3) := by decide +kernel
theorem dL_draw_25 : decode cL_draw 25 = .ok (.ldc 36, 2) := by decide +kernel
theorem dL_draw_27 : decode cL_draw 27 = .ok (.imul, 1) := by decide +kernel
theorem dL_draw_28 : decode cL_draw 28 = .ok (.iadd, 1) := by decide +kernel
theorem dL_draw_29 : decode cL_draw 29 = .ok (.istore_n 2, 1) := by decide +kernel
theorem dL_draw_30 : decode cL_draw 30 = .ok (.aload_n 0, 1) := by decide +kernel
theorem dL_draw_31 : decode cL_draw 31 = .ok (.dup, 1) := by decide +kernel
theorem dL_draw_32 : decode cL_draw 32 = .ok (.getfield 22, 3) := by decide +kernel
theorem dL_draw_35 : decode cL_draw 35 = .ok (.iconst 1, 1) := by decide +kernel
theorem dL_draw_36 : decode cL_draw 36 = .ok (.iadd, 1) := by decide +kernel
theorem dL_draw_37 : decode cL_draw 37 = .ok (.putfield 22, 3) := by decide +kernel
theorem dL_draw_40 : decode cL_draw 40 = .ok (.iload_n 2, 1) := by decide +kernel
theorem dL_draw_41 : decode cL_draw 41 = .ok (.iload_n 2, 1) := by decide +kernel
theorem dL_draw_42 : decode cL_draw 42 = .ok (.bipush 15, 2) := by decide +kernel
theorem dL_draw_44 : decode cL_draw 44 = .ok (.iushr, 1) := by decide +kernel
theorem dL_draw_45 : decode cL_draw 45 = .ok (.ixor, 1) := by decide +kernel
theorem dL_draw_46 : decode cL_draw 46 = .ok (.istore_n 2, 1) := by decide +kernel
theorem dL_draw_47 : decode cL_draw 47 = .ok (.iload_n 2, 1) := by decide +kernel
theorem dL_draw_48 : decode cL_draw 48 = .ok (.ldc 37, 2) := by decide +kernel
theorem dL_draw_50 : decode cL_draw 50 = .ok (.imul, 1) := by decide +kernel
theorem dL_draw_51 : decode cL_draw 51 = .ok (.istore_n 2, 1) := by decide +kernel
theorem dL_draw_52 : decode cL_draw 52 = .ok (.iload_n 2, 1) := by decide +kernel
theorem dL_draw_53 : decode cL_draw 53 = .ok (.iload_n 2, 1) := by decide +kernel
theorem dL_draw_54 : decode cL_draw 54 = .ok (.bipush 13, 2) := by decide +kernel
theorem dL_draw_56 : decode cL_draw 56 = .ok (.iushr, 1) := by decide +kernel
theorem dL_draw_57 : decode cL_draw 57 = .ok (.ixor, 1) := by decide +kernel
theorem dL_draw_58 : decode cL_draw 58 = .ok (.istore_n 2, 1) := by decide +kernel
theorem dL_draw_59 : decode cL_draw 59 = .ok (.iload_n 2, 1) := by decide +kernel
theorem dL_draw_60 : decode cL_draw 60 = .ok (.ldc 38, 2) := by decide +kernel
theorem dL_draw_62 : decode cL_draw 62 = .ok (.iand, 1) := by decide +kernel
theorem dL_draw_63 : decode cL_draw 63 = .ok (.iload_n 1, 1) := by decide +kernel
theorem dL_draw_64 : decode cL_draw 64 = .ok (.irem, 1) := by decide +kernel
theorem dL_draw_65 : decode cL_draw 65 = .ok (.ireturn, 1) := by decide +kernel
theorem dL_addThread_0 : decode cL_addThread 0 = .ok (.aload_n 0, 1) := by decide +kernel
theorem dL_addThread_1 : decode cL_addThread 1 = .ok (.iload_n 1, 1) := by decide +kernel
theorem dL_addThread_2 : decode cL_addThread 2 = .ok (.iload_n 2, 1) := by decide +kernel
theorem dL_addThread_3 : decode cL_addThread 3 = .ok (.iload_n 3, 1) := by decide +kernel
theorem dL_addThread_4 : decode cL_addThread 4 = .ok (.invokevirtual 39, 3) := by decide +kernel
theorem dL_addThread_7 : decode cL_addThread 7 = .ok (.ireturn, 1) := by decide +kernel
theorem dL_addThread_8 : decode cL_addThread 8 = .ok (.astore 4, 2) := by decide +kernel
theorem dL_addThread_10 : decode cL_addThread 10 = .ok (.bipush (-102), 2) := by decide +kernel
theorem dL_addThread_12 : decode cL_addThread 12 = .ok (.ireturn, 1) := by decide +kernel
theorem dL_addThread_13 : decode cL_addThread 13 = .ok (.astore 4, 2) := by decide +kernel
theorem dL_addThread_15 : decode cL_addThread 15 = .ok (.bipush (-103), 2) := by decide +kernel
theorem dL_addThread_17 : decode cL_addThread 17 = .ok (.ireturn, 1) := by decide +kernel
theorem dL_addInstruction_0 : decode cL_addInstruction 0 = .ok (.aload_n 0, 1) := by decide +kernel
theorem dL_addInstruction_1 : decode cL_addInstruction 1 = .ok (.iload_n 1, 1) := by decide +kernel
theorem dL_addInstruction_2 : decode cL_addInstruction 2 = .ok (.iload_n 2, 1) := by decide +kernel
theorem dL_addInstruction_3 : decode cL_addInstruction 3 = .ok (.iload_n 3, 1) := by decide +kernel
theorem dL_addInstruction_4 : decode cL_addInstruction 4 = .ok (.invokevirtual 47, 3) := by decide +kernel
theorem dL_addInstruction_7 : decode cL_addInstruction 7 = .ok (.ireturn, 1) := by decide +kernel
theorem dL_addInstruction_8 : decode cL_addInstruction 8 = .ok (.astore 4, 2) := by decide +kernel
theorem dL_addInstruction_10 : decode cL_addInstruction 10 = .ok (.bipush (-101), 2) := by decide +kernel
theorem dL_addInstruction_12 : decode cL_addInstruction 12 = .ok (.ireturn, 1) := by decide +kernel
theorem dL_addInstruction_13 : decode cL_addInstruction 13 = .ok (.astore 4, 2) := by decide +kernel
theorem dL_addInstruction_15 : decode cL_addInstruction 15 = .ok (.bipush (-102), 2) := by decide +kernel
theorem dL_addInstruction_17 : decode cL_addInstruction 17 = .ok (.ireturn, 1) := by decide +kernel
theorem dL_addInstruction_18 : decode cL_addInstruction 18 = .ok (.astore 4, 2) := by decide +kernel
theorem dL_addInstruction_20 : decode cL_addInstruction 20 = .ok (.bipush (-103), 2) := by decide +kernel
theorem dL_addInstruction_22 : decode cL_addInstruction 22 = .ok (.ireturn, 1) := by decide +kernel
theorem dL_setBase_0 : decode cL_setBase 0 = .ok (.aload_n 0, 1) := by decide +kernel
theorem dL_setBase_1 : decode cL_setBase 1 = .ok (.iload_n 1, 1) := by decide +kernel
theorem dL_setBase_2 : decode cL_setBase 2 = .ok (.iload_n 2, 1) := by decide +kernel
theorem dL_setBase_3 : decode cL_setBase 3 = .ok (.invokevirtual 52, 3) := by decide +kernel
theorem dL_setBase_6 : decode cL_setBase 6 = .ok (.ireturn, 1) := by decide +kernel
theorem dL_setBase_7 : decode cL_setBase 7 = .ok (.astore_n 3, 1) := by decide +kernel
theorem dL_setBase_8 : decode cL_setBase 8 = .ok (.bipush (-101), 2) := by decide +kernel
theorem dL_setBase_10 : decode cL_setBase 10 = .ok (.ireturn, 1) := by decide +kernel
theorem dL_setBase_11 : decode cL_setBase 11 = .ok (.astore_n 3, 1) := by decide +kernel
theorem dL_setBase_12 : decode cL_setBase 12 = .ok (.bipush (-102), 2) := by decide +kernel
theorem dL_setBase_14 : decode cL_setBase 14 = .ok (.ireturn, 1) := by decide +kernel
theorem dL_set_0 : decode cL_set 0 = .ok (.aload_n 0, 1) := by decide +kernel
theorem dL_set_1 : decode cL_set 1 = .ok (.iload_n 1, 1) := by decide +kernel
theorem dL_set_2 : decode cL_set 2 = .ok (.iload_n 2, 1) := by decide +kernel
theorem dL_set_3 : decode cL_set 3 = .ok (.invokevirtual 55, 3) := by decide +kernel
theorem dL_set_6 : decode cL_set 6 = .ok (.ireturn, 1) := by decide +kernel
theorem dL_set_7 : decode cL_set 7 = .ok (.astore_n 3, 1) := by decide +kernel
theorem dL_set_8 : decode cL_set 8 = .ok (.bipush (-102), 2) := by decide +kernel
theorem dL_set_10 : decode cL_set 10 = .ok (.ireturn, 1) := by decide +kernel
theorem dL_seed_0 : decode cL_seed 0 = .ok (.aload_n 0, 1) := by decide +kernel
theorem dL_seed_1 : decode cL_seed 1 = .ok (.iload_n 1, 1) := by decide +kernel
theorem dL_seed_2 : decode cL_seed 2 = .ok (.invokevirtual 58, 3) := by decide +kernel
theorem dL_seed_5 : decode cL_seed 5 = .ok (.iconst 0, 1) := by decide +kernel
theorem dL_seed_6 : decode cL_seed 6 = .ok (.ireturn, 1) := by decide +kernel
theorem dL_seed_7 : decode cL_seed 7 = .ok (.astore_n 2, 1) := by decide +kernel
theorem dL_seed_8 : decode cL_seed 8 = .ok (.bipush (-102), 2) := by decide +kernel
theorem dL_seed_10 : decode cL_seed 10 = .ok (.ireturn, 1) := by decide +kernel
theorem dL_setFlag_0 : decode cL_setFlag 0 = .ok (.aload_n 0, 1) := by decide +kernel
theorem dL_setFlag_1 : decode cL_setFlag 1 = .ok (.iload_n 1, 1) := by decide +kernel
theorem dL_setFlag_2 : decode cL_setFlag 2 = .ok (.iload_n 2, 1) := by decide +kernel
theorem dL_setFlag_3 : decode cL_setFlag 3 = .ok (.invokevirtual 62, 3) := by decide +kernel
theorem dL_setFlag_6 : decode cL_setFlag 6 = .ok (.ifCond .eq 7, 3) := by decide +kernel
theorem dL_setFlag_9 : decode cL_setFlag 9 = .ok (.iconst 1, 1) := by decide +kernel
theorem dL_setFlag_10 : decode cL_setFlag 10 = .ok (.goto 4, 3) := by decide +kernel
theorem dL_setFlag_13 : decode cL_setFlag 13 = .ok (.iconst 0, 1) := by decide +kernel
theorem dL_setFlag_14 : decode cL_setFlag 14 = .ok (.ireturn, 1) := by decide +kernel
theorem dL_setFlag_15 : decode cL_setFlag 15 = .ok (.astore_n 3, 1) := by decide +kernel
theorem dL_setFlag_16 : decode cL_setFlag 16 = .ok (.bipush (-101), 2) := by decide +kernel
theorem dL_setFlag_18 : decode cL_setFlag 18 = .ok (.ireturn, 1) := by decide +kernel
theorem dL_count_0 : decode cL_count 0 = .ok (.aload_n 0, 1) := by decide +kernel
theorem dL_count_1 : decode cL_count 1 = .ok (.iload_n 1, 1) := by decide +kernel
theorem dL_count_2 : decode cL_count 2 = .ok (.invokevirtual 66, 3) := by decide +kernel
theorem dL_count_5 : decode cL_count 5 = .ok (.ireturn, 1) := by decide +kernel
theorem dL_count_6 : decode cL_count 6 = .ok (.astore_n 2, 1) := by decide +kernel
theorem dL_count_7 : decode cL_count 7 = .ok (.bipush (-102), 2) := by decide +kernel
theorem dL_count_9 : decode cL_count 9 = .ok (.ireturn, 1) := by decide +kernel
theorem dL_thread_0 : decode cL_thread 0 = .ok (.aload_n 0, 1) := by decide +kernel
theorem dL_thread_1 : decode cL_thread 1 = .ok (.iload_n 1, 1) := by decide +kernel
theorem dL_thread_2 : decode cL_thread 2 = .ok (.iload_n 2, 1) := by decide +kernel
theorem dL_thread_3 : decode cL_thread 3 = .ok (.invokevirtual 70, 3) := by decide +kernel
theorem dL_thread_6 : decode cL_thread 6 = .ok (.ireturn, 1) := by decide +kernel
theorem dL_thread_7 : decode cL_thread 7 = .ok (.astore_n 3, 1) := by decide +kernel
theorem dL_thread_8 : decode cL_thread 8 = .ok (.bipush (-101), 2) := by decide +kernel
theorem dL_thread_10 : decode cL_thread 10 = .ok (.ireturn, 1) := by decide +kernel
theorem dL_thread_11 : decode cL_thread 11 = .ok (.astore_n 3, 1) := by decide +kernel
theorem dL_thread_12 : decode cL_thread 12 = .ok (.bipush (-102), 2) := by decide +kernel
theorem dL_thread_14 : decode cL_thread 14 = .ok (.ireturn, 1) := by decide +kernel
theorem dL_lock_0 : decode cL_lock 0 = .ok (.aload_n 0, 1) := by decide +kernel
theorem dL_lock_1 : decode cL_lock 1 = .ok (.iload_n 1, 1) := by decide +kernel
theorem dL_lock_2 : decode cL_lock 2 = .ok (.iload_n 2, 1) := by decide +kernel
theorem dL_lock_3 : decode cL_lock 3 = .ok (.invokevirtual 76, 3) := by decide +kernel
theorem dL_lock_6 : decode cL_lock 6 = .ok (.ireturn, 1) := by decide +kernel
theorem dL_lock_7 : decode cL_lock 7 = .ok (.astore_n 3, 1) := by decide +kernel
theorem dL_lock_8 : decode cL_lock 8 = .ok (.bipush (-101), 2) := by decide +kernel
theorem dL_lock_10 : decode cL_lock 10 = .ok (.ireturn, 1) := by decide +kernel
theorem dL_flag_0 : decode cL_flag 0 = .ok (.aload_n 0, 1) := by decide +kernel
theorem dL_flag_1 : decode cL_flag 1 = .ok (.iload_n 1, 1) := by decide +kernel
theorem dL_flag_2 : decode cL_flag 2 = .ok (.invokevirtual 79, 3) := by decide +kernel
theorem dL_flag_5 : decode cL_flag 5 = .ok (.ifCond .eq 7, 3) := by decide +kernel
theorem dL_flag_8 : decode cL_flag 8 = .ok (.iconst 1, 1) := by decide +kernel
theorem dL_flag_9 : decode cL_flag 9 = .ok (.goto 4, 3) := by decide +kernel
theorem dL_flag_12 : decode cL_flag 12 = .ok (.iconst 0, 1) := by decide +kernel
theorem dL_flag_13 : decode cL_flag 13 = .ok (.ireturn, 1) := by decide +kernel
theorem dL_flag_14 : decode cL_flag 14 = .ok (.astore_n 2, 1) := by decide +kernel
theorem dL_flag_15 : decode cL_flag 15 = .ok (.bipush (-101), 2) := by decide +kernel
theorem dL_flag_17 : decode cL_flag 17 = .ok (.ireturn, 1) := by decide +kernel
theorem dL_event_0 : decode cL_event 0 = .ok (.aload_n 0, 1) := by decide +kernel
theorem dL_event_1 : decode cL_event 1 = .ok (.iload_n 1, 1) := by decide +kernel
theorem dL_event_2 : decode cL_event 2 = .ok (.iload_n 2, 1) := by decide +kernel
theorem dL_event_3 : decode cL_event 3 = .ok (.invokevirtual 83, 3) := by decide +kernel
theorem dL_event_6 : decode cL_event 6 = .ok (.ireturn, 1) := by decide +kernel
theorem dL_event_7 : decode cL_event 7 = .ok (.astore_n 3, 1) := by decide +kernel
theorem dL_event_8 : decode cL_event 8 = .ok (.bipush (-101), 2) := by decide +kernel
theorem dL_event_10 : decode cL_event 10 = .ok (.ireturn, 1) := by decide +kernel
theorem dL_event_11 : decode cL_event 11 = .ok (.astore_n 3, 1) := by decide +kernel
theorem dL_event_12 : decode cL_event 12 = .ok (.bipush (-102), 2) := by decide +kernel
theorem dL_event_14 : decode cL_event 14 = .ok (.ireturn, 1) := by decide +kernel
theorem dL_events_0 : decode cL_events 0 = .ok (.aload_n 0, 1) := by decide +kernel
theorem dL_events_1 : decode cL_events 1 = .ok (.iload_n 1, 1) := by decide +kernel
theorem dL_events_2 : decode cL_events 2 = .ok (.iload_n 2, 1) := by decide +kernel
theorem dL_events_3 : decode cL_events 3 = .ok (.invokevirtual 86, 3) := by decide +kernel
theorem dL_events_6 : decode cL_events 6 = .ok (.ireturn, 1) := by decide +kernel
theorem dL_events_7 : decode cL_events 7 = .ok (.astore_n 3, 1) := by decide +kernel
theorem dL_events_8 : decode cL_events 8 = .ok (.bipush (-101), 2) := by decide +kernel
theorem dL_events_10 : decode cL_events 10 = .ok (.ireturn, 1) := by decide +kernel
theorem dL_events_11 : decode cL_events 11 = .ok (.astore_n 3, 1) := by decide +kernel
theorem dL_events_12 : decode cL_events 12 = .ok (.bipush (-102), 2) := by decide +kernel
theorem dL_events_14 : decode cL_events 14 = .ok (.ireturn, 1) := by decide +kernel
theorem dL_wake_0 : decode cL_wake 0 = .ok (.aload_n 0, 1) := by decide +kernel
theorem dL_wake_1 : decode cL_wake 1 = .ok (.iload_n 1, 1) := by decide +kernel
theorem dL_wake_2 : decode cL_wake 2 = .ok (.invokevirtual 89, 3) := by decide +kernel
theorem dL_wake_5 : decode cL_wake 5 = .ok (.ireturn, 1) := by decide +kernel
theorem dL_wake_6 : decode cL_wake 6 = .ok (.astore_n 2, 1) := by decide +kernel
theorem dL_wake_7 : decode cL_wake 7 = .ok (.bipush (-101), 2) := by decide +kernel
theorem dL_wake_9 : decode cL_wake 9 = .ok (.ireturn, 1) := by decide +kernel
theorem dL_interrupt_0 : decode cL_interrupt 0 = .ok (.aload_n 0, 1) := by decide +kernel
theorem dL_interrupt_1 : decode cL_interrupt 1 = .ok (.iload_n 1, 1) := by decide +kernel
theorem dL_interrupt_2 : decode cL_interrupt 2 = .ok (.invokevirtual 92, 3) := by decide +kernel
theorem dL_interrupt_5 : decode cL_interrupt 5 = .ok (.ireturn, 1) := by decide +kernel
theorem dL_interrupt_6 : decode cL_interrupt 6 = .ok (.astore_n 2, 1) := by decide +kernel
theorem dL_interrupt_7 : decode cL_interrupt 7 = .ok (.bipush (-101), 2) := by decide +kernel
theorem dL_interrupt_9 : decode cL_interrupt 9 = .ok (.ireturn, 1) := by decide +kernel
theorem dL_rouse_0 : decode cL_rouse 0 = .ok (.aload_n 0, 1) := by decide +kernel
theorem dL_rouse_1 : decode cL_rouse 1 = .ok (.iload_n 1, 1) := by decide +kernel
theorem dL_rouse_2 : decode cL_rouse 2 = .ok (.invokevirtual 95, 3) := by decide +kernel
theorem dL_rouse_5 : decode cL_rouse 5 = .ok (.ifCond .eq 7, 3) := by decide +kernel
theorem dL_rouse_8 : decode cL_rouse 8 = .ok (.iconst 1, 1) := by decide +kernel
theorem dL_rouse_9 : decode cL_rouse 9 = .ok (.goto 4, 3) := by decide +kernel
theorem dL_rouse_12 : decode cL_rouse 12 = .ok (.iconst 0, 1) := by decide +kernel
theorem dL_rouse_13 : decode cL_rouse 13 = .ok (.ireturn, 1) := by decide +kernel
theorem dL_rouse_14 : decode cL_rouse 14 = .ok (.astore_n 2, 1) := by decide +kernel
theorem dL_rouse_15 : decode cL_rouse 15 = .ok (.bipush (-101), 2) := by decide +kernel
theorem dL_rouse_17 : decode cL_rouse 17 = .ok (.ireturn, 1) := by decide +kernel
theorem dL_run_0 : decode cL_run 0 = .ok (.aload_n 0, 1) := by decide +kernel
theorem dL_run_1 : decode cL_run 1 = .ok (.iload_n 1, 1) := by decide +kernel
theorem dL_run_2 : decode cL_run 2 = .ok (.invokevirtual 98, 3) := by decide +kernel
theorem dL_run_5 : decode cL_run 5 = .ok (.ireturn, 1) := by decide +kernel
theorem dL_run_6 : decode cL_run 6 = .ok (.astore_n 2, 1) := by decide +kernel
theorem dL_run_7 : decode cL_run 7 = .ok (.bipush (-102), 2) := by decide +kernel
theorem dL_run_9 : decode cL_run 9 = .ok (.ireturn, 1) := by decide +kernel
theorem dL_chain_0 : decode cL_chain 0 = .ok (.aload_n 0, 1) := by decide +kernel
theorem dL_chain_1 : decode cL_chain 1 = .ok (.iload_n 1, 1) := by decide +kernel
theorem dL_chain_2 : decode cL_chain 2 = .ok (.iload_n 2, 1) := by decide +kernel
theorem dL_chain_3 : decode cL_chain 3 = .ok (.invokevirtual 101, 3) := by decide +kernel
theorem dL_chain_6 : decode cL_chain 6 = .ok (.ireturn, 1) := by decide +kernel
theorem dL_chain_7 : decode cL_chain 7 = .ok (.astore_n 3, 1) := by decide +kernel
theorem dL_chain_8 : decode cL_chain 8 = .ok (.bipush (-101), 2) := by decide +kernel
theorem dL_chain_10 : decode cL_chain 10 = .ok (.ireturn, 1) := by decide +kernel
theorem dL_lent_0 : decode cL_lent 0 = .ok (.aload_n 0, 1) := by decide +kernel
theorem dL_lent_1 : decode cL_lent 1 = .ok (.iload_n 1, 1) := by decide +kernel
theorem dL_lent_2 : decode cL_lent 2 = .ok (.invokevirtual 104, 3) := by decide +kernel
theorem dL_lent_5 : decode cL_lent 5 = .ok (.freturn, 1) := by decide +kernel
theorem dL_lent_6 : decode cL_lent 6 = .ok (.astore_n 2, 1) := by decide +kernel
theorem dL_lent_7 : decode cL_lent 7 = .ok (.ldc 108, 2) := by decide +kernel
theorem dL_lent_9 : decode cL_lent 9 = .ok (.freturn, 1) := by decide +kernel
theorem dL_doneIn_0 : decode cL_doneIn 0 = .ok (.aload_n 0, 1) := by decide +kernel
theorem dL_doneIn_1 : decode cL_doneIn 1 = .ok (.iload_n 1, 1) := by decide +kernel
theorem dL_doneIn_2 : decode cL_doneIn 2 = .ok (.iload_n 2, 1) := by decide +kernel
theorem dL_doneIn_3 : decode cL_doneIn 3 = .ok (.invokevirtual 109, 3) := by decide +kernel
theorem dL_doneIn_6 : decode cL_doneIn 6 = .ok (.ireturn, 1) := by decide +kernel
theorem dL_doneIn_7 : decode cL_doneIn 7 = .ok (.astore_n 3, 1) := by decide +kernel
theorem dL_doneIn_8 : decode cL_doneIn 8 = .ok (.bipush (-101), 2) := by decide +kernel
theorem dL_doneIn_10 : decode cL_doneIn 10 = .ok (.ireturn, 1) := by decide +kernel
theorem dL_doneIn_11 : decode cL_doneIn 11 = .ok (.astore_n 3, 1) := by decide +kernel
theorem dL_doneIn_12 : decode cL_doneIn 12 = .ok (.bipush (-102), 2) := by decide +kernel
theorem dL_doneIn_14 : decode cL_doneIn 14 = .ok (.ireturn, 1) := by decide +kernel
theorem dL_returnsIn_0 : decode cL_returnsIn 0 = .ok (.aload_n 0, 1) := by decide +kernel
theorem dL_returnsIn_1 : decode cL_returnsIn 1 = .ok (.iload_n 1, 1) := by decide +kernel
theorem dL_returnsIn_2 : decode cL_returnsIn 2 = .ok (.iload_n 2, 1) := by decide +kernel
theorem dL_returnsIn_3 : decode cL_returnsIn 3 = .ok (.invokevirtual 112, 3) := by decide +kernel
theorem dL_returnsIn_6 : decode cL_returnsIn 6 = .ok (.ireturn, 1) := by decide +kernel
theorem dL_returnsIn_7 : decode cL_returnsIn 7 = .ok (.astore_n 3, 1) := by decide +kernel
theorem dL_returnsIn_8 : decode cL_returnsIn 8 = .ok (.bipush (-101), 2) := by decide +kernel
theorem dL_returnsIn_10 : decode cL_returnsIn 10 = .ok (.ireturn, 1) := by decide +kernel
theorem dL_returnsIn_11 : decode cL_returnsIn 11 = .ok (.astore_n 3, 1) := by decide +kernel
theorem dL_returnsIn_12 : decode cL_returnsIn 12 = .ok (.bipush (-102), 2) := by decide +kernel
theorem dL_returnsIn_14 : decode cL_returnsIn 14 = .ok (.ireturn, 1) := by decide +kernel
theorem dL_ahead_0 : decode cL_ahead 0 = .ok (.aload_n 0, 1) := by decide +kernel
theorem dL_ahead_1 : decode cL_ahead 1 = .ok (.iload_n 1, 1) := by decide +kernel
theorem dL_ahead_2 : decode cL_ahead 2 = .ok (.iload_n 2, 1) := by decide +kernel
theorem dL_ahead_3 : decode cL_ahead 3 = .ok (.invokevirtual 115, 3) := by decide +kernel
theorem dL_ahead_6 : decode cL_ahead 6 = .ok (.ireturn, 1) := by decide +kernel
theorem dL_ahead_7 : decode cL_ahead 7 = .ok (.astore_n 3, 1) := by decide +kernel
theorem dL_ahead_8 : decode cL_ahead 8 = .ok (.bipush (-102), 2) := by decide +kernel
theorem dL_ahead_10 : decode cL_ahead 10 = .ok (.ireturn, 1) := by decide +kernel
theorem dL_bestBase_0 : decode cL_bestBase 0 = .ok (.aload_n 0, 1) := by decide +kernel
theorem dL_bestBase_1 : decode cL_bestBase 1 = .ok (.iload_n 1, 1) := by decide +kernel
theorem dL_bestBase_2 : decode cL_bestBase 2 = .ok (.iload_n 2, 1) := by decide +kernel
theorem dL_bestBase_3 : decode cL_bestBase 3 = .ok (.invokevirtual 118, 3) := by decide +kernel
theorem dL_bestBase_6 : decode cL_bestBase 6 = .ok (.ireturn, 1) := by decide +kernel
theorem dL_bestBase_7 : decode cL_bestBase 7 = .ok (.astore_n 3, 1) := by decide +kernel
theorem dL_bestBase_8 : decode cL_bestBase 8 = .ok (.bipush (-101), 2) := by decide +kernel
theorem dL_bestBase_10 : decode cL_bestBase 10 = .ok (.ireturn, 1) := by decide +kernel
theorem dL_bestBase_11 : decode cL_bestBase 11 = .ok (.astore_n 3, 1) := by decide +kernel
theorem dL_bestBase_12 : decode cL_bestBase 12 = .ok (.bipush (-102), 2) := by decide +kernel
theorem dL_bestBase_14 : decode cL_bestBase 14 = .ok (.ireturn, 1) := by decide +kernel
theorem dL_save_0 : decode cL_save 0 = .ok (.aload_n 0, 1) := by decide +kernel
theorem dL_save_1 : decode cL_save 1 = .ok (.iload_n 1, 1) := by decide +kernel
theorem dL_save_2 : decode cL_save 2 = .ok (.invokevirtual 121, 3) := by decide +kernel
theorem dL_save_5 : decode cL_save 5 = .ok (.iconst 0, 1) := by decide +kernel
theorem dL_save_6 : decode cL_save 6 = .ok (.ireturn, 1) := by decide +kernel
theorem dL_save_7 : decode cL_save 7 = .ok (.astore_n 2, 1) := by decide +kernel
theorem dL_save_8 : decode cL_save 8 = .ok (.bipush (-102), 2) := by decide +kernel
theorem dL_save_10 : decode cL_save 10 = .ok (.ireturn, 1) := by decide +kernel
theorem dL_restore_0 : decode cL_restore 0 = .ok (.aload_n 0, 1) := by decide +kernel
theorem dL_restore_1 : decode cL_restore 1 = .ok (.iload_n 1, 1) := by decide +kernel
theorem dL_restore_2 : decode cL_restore 2 = .ok (.invokevirtual 124, 3) := by decide +kernel
theorem dL_restore_5 : decode cL_restore 5 = .ok (.iconst 0, 1) := by decide +kernel
theorem dL_restore_6 : decode cL_restore 6 = .ok (.ireturn, 1) := by decide +kernel
theorem dL_restore_7 : decode cL_restore 7 = .ok (.astore_n 2, 1) := by decide +kernel
theorem dL_restore_8 : decode cL_restore 8 = .ok (.bipush (-102), 2) := by decide +kernel
theorem dL_restore_10 : decode cL_restore 10 = .ok (.ireturn, 1) := by decide +kernel
theorem dL_restore_11 : decode cL_restore 11 = .ok (.astore_n 2, 1) := by decide +kernel
theorem dL_restore_12 : decode cL_restore 12 = .ok (.bipush (-103), 2) := by decide +kernel
theorem dL_restore_14 : decode cL_restore 14 = .ok (.ireturn, 1) := by decide +kernel
theorem dL_builds_0 : decode cL_builds 0 = .ok (.iconst 2, 1) := by decide +kernel
theorem dL_builds_1 : decode cL_builds 1 = .ok (.aload_n 0, 1) := by decide +kernel
theorem dL_builds_2 : decode cL_builds 2 = .ok (.bipush 9, 2) := by decide +kernel
theorem dL_builds_4 : decode cL_builds 4 = .ok (.invokevirtual 127, 3) := by decide +kernel
theorem dL_builds_7 : decode cL_builds 7 = .ok (.iadd, 1) := by decide +kernel
theorem dL_builds_8 : decode cL_builds 8 = .ok (.istore_n 1, 1) := by decide +kernel
theorem dL_builds_9 : decode cL_builds 9 = .ok (.iconst 0, 1) := by decide +kernel
theorem dL_builds_10 : decode cL_builds 10 = .ok (.istore_n 2, 1) := by decide +kernel
theorem dL_builds_11 : decode cL_builds 11 = .ok (.iload_n 2, 1) := by decide +kernel
theorem dL_builds_12 : decode cL_builds 12 = .ok (.iload_n 1, 1) := by decide +kernel
theorem dL_builds_13 : decode cL_builds 13 = .ok (.if_icmp .ge 175, 3) := by decide +kernel
theorem dL_builds_16 : decode cL_builds 16 = .ok (.aload_n 0, 1) := by decide +kernel
theorem dL_builds_17 : decode cL_builds 17 = .ok (.getfield 10, 3) := by decide +kernel
theorem dL_builds_20 : decode cL_builds 20 = .ok (.iconst 1, 1) := by decide +kernel
theorem dL_builds_21 : decode cL_builds 21 = .ok (.aload_n 0, 1) := by decide +kernel
theorem dL_builds_22 : decode cL_builds 22 = .ok (.bipush 9, 2) := by decide +kernel
theorem dL_builds_24 : decode cL_builds 24 = .ok (.invokevirtual 127, 3) := by decide +kernel
theorem dL_builds_27 : decode cL_builds 27 = .ok (.iadd, 1) := by decide +kernel
theorem dL_builds_28 : decode cL_builds 28 = .ok (.aload_n 0, 1) := by decide +kernel
theorem dL_builds_29 : decode cL_builds 29 = .ok (.iconst 2, 1) := by decide +kernel
theorem dL_builds_30 : decode cL_builds 30 = .ok (.invokevirtual 127, 3) := by decide +kernel
theorem dL_builds_33 : decode cL_builds 33 = .ok (.ifCond .ne 8, 3) := by decide +kernel
theorem dL_builds_36 : decode cL_builds 36 = .ok (.bipush 9, 2) := by decide +kernel
theorem dL_builds_38 : decode cL_builds 38 = .ok (.goto 4, 3) := by decide +kernel
theorem dL_builds_41 : decode cL_builds 41 = .ok (.iconst 0, 1) := by decide +kernel
theorem dL_builds_42 : decode cL_builds 42 = .ok (.iconst 1, 1) := by decide +kernel
theorem dL_builds_43 : decode cL_builds 43 = .ok (.aload_n 0, 1) := by decide +kernel
theorem dL_builds_44 : decode cL_builds 44 = .ok (.iconst 3, 1) := by decide +kernel
theorem dL_builds_45 : decode cL_builds 45 = .ok (.invokevirtual 127, 3) := by decide +kernel
theorem dL_builds_48 : decode cL_builds 48 = .ok (.iadd, 1) := by decide +kernel
theorem dL_builds_49 : decode cL_builds 49 = .ok (.invokestatic 130, 3) := by decide +kernel
theorem dL_builds_52 : decode cL_builds 52 = .ok (.iload_n 2, 1) := by decide +kernel
theorem dL_builds_53 : decode cL_builds 53 = .ok (.if_icmp .eq 5, 3) := by decide +kernel
theorem dL_builds_56 : decode cL_builds 56 = .ok (.iconst 0, 1) := by decide +kernel
theorem dL_builds_57 : decode cL_builds 57 = .ok (.ireturn, 1) := by decide +kernel
theorem dL_builds_58 : decode cL_builds 58 = .ok (.iconst 1, 1) := by decide +kernel
theorem dL_builds_59 : decode cL_builds 59 = .ok (.aload_n 0, 1) := by decide +kernel
theorem dL_builds_60 : decode cL_builds 60 = .ok (.bipush 8, 2) := by decide +kernel
theorem dL_builds_62 : decode cL_builds 62 = .ok (.invokevirtual 127, 3) := by decide +kernel
theorem dL_builds_65 : decode cL_builds 65 = .ok (.iadd, 1) := by decide +kernel
theorem dL_builds_66 : decode cL_builds 66 = .ok (.istore_n 3, 1) := by decide +kernel
theorem dL_builds_67 : decode cL_builds 67 = .ok (.iload_n 3, 1) := by decide +kernel
theorem dL_builds_68 : decode cL_builds 68 = .ok (.ifCond .le 114, 3) := by decide +kernel
theorem dL_builds_71 : decode cL_builds 71 = .ok (.aload_n 0, 1) := by decide +kernel
theorem dL_builds_72 : decode cL_builds 72 = .ok (.bipush 11, 2) := by decide +kernel
theorem dL_builds_74 : decode cL_builds 74 = .ok (.invokevirtual 127, 3) := by decide +kernel
theorem dL_builds_77 : decode cL_builds 77 = .ok (.istore 4, 2) := by decide +kernel
theorem dL_builds_79 : decode cL_builds 79 = .ok (.iload 4, 2) := by decide +kernel
theorem dL_builds_81 : decode cL_builds 81 = .ok (.ifCond .ne 13, 3) := by decide +kernel
theorem dL_builds_84 : decode cL_builds 84 = .ok (.iconst 1, 1) := by decide +kernel
theorem dL_builds_85 : decode cL_builds 85 = .ok (.aload_n 0, 1) := by decide +kernel
theorem dL_builds_86 : decode cL_builds 86 = .ok (.iconst 5, 1) := by decide +kernel
theorem dL_builds_87 : decode cL_builds 87 = .ok (.invokevirtual 127, 3) := by decide +kernel
theorem dL_builds_90 : decode cL_builds 90 = .ok (.iadd, 1) := by decide +kernel
theorem dL_builds_91 : decode cL_builds 91 = .ok (.goto 65, 3) := by decide +kernel
theorem dL_builds_94 : decode cL_builds 94 = .ok (.iload 4, 2) := by decide +kernel
theorem dL_builds_96 : decode cL_builds 96 = .ok (.iconst 1, 1) := by decide +kernel
theorem dL_builds_97 : decode cL_builds 97 = .ok (.if_icmp .ne 7, 3) := by decide +kernel
theorem dL_builds_100 : decode cL_builds 100 = .ok (.iconst 0, 1) := by decide +kernel
theorem dL_builds_101 : decode cL_builds 101 = .ok (.goto 55, 3) := by decide +kernel
theorem dL_builds_104 : decode cL_builds 104 = .ok (.iload 4, 2) := by decide +kernel
theorem dL_builds_106 : decode cL_builds 106 = .ok (.iconst 2, 1) := by decide +kernel
theorem dL_builds_107 : decode cL_builds 107 = .ok (.if_icmp .ne 14, 3) := by decide +kernel
theorem dL_builds_110 : decode cL_builds 110 = .ok (.iconst 1, 1) := by decide +kernel
theorem dL_builds_111 : decode cL_builds 111 = .ok (.aload_n 0, 1) := by decide +kernel
theorem dL_builds_112 : decode cL_builds 112 = .ok (.bipush 20, 2) := by decide +kernel
theorem dL_builds_114 : decode cL_builds 114 = .ok (.invokevirtual 127, 3) := by decide +kernel
theorem dL_builds_117 : decode cL_builds 117 = .ok (.iadd, 1) := by decide +kernel
theorem dL_builds_118 : decode cL_builds 118 = .ok (.goto 38, 3) := by decide +kernel
theorem dL_builds_121 : decode cL_builds 121 = .ok (.iload 4, 2) := by decide +kernel
theorem dL_builds_123 : decode cL_builds 123 = .ok (.bipush 6, 2) := by decide +kernel
theorem dL_builds_125 : decode cL_builds 125 = .ok (.if_icmp .ge 11, 3) := by decide +kernel
theorem dL_builds_128 : decode cL_builds 128 = .ok (.aload_n 0, 1) := by decide +kernel
theorem dL_builds_129 : decode cL_builds 129 = .ok (.iconst 3, 1) := by decide +kernel
theorem dL_builds_130 : decode cL_builds 130 = .ok (.invokevirtual 127, 3) := by decide +kernel
theorem dL_builds_133 : decode cL_builds 133 = .ok (.goto 23, 3) := by decide +kernel
theorem dL_builds_136 : decode cL_builds 136 = .ok (.iload 4, 2) := by decide +kernel
theorem dL_builds_138 : decode cL_builds 138 = .ok (.bipush 9, 2) := by decide +kernel
theorem dL_builds_140 : decode cL_builds 140 = .ok (.if_icmp .ge 11, 3) := by decide +kernel
theorem dL_builds_143 : decode cL_builds 143 = .ok (.aload_n 0, 1) := by decide +kernel
theorem dL_builds_144 : decode cL_builds 144 = .ok (.iload_n 1, 1) := by decide +kernel
theorem dL_builds_145 : decode cL_builds 145 = .ok (.invokevirtual 127, 3) := by decide +kernel
theorem dL_builds_148 : decode cL_builds 148 = .ok (.goto 8, 3) := by decide +kernel
theorem dL_builds_151 : decode cL_builds 151 = .ok (.aload_n 0, 1) := by decide +kernel
theorem dL_builds_152 : decode cL_builds 152 = .ok (.iconst 4, 1) := by decide +kernel
theorem dL_builds_153 : decode cL_builds 153 = .ok (.invokevirtual 127, 3) := by decide +kernel
theorem dL_builds_156 : decode cL_builds 156 = .ok (.istore 5, 2) := by decide +kernel
theorem dL_builds_158 : decode cL_builds 158 = .ok (.aload_n 0, 1) := by decide +kernel
theorem dL_builds_159 : decode cL_builds 159 = .ok (.getfield 10, 3) := by decide +kernel
theorem dL_builds_162 : decode cL_builds 162 = .ok (.iload_n 2, 1) := by decide +kernel
theorem dL_builds_163 : decode cL_builds 163 = .ok (.iload 4, 2) := by decide +kernel
theorem dL_builds_165 : decode cL_builds 165 = .ok (.iload 5, 2) := by decide +kernel
theorem dL_builds_167 : decode cL_builds 167 = .ok (.invokestatic 133, 3) := by decide +kernel
theorem dL_builds_170 : decode cL_builds 170 = .ok (.iconst 2, 1) := by decide +kernel
theorem dL_builds_171 : decode cL_builds 171 = .ok (.if_icmp .ge 5, 3) := by decide +kernel
theorem dL_builds_174 : decode cL_builds 174 = .ok (.iconst 0, 1) := by decide +kernel
theorem dL_builds_175 : decode cL_builds 175 = .ok (.ireturn, 1) := by decide +kernel
theorem dL_builds_176 : decode cL_builds 176 = .ok (.iinc 3 (-1), 3) := by decide +kernel
theorem dL_builds_179 : decode cL_builds 179 = .ok (.goto (-112), 3) := by decide +kernel
theorem dL_builds_182 : decode cL_builds 182 = .ok (.iinc 2 1, 3) := by decide +kernel
theorem dL_builds_185 : decode cL_builds 185 = .ok (.goto (-174), 3) := by decide +kernel
theorem dL_builds_188 : decode cL_builds 188 = .ok (.aload_n 0, 1) := by decide +kernel
theorem dL_builds_189 : decode cL_builds 189 = .ok (.getfield 10, 3) := by decide +kernel
theorem dL_builds_192 : decode cL_builds 192 = .ok (.iconst 0, 1) := by decide +kernel
theorem dL_builds_193 : decode cL_builds 193 = .ok (.aload_n 0, 1) := by decide +kernel
theorem dL_builds_194 : decode cL_builds 194 = .ok (.iconst 2, 1) := by decide +kernel
theorem dL_builds_195 : decode cL_builds 195 = .ok (.invokevirtual 127, 3) := by decide +kernel
theorem dL_builds_198 : decode cL_builds 198 = .ok (.ifCond .ne 7, 3) := by decide +kernel
theorem dL_builds_201 : decode cL_builds 201 = .ok (.iconst 0, 1) := by decide +kernel
theorem dL_builds_202 : decode cL_builds 202 = .ok (.goto 9, 3) := by decide +kernel
theorem dL_builds_205 : decode cL_builds 205 = .ok (.aload_n 0, 1) := by decide +kernel
theorem dL_builds_206 : decode cL_builds 206 = .ok (.bipush 80, 2) := by decide +kernel
theorem dL_builds_208 : decode cL_builds 208 = .ok (.invokevirtual 127, 3) := by decide +kernel
theorem dL_builds_211 : decode cL_builds 211 = .ok (.invokestatic 135, 3) := by decide +kernel
theorem dL_builds_214 : decode cL_builds 214 = .ok (.ifCond .ne 48, 3) := by decide +kernel
theorem dL_builds_217 : decode cL_builds 217 = .ok (.aload_n 0, 1) := by decide +kernel
theorem dL_builds_218 : decode cL_builds 218 = .ok (.getfield 10, 3) := by decide +kernel
theorem dL_builds_221 : decode cL_builds 221 = .ok (.iconst 1, 1) := by decide +kernel
theorem dL_builds_222 : decode cL_builds 222 = .ok (.aload_n 0, 1) := by decide +kernel
theorem dL_builds_223 : decode cL_builds 223 = .ok (.iconst 3, 1) := by decide +kernel
theorem dL_builds_224 : decode cL_builds 224 = .ok (.invokevirtual 127, 3) := by decide +kernel
theorem dL_builds_227 : decode cL_builds 227 = .ok (.ifCond .ne 7, 3) := by decide +kernel
theorem dL_builds_230 : decode cL_builds 230 = .ok (.iconst 0, 1) := by decide +kernel
theorem dL_builds_231 : decode cL_builds 231 = .ok (.goto 4, 3) := by decide +kernel
theorem dL_builds_234 : decode cL_builds 234 = .ok (.iconst 1, 1) := by decide +kernel
theorem dL_builds_235 : decode cL_builds 235 = .ok (.invokestatic 135, 3) := by decide +kernel
theorem dL_builds_238 : decode cL_builds 238 = .ok (.iconst 1, 1) := by decide +kernel
theorem dL_builds_239 : decode cL_builds 239 = .ok (.if_icmp .ne 23, 3) := by decide +kernel
theorem dL_builds_242 : decode cL_builds 242 = .ok (.aload_n 0, 1) := by decide +kernel
theorem dL_builds_243 : decode cL_builds 243 = .ok (.getfield 10, 3) := by decide +kernel
theorem dL_builds_246 : decode cL_builds 246 = .ok (.aload_n 0, 1) := by decide +kernel
theorem dL_builds_247 : decode cL_builds 247 = .ok (.ldc 138, 2) := by decide +kernel
theorem dL_builds_249 : decode cL_builds 249 = .ok (.invokevirtual 127, 3) := by decide +kernel
theorem dL_builds_252 : decode cL_builds 252 = .ok (.invokestatic 139, 3) := by decide +kernel
theorem dL_builds_255 : decode cL_builds 255 = .ok (.ifCond .ne 7, 3) := by decide +kernel
theorem dL_builds_258 : decode cL_builds 258 = .ok (.iconst 1, 1) := by decide +kernel
theorem dL_builds_259 : decode cL_builds 259 = .ok (.goto 4, 3) := by decide +kernel
theorem dL_builds_262 : decode cL_builds 262 = .ok (.iconst 0, 1) := by decide +kernel
theorem dL_builds_263 : decode cL_builds 263 = .ok (.ireturn, 1) := by decide +kernel
theorem dL_statesAreSo_0 : decode cL_statesAreSo 0 = .ok (.aload_n 0, 1) := by decide +kernel
theorem dL_statesAreSo_1 : decode cL_statesAreSo 1 = .ok (.getfield 10, 3) := by decide +kernel
theorem dL_statesAreSo_4 : decode cL_statesAreSo 4 = .ok (.iconst 2, 1) := by decide +kernel
theorem dL_statesAreSo_5 : decode cL_statesAreSo 5 = .ok (.invokestatic 142, 3) := by decide +kernel
theorem dL_statesAreSo_8 : decode cL_statesAreSo 8 = .ok (.istore_n 1, 1) := by decide +kernel
theorem dL_statesAreSo_9 : decode cL_statesAreSo 9 = .ok (.iconst 0, 1) := by decide +kernel
theorem dL_statesAreSo_10 : decode cL_statesAreSo 10 = .ok (.istore_n 2, 1) := by decide +kernel
theorem dL_statesAreSo_11 : decode cL_statesAreSo 11 = .ok (.iconst 0, 1) := by decide +kernel
theorem dL_statesAreSo_12 : decode cL_statesAreSo 12 = .ok (.istore_n 3, 1) := by decide +kernel
theorem dL_statesAreSo_13 : decode cL_statesAreSo 13 = .ok (.iconst 0, 1) := by decide +kernel
theorem dL_statesAreSo_14 : decode cL_statesAreSo 14 = .ok (.istore 4, 2) := by decide +kernel
theorem dL_statesAreSo_16 : decode cL_statesAreSo 16 = .ok (.iconst 5, 1) := by decide +kernel
theorem dL_statesAreSo_17 : decode cL_statesAreSo 17 = .ok (.istore 5, 2) := by decide +kernel
theorem dL_statesAreSo_19 : decode cL_statesAreSo 19 = .ok (.iload 5, 2) := by decide +kernel
theorem dL_statesAreSo_21 : decode cL_statesAreSo 21 = .ok (.bipush 10, 2) := by decide +kernel
theorem dL_statesAreSo_23 : decode cL_statesAreSo 23 = .ok (.if_icmp .ge 21, 3) := by decide +kernel
theorem dL_statesAreSo_26 : decode cL_statesAreSo 26 = .ok (.iload_n 2, 1) := by decide +kernel
theorem dL_statesAreSo_27 : decode cL_statesAreSo 27 = .ok (.aload_n 0, 1) := by decide +kernel
theorem dL_statesAreSo_28 : decode cL_statesAreSo 28 = .ok (.getfield 10, 3) := by decide +kernel
theorem dL_statesAreSo_31 : decode cL_statesAreSo 31 = .ok (.iload 5, 2) := by decide +kernel
theorem dL_statesAreSo_33 : decode cL_statesAreSo 33 = .ok (.invokestatic 142, 3) := by decide +kernel
theorem dL_statesAreSo_36 : decode cL_statesAreSo 36 = .ok (.iadd, 1) := by decide +kernel
theorem dL_statesAreSo_37 : decode cL_statesAreSo 37 = .ok (.istore_n 2, 1) := by decide +kernel
theorem dL_statesAreSo_38 : decode cL_statesAreSo 38 = .ok (.iinc 5 1, 3) := by decide +kernel
theorem dL_statesAreSo_41 : decode cL_statesAreSo 41 = .ok (.goto (-22), 3) := by decide +kernel
theorem dL_statesAreSo_44 : decode cL_statesAreSo 44 = .ok (.iconst 0, 1) := by decide +kernel
theorem dL_statesAreSo_45 : decode cL_statesAreSo 45 = .ok (.istore 5, 2) := by decide +kernel
theorem dL_statesAreSo_47 : decode cL_statesAreSo 47 = .ok (.iload 5, 2) := by decide +kernel
theorem dL_statesAreSo_49 : decode cL_statesAreSo 49 = .ok (.bipush 6, 2) := by decide +kernel
theorem dL_statesAreSo_51 : decode cL_statesAreSo 51 = .ok (.if_icmp .ge 204, 3) := by decide +kernel
theorem dL_statesAreSo_54 : decode cL_statesAreSo 54 = .ok (.aload_n 0, 1) := by decide +kernel
theorem dL_statesAreSo_55 : decode cL_statesAreSo 55 = .ok (.getfield 10, 3) := by decide +kernel
theorem dL_statesAreSo_58 : decode cL_statesAreSo 58 = .ok (.iload 5, 2) := by decide +kernel
theorem dL_statesAreSo_60 : decode cL_statesAreSo 60 = .ok (.iconst 0, 1) := by decide +kernel
theorem dL_statesAreSo_61 : decode cL_statesAreSo 61 = .ok (.invokestatic 144, 3) := by decide +kernel
theorem dL_statesAreSo_64 : decode cL_statesAreSo 64 = .ok (.istore 6, 2) := by decide +kernel
theorem dL_statesAreSo_66 : decode cL_statesAreSo 66 = .ok (.iload_n 3, 1) := by decide +kernel
theorem dL_statesAreSo_67 : decode cL_statesAreSo 67 = .ok (.iload 6, 2) := by decide +kernel
theorem dL_statesAreSo_69 : decode cL_statesAreSo 69 = .ok (.ifCond .ge 7, 3) := by decide +kernel
theorem dL_statesAreSo_72 : decode cL_statesAreSo 72 = .ok (.iconst 0, 1) := by decide +kernel
theorem dL_statesAreSo_73 : decode cL_statesAreSo 73 = .ok (.goto 7, 3) := by decide +kernel
theorem dL_statesAreSo_76 : decode cL_statesAreSo 76 = .ok (.iconst 1, 1) := by decide +kernel
theorem dL_statesAreSo_77 : decode cL_statesAreSo 77 = .ok (.iload 5, 2) := by decide +kernel
theorem dL_statesAreSo_79 : decode cL_statesAreSo 79 = .ok (.ishl, 1) := by decide +kernel
theorem dL_statesAreSo_80 : decode cL_statesAreSo 80 = .ok (.ior, 1) := by decide +kernel
theorem dL_statesAreSo_81 : decode cL_statesAreSo 81 = .ok (.istore_n 3, 1) := by decide +kernel
theorem dL_statesAreSo_82 : decode cL_statesAreSo 82 = .ok (.iload 6, 2) := by decide +kernel
theorem dL_statesAreSo_84 : decode cL_statesAreSo 84 = .ok (.ifCond .lt 22, 3) := by decide +kernel
theorem dL_statesAreSo_87 : decode cL_statesAreSo 87 = .ok (.aload_n 0, 1) := by decide +kernel
theorem dL_statesAreSo_88 : decode cL_statesAreSo 88 = .ok (.getfield 10, 3) := by decide +kernel
theorem dL_statesAreSo_91 : decode cL_statesAreSo 91 = .ok (.iload 6, 2) := by decide +kernel
theorem dL_statesAreSo_93 : decode cL_statesAreSo 93 = .ok (.bipush 9, 2) := by decide +kernel
theorem dL_statesAreSo_95 : decode cL_statesAreSo 95 = .ok (.invokestatic 146, 3) := by decide +kernel
theorem dL_statesAreSo_98 : decode cL_statesAreSo 98 = .ok (.iload 5, 2) := by decide +kernel
theorem dL_statesAreSo_100 : decode cL_statesAreSo 100 = .ok (.ishr, 1) := by decide +kernel
theorem dL_statesAreSo_101 : decode cL_statesAreSo 101 = .ok (.iconst 1, 1) := by decide +kernel
theorem dL_statesAreSo_102 : decode cL_statesAreSo 102 = .ok (.iand, 1) := by decide +kernel
theorem dL_statesAreSo_103 : decode cL_statesAreSo 103 = .ok (.ifCond .eq 21, 3) := by decide +kernel
theorem dL_statesAreSo_106 : decode cL_statesAreSo 106 = .ok (.iload 6, 2) := by decide +kernel
theorem dL_statesAreSo_108 : decode cL_statesAreSo 108 = .ok (.ifCond .ge 18, 3) := by decide +kernel
theorem dL_statesAreSo_111 : decode cL_statesAreSo 111 = .ok (.aload_n 0, 1) := by decide +kernel
theorem dL_statesAreSo_112 : decode cL_statesAreSo 112 = .ok (.getfield 10, 3) := by decide +kernel
theorem dL_statesAreSo_115 : decode cL_statesAreSo 115 = .ok (.iload 5, 2) := by decide +kernel
theorem dL_statesAreSo_117 : decode cL_statesAreSo 117 = .ok (.iconst 1, 1) := by decide +kernel
theorem dL_statesAreSo_118 : decode cL_statesAreSo 118 = .ok (.invokestatic 144, 3) := by decide +kernel
theorem dL_statesAreSo_121 : decode cL_statesAreSo 121 = .ok (.ifCond .lt 5, 3) := by decide +kernel
theorem dL_statesAreSo_124 : decode cL_statesAreSo 124 = .ok (.iconst 0, 1) := by decide +kernel
theorem dL_statesAreSo_125 : decode cL_statesAreSo 125 = .ok (.ireturn, 1) := by decide +kernel
theorem dL_statesAreSo_126 : decode cL_statesAreSo 126 = .ok (.iconst 1, 1) := by decide +kernel
theorem dL_statesAreSo_127 : decode cL_statesAreSo 127 = .ok (.istore 7, 2) := by decide +kernel
theorem dL_statesAreSo_129 : decode cL_statesAreSo 129 = .ok (.aload_n 0, 1) := by decide +kernel
theorem dL_statesAreSo_130 : decode cL_statesAreSo 130 = .ok (.getfield 10, 3) := by decide +kernel
theorem dL_statesAreSo_133 : decode cL_statesAreSo 133 = .ok (.iload 5, 2) := by decide +kernel
theorem dL_statesAreSo_135 : decode cL_statesAreSo 135 = .ok (.iload 7, 2) := by decide +kernel
theorem dL_statesAreSo_137 : decode cL_statesAreSo 137 = .ok (.invokestatic 144, 3) := by decide +kernel
theorem dL_statesAreSo_140 : decode cL_statesAreSo 140 = .ok (.ifCond .lt 109, 3) := by decide +kernel
theorem dL_statesAreSo_143 : decode cL_statesAreSo 143 = .ok (.aload_n 0, 1) := by decide +kernel
theorem dL_statesAreSo_144 : decode cL_statesAreSo 144 = .ok (.getfield 10, 3) := by decide +kernel
theorem dL_statesAreSo_147 : decode cL_statesAreSo 147 = .ok (.iload 5, 2) := by decide +kernel
theorem dL_statesAreSo_149 : decode cL_statesAreSo 149 = .ok (.iload 7, 2) := by decide +kernel
theorem dL_statesAreSo_151 : decode cL_statesAreSo 151 = .ok (.invokestatic 144, 3) := by decide +kernel
theorem dL_statesAreSo_154 : decode cL_statesAreSo 154 = .ok (.istore 8, 2) := by decide +kernel
theorem dL_statesAreSo_156 : decode cL_statesAreSo 156 = .ok (.iinc 4 1, 3) := by decide +kernel
theorem dL_statesAreSo_159 : decode cL_statesAreSo 159 = .ok (.aload_n 0, 1) := by decide +kernel
theorem dL_statesAreSo_160 : decode cL_statesAreSo 160 = .ok (.getfield 10, 3) := by decide +kernel
theorem dL_statesAreSo_163 : decode cL_statesAreSo 163 = .ok (.iload 8, 2) := by decide +kernel
theorem dL_statesAreSo_165 : decode cL_statesAreSo 165 = .ok (.iconst 2, 1) := by decide +kernel
theorem dL_statesAreSo_166 : decode cL_statesAreSo 166 = .ok (.invokestatic 146, 3) := by decide +kernel
theorem dL_statesAreSo_169 : decode cL_statesAreSo 169 = .ok (.iconst 2, 1) := by decide +kernel
theorem dL_statesAreSo_170 : decode cL_statesAreSo 170 = .ok (.if_icmp .ne 34, 3) := by decide +kernel
theorem dL_statesAreSo_173 : decode cL_statesAreSo 173 = .ok (.aload_n 0, 1) := by decide +kernel
theorem dL_statesAreSo_174 : decode cL_statesAreSo 174 = .ok (.getfield 10, 3) := by decide +kernel
theorem dL_statesAreSo_177 : decode cL_statesAreSo 177 = .ok (.iload 8, 2) := by decide +kernel
theorem dL_statesAreSo_179 : decode cL_statesAreSo 179 = .ok (.bipush 8, 2) := by decide +kernel
theorem dL_statesAreSo_181 : decode cL_statesAreSo 181 = .ok (.invokestatic 146, 3) := by decide +kernel
theorem dL_statesAreSo_184 : decode cL_statesAreSo 184 = .ok (.iload 5, 2) := by decide +kernel
theorem dL_statesAreSo_186 : decode cL_statesAreSo 186 = .ok (.if_icmp .ne 18, 3) := by decide +kernel
theorem dL_statesAreSo_189 : decode cL_statesAreSo 189 = .ok (.aload_n 0, 1) := by decide +kernel
theorem dL_statesAreSo_190 : decode cL_statesAreSo 190 = .ok (.getfield 10, 3) := by decide +kernel
theorem dL_statesAreSo_193 : decode cL_statesAreSo 193 = .ok (.iload 8, 2) := by decide +kernel
theorem dL_statesAreSo_195 : decode cL_statesAreSo 195 = .ok (.iconst 0, 1) := by decide +kernel
theorem dL_statesAreSo_196 : decode cL_statesAreSo 196 = .ok (.invokestatic 148, 3) := by decide +kernel
theorem dL_statesAreSo_199 : decode cL_statesAreSo 199 = .ok (.iload 6, 2) := by decide +kernel
theorem dL_statesAreSo_201 : decode cL_statesAreSo 201 = .ok (.if_icmp .eq 5, 3) := by decide +kernel
theorem dL_statesAreSo_204 : decode cL_statesAreSo 204 = .ok (.iconst 0, 1) := by decide +kernel
theorem dL_statesAreSo_205 : decode cL_statesAreSo 205 = .ok (.ireturn, 1) := by decide +kernel
theorem dL_statesAreSo_206 : decode cL_statesAreSo 206 = .ok (.aload_n 0, 1) := by decide +kernel
theorem dL_statesAreSo_207 : decode cL_statesAreSo 207 = .ok (.getfield 10, 3) := by decide +kernel
theorem dL_statesAreSo_210 : decode cL_statesAreSo 210 = .ok (.iconst 1, 1) := by decide +kernel
theorem dL_statesAreSo_211 : decode cL_statesAreSo 211 = .ok (.invokestatic 142, 3) := by decide +kernel
theorem dL_statesAreSo_214 : decode cL_statesAreSo 214 = .ok (.iconst 1, 1) := by decide +kernel
theorem dL_statesAreSo_215 : decode cL_statesAreSo 215 = .ok (.if_icmp .ne 28, 3) := by decide +kernel
theorem dL_statesAreSo_218 : decode cL_statesAreSo 218 = .ok (.aload_n 0, 1) := by decide +kernel
theorem dL_statesAreSo_219 : decode cL_statesAreSo 219 = .ok (.getfield 10, 3) := by decide +kernel
theorem dL_statesAreSo_222 : decode cL_statesAreSo 222 = .ok (.iload 6, 2) := by decide +kernel
theorem dL_statesAreSo_224 : decode cL_statesAreSo 224 = .ok (.iconst 1, 1) := by decide +kernel
theorem dL_statesAreSo_225 : decode cL_statesAreSo 225 = .ok (.invokestatic 146, 3) := by decide +kernel
theorem dL_statesAreSo_228 : decode cL_statesAreSo 228 = .ok (.aload_n 0, 1) := by decide +kernel
theorem dL_statesAreSo_229 : decode cL_statesAreSo 229 = .ok (.getfield 10, 3) := by decide +kernel
theorem dL_statesAreSo_232 : decode cL_statesAreSo 232 = .ok (.iload 8, 2) := by decide +kernel
theorem dL_statesAreSo_234 : decode cL_statesAreSo 234 = .ok (.iconst 1, 1) := by decide +kernel
theorem dL_statesAreSo_235 : decode cL_statesAreSo 235 = .ok (.invokestatic 146, 3) := by decide +kernel
theorem dL_statesAreSo_238 : decode cL_statesAreSo 238 = .ok (.if_icmp .ge 5, 3) := by decide +kernel
theorem dL_statesAreSo_241 : decode cL_statesAreSo 241 = .ok (.iconst 0, 1) := by decide +kernel
theorem dL_statesAreSo_242 : decode cL_statesAreSo 242 = .ok (.ireturn, 1) := by decide +kernel
theorem dL_statesAreSo_243 : decode cL_statesAreSo 243 = .ok (.iinc 7 1, 3) := by decide +kernel
theorem dL_statesAreSo_246 : decode cL_statesAreSo 246 = .ok (.goto (-117), 3) := by decide +kernel
theorem dL_statesAreSo_249 : decode cL_statesAreSo 249 = .ok (.iinc 5 1, 3) := by decide +kernel
theorem dL_statesAreSo_252 : decode cL_statesAreSo 252 = .ok (.goto (-205), 3) := by decide +kernel
theorem dL_statesAreSo_255 : decode cL_statesAreSo 255 = .ok (.iconst 0, 1) := by decide +kernel
theorem dL_statesAreSo_256 : decode cL_statesAreSo 256 = .ok (.istore 5, 2) := by decide +kernel
theorem dL_statesAreSo_258 : decode cL_statesAreSo 258 = .ok (.iload 5, 2) := by decide +kernel
theorem dL_statesAreSo_260 : decode cL_statesAreSo 260 = .ok (.iload_n 1, 1) := by decide +kernel
theorem dL_statesAreSo_261 : decode cL_statesAreSo 261 = .ok (.if_icmp .ge 402, 3) := by decide +kernel
theorem dL_statesAreSo_264 : decode cL_statesAreSo 264 = .ok (.aload_n 0, 1) := by decide +kernel
theorem dL_statesAreSo_265 : decode cL_statesAreSo 265 = .ok (.getfield 10, 3) := by decide +kernel
theorem dL_statesAreSo_268 : decode cL_statesAreSo 268 = .ok (.iload 5, 2) := by decide +kernel
theorem dL_statesAreSo_270 : decode cL_statesAreSo 270 = .ok (.iconst 2, 1) := by decide +kernel
theorem dL_statesAreSo_271 : decode cL_statesAreSo 271 = .ok (.invokestatic 146, 3) := by decide +kernel
theorem dL_statesAreSo_274 : decode cL_statesAreSo 274 = .ok (.istore 6, 2) := by decide +kernel
theorem dL_statesAreSo_276 : decode cL_statesAreSo 276 = .ok (.aload_n 0, 1) := by decide +kernel
theorem dL_statesAreSo_277 : decode cL_statesAreSo 277 = .ok (.getfield 10, 3) := by decide +kernel
theorem dL_statesAreSo_280 : decode cL_statesAreSo 280 = .ok (.iload 5, 2) := by decide +kernel
theorem dL_statesAreSo_282 : decode cL_statesAreSo 282 = .ok (.iconst 0, 1) := by decide +kernel
theorem dL_statesAreSo_283 : decode cL_statesAreSo 283 = .ok (.invokestatic 146, 3) := by decide +kernel
theorem dL_statesAreSo_286 : decode cL_statesAreSo 286 = .ok (.istore 7, 2) := by decide +kernel
theorem dL_statesAreSo_288 : decode cL_statesAreSo 288 = .ok (.aload_n 0, 1) := by decide +kernel
theorem dL_statesAreSo_289 : decode cL_statesAreSo 289 = .ok (.getfield 10, 3) := by decide +kernel
theorem dL_statesAreSo_292 : decode cL_statesAreSo 292 = .ok (.iload 5, 2) := by decide +kernel
theorem dL_statesAreSo_294 : decode cL_statesAreSo 294 = .ok (.iconst 1, 1) := by decide +kernel
theorem dL_statesAreSo_295 : decode cL_statesAreSo 295 = .ok (.invokestatic 146, 3) := by decide +kernel
theorem dL_statesAreSo_298 : decode cL_statesAreSo 298 = .ok (.istore 8, 2) := by decide +kernel
theorem dL_statesAreSo_300 : decode cL_statesAreSo 300 = .ok (.iload 8, 2) := by decide +kernel
theorem dL_statesAreSo_302 : decode cL_statesAreSo 302 = .ok (.iload 7, 2) := by decide +kernel
theorem dL_statesAreSo_304 : decode cL_statesAreSo 304 = .ok (.if_icmp .lt 42, 3) := by decide +kernel
theorem dL_statesAreSo_307 : decode cL_statesAreSo 307 = .ok (.iload 8, 2) := by decide +kernel
theorem dL_statesAreSo_309 : decode cL_statesAreSo 309 = .ok (.bipush 9, 2) := by decide +kernel
theorem dL_statesAreSo_311 : decode cL_statesAreSo 311 = .ok (.if_icmp .gt 35, 3) := by decide +kernel
theorem dL_statesAreSo_314 : decode cL_statesAreSo 314 = .ok (.aload_n 0, 1) := by decide +kernel
theorem dL_statesAreSo_315 : decode cL_statesAreSo 315 = .ok (.getfield 10, 3) := by decide +kernel
theorem dL_statesAreSo_318 : decode cL_statesAreSo 318 = .ok (.iconst 1, 1) := by decide +kernel
theorem dL_statesAreSo_319 : decode cL_statesAreSo 319 = .ok (.invokestatic 142, 3) := by decide +kernel
theorem dL_statesAreSo_322 : decode cL_statesAreSo 322 = .ok (.ifCond .ne 10, 3) := by decide +kernel
theorem dL_statesAreSo_325 : decode cL_statesAreSo 325 = .ok (.iload 8, 2) := by decide +kernel
theorem dL_statesAreSo_327 : decode cL_statesAreSo 327 = .ok (.iload 7, 2) := by decide +kernel
theorem dL_statesAreSo_329 : decode cL_statesAreSo 329 = .ok (.if_icmp .ne 17, 3) := by decide +kernel
theorem dL_statesAreSo_332 : decode cL_statesAreSo 332 = .ok (.aload_n 0, 1) := by decide +kernel
theorem dL_statesAreSo_333 : decode cL_statesAreSo 333 = .ok (.getfield 10, 3) := by decide +kernel
theorem dL_statesAreSo_336 : decode cL_statesAreSo 336 = .ok (.iload 5, 2) := by decide +kernel
theorem dL_statesAreSo_338 : decode cL_statesAreSo 338 = .ok (.invokestatic 150, 3) := by decide +kernel
theorem dL_statesAreSo_341 : decode cL_statesAreSo 341 = .ok (.fconst 1, 1) := by decide +kernel
theorem dL_statesAreSo_342 : decode cL_statesAreSo 342 = .ok (.fcmp .g, 1) := by decide +kernel
theorem dL_statesAreSo_343 : decode cL_statesAreSo 343 = .ok (.ifCond .ge 5, 3) := by decide +kernel
theorem dL_statesAreSo_346 : decode cL_statesAreSo 346 = .ok (.iconst 0, 1) := by decide +kernel
theorem dL_statesAreSo_347 : decode cL_statesAreSo 347 = .ok (.ireturn, 1) := by decide +kernel
theorem dL_statesAreSo_348 : decode cL_statesAreSo 348 = .ok (.iload 6, 2) := by decide +kernel
theorem dL_statesAreSo_350 : decode cL_statesAreSo 350 = .ok (.iconst 2, 1) := by decide +kernel
theorem dL_statesAreSo_351 : decode cL_statesAreSo 351 = .ok (.if_icmp .ne 7, 3) := by decide +kernel
theorem dL_statesAreSo_354 : decode cL_statesAreSo 354 = .ok (.iconst 1, 1) := by decide +kernel
theorem dL_statesAreSo_355 : decode cL_statesAreSo 355 = .ok (.goto 4, 3) := by decide +kernel
theorem dL_statesAreSo_358 : decode cL_statesAreSo 358 = .ok (.iconst 0, 1) := by decide +kernel
theorem dL_statesAreSo_359 : decode cL_statesAreSo 359 = .ok (.aload_n 0, 1) := by decide +kernel
theorem dL_statesAreSo_360 : decode cL_statesAreSo 360 = .ok (.getfield 10, 3) := by decide +kernel
theorem dL_statesAreSo_363 : decode cL_statesAreSo 363 = .ok (.iload 5, 2) := by decide +kernel
theorem dL_statesAreSo_365 : decode cL_statesAreSo 365 = .ok (.bipush 8, 2) := by decide +kernel
theorem dL_statesAreSo_367 : decode cL_statesAreSo 367 = .ok (.invokestatic 146, 3) := by decide +kernel
theorem dL_statesAreSo_370 : decode cL_statesAreSo 370 = .ok (.ifCond .lt 7, 3) := by decide +kernel
theorem dL_statesAreSo_373 : decode cL_statesAreSo 373 = .ok (.iconst 1, 1) := by decide +kernel
theorem dL_statesAreSo_374 : decode cL_statesAreSo 374 = .ok (.goto 4, 3) := by decide +kernel
theorem dL_statesAreSo_377 : decode cL_statesAreSo 377 = .ok (.iconst 0, 1) := by decide +kernel
theorem dL_statesAreSo_378 : decode cL_statesAreSo 378 = .ok (.if_icmp .ne 43, 3) := by decide +kernel
theorem dL_statesAreSo_381 : decode cL_statesAreSo 381 = .ok (.iload 6, 2) := by decide +kernel
theorem dL_statesAreSo_383 : decode cL_statesAreSo 383 = .ok (.iconst 1, 1) := by decide +kernel
theorem dL_statesAreSo_384 : decode cL_statesAreSo 384 = .ok (.if_icmp .eq 17, 3) := by decide +kernel
theorem dL_statesAreSo_387 : decode cL_statesAreSo 387 = .ok (.aload_n 0, 1) := by decide +kernel
theorem dL_statesAreSo_388 : decode cL_statesAreSo 388 = .ok (.getfield 10, 3) := by decide +kernel
theorem dL_statesAreSo_391 : decode cL_statesAreSo 391 = .ok (.iload 5, 2) := by decide +kernel
theorem dL_statesAreSo_393 : decode cL_statesAreSo 393 = .ok (.bipush 7, 2) := by decide +kernel
theorem dL_statesAreSo_395 : decode cL_statesAreSo 395 = .ok (.invokestatic 146, 3) := by decide +kernel
theorem dL_statesAreSo_398 : decode cL_statesAreSo 398 = .ok (.ifCond .ge 23, 3) := by decide +kernel
theorem dL_statesAreSo_401 : decode cL_statesAreSo 401 = .ok (.iload 6, 2) := by decide +kernel
theorem dL_statesAreSo_403 : decode cL_statesAreSo 403 = .ok (.iconst 3, 1) := by decide +kernel
theorem dL_statesAreSo_404 : decode cL_statesAreSo 404 = .ok (.if_icmp .ne 19, 3) := by decide +kernel
theorem dL_statesAreSo_407 : decode cL_statesAreSo 407 = .ok (.aload_n 0, 1) := by decide +kernel
theorem dL_statesAreSo_408 : decode cL_statesAreSo 408 = .ok (.getfield 10, 3) := by decide +kernel
theorem dL_statesAreSo_411 : decode cL_statesAreSo 411 = .ok (.iload 5, 2) := by decide +kernel
theorem dL_statesAreSo_413 : decode cL_statesAreSo 413 = .ok (.bipush 9, 2) := by decide +kernel
theorem dL_statesAreSo_415 : decode cL_statesAreSo 415 = .ok (.invokestatic 146, 3) := by decide +kernel
theorem dL_statesAreSo_418 : decode cL_statesAreSo 418 = .ok (.ifCond .eq 5, 3) := by decide +kernel
theorem dL_statesAreSo_421 : decode cL_statesAreSo 421 = .ok (.iconst 0, 1) := by decide +kernel
theorem dL_statesAreSo_422 : decode cL_statesAreSo 422 = .ok (.ireturn, 1) := by decide +kernel
theorem dL_statesAreSo_423 : decode cL_statesAreSo 423 = .ok (.iload 6, 2) := by decide +kernel
theorem dL_statesAreSo_425 : decode cL_statesAreSo 425 = .ok (.iconst 3, 1) := by decide +kernel
theorem dL_statesAreSo_426 : decode cL_statesAreSo 426 = .ok (.if_icmp .eq 33, 3) := by decide +kernel
theorem dL_statesAreSo_429 : decode cL_statesAreSo 429 = .ok (.iload 6, 2) := by decide +kernel
theorem dL_statesAreSo_431 : decode cL_statesAreSo 431 = .ok (.iconst 1, 1) := by decide +kernel
theorem dL_statesAreSo_432 : decode cL_statesAreSo 432 = .ok (.if_icmp .eq 27, 3) := by decide +kernel
theorem dL_statesAreSo_435 : decode cL_statesAreSo 435 = .ok (.aload_n 0, 1) := by decide +kernel
theorem dL_statesAreSo_436 : decode cL_statesAreSo 436 = .ok (.getfield 10, 3) := by decide +kernel
theorem dL_statesAreSo_439 : decode cL_statesAreSo 439 = .ok (.iload 5, 2) := by decide +kernel
theorem dL_statesAreSo_441 : decode cL_statesAreSo 441 = .ok (.iconst 3, 1) := by decide +kernel
theorem dL_statesAreSo_442 : decode cL_statesAreSo 442 = .ok (.invokestatic 146, 3) := by decide +kernel
theorem dL_statesAreSo_445 : decode cL_statesAreSo 445 = .ok (.aload_n 0, 1) := by decide +kernel
theorem dL_statesAreSo_446 : decode cL_statesAreSo 446 = .ok (.getfield 10, 3) := by decide +kernel
theorem dL_statesAreSo_449 : decode cL_statesAreSo 449 = .ok (.iload 5, 2) := by decide +kernel
theorem dL_statesAreSo_451 : decode cL_statesAreSo 451 = .ok (.bipush 18, 2) := by decide +kernel
theorem dL_statesAreSo_453 : decode cL_statesAreSo 453 = .ok (.invokestatic 146, 3) := by decide +kernel
theorem dL_statesAreSo_456 : decode cL_statesAreSo 456 = .ok (.if_icmp .ge 33, 3) := by decide +kernel
theorem dL_statesAreSo_459 : decode cL_statesAreSo 459 = .ok (.iload 6, 2) := by decide +kernel
theorem dL_statesAreSo_461 : decode cL_statesAreSo 461 = .ok (.iconst 3, 1) := by decide +kernel
theorem dL_statesAreSo_462 : decode cL_statesAreSo 462 = .ok (.if_icmp .ne 29, 3) := by decide +kernel
theorem dL_statesAreSo_465 : decode cL_statesAreSo 465 = .ok (.aload_n 0, 1) := by decide +kernel
theorem dL_statesAreSo_466 : decode cL_statesAreSo 466 = .ok (.getfield 10, 3) := by decide +kernel
theorem dL_statesAreSo_469 : decode cL_statesAreSo 469 = .ok (.iload 5, 2) := by decide +kernel
theorem dL_statesAreSo_471 : decode cL_statesAreSo 471 = .ok (.iconst 3, 1) := by decide +kernel
theorem dL_statesAreSo_472 : decode cL_statesAreSo 472 = .ok (.invokestatic 146, 3) := by decide +kernel
theorem dL_statesAreSo_475 : decode cL_statesAreSo 475 = .ok (.aload_n 0, 1) := by decide +kernel
theorem dL_statesAreSo_476 : decode cL_statesAreSo 476 = .ok (.getfield 10, 3) := by decide +kernel
theorem dL_statesAreSo_479 : decode cL_statesAreSo 479 = .ok (.iload 5, 2) := by decide +kernel
theorem dL_statesAreSo_481 : decode cL_statesAreSo 481 = .ok (.bipush 18, 2) := by decide +kernel
theorem dL_statesAreSo_483 : decode cL_statesAreSo 483 = .ok (.invokestatic 146, 3) := by decide +kernel
theorem dL_statesAreSo_486 : decode cL_statesAreSo 486 = .ok (.if_icmp .eq 5, 3) := by decide +kernel
theorem dL_statesAreSo_489 : decode cL_statesAreSo 489 = .ok (.iconst 0, 1) := by decide +kernel
theorem dL_statesAreSo_490 : decode cL_statesAreSo 490 = .ok (.ireturn, 1) := by decide +kernel
theorem dL_statesAreSo_491 : decode cL_statesAreSo 491 = .ok (.aload_n 0, 1) := by decide +kernel
theorem dL_statesAreSo_492 : decode cL_statesAreSo 492 = .ok (.getfield 10, 3) := by decide +kernel
theorem dL_statesAreSo_495 : decode cL_statesAreSo 495 = .ok (.iload 5, 2) := by decide +kernel
theorem dL_statesAreSo_497 : decode cL_statesAreSo 497 = .ok (.bipush 13, 2) := by decide +kernel
theorem dL_statesAreSo_499 : decode cL_statesAreSo 499 = .ok (.invokestatic 146, 3) := by decide +kernel
theorem dL_statesAreSo_502 : decode cL_statesAreSo 502 = .ok (.aload_n 0, 1) := by decide +kernel
theorem dL_statesAreSo_503 : decode cL_statesAreSo 503 = .ok (.getfield 10, 3) := by decide +kernel
theorem dL_statesAreSo_506 : decode cL_statesAreSo 506 = .ok (.iload 5, 2) := by decide +kernel
theorem dL_statesAreSo_508 : decode cL_statesAreSo 508 = .ok (.bipush 14, 2) := by decide +kernel
theorem dL_statesAreSo_510 : decode cL_statesAreSo 510 = .ok (.invokestatic 146, 3) := by decide +kernel
theorem dL_statesAreSo_513 : decode cL_statesAreSo 513 = .ok (.iadd, 1) := by decide +kernel
theorem dL_statesAreSo_514 : decode cL_statesAreSo 514 = .ok (.aload_n 0, 1) := by decide +kernel
theorem dL_statesAreSo_515 : decode cL_statesAreSo 515 = .ok (.getfield 10, 3) := by decide +kernel
theorem dL_statesAreSo_518 : decode cL_statesAreSo 518 = .ok (.iload 5, 2) := by decide +kernel
theorem dL_statesAreSo_520 : decode cL_statesAreSo 520 = .ok (.bipush 15, 2) := by decide +kernel
theorem dL_statesAreSo_522 : decode cL_statesAreSo 522 = .ok (.invokestatic 146, 3) := by decide +kernel
theorem dL_statesAreSo_525 : decode cL_statesAreSo 525 = .ok (.iadd, 1) := by decide +kernel
theorem dL_statesAreSo_526 : decode cL_statesAreSo 526 = .ok (.aload_n 0, 1) := by decide +kernel
theorem dL_statesAreSo_527 : decode cL_statesAreSo 527 = .ok (.getfield 10, 3) := by decide +kernel
theorem dL_statesAreSo_530 : decode cL_statesAreSo 530 = .ok (.iload 5, 2) := by decide +kernel
theorem dL_statesAreSo_532 : decode cL_statesAreSo 532 = .ok (.bipush 16, 2) := by decide +kernel
theorem dL_statesAreSo_534 : decode cL_statesAreSo 534 = .ok (.invokestatic 146, 3) := by decide +kernel
theorem dL_statesAreSo_537 : decode cL_statesAreSo 537 = .ok (.iadd, 1) := by decide +kernel
theorem dL_statesAreSo_538 : decode cL_statesAreSo 538 = .ok (.istore 9, 2) := by decide +kernel
theorem dL_statesAreSo_540 : decode cL_statesAreSo 540 = .ok (.aload_n 0, 1) := by decide +kernel
theorem dL_statesAreSo_541 : decode cL_statesAreSo 541 = .ok (.getfield 10, 3) := by decide +kernel
theorem dL_statesAreSo_544 : decode cL_statesAreSo 544 = .ok (.iload 5, 2) := by decide +kernel
theorem dL_statesAreSo_546 : decode cL_statesAreSo 546 = .ok (.bipush 12, 2) := by decide +kernel
theorem dL_statesAreSo_548 : decode cL_statesAreSo 548 = .ok (.invokestatic 146, 3) := by decide +kernel
theorem dL_statesAreSo_551 : decode cL_statesAreSo 551 = .ok (.iload 9, 2) := by decide +kernel
theorem dL_statesAreSo_553 : decode cL_statesAreSo 553 = .ok (.iload 6, 2) := by decide +kernel
theorem dL_statesAreSo_555 : decode cL_statesAreSo 555 = .ok (.iconst 1, 1) := by decide +kernel
theorem dL_statesAreSo_556 : decode cL_statesAreSo 556 = .ok (.if_icmp .ne 7, 3) := by decide +kernel
theorem dL_statesAreSo_559 : decode cL_statesAreSo 559 = .ok (.iconst 1, 1) := by decide +kernel
theorem dL_statesAreSo_560 : decode cL_statesAreSo 560 = .ok (.goto 4, 3) := by decide +kernel
theorem dL_statesAreSo_563 : decode cL_statesAreSo 563 = .ok (.iconst 0, 1) := by decide +kernel
theorem dL_statesAreSo_564 : decode cL_statesAreSo 564 = .ok (.iadd, 1) := by decide +kernel
theorem dL_statesAreSo_565 : decode cL_statesAreSo 565 = .ok (.if_icmp .ne 66, 3) := by decide +kernel
theorem dL_statesAreSo_568 : decode cL_statesAreSo 568 = .ok (.aload_n 0, 1) := by decide +kernel
theorem dL_statesAreSo_569 : decode cL_statesAreSo 569 = .ok (.getfield 10, 3) := by decide +kernel
theorem dL_statesAreSo_572 : decode cL_statesAreSo 572 = .ok (.iload 5, 2) := by decide +kernel
theorem dL_statesAreSo_574 : decode cL_statesAreSo 574 = .ok (.bipush 11, 2) := by decide +kernel
theorem dL_statesAreSo_576 : decode cL_statesAreSo 576 = .ok (.invokestatic 146, 3) := by decide +kernel
theorem dL_statesAreSo_579 : decode cL_statesAreSo 579 = .ok (.aload_n 0, 1) := by decide +kernel
theorem dL_statesAreSo_580 : decode cL_statesAreSo 580 = .ok (.getfield 10, 3) := by decide +kernel
theorem dL_statesAreSo_583 : decode cL_statesAreSo 583 = .ok (.iconst 3, 1) := by decide +kernel
theorem dL_statesAreSo_584 : decode cL_statesAreSo 584 = .ok (.invokestatic 142, 3) := by decide +kernel
theorem dL_statesAreSo_587 : decode cL_statesAreSo 587 = .ok (.if_icmp .ge 44, 3) := by decide +kernel
theorem dL_statesAreSo_590 : decode cL_statesAreSo 590 = .ok (.aload_n 0, 1) := by decide +kernel
theorem dL_statesAreSo_591 : decode cL_statesAreSo 591 = .ok (.getfield 10, 3) := by decide +kernel
theorem dL_statesAreSo_594 : decode cL_statesAreSo 594 = .ok (.iload 5, 2) := by decide +kernel
theorem dL_statesAreSo_596 : decode cL_statesAreSo 596 = .ok (.bipush 10, 2) := by decide +kernel
theorem dL_statesAreSo_598 : decode cL_statesAreSo 598 = .ok (.invokestatic 146, 3) := by decide +kernel
theorem dL_statesAreSo_601 : decode cL_statesAreSo 601 = .ok (.ifCond .ne 7, 3) := by decide +kernel
theorem dL_statesAreSo_604 : decode cL_statesAreSo 604 = .ok (.iconst 1, 1) := by decide +kernel
theorem dL_statesAreSo_605 : decode cL_statesAreSo 605 = .ok (.goto 4, 3) := by decide +kernel
theorem dL_statesAreSo_608 : decode cL_statesAreSo 608 = .ok (.iconst 0, 1) := by decide +kernel
theorem dL_statesAreSo_609 : decode cL_statesAreSo 609 = .ok (.aload_n 0, 1) := by decide +kernel
theorem dL_statesAreSo_610 : decode cL_statesAreSo 610 = .ok (.getfield 10, 3) := by decide +kernel
theorem dL_statesAreSo_613 : decode cL_statesAreSo 613 = .ok (.iload 5, 2) := by decide +kernel
theorem dL_statesAreSo_615 : decode cL_statesAreSo 615 = .ok (.bipush 11, 2) := by decide +kernel
theorem dL_statesAreSo_617 : decode cL_statesAreSo 617 = .ok (.invokestatic 146, 3) := by decide +kernel
theorem dL_statesAreSo_620 : decode cL_statesAreSo 620 = .ok (.ifCond .ge 7, 3) := by decide +kernel
theorem dL_statesAreSo_623 : decode cL_statesAreSo 623 = .ok (.iconst 1, 1) := by decide +kernel
theorem dL_statesAreSo_624 : decode cL_statesAreSo 624 = .ok (.goto 4, 3) := by decide +kernel
theorem dL_statesAreSo_627 : decode cL_statesAreSo 627 = .ok (.iconst 0, 1) := by decide +kernel
theorem dL_statesAreSo_628 : decode cL_statesAreSo 628 = .ok (.if_icmp .eq 5, 3) := by decide +kernel
theorem dL_statesAreSo_631 : decode cL_statesAreSo 631 = .ok (.iconst 0, 1) := by decide +kernel
theorem dL_statesAreSo_632 : decode cL_statesAreSo 632 = .ok (.ireturn, 1) := by decide +kernel
theorem dL_statesAreSo_633 : decode cL_statesAreSo 633 = .ok (.aload_n 0, 1) := by decide +kernel
theorem dL_statesAreSo_634 : decode cL_statesAreSo 634 = .ok (.getfield 10, 3) := by decide +kernel
theorem dL_statesAreSo_637 : decode cL_statesAreSo 637 = .ok (.invokevirtual 153, 3) := by decide +kernel
theorem dL_statesAreSo_640 : decode cL_statesAreSo 640 = .ok (.iload 5, 2) := by decide +kernel
theorem dL_statesAreSo_642 : decode cL_statesAreSo 642 = .ok (.ishr, 1) := by decide +kernel
theorem dL_statesAreSo_643 : decode cL_statesAreSo 643 = .ok (.iconst 1, 1) := by decide +kernel
theorem dL_statesAreSo_644 : decode cL_statesAreSo 644 = .ok (.iand, 1) := by decide +kernel
theorem dL_statesAreSo_645 : decode cL_statesAreSo 645 = .ok (.iconst 1, 1) := by decide +kernel
theorem dL_statesAreSo_646 : decode cL_statesAreSo 646 = .ok (.if_icmp .ne 11, 3) := by decide +kernel
theorem dL_statesAreSo_649 : decode cL_statesAreSo 649 = .ok (.iload 6, 2) := by decide +kernel
theorem dL_statesAreSo_651 : decode cL_statesAreSo 651 = .ok (.iconst 2, 1) := by decide +kernel
theorem dL_statesAreSo_652 : decode cL_statesAreSo 652 = .ok (.if_icmp .ge 5, 3) := by decide +kernel
theorem dL_statesAreSo_655 : decode cL_statesAreSo 655 = .ok (.iconst 0, 1) := by decide +kernel
theorem dL_statesAreSo_656 : decode cL_statesAreSo 656 = .ok (.ireturn, 1) := by decide +kernel
theorem dL_statesAreSo_657 : decode cL_statesAreSo 657 = .ok (.iinc 5 1, 3) := by decide +kernel
theorem dL_statesAreSo_660 : decode cL_statesAreSo 660 = .ok (.goto (-402), 3) := by decide +kernel
theorem dL_statesAreSo_663 : decode cL_statesAreSo 663 = .ok (.iload_n 2, 1) := by decide +kernel
theorem dL_statesAreSo_664 : decode cL_statesAreSo 664 = .ok (.iload_n 1, 1) := by decide +kernel
theorem dL_statesAreSo_665 : decode cL_statesAreSo 665 = .ok (.if_icmp .ne 34, 3) := by decide +kernel
theorem dL_statesAreSo_668 : decode cL_statesAreSo 668 = .ok (.iload_n 3, 1) := by decide +kernel
theorem dL_statesAreSo_669 : decode cL_statesAreSo 669 = .ok (.aload_n 0, 1) := by decide +kernel
theorem dL_statesAreSo_670 : decode cL_statesAreSo 670 = .ok (.getfield 10, 3) := by decide +kernel
theorem dL_statesAreSo_673 : decode cL_statesAreSo 673 = .ok (.bipush 11, 2) := by decide +kernel
theorem dL_statesAreSo_675 : decode cL_statesAreSo 675 = .ok (.invokestatic 142, 3) := by decide +kernel
theorem dL_statesAreSo_678 : decode cL_statesAreSo 678 = .ok (.if_icmp .ne 21, 3) := by decide +kernel
theorem dL_statesAreSo_681 : decode cL_statesAreSo 681 = .ok (.iload 4, 2) := by decide +kernel
theorem dL_statesAreSo_683 : decode cL_statesAreSo 683 = .ok (.aload_n 0, 1) := by decide +kernel
theorem dL_statesAreSo_684 : decode cL_statesAreSo 684 = .ok (.getfield 10, 3) := by decide +kernel
theorem dL_statesAreSo_687 : decode cL_statesAreSo 687 = .ok (.bipush 7, 2) := by decide +kernel
theorem dL_statesAreSo_689 : decode cL_statesAreSo 689 = .ok (.invokestatic 142, 3) := by decide +kernel
theorem dL_statesAreSo_692 : decode cL_statesAreSo 692 = .ok (.if_icmp .ne 7, 3) := by decide +kernel
theorem dL_statesAreSo_695 : decode cL_statesAreSo 695 = .ok (.iconst 1, 1) := by decide +kernel
theorem dL_statesAreSo_696 : decode cL_statesAreSo 696 = .ok (.goto 4, 3) := by decide +kernel
theorem dL_statesAreSo_699 : decode cL_statesAreSo 699 = .ok (.iconst 0, 1) := by decide +kernel
theorem dL_statesAreSo_700 : decode cL_statesAreSo 700 = .ok (.ireturn, 1) := by decide +kernel
theorem dL_ticks_0 : decode cL_ticks 0 = .ok (.aload_n 0, 1) := by decide +kernel
theorem dL_ticks_1 : decode cL_ticks 1 = .ok (.getfield 10, 3) := by decide +kernel
theorem dL_ticks_4 : decode cL_ticks 4 = .ok (.iconst 2, 1) := by decide +kernel
theorem dL_ticks_5 : decode cL_ticks 5 = .ok (.invokestatic 142, 3) := by decide +kernel
theorem dL_ticks_8 : decode cL_ticks 8 = .ok (.istore_n 1, 1) := by decide +kernel
theorem dL_ticks_9 : decode cL_ticks 9 = .ok (.iconst 0, 1) := by decide +kernel
theorem dL_ticks_10 : decode cL_ticks 10 = .ok (.istore_n 2, 1) := by decide +kernel
theorem dL_ticks_11 : decode cL_ticks 11 = .ok (.aload_n 0, 1) := by decide +kernel
theorem dL_ticks_12 : decode cL_ticks 12 = .ok (.getfield 10, 3) := by decide +kernel
theorem dL_ticks_15 : decode cL_ticks 15 = .ok (.invokevirtual 157, 3) := by decide +kernel
theorem dL_ticks_18 : decode cL_ticks 18 = .ok (.istore_n 3, 1) := by decide +kernel
theorem dL_ticks_19 : decode cL_ticks 19 = .ok (.aload_n 0, 1) := by decide +kernel
theorem dL_ticks_20 : decode cL_ticks 20 = .ok (.getfield 10, 3) := by decide +kernel
theorem dL_ticks_23 : decode cL_ticks 23 = .ok (.iconst 3, 1) := by decide +kernel
theorem dL_ticks_24 : decode cL_ticks 24 = .ok (.invokestatic 142, 3) := by decide +kernel
theorem dL_ticks_27 : decode cL_ticks 27 = .ok (.istore 4, 2) := by decide +kernel
theorem dL_ticks_29 : decode cL_ticks 29 = .ok (.aload_n 0, 1) := by decide +kernel
theorem dL_ticks_30 : decode cL_ticks 30 = .ok (.getfield 10, 3) := by decide +kernel
theorem dL_ticks_33 : decode cL_ticks 33 = .ok (.bipush 12, 2) := by decide +kernel
theorem dL_ticks_35 : decode cL_ticks 35 = .ok (.invokestatic 142, 3) := by decide +kernel
theorem dL_ticks_38 : decode cL_ticks 38 = .ok (.istore 5, 2) := by decide +kernel
theorem dL_ticks_40 : decode cL_ticks 40 = .ok (.aload_n 0, 1) := by decide +kernel
theorem dL_ticks_41 : decode cL_ticks 41 = .ok (.getfield 10, 3) := by decide +kernel
theorem dL_ticks_44 : decode cL_ticks 44 = .ok (.bipush 8, 2) := by decide +kernel
theorem dL_ticks_46 : decode cL_ticks 46 = .ok (.invokestatic 142, 3) := by decide +kernel
theorem dL_ticks_49 : decode cL_ticks 49 = .ok (.istore 6, 2) := by decide +kernel
theorem dL_ticks_51 : decode cL_ticks 51 = .ok (.iload_n 3, 1) := by decide +kernel
theorem dL_ticks_52 : decode cL_ticks 52 = .ok (.ifCond .ge 7, 3) := by decide +kernel
theorem dL_ticks_55 : decode cL_ticks 55 = .ok (.iconst 0, 1) := by decide +kernel
theorem dL_ticks_56 : decode cL_ticks 56 = .ok (.goto 13, 3) := by decide +kernel
theorem dL_ticks_59 : decode cL_ticks 59 = .ok (.aload_n 0, 1) := by decide +kernel
theorem dL_ticks_60 : decode cL_ticks 60 = .ok (.getfield 10, 3) := by decide +kernel
theorem dL_ticks_63 : decode cL_ticks 63 = .ok (.iload_n 3, 1) := by decide +kernel
theorem dL_ticks_64 : decode cL_ticks 64 = .ok (.bipush 10, 2) := by decide +kernel
theorem dL_ticks_66 : decode cL_ticks 66 = .ok (.invokestatic 146, 3) := by decide +kernel
theorem dL_ticks_69 : decode cL_ticks 69 = .ok (.istore 7, 2) := by decide +kernel
theorem dL_ticks_71 : decode cL_ticks 71 = .ok (.iconst 0, 1) := by decide +kernel
theorem dL_ticks_72 : decode cL_ticks 72 = .ok (.istore 8, 2) := by decide +kernel
theorem dL_ticks_74 : decode cL_ticks 74 = .ok (.iload 8, 2) := by decide +kernel
theorem dL_ticks_76 : decode cL_ticks 76 = .ok (.iload_n 1, 1) := by decide +kernel
theorem dL_ticks_77 : decode cL_ticks 77 = .ok (.if_icmp .ge 23, 3) := by decide +kernel
theorem dL_ticks_80 : decode cL_ticks 80 = .ok (.iload_n 2, 1) := by decide +kernel
theorem dL_ticks_81 : decode cL_ticks 81 = .ok (.aload_n 0, 1) := by decide +kernel
theorem dL_ticks_82 : decode cL_ticks 82 = .ok (.getfield 10, 3) := by decide +kernel
theorem dL_ticks_85 : decode cL_ticks 85 = .ok (.iload 8, 2) := by decide +kernel
theorem dL_ticks_87 : decode cL_ticks 87 = .ok (.bipush 10, 2) := by decide +kernel
theorem dL_ticks_89 : decode cL_ticks 89 = .ok (.invokestatic 146, 3) := by decide +kernel
theorem dL_ticks_92 : decode cL_ticks 92 = .ok (.iadd, 1) := by decide +kernel
theorem dL_ticks_93 : decode cL_ticks 93 = .ok (.istore_n 2, 1) := by decide +kernel
theorem dL_ticks_94 : decode cL_ticks 94 = .ok (.iinc 8 1, 3) := by decide +kernel
theorem dL_ticks_97 : decode cL_ticks 97 = .ok (.goto (-23), 3) := by decide +kernel
theorem dL_ticks_100 : decode cL_ticks 100 = .ok (.aload_n 0, 1) := by decide +kernel
theorem dL_ticks_101 : decode cL_ticks 101 = .ok (.getfield 10, 3) := by decide +kernel
theorem dL_ticks_104 : decode cL_ticks 104 = .ok (.iconst 1, 1) := by decide +kernel
theorem dL_ticks_105 : decode cL_ticks 105 = .ok (.invokestatic 159, 3) := by decide +kernel
theorem dL_ticks_108 : decode cL_ticks 108 = .ok (.istore 8, 2) := by decide +kernel
theorem dL_ticks_110 : decode cL_ticks 110 = .ok (.iconst 0, 1) := by decide +kernel
theorem dL_ticks_111 : decode cL_ticks 111 = .ok (.istore 9, 2) := by decide +kernel
theorem dL_ticks_113 : decode cL_ticks 113 = .ok (.iload 9, 2) := by decide +kernel
theorem dL_ticks_115 : decode cL_ticks 115 = .ok (.iload_n 1, 1) := by decide +kernel
theorem dL_ticks_116 : decode cL_ticks 116 = .ok (.if_icmp .ge 23, 3) := by decide +kernel
theorem dL_ticks_119 : decode cL_ticks 119 = .ok (.iload_n 2, 1) := by decide +kernel
theorem dL_ticks_120 : decode cL_ticks 120 = .ok (.aload_n 0, 1) := by decide +kernel
theorem dL_ticks_121 : decode cL_ticks 121 = .ok (.getfield 10, 3) := by decide +kernel
theorem dL_ticks_124 : decode cL_ticks 124 = .ok (.iload 9, 2) := by decide +kernel
theorem dL_ticks_126 : decode cL_ticks 126 = .ok (.bipush 10, 2) := by decide +kernel
theorem dL_ticks_128 : decode cL_ticks 128 = .ok (.invokestatic 146, 3) := by decide +kernel
theorem dL_ticks_131 : decode cL_ticks 131 = .ok (.isub, 1) := by decide +kernel
theorem dL_ticks_132 : decode cL_ticks 132 = .ok (.istore_n 2, 1) := by decide +kernel
theorem dL_ticks_133 : decode cL_ticks 133 = .ok (.iinc 9 1, 3) := by decide +kernel
theorem dL_ticks_136 : decode cL_ticks 136 = .ok (.goto (-23), 3) := by decide +kernel
theorem dL_ticks_139 : decode cL_ticks 139 = .ok (.aload_n 0, 1) := by decide +kernel
theorem dL_ticks_140 : decode cL_ticks 140 = .ok (.getfield 10, 3) := by decide +kernel
theorem dL_ticks_143 : decode cL_ticks 143 = .ok (.iconst 3, 1) := by decide +kernel
theorem dL_ticks_144 : decode cL_ticks 144 = .ok (.invokestatic 142, 3) := by decide +kernel
theorem dL_ticks_147 : decode cL_ticks 147 = .ok (.iload 4, 2) := by decide +kernel
theorem dL_ticks_149 : decode cL_ticks 149 = .ok (.iconst 1, 1) := by decide +kernel
theorem dL_ticks_150 : decode cL_ticks 150 = .ok (.iadd, 1) := by decide +kernel
theorem dL_ticks_151 : decode cL_ticks 151 = .ok (.if_icmp .ne 20, 3) := by decide +kernel
theorem dL_ticks_154 : decode cL_ticks 154 = .ok (.iload 8, 2) := by decide +kernel
theorem dL_ticks_156 : decode cL_ticks 156 = .ok (.aload_n 0, 1) := by decide +kernel
theorem dL_ticks_157 : decode cL_ticks 157 = .ok (.getfield 10, 3) := by decide +kernel
theorem dL_ticks_160 : decode cL_ticks 160 = .ok (.bipush 8, 2) := by decide +kernel
theorem dL_ticks_162 : decode cL_ticks 162 = .ok (.invokestatic 142, 3) := by decide +kernel
theorem dL_ticks_165 : decode cL_ticks 165 = .ok (.iload 6, 2) := by decide +kernel
theorem dL_ticks_167 : decode cL_ticks 167 = .ok (.isub, 1) := by decide +kernel
theorem dL_ticks_168 : decode cL_ticks 168 = .ok (.if_icmp .eq 5, 3) := by decide +kernel
theorem dL_ticks_171 : decode cL_ticks 171 = .ok (.iconst 0, 1) := by decide +kernel
theorem dL_ticks_172 : decode cL_ticks 172 = .ok (.ireturn, 1) := by decide +kernel
theorem dL_ticks_173 : decode cL_ticks 173 = .ok (.iload_n 3, 1) := by decide +kernel
theorem dL_ticks_174 : decode cL_ticks 174 = .ok (.ifCond .ge 31, 3) := by decide +kernel
theorem dL_ticks_177 : decode cL_ticks 177 = .ok (.iload_n 2, 1) := by decide +kernel
theorem dL_ticks_178 : decode cL_ticks 178 = .ok (.ifCond .ne 23, 3) := by decide +kernel
theorem dL_ticks_181 : decode cL_ticks 181 = .ok (.aload_n 0, 1) := by decide +kernel
theorem dL_ticks_182 : decode cL_ticks 182 = .ok (.getfield 10, 3) := by decide +kernel
theorem dL_ticks_185 : decode cL_ticks 185 = .ok (.bipush 12, 2) := by decide +kernel
theorem dL_ticks_187 : decode cL_ticks 187 = .ok (.invokestatic 142, 3) := by decide +kernel
theorem dL_ticks_190 : decode cL_ticks 190 = .ok (.iload 5, 2) := by decide +kernel
theorem dL_ticks_192 : decode cL_ticks 192 = .ok (.iconst 1, 1) := by decide +kernel
theorem dL_ticks_193 : decode cL_ticks 193 = .ok (.iadd, 1) := by decide +kernel
theorem dL_ticks_194 : decode cL_ticks 194 = .ok (.if_icmp .ne 7, 3) := by decide +kernel
theorem dL_ticks_197 : decode cL_ticks 197 = .ok (.iconst 1, 1) := by decide +kernel
theorem dL_ticks_198 : decode cL_ticks 198 = .ok (.goto 63, 3) := by decide +kernel
theorem dL_ticks_201 : decode cL_ticks 201 = .ok (.iconst 0, 1) := by decide +kernel
theorem dL_ticks_202 : decode cL_ticks 202 = .ok (.goto 59, 3) := by decide +kernel
theorem dL_ticks_205 : decode cL_ticks 205 = .ok (.iload_n 2, 1) := by decide +kernel
theorem dL_ticks_206 : decode cL_ticks 206 = .ok (.iconst (-1), 1) := by decide +kernel
theorem dL_ticks_207 : decode cL_ticks 207 = .ok (.if_icmp .ne 53, 3) := by decide +kernel
theorem dL_ticks_210 : decode cL_ticks 210 = .ok (.aload_n 0, 1) := by decide +kernel
theorem dL_ticks_211 : decode cL_ticks 211 = .ok (.getfield 10, 3) := by decide +kernel
theorem dL_ticks_214 : decode cL_ticks 214 = .ok (.bipush 12, 2) := by decide +kernel
theorem dL_ticks_216 : decode cL_ticks 216 = .ok (.invokestatic 142, 3) := by decide +kernel
theorem dL_ticks_219 : decode cL_ticks 219 = .ok (.iload 5, 2) := by decide +kernel
theorem dL_ticks_221 : decode cL_ticks 221 = .ok (.if_icmp .ne 39, 3) := by decide +kernel
theorem dL_ticks_224 : decode cL_ticks 224 = .ok (.aload_n 0, 1) := by decide +kernel
theorem dL_ticks_225 : decode cL_ticks 225 = .ok (.getfield 10, 3) := by decide +kernel
theorem dL_ticks_228 : decode cL_ticks 228 = .ok (.iload_n 3, 1) := by decide +kernel
theorem dL_ticks_229 : decode cL_ticks 229 = .ok (.bipush 10, 2) := by decide +kernel
theorem dL_ticks_231 : decode cL_ticks 231 = .ok (.invokestatic 146, 3) := by decide +kernel
theorem dL_ticks_234 : decode cL_ticks 234 = .ok (.iload 7, 2) := by decide +kernel
theorem dL_ticks_236 : decode cL_ticks 236 = .ok (.iconst 1, 1) := by decide +kernel
theorem dL_ticks_237 : decode cL_ticks 237 = .ok (.iadd, 1) := by decide +kernel
theorem dL_ticks_238 : decode cL_ticks 238 = .ok (.if_icmp .ne 22, 3) := by decide +kernel
theorem dL_ticks_241 : decode cL_ticks 241 = .ok (.aload_n 0, 1) := by decide +kernel
theorem dL_ticks_242 : decode cL_ticks 242 = .ok (.getfield 10, 3) := by decide +kernel
theorem dL_ticks_245 : decode cL_ticks 245 = .ok (.iload_n 3, 1) := by decide +kernel
theorem dL_ticks_246 : decode cL_ticks 246 = .ok (.bipush 11, 2) := by decide +kernel
theorem dL_ticks_248 : decode cL_ticks 248 = .ok (.invokestatic 146, 3) := by decide +kernel
theorem dL_ticks_251 : decode cL_ticks 251 = .ok (.iload 4, 2) := by decide +kernel
theorem dL_ticks_253 : decode cL_ticks 253 = .ok (.if_icmp .ne 7, 3) := by decide +kernel
theorem dL_ticks_256 : decode cL_ticks 256 = .ok (.iconst 1, 1) := by decide +kernel
theorem dL_ticks_257 : decode cL_ticks 257 = .ok (.goto 4, 3) := by decide +kernel
theorem dL_ticks_260 : decode cL_ticks 260 = .ok (.iconst 0, 1) := by decide +kernel
theorem dL_ticks_261 : decode cL_ticks 261 = .ok (.ireturn, 1) := by decide +kernel
theorem dL_nobodyAhead_0 : decode cL_nobodyAhead 0 = .ok (.aload_n 0, 1) := by decide +kernel
theorem dL_nobodyAhead_1 : decode cL_nobodyAhead 1 = .ok (.getfield 10, 3) := by decide +kernel
theorem dL_nobodyAhead_4 : decode cL_nobodyAhead 4 = .ok (.invokevirtual 157, 3) := by decide +kernel
theorem dL_nobodyAhead_7 : decode cL_nobodyAhead 7 = .ok (.istore_n 1, 1) := by decide +kernel
theorem dL_nobodyAhead_8 : decode cL_nobodyAhead 8 = .ok (.aload_n 0, 1) := by decide +kernel
theorem dL_nobodyAhead_9 : decode cL_nobodyAhead 9 = .ok (.getfield 10, 3) := by decide +kernel
theorem dL_nobodyAhead_12 : decode cL_nobodyAhead 12 = .ok (.iconst 0, 1) := by decide +kernel
theorem dL_nobodyAhead_13 : decode cL_nobodyAhead 13 = .ok (.invokestatic 142, 3) := by decide +kernel
theorem dL_nobodyAhead_16 : decode cL_nobodyAhead 16 = .ok (.ifCond .gt 19, 3) := by decide +kernel
theorem dL_nobodyAhead_19 : decode cL_nobodyAhead 19 = .ok (.iload_n 1, 1) := by decide +kernel
theorem dL_nobodyAhead_20 : decode cL_nobodyAhead 20 = .ok (.ifCond .lt 17, 3) := by decide +kernel
theorem dL_nobodyAhead_23 : decode cL_nobodyAhead 23 = .ok (.aload_n 0, 1) := by decide +kernel
theorem dL_nobodyAhead_24 : decode cL_nobodyAhead 24 = .ok (.getfield 10, 3) := by decide +kernel
theorem dL_nobodyAhead_27 : decode cL_nobodyAhead 27 = .ok (.iload_n 1, 1) := by decide +kernel
theorem dL_nobodyAhead_28 : decode cL_nobodyAhead 28 = .ok (.iconst 2, 1) := by decide +kernel
theorem dL_nobodyAhead_29 : decode cL_nobodyAhead 29 = .ok (.invokestatic 146, 3) := by decide +kernel
theorem dL_nobodyAhead_32 : decode cL_nobodyAhead 32 = .ok (.ifCond .eq 5, 3) := by decide +kernel
theorem dL_nobodyAhead_35 : decode cL_nobodyAhead 35 = .ok (.iconst 1, 1) := by decide +kernel
theorem dL_nobodyAhead_36 : decode cL_nobodyAhead 36 = .ok (.ireturn, 1) := by decide +kernel
theorem dL_nobodyAhead_37 : decode cL_nobodyAhead 37 = .ok (.iconst 0, 1) := by decide +kernel
theorem dL_nobodyAhead_38 : decode cL_nobodyAhead 38 = .ok (.istore_n 2, 1) := by decide +kernel
theorem dL_nobodyAhead_39 : decode cL_nobodyAhead 39 = .ok (.iload_n 2, 1) := by decide +kernel
theorem dL_nobodyAhead_40 : decode cL_nobodyAhead 40 = .ok (.aload_n 0, 1) := by decide +kernel
theorem dL_nobodyAhead_41 : decode cL_nobodyAhead 41 = .ok (.getfield 10, 3) := by decide +kernel
theorem dL_nobodyAhead_44 : decode cL_nobodyAhead 44 = .ok (.iconst 2, 1) := by decide +kernel
theorem dL_nobodyAhead_45 : decode cL_nobodyAhead 45 = .ok (.invokestatic 142, 3) := by decide +kernel
theorem dL_nobodyAhead_48 : decode cL_nobodyAhead 48 = .ok (.if_icmp .ge 48, 3) := by decide +kernel
theorem dL_nobodyAhead_51 : decode cL_nobodyAhead 51 = .ok (.aload_n 0, 1) := by decide +kernel
theorem dL_nobodyAhead_52 : decode cL_nobodyAhead 52 = .ok (.getfield 10, 3) := by decide +kernel
theorem dL_nobodyAhead_55 : decode cL_nobodyAhead 55 = .ok (.iload_n 2, 1) := by decide +kernel
theorem dL_nobodyAhead_56 : decode cL_nobodyAhead 56 = .ok (.iconst 2, 1) := by decide +kernel
theorem dL_nobodyAhead_57 : decode cL_nobodyAhead 57 = .ok (.invokestatic 146, 3) := by decide +kernel
theorem dL_nobodyAhead_60 : decode cL_nobodyAhead 60 = .ok (.ifCond .ne 30, 3) := by decide +kernel
theorem dL_nobodyAhead_63 : decode cL_nobodyAhead 63 = .ok (.iload_n 1, 1) := by decide +kernel
theorem dL_nobodyAhead_64 : decode cL_nobodyAhead 64 = .ok (.ifCond .lt 24, 3) := by decide +kernel
theorem dL_nobodyAhead_67 : decode cL_nobodyAhead 67 = .ok (.aload_n 0, 1) := by decide +kernel
theorem dL_nobodyAhead_68 : decode cL_nobodyAhead 68 = .ok (.getfield 10, 3) := by decide +kernel
theorem dL_nobodyAhead_71 : decode cL_nobodyAhead 71 = .ok (.iload_n 2, 1) := by decide +kernel
theorem dL_nobodyAhead_72 : decode cL_nobodyAhead 72 = .ok (.iconst 1, 1) := by decide +kernel
theorem dL_nobodyAhead_73 : decode cL_nobodyAhead 73 = .ok (.invokestatic 146, 3) := by decide +kernel
theorem dL_nobodyAhead_76 : decode cL_nobodyAhead 76 = .ok (.aload_n 0, 1) := by decide +kernel
theorem dL_nobodyAhead_77 : decode cL_nobodyAhead 77 = .ok (.getfield 10, 3) := by decide +kernel
theorem dL_nobodyAhead_80 : decode cL_nobodyAhead 80 = .ok (.iload_n 1, 1) := by decide +kernel
theorem dL_nobodyAhead_81 : decode cL_nobodyAhead 81 = .ok (.iconst 1, 1) := by decide +kernel
theorem dL_nobodyAhead_82 : decode cL_nobodyAhead 82 = .ok (.invokestatic 146, 3) := by decide +kernel
theorem dL_nobodyAhead_85 : decode cL_nobodyAhead 85 = .ok (.if_icmp .le 5, 3) := by decide +kernel
theorem dL_nobodyAhead_88 : decode cL_nobodyAhead 88 = .ok (.iconst 0, 1) := by decide +kernel
theorem dL_nobodyAhead_89 : decode cL_nobodyAhead 89 = .ok (.ireturn, 1) := by decide +kernel
theorem dL_nobodyAhead_90 : decode cL_nobodyAhead 90 = .ok (.iinc 2 1, 3) := by decide +kernel
theorem dL_nobodyAhead_93 : decode cL_nobodyAhead 93 = .ok (.goto (-54), 3) := by decide +kernel
theorem dL_nobodyAhead_96 : decode cL_nobodyAhead 96 = .ok (.iconst 1, 1) := by decide +kernel
theorem dL_nobodyAhead_97 : decode cL_nobodyAhead 97 = .ok (.ireturn, 1) := by decide +kernel
theorem dL_calls_0 : decode cL_calls 0 = .ok (.aload_n 0, 1) := by decide +kernel
theorem dL_calls_1 : decode cL_calls 1 = .ok (.aload_n 0, 1) := by decide +kernel
theorem dL_calls_2 : decode cL_calls 2 = .ok (.getfield 10, 3) := by decide +kernel
theorem dL_calls_5 : decode cL_calls 5 = .ok (.iconst 2, 1) := by decide +kernel
theorem dL_calls_6 : decode cL_calls 6 = .ok (.invokestatic 142, 3) := by decide +kernel
theorem dL_calls_9 : decode cL_calls 9 = .ok (.invokevirtual 127, 3) := by decide +kernel
theorem dL_calls_12 : decode cL_calls 12 = .ok (.istore_n 1, 1) := by decide +kernel
theorem dL_calls_13 : decode cL_calls 13 = .ok (.aload_n 0, 1) := by decide +kernel
theorem dL_calls_14 : decode cL_calls 14 = .ok (.getfield 10, 3) := by decide +kernel
theorem dL_calls_17 : decode cL_calls 17 = .ok (.iload_n 1, 1) := by decide +kernel
theorem dL_calls_18 : decode cL_calls 18 = .ok (.iconst 2, 1) := by decide +kernel
theorem dL_calls_19 : decode cL_calls 19 = .ok (.invokestatic 146, 3) := by decide +kernel
theorem dL_calls_22 : decode cL_calls 22 = .ok (.istore_n 2, 1) := by decide +kernel
theorem dL_calls_23 : decode cL_calls 23 = .ok (.aload_n 0, 1) := by decide +kernel
theorem dL_calls_24 : decode cL_calls 24 = .ok (.getfield 10, 3) := by decide +kernel
theorem dL_calls_27 : decode cL_calls 27 = .ok (.iload_n 1, 1) := by decide +kernel
theorem dL_calls_28 : decode cL_calls 28 = .ok (.iconst 4, 1) := by decide +kernel
theorem dL_calls_29 : decode cL_calls 29 = .ok (.invokestatic 146, 3) := by decide +kernel
theorem dL_calls_32 : decode cL_calls 32 = .ok (.istore_n 3, 1) := by decide +kernel
theorem dL_calls_33 : decode cL_calls 33 = .ok (.aload_n 0, 1) := by decide +kernel
theorem dL_calls_34 : decode cL_calls 34 = .ok (.getfield 10, 3) := by decide +kernel
theorem dL_calls_37 : decode cL_calls 37 = .ok (.iload_n 1, 1) := by decide +kernel
theorem dL_calls_38 : decode cL_calls 38 = .ok (.iconst 5, 1) := by decide +kernel
theorem dL_calls_39 : decode cL_calls 39 = .ok (.invokestatic 146, 3) := by decide +kernel
theorem dL_calls_42 : decode cL_calls 42 = .ok (.istore 4, 2) := by decide +kernel
theorem dL_calls_44 : decode cL_calls 44 = .ok (.aload_n 0, 1) := by decide +kernel
theorem dL_calls_45 : decode cL_calls 45 = .ok (.getfield 10, 3) := by decide +kernel
theorem dL_calls_48 : decode cL_calls 48 = .ok (.iload_n 1, 1) := by decide +kernel
theorem dL_calls_49 : decode cL_calls 49 = .ok (.bipush 18, 2) := by decide +kernel
theorem dL_calls_51 : decode cL_calls 51 = .ok (.invokestatic 146, 3) := by decide +kernel
theorem dL_calls_54 : decode cL_calls 54 = .ok (.istore 5, 2) := by decide +kernel
theorem dL_calls_56 : decode cL_calls 56 = .ok (.aload_n 0, 1) := by decide +kernel
theorem dL_calls_57 : decode cL_calls 57 = .ok (.getfield 10, 3) := by decide +kernel
theorem dL_calls_60 : decode cL_calls 60 = .ok (.iload_n 1, 1) := by decide +kernel
theorem dL_calls_61 : decode cL_calls 61 = .ok (.iconst 3, 1) := by decide +kernel
theorem dL_calls_62 : decode cL_calls 62 = .ok (.invokestatic 146, 3) := by decide +kernel
theorem dL_calls_65 : decode cL_calls 65 = .ok (.istore 6, 2) := by decide +kernel
theorem dL_calls_67 : decode cL_calls 67 = .ok (.aload_n 0, 1) := by decide +kernel
theorem dL_calls_68 : decode cL_calls 68 = .ok (.getfield 10, 3) := by decide +kernel
theorem dL_calls_71 : decode cL_calls 71 = .ok (.bipush 14, 2) := by decide +kernel
theorem dL_calls_73 : decode cL_calls 73 = .ok (.invokestatic 142, 3) := by decide +kernel
theorem dL_calls_76 : decode cL_calls 76 = .ok (.istore 7, 2) := by decide +kernel
theorem dL_calls_78 : decode cL_calls 78 = .ok (.aload_n 0, 1) := by decide +kernel
theorem dL_calls_79 : decode cL_calls 79 = .ok (.getfield 10, 3) := by decide +kernel
theorem dL_calls_82 : decode cL_calls 82 = .ok (.bipush 15, 2) := by decide +kernel
theorem dL_calls_84 : decode cL_calls 84 = .ok (.invokestatic 142, 3) := by decide +kernel
theorem dL_calls_87 : decode cL_calls 87 = .ok (.istore 8, 2) := by decide +kernel
theorem dL_calls_89 : decode cL_calls 89 = .ok (.aload_n 0, 1) := by decide +kernel
theorem dL_calls_90 : decode cL_calls 90 = .ok (.getfield 10, 3) := by decide +kernel
theorem dL_calls_93 : decode cL_calls 93 = .ok (.iconst 1, 1) := by decide +kernel
theorem dL_calls_94 : decode cL_calls 94 = .ok (.iconst (-1), 1) := by decide +kernel
theorem dL_calls_95 : decode cL_calls 95 = .ok (.invokestatic 161, 3) := by decide +kernel
theorem dL_calls_98 : decode cL_calls 98 = .ok (.istore 9, 2) := by decide +kernel
theorem dL_calls_100 : decode cL_calls 100 = .ok (.aload_n 0, 1) := by decide +kernel
theorem dL_calls_101 : decode cL_calls 101 = .ok (.iconst 5, 1) := by decide +kernel
theorem dL_calls_102 : decode cL_calls 102 = .ok (.invokevirtual 127, 3) := by decide +kernel
theorem dL_calls_105 : decode cL_calls 105 = .ok (.tableswitch 460 0 3 #[31, 220, 336, 382], 31) := by decide +kernel
theorem dL_calls_136 : decode cL_calls 136 = .ok (.aload_n 0, 1) := by decide +kernel
theorem dL_calls_137 : decode cL_calls 137 = .ok (.getfield 10, 3) := by decide +kernel
theorem dL_calls_140 : decode cL_calls 140 = .ok (.iload_n 1, 1) := by decide +kernel
theorem dL_calls_141 : decode cL_calls 141 = .ok (.invokestatic 163, 3) := by decide +kernel
theorem dL_calls_144 : decode cL_calls 144 = .ok (.istore 10, 2) := by decide +kernel
theorem dL_calls_146 : decode cL_calls 146 = .ok (.iload 10, 2) := by decide +kernel
theorem dL_calls_148 : decode cL_calls 148 = .ok (.iload_n 2, 1) := by decide +kernel
theorem dL_calls_149 : decode cL_calls 149 = .ok (.iconst 1, 1) := by decide +kernel
theorem dL_calls_150 : decode cL_calls 150 = .ok (.if_icmp .ne 7, 3) := by decide +kernel
theorem dL_calls_153 : decode cL_calls 153 = .ok (.iconst 0, 1) := by decide +kernel
theorem dL_calls_154 : decode cL_calls 154 = .ok (.goto 22, 3) := by decide +kernel
theorem dL_calls_157 : decode cL_calls 157 = .ok (.iload_n 2, 1) := by decide +kernel
theorem dL_calls_158 : decode cL_calls 158 = .ok (.iconst 2, 1) := by decide +kernel
theorem dL_calls_159 : decode cL_calls 159 = .ok (.if_icmp .le 7, 3) := by decide +kernel
theorem dL_calls_162 : decode cL_calls 162 = .ok (.iconst 3, 1) := by decide +kernel
theorem dL_calls_163 : decode cL_calls 163 = .ok (.goto 13, 3) := by decide +kernel
theorem dL_calls_166 : decode cL_calls 166 = .ok (.iload_n 3, 1) := by decide +kernel
theorem dL_calls_167 : decode cL_calls 167 = .ok (.iconst 1, 1) := by decide +kernel
theorem dL_calls_168 : decode cL_calls 168 = .ok (.if_icmp .ne 7, 3) := by decide +kernel
theorem dL_calls_171 : decode cL_calls 171 = .ok (.iconst 2, 1) := by decide +kernel
theorem dL_calls_172 : decode cL_calls 172 = .ok (.goto 4, 3) := by decide +kernel
theorem dL_calls_175 : decode cL_calls 175 = .ok (.iconst 1, 1) := by decide +kernel
theorem dL_calls_176 : decode cL_calls 176 = .ok (.if_icmp .eq 5, 3) := by decide +kernel
theorem dL_calls_179 : decode cL_calls 179 = .ok (.iconst 0, 1) := by decide +kernel
theorem dL_calls_180 : decode cL_calls 180 = .ok (.ireturn, 1) := by decide +kernel
theorem dL_calls_181 : decode cL_calls 181 = .ok (.iload 10, 2) := by decide +kernel
theorem dL_calls_183 : decode cL_calls 183 = .ok (.ifCond .ne 47, 3) := by decide +kernel
theorem dL_calls_186 : decode cL_calls 186 = .ok (.aload_n 0, 1) := by decide +kernel
theorem dL_calls_187 : decode cL_calls 187 = .ok (.getfield 10, 3) := by decide +kernel
theorem dL_calls_190 : decode cL_calls 190 = .ok (.iload_n 1, 1) := by decide +kernel
theorem dL_calls_191 : decode cL_calls 191 = .ok (.bipush 6, 2) := by decide +kernel
theorem dL_calls_193 : decode cL_calls 193 = .ok (.invokestatic 146, 3) := by decide +kernel
theorem dL_calls_196 : decode cL_calls 196 = .ok (.iconst 1, 1) := by decide +kernel
theorem dL_calls_197 : decode cL_calls 197 = .ok (.if_icmp .ne 31, 3) := by decide +kernel
theorem dL_calls_200 : decode cL_calls 200 = .ok (.aload_n 0, 1) := by decide +kernel
theorem dL_calls_201 : decode cL_calls 201 = .ok (.getfield 10, 3) := by decide +kernel
theorem dL_calls_204 : decode cL_calls 204 = .ok (.iload_n 1, 1) := by decide +kernel
theorem dL_calls_205 : decode cL_calls 205 = .ok (.iconst 2, 1) := by decide +kernel
theorem dL_calls_206 : decode cL_calls 206 = .ok (.invokestatic 146, 3) := by decide +kernel
theorem dL_calls_209 : decode cL_calls 209 = .ok (.iload 6, 2) := by decide +kernel
theorem dL_calls_211 : decode cL_calls 211 = .ok (.iload 5, 2) := by decide +kernel
theorem dL_calls_213 : decode cL_calls 213 = .ok (.if_icmp .ne 7, 3) := by decide +kernel
theorem dL_calls_216 : decode cL_calls 216 = .ok (.iconst 3, 1) := by decide +kernel
theorem dL_calls_217 : decode cL_calls 217 = .ok (.goto 4, 3) := by decide +kernel
theorem dL_calls_220 : decode cL_calls 220 = .ok (.iconst 0, 1) := by decide +kernel
theorem dL_calls_221 : decode cL_calls 221 = .ok (.if_icmp .ne 7, 3) := by decide +kernel
theorem dL_calls_224 : decode cL_calls 224 = .ok (.iconst 1, 1) := by decide +kernel
theorem dL_calls_225 : decode cL_calls 225 = .ok (.goto 4, 3) := by decide +kernel
theorem dL_calls_228 : decode cL_calls 228 = .ok (.iconst 0, 1) := by decide +kernel
theorem dL_calls_229 : decode cL_calls 229 = .ok (.ireturn, 1) := by decide +kernel
theorem dL_calls_230 : decode cL_calls 230 = .ok (.aload_n 0, 1) := by decide +kernel
theorem dL_calls_231 : decode cL_calls 231 = .ok (.getfield 10, 3) := by decide +kernel
theorem dL_calls_234 : decode cL_calls 234 = .ok (.iload_n 1, 1) := by decide +kernel
theorem dL_calls_235 : decode cL_calls 235 = .ok (.iconst 4, 1) := by decide +kernel
theorem dL_calls_236 : decode cL_calls 236 = .ok (.invokestatic 146, 3) := by decide +kernel
theorem dL_calls_239 : decode cL_calls 239 = .ok (.iload 10, 2) := by decide +kernel
theorem dL_calls_241 : decode cL_calls 241 = .ok (.iconst 1, 1) := by decide +kernel
theorem dL_calls_242 : decode cL_calls 242 = .ok (.if_icmp .ne 7, 3) := by decide +kernel
theorem dL_calls_245 : decode cL_calls 245 = .ok (.iconst 1, 1) := by decide +kernel
theorem dL_calls_246 : decode cL_calls 246 = .ok (.goto 4, 3) := by decide +kernel
theorem dL_calls_249 : decode cL_calls 249 = .ok (.iload_n 3, 1) := by decide +kernel
theorem dL_calls_250 : decode cL_calls 250 = .ok (.if_icmp .ne 73, 3) := by decide +kernel
theorem dL_calls_253 : decode cL_calls 253 = .ok (.aload_n 0, 1) := by decide +kernel
theorem dL_calls_254 : decode cL_calls 254 = .ok (.getfield 10, 3) := by decide +kernel
theorem dL_calls_257 : decode cL_calls 257 = .ok (.bipush 14, 2) := by decide +kernel
theorem dL_calls_259 : decode cL_calls 259 = .ok (.invokestatic 142, 3) := by decide +kernel
theorem dL_calls_262 : decode cL_calls 262 = .ok (.iload 7, 2) := by decide +kernel
theorem dL_calls_264 : decode cL_calls 264 = .ok (.iload 10, 2) := by decide +kernel
theorem dL_calls_266 : decode cL_calls 266 = .ok (.iconst 2, 1) := by decide +kernel
theorem dL_calls_267 : decode cL_calls 267 = .ok (.if_icmp .ne 7, 3) := by decide +kernel
theorem dL_calls_270 : decode cL_calls 270 = .ok (.iconst 1, 1) := by decide +kernel
theorem dL_calls_271 : decode cL_calls 271 = .ok (.goto 4, 3) := by decide +kernel
theorem dL_calls_274 : decode cL_calls 274 = .ok (.iconst 0, 1) := by decide +kernel
theorem dL_calls_275 : decode cL_calls 275 = .ok (.iadd, 1) := by decide +kernel
theorem dL_calls_276 : decode cL_calls 276 = .ok (.if_icmp .ne 47, 3) := by decide +kernel
theorem dL_calls_279 : decode cL_calls 279 = .ok (.aload_n 0, 1) := by decide +kernel
theorem dL_calls_280 : decode cL_calls 280 = .ok (.getfield 10, 3) := by decide +kernel
theorem dL_calls_283 : decode cL_calls 283 = .ok (.bipush 15, 2) := by decide +kernel
theorem dL_calls_285 : decode cL_calls 285 = .ok (.invokestatic 142, 3) := by decide +kernel
theorem dL_calls_288 : decode cL_calls 288 = .ok (.iload 8, 2) := by decide +kernel
theorem dL_calls_290 : decode cL_calls 290 = .ok (.iload 10, 2) := by decide +kernel
theorem dL_calls_292 : decode cL_calls 292 = .ok (.iconst 3, 1) := by decide +kernel
theorem dL_calls_293 : decode cL_calls 293 = .ok (.if_icmp .ne 7, 3) := by decide +kernel
theorem dL_calls_296 : decode cL_calls 296 = .ok (.iconst 1, 1) := by decide +kernel
theorem dL_calls_297 : decode cL_calls 297 = .ok (.goto 4, 3) := by decide +kernel
theorem dL_calls_300 : decode cL_calls 300 = .ok (.iconst 0, 1) := by decide +kernel
theorem dL_calls_301 : decode cL_calls 301 = .ok (.iadd, 1) := by decide +kernel
theorem dL_calls_302 : decode cL_calls 302 = .ok (.if_icmp .ne 21, 3) := by decide +kernel
theorem dL_calls_305 : decode cL_calls 305 = .ok (.aload_n 0, 1) := by decide +kernel
theorem dL_calls_306 : decode cL_calls 306 = .ok (.getfield 10, 3) := by decide +kernel
theorem dL_calls_309 : decode cL_calls 309 = .ok (.iconst 1, 1) := by decide +kernel
theorem dL_calls_310 : decode cL_calls 310 = .ok (.iconst (-1), 1) := by decide +kernel
theorem dL_calls_311 : decode cL_calls 311 = .ok (.invokestatic 161, 3) := by decide +kernel
theorem dL_calls_314 : decode cL_calls 314 = .ok (.iload 9, 2) := by decide +kernel
theorem dL_calls_316 : decode cL_calls 316 = .ok (.if_icmp .gt 7, 3) := by decide +kernel
theorem dL_calls_319 : decode cL_calls 319 = .ok (.iconst 1, 1) := by decide +kernel
theorem dL_calls_320 : decode cL_calls 320 = .ok (.goto 4, 3) := by decide +kernel
theorem dL_calls_323 : decode cL_calls 323 = .ok (.iconst 0, 1) := by decide +kernel
theorem dL_calls_324 : decode cL_calls 324 = .ok (.ireturn, 1) := by decide +kernel
theorem dL_calls_325 : decode cL_calls 325 = .ok (.aload_n 0, 1) := by decide +kernel
theorem dL_calls_326 : decode cL_calls 326 = .ok (.getfield 10, 3) := by decide +kernel
theorem dL_calls_329 : decode cL_calls 329 = .ok (.iload_n 1, 1) := by decide +kernel
theorem dL_calls_330 : decode cL_calls 330 = .ok (.invokestatic 165, 3) := by decide +kernel
theorem dL_calls_333 : decode cL_calls 333 = .ok (.istore 10, 2) := by decide +kernel
theorem dL_calls_335 : decode cL_calls 335 = .ok (.iload 10, 2) := by decide +kernel
theorem dL_calls_337 : decode cL_calls 337 = .ok (.iload_n 2, 1) := by decide +kernel
theorem dL_calls_338 : decode cL_calls 338 = .ok (.iconst 1, 1) := by decide +kernel
theorem dL_calls_339 : decode cL_calls 339 = .ok (.if_icmp .ne 7, 3) := by decide +kernel
theorem dL_calls_342 : decode cL_calls 342 = .ok (.iconst 0, 1) := by decide +kernel
theorem dL_calls_343 : decode cL_calls 343 = .ok (.goto 23, 3) := by decide +kernel
theorem dL_calls_346 : decode cL_calls 346 = .ok (.iload_n 2, 1) := by decide +kernel
theorem dL_calls_347 : decode cL_calls 347 = .ok (.iconst 2, 1) := by decide +kernel
theorem dL_calls_348 : decode cL_calls 348 = .ok (.if_icmp .le 7, 3) := by decide +kernel
theorem dL_calls_351 : decode cL_calls 351 = .ok (.iconst 3, 1) := by decide +kernel
theorem dL_calls_352 : decode cL_calls 352 = .ok (.goto 14, 3) := by decide +kernel
theorem dL_calls_355 : decode cL_calls 355 = .ok (.iload 4, 2) := by decide +kernel
theorem dL_calls_357 : decode cL_calls 357 = .ok (.iconst 1, 1) := by decide +kernel
theorem dL_calls_358 : decode cL_calls 358 = .ok (.if_icmp .ne 7, 3) := by decide +kernel
theorem dL_calls_361 : decode cL_calls 361 = .ok (.iconst 2, 1) := by decide +kernel
theorem dL_calls_362 : decode cL_calls 362 = .ok (.goto 4, 3) := by decide +kernel
theorem dL_calls_365 : decode cL_calls 365 = .ok (.iconst 1, 1) := by decide +kernel
theorem dL_calls_366 : decode cL_calls 366 = .ok (.if_icmp .eq 5, 3) := by decide +kernel
theorem dL_calls_369 : decode cL_calls 369 = .ok (.iconst 0, 1) := by decide +kernel
theorem dL_calls_370 : decode cL_calls 370 = .ok (.ireturn, 1) := by decide +kernel
theorem dL_calls_371 : decode cL_calls 371 = .ok (.iload 10, 2) := by decide +kernel
theorem dL_calls_373 : decode cL_calls 373 = .ok (.ifCond .ne 25, 3) := by decide +kernel
theorem dL_calls_376 : decode cL_calls 376 = .ok (.aload_n 0, 1) := by decide +kernel
theorem dL_calls_377 : decode cL_calls 377 = .ok (.getfield 10, 3) := by decide +kernel
theorem dL_calls_380 : decode cL_calls 380 = .ok (.iload_n 1, 1) := by decide +kernel
theorem dL_calls_381 : decode cL_calls 381 = .ok (.bipush 6, 2) := by decide +kernel
theorem dL_calls_383 : decode cL_calls 383 = .ok (.invokestatic 146, 3) := by decide +kernel
theorem dL_calls_386 : decode cL_calls 386 = .ok (.iconst 4, 1) := by decide +kernel
theorem dL_calls_387 : decode cL_calls 387 = .ok (.if_icmp .ne 7, 3) := by decide +kernel
theorem dL_calls_390 : decode cL_calls 390 = .ok (.iconst 1, 1) := by decide +kernel
theorem dL_calls_391 : decode cL_calls 391 = .ok (.goto 49, 3) := by decide +kernel
theorem dL_calls_394 : decode cL_calls 394 = .ok (.iconst 0, 1) := by decide +kernel
theorem dL_calls_395 : decode cL_calls 395 = .ok (.goto 45, 3) := by decide +kernel
theorem dL_calls_398 : decode cL_calls 398 = .ok (.aload_n 0, 1) := by decide +kernel
theorem dL_calls_399 : decode cL_calls 399 = .ok (.getfield 10, 3) := by decide +kernel
theorem dL_calls_402 : decode cL_calls 402 = .ok (.iload_n 1, 1) := by decide +kernel
theorem dL_calls_403 : decode cL_calls 403 = .ok (.iconst 2, 1) := by decide +kernel
theorem dL_calls_404 : decode cL_calls 404 = .ok (.invokestatic 146, 3) := by decide +kernel
theorem dL_calls_407 : decode cL_calls 407 = .ok (.iload_n 2, 1) := by decide +kernel
theorem dL_calls_408 : decode cL_calls 408 = .ok (.if_icmp .ne 31, 3) := by decide +kernel
theorem dL_calls_411 : decode cL_calls 411 = .ok (.aload_n 0, 1) := by decide +kernel
theorem dL_calls_412 : decode cL_calls 412 = .ok (.getfield 10, 3) := by decide +kernel
theorem dL_calls_415 : decode cL_calls 415 = .ok (.iload_n 1, 1) := by decide +kernel
theorem dL_calls_416 : decode cL_calls 416 = .ok (.iconst 5, 1) := by decide +kernel
theorem dL_calls_417 : decode cL_calls 417 = .ok (.invokestatic 146, 3) := by decide +kernel
theorem dL_calls_420 : decode cL_calls 420 = .ok (.iload 10, 2) := by decide +kernel
theorem dL_calls_422 : decode cL_calls 422 = .ok (.iconst 3, 1) := by decide +kernel
theorem dL_calls_423 : decode cL_calls 423 = .ok (.if_icmp .ne 8, 3) := by decide +kernel
theorem dL_calls_426 : decode cL_calls 426 = .ok (.iload 4, 2) := by decide +kernel
theorem dL_calls_428 : decode cL_calls 428 = .ok (.goto 4, 3) := by decide +kernel
theorem dL_calls_431 : decode cL_calls 431 = .ok (.iconst 1, 1) := by decide +kernel
theorem dL_calls_432 : decode cL_calls 432 = .ok (.if_icmp .ne 7, 3) := by decide +kernel
theorem dL_calls_435 : decode cL_calls 435 = .ok (.iconst 1, 1) := by decide +kernel
theorem dL_calls_436 : decode cL_calls 436 = .ok (.goto 4, 3) := by decide +kernel
theorem dL_calls_439 : decode cL_calls 439 = .ok (.iconst 0, 1) := by decide +kernel
theorem dL_calls_440 : decode cL_calls 440 = .ok (.ireturn, 1) := by decide +kernel
theorem dL_calls_441 : decode cL_calls 441 = .ok (.aload_n 0, 1) := by decide +kernel
theorem dL_calls_442 : decode cL_calls 442 = .ok (.getfield 10, 3) := by decide +kernel
theorem dL_calls_445 : decode cL_calls 445 = .ok (.iload_n 1, 1) := by decide +kernel
theorem dL_calls_446 : decode cL_calls 446 = .ok (.invokestatic 167, 3) := by decide +kernel
theorem dL_calls_449 : decode cL_calls 449 = .ok (.iload_n 2, 1) := by decide +kernel
theorem dL_calls_450 : decode cL_calls 450 = .ok (.iconst 1, 1) := by decide +kernel
theorem dL_calls_451 : decode cL_calls 451 = .ok (.if_icmp .ne 7, 3) := by decide +kernel
theorem dL_calls_454 : decode cL_calls 454 = .ok (.iconst 1, 1) := by decide +kernel
theorem dL_calls_455 : decode cL_calls 455 = .ok (.goto 4, 3) := by decide +kernel
theorem dL_calls_458 : decode cL_calls 458 = .ok (.iconst 0, 1) := by decide +kernel
theorem dL_calls_459 : decode cL_calls 459 = .ok (.if_icmp .ne 26, 3) := by decide +kernel
theorem dL_calls_462 : decode cL_calls 462 = .ok (.iload_n 2, 1) := by decide +kernel
theorem dL_calls_463 : decode cL_calls 463 = .ok (.iconst 1, 1) := by decide +kernel
theorem dL_calls_464 : decode cL_calls 464 = .ok (.if_icmp .ne 17, 3) := by decide +kernel
theorem dL_calls_467 : decode cL_calls 467 = .ok (.aload_n 0, 1) := by decide +kernel
theorem dL_calls_468 : decode cL_calls 468 = .ok (.getfield 10, 3) := by decide +kernel
theorem dL_calls_471 : decode cL_calls 471 = .ok (.iload_n 1, 1) := by decide +kernel
theorem dL_calls_472 : decode cL_calls 472 = .ok (.bipush 6, 2) := by decide +kernel
theorem dL_calls_474 : decode cL_calls 474 = .ok (.invokestatic 146, 3) := by decide +kernel
theorem dL_calls_477 : decode cL_calls 477 = .ok (.iconst 3, 1) := by decide +kernel
theorem dL_calls_478 : decode cL_calls 478 = .ok (.if_icmp .ne 7, 3) := by decide +kernel
theorem dL_calls_481 : decode cL_calls 481 = .ok (.iconst 1, 1) := by decide +kernel
theorem dL_calls_482 : decode cL_calls 482 = .ok (.goto 4, 3) := by decide +kernel
theorem dL_calls_485 : decode cL_calls 485 = .ok (.iconst 0, 1) := by decide +kernel
theorem dL_calls_486 : decode cL_calls 486 = .ok (.ireturn, 1) := by decide +kernel
theorem dL_calls_487 : decode cL_calls 487 = .ok (.aload_n 0, 1) := by decide +kernel
theorem dL_calls_488 : decode cL_calls 488 = .ok (.bipush 8, 2) := by decide +kernel
theorem dL_calls_490 : decode cL_calls 490 = .ok (.invokevirtual 127, 3) := by decide +kernel
theorem dL_calls_493 : decode cL_calls 493 = .ok (.istore 10, 2) := by decide +kernel
theorem dL_calls_495 : decode cL_calls 495 = .ok (.aload_n 0, 1) := by decide +kernel
theorem dL_calls_496 : decode cL_calls 496 = .ok (.getfield 10, 3) := by decide +kernel
theorem dL_calls_499 : decode cL_calls 499 = .ok (.iload 10, 2) := by decide +kernel
theorem dL_calls_501 : decode cL_calls 501 = .ok (.invokestatic 169, 3) := by decide +kernel
theorem dL_calls_504 : decode cL_calls 504 = .ok (.istore 11, 2) := by decide +kernel
theorem dL_calls_506 : decode cL_calls 506 = .ok (.aload_n 0, 1) := by decide +kernel
theorem dL_calls_507 : decode cL_calls 507 = .ok (.getfield 10, 3) := by decide +kernel
theorem dL_calls_510 : decode cL_calls 510 = .ok (.iload 10, 2) := by decide +kernel
theorem dL_calls_512 : decode cL_calls 512 = .ok (.iload 11, 2) := by decide +kernel
theorem dL_calls_514 : decode cL_calls 514 = .ok (.ifCond .ne 7, 3) := by decide +kernel
theorem dL_calls_517 : decode cL_calls 517 = .ok (.iconst 1, 1) := by decide +kernel
theorem dL_calls_518 : decode cL_calls 518 = .ok (.goto 4, 3) := by decide +kernel
theorem dL_calls_521 : decode cL_calls 521 = .ok (.iconst 0, 1) := by decide +kernel
theorem dL_calls_522 : decode cL_calls 522 = .ok (.invokestatic 171, 3) := by decide +kernel
theorem dL_calls_525 : decode cL_calls 525 = .ok (.iload 11, 2) := by decide +kernel
theorem dL_calls_527 : decode cL_calls 527 = .ok (.if_icmp .ne 36, 3) := by decide +kernel
theorem dL_calls_530 : decode cL_calls 530 = .ok (.aload_n 0, 1) := by decide +kernel
theorem dL_calls_531 : decode cL_calls 531 = .ok (.getfield 10, 3) := by decide +kernel
theorem dL_calls_534 : decode cL_calls 534 = .ok (.iload 10, 2) := by decide +kernel
theorem dL_calls_536 : decode cL_calls 536 = .ok (.invokestatic 169, 3) := by decide +kernel
theorem dL_calls_539 : decode cL_calls 539 = .ok (.iconst 1, 1) := by decide +kernel
theorem dL_calls_540 : decode cL_calls 540 = .ok (.iload 11, 2) := by decide +kernel
theorem dL_calls_542 : decode cL_calls 542 = .ok (.isub, 1) := by decide +kernel
theorem dL_calls_543 : decode cL_calls 543 = .ok (.if_icmp .ne 20, 3) := by decide +kernel
theorem dL_calls_546 : decode cL_calls 546 = .ok (.aload_n 0, 1) := by decide +kernel
theorem dL_calls_547 : decode cL_calls 547 = .ok (.getfield 10, 3) := by decide +kernel
theorem dL_calls_550 : decode cL_calls 550 = .ok (.iload_n 1, 1) := by decide +kernel
theorem dL_calls_551 : decode cL_calls 551 = .ok (.iconst 2, 1) := by decide +kernel
theorem dL_calls_552 : decode cL_calls 552 = .ok (.invokestatic 146, 3) := by decide +kernel
theorem dL_calls_555 : decode cL_calls 555 = .ok (.iload_n 2, 1) := by decide +kernel
theorem dL_calls_556 : decode cL_calls 556 = .ok (.if_icmp .ne 7, 3) := by decide +kernel
theorem dL_calls_559 : decode cL_calls 559 = .ok (.iconst 1, 1) := by decide +kernel
theorem dL_calls_560 : decode cL_calls 560 = .ok (.goto 4, 3) := by decide +kernel
theorem dL_calls_563 : decode cL_calls 563 = .ok (.iconst 0, 1) := by decide +kernel
theorem dL_calls_564 : decode cL_calls 564 = .ok (.ireturn, 1) := by decide +kernel
theorem dL_calls_565 : decode cL_calls 565 = .ok (.iconst 1, 1) := by decide +kernel
theorem dL_calls_566 : decode cL_calls 566 = .ok (.aload_n 0, 1) := by decide +kernel
theorem dL_calls_567 : decode cL_calls 567 = .ok (.bipush 9, 2) := by decide +kernel
theorem dL_calls_569 : decode cL_calls 569 = .ok (.invokevirtual 127, 3) := by decide +kernel
theorem dL_calls_572 : decode cL_calls 572 = .ok (.iadd, 1) := by decide +kernel
theorem dL_calls_573 : decode cL_calls 573 = .ok (.istore 10, 2) := by decide +kernel
theorem dL_calls_575 : decode cL_calls 575 = .ok (.aload_n 0, 1) := by decide +kernel
theorem dL_calls_576 : decode cL_calls 576 = .ok (.getfield 10, 3) := by decide +kernel
theorem dL_calls_579 : decode cL_calls 579 = .ok (.iload_n 1, 1) := by decide +kernel
theorem dL_calls_580 : decode cL_calls 580 = .ok (.iconst 0, 1) := by decide +kernel
theorem dL_calls_581 : decode cL_calls 581 = .ok (.invokestatic 146, 3) := by decide +kernel
theorem dL_calls_584 : decode cL_calls 584 = .ok (.istore 11, 2) := by decide +kernel
theorem dL_calls_586 : decode cL_calls 586 = .ok (.aload_n 0, 1) := by decide +kernel
theorem dL_calls_587 : decode cL_calls 587 = .ok (.getfield 10, 3) := by decide +kernel
theorem dL_calls_590 : decode cL_calls 590 = .ok (.iload_n 1, 1) := by decide +kernel
theorem dL_calls_591 : decode cL_calls 591 = .ok (.iload 10, 2) := by decide +kernel
theorem dL_calls_593 : decode cL_calls 593 = .ok (.invokestatic 174, 3) := by decide +kernel
theorem dL_calls_596 : decode cL_calls 596 = .ok (.iload 11, 2) := by decide +kernel
theorem dL_calls_598 : decode cL_calls 598 = .ok (.if_icmp .ne 21, 3) := by decide +kernel
theorem dL_calls_601 : decode cL_calls 601 = .ok (.aload_n 0, 1) := by decide +kernel
theorem dL_calls_602 : decode cL_calls 602 = .ok (.getfield 10, 3) := by decide +kernel
theorem dL_calls_605 : decode cL_calls 605 = .ok (.iload_n 1, 1) := by decide +kernel
theorem dL_calls_606 : decode cL_calls 606 = .ok (.iconst 0, 1) := by decide +kernel
theorem dL_calls_607 : decode cL_calls 607 = .ok (.invokestatic 146, 3) := by decide +kernel
theorem dL_calls_610 : decode cL_calls 610 = .ok (.iload 10, 2) := by decide +kernel
theorem dL_calls_612 : decode cL_calls 612 = .ok (.if_icmp .ne 7, 3) := by decide +kernel
theorem dL_calls_615 : decode cL_calls 615 = .ok (.iconst 1, 1) := by decide +kernel
theorem dL_calls_616 : decode cL_calls 616 = .ok (.goto 4, 3) := by decide +kernel
theorem dL_calls_619 : decode cL_calls 619 = .ok (.iconst 0, 1) := by decide +kernel
theorem dL_calls_620 : decode cL_calls 620 = .ok (.ireturn, 1) := by decide +kernel
theorem dL_eventsAreSo_0 : decode cL_eventsAreSo 0 = .ok (.aload_n 0, 1) := by decide +kernel
theorem dL_eventsAreSo_1 : decode cL_eventsAreSo 1 = .ok (.getfield 10, 3) := by decide +kernel
theorem dL_eventsAreSo_4 : decode cL_eventsAreSo 4 = .ok (.bipush 13, 2) := by decide +kernel
theorem dL_eventsAreSo_6 : decode cL_eventsAreSo 6 = .ok (.invokestatic 142, 3) := by decide +kernel
theorem dL_eventsAreSo_9 : decode cL_eventsAreSo 9 = .ok (.istore_n 1, 1) := by decide +kernel
theorem dL_eventsAreSo_10 : decode cL_eventsAreSo 10 = .ok (.iconst 0, 1) := by decide +kernel
theorem dL_eventsAreSo_11 : decode cL_eventsAreSo 11 = .ok (.istore_n 2, 1) := by decide +kernel
theorem dL_eventsAreSo_12 : decode cL_eventsAreSo 12 = .ok (.iconst 0, 1) := by decide +kernel
theorem dL_eventsAreSo_13 : decode cL_eventsAreSo 13 = .ok (.istore_n 3, 1) := by decide +kernel
theorem dL_eventsAreSo_14 : decode cL_eventsAreSo 14 = .ok (.iload_n 3, 1) := by decide +kernel
theorem dL_eventsAreSo_15 : decode cL_eventsAreSo 15 = .ok (.bipush 10, 2) := by decide +kernel
theorem dL_eventsAreSo_17 : decode cL_eventsAreSo 17 = .ok (.if_icmp .ge 70, 3) := by decide +kernel
theorem dL_eventsAreSo_20 : decode cL_eventsAreSo 20 = .ok (.iconst 0, 1) := by decide +kernel
theorem dL_eventsAreSo_21 : decode cL_eventsAreSo 21 = .ok (.istore 4, 2) := by decide +kernel
theorem dL_eventsAreSo_23 : decode cL_eventsAreSo 23 = .ok (.iconst 0, 1) := by decide +kernel
theorem dL_eventsAreSo_24 : decode cL_eventsAreSo 24 = .ok (.istore 5, 2) := by decide +kernel
theorem dL_eventsAreSo_26 : decode cL_eventsAreSo 26 = .ok (.iload 5, 2) := by decide +kernel
theorem dL_eventsAreSo_28 : decode cL_eventsAreSo 28 = .ok (.aload_n 0, 1) := by decide +kernel
theorem dL_eventsAreSo_29 : decode cL_eventsAreSo 29 = .ok (.getfield 10, 3) := by decide +kernel
theorem dL_eventsAreSo_32 : decode cL_eventsAreSo 32 = .ok (.iconst 2, 1) := by decide +kernel
theorem dL_eventsAreSo_33 : decode cL_eventsAreSo 33 = .ok (.invokestatic 142, 3) := by decide +kernel
theorem dL_eventsAreSo_36 : decode cL_eventsAreSo 36 = .ok (.if_icmp .ge 24, 3) := by decide +kernel
theorem dL_eventsAreSo_39 : decode cL_eventsAreSo 39 = .ok (.iload 4, 2) := by decide +kernel
theorem dL_eventsAreSo_41 : decode cL_eventsAreSo 41 = .ok (.aload_n 0, 1) := by decide +kernel
theorem dL_eventsAreSo_42 : decode cL_eventsAreSo 42 = .ok (.getfield 10, 3) := by decide +kernel
theorem dL_eventsAreSo_45 : decode cL_eventsAreSo 45 = .ok (.iload_n 3, 1) := by decide +kernel
theorem dL_eventsAreSo_46 : decode cL_eventsAreSo 46 = .ok (.iload 5, 2) := by decide +kernel
theorem dL_eventsAreSo_48 : decode cL_eventsAreSo 48 = .ok (.invokestatic 161, 3) := by decide +kernel
theorem dL_eventsAreSo_51 : decode cL_eventsAreSo 51 = .ok (.iadd, 1) := by decide +kernel
theorem dL_eventsAreSo_52 : decode cL_eventsAreSo 52 = .ok (.istore 4, 2) := by decide +kernel
theorem dL_eventsAreSo_54 : decode cL_eventsAreSo 54 = .ok (.iinc 5 1, 3) := by decide +kernel
theorem dL_eventsAreSo_57 : decode cL_eventsAreSo 57 = .ok (.goto (-31), 3) := by decide +kernel
theorem dL_eventsAreSo_60 : decode cL_eventsAreSo 60 = .ok (.iload 4, 2) := by decide +kernel
theorem dL_eventsAreSo_62 : decode cL_eventsAreSo 62 = .ok (.aload_n 0, 1) := by decide +kernel
theorem dL_eventsAreSo_63 : decode cL_eventsAreSo 63 = .ok (.getfield 10, 3) := by decide +kernel
theorem dL_eventsAreSo_66 : decode cL_eventsAreSo 66 = .ok (.iload_n 3, 1) := by decide +kernel
theorem dL_eventsAreSo_67 : decode cL_eventsAreSo 67 = .ok (.iconst (-1), 1) := by decide +kernel
theorem dL_eventsAreSo_68 : decode cL_eventsAreSo 68 = .ok (.invokestatic 161, 3) := by decide +kernel
theorem dL_eventsAreSo_71 : decode cL_eventsAreSo 71 = .ok (.if_icmp .eq 5, 3) := by decide +kernel
theorem dL_eventsAreSo_74 : decode cL_eventsAreSo 74 = .ok (.iconst 0, 1) := by decide +kernel
theorem dL_eventsAreSo_75 : decode cL_eventsAreSo 75 = .ok (.ireturn, 1) := by decide +kernel
theorem dL_eventsAreSo_76 : decode cL_eventsAreSo 76 = .ok (.iload_n 2, 1) := by decide +kernel
theorem dL_eventsAreSo_77 : decode cL_eventsAreSo 77 = .ok (.iload 4, 2) := by decide +kernel
theorem dL_eventsAreSo_79 : decode cL_eventsAreSo 79 = .ok (.iadd, 1) := by decide +kernel
theorem dL_eventsAreSo_80 : decode cL_eventsAreSo 80 = .ok (.istore_n 2, 1) := by decide +kernel
theorem dL_eventsAreSo_81 : decode cL_eventsAreSo 81 = .ok (.iinc 3 1, 3) := by decide +kernel
theorem dL_eventsAreSo_84 : decode cL_eventsAreSo 84 = .ok (.goto (-70), 3) := by decide +kernel
theorem dL_eventsAreSo_87 : decode cL_eventsAreSo 87 = .ok (.iconst 0, 1) := by decide +kernel
theorem dL_eventsAreSo_88 : decode cL_eventsAreSo 88 = .ok (.istore_n 3, 1) := by decide +kernel
theorem dL_eventsAreSo_89 : decode cL_eventsAreSo 89 = .ok (.iload_n 3, 1) := by decide +kernel
theorem dL_eventsAreSo_90 : decode cL_eventsAreSo 90 = .ok (.iload_n 1, 1) := by decide +kernel
theorem dL_eventsAreSo_91 : decode cL_eventsAreSo 91 = .ok (.if_icmp .ge 166, 3) := by decide +kernel
theorem dL_eventsAreSo_94 : decode cL_eventsAreSo 94 = .ok (.aload_n 0, 1) := by decide +kernel
theorem dL_eventsAreSo_95 : decode cL_eventsAreSo 95 = .ok (.getfield 10, 3) := by decide +kernel
theorem dL_eventsAreSo_98 : decode cL_eventsAreSo 98 = .ok (.iload_n 3, 1) := by decide +kernel
theorem dL_eventsAreSo_99 : decode cL_eventsAreSo 99 = .ok (.iconst 1, 1) := by decide +kernel
theorem dL_eventsAreSo_100 : decode cL_eventsAreSo 100 = .ok (.invokestatic 176, 3) := by decide +kernel
theorem dL_eventsAreSo_103 : decode cL_eventsAreSo 103 = .ok (.istore 4, 2) := by decide +kernel
theorem dL_eventsAreSo_105 : decode cL_eventsAreSo 105 = .ok (.aload_n 0, 1) := by decide +kernel
theorem dL_eventsAreSo_106 : decode cL_eventsAreSo 106 = .ok (.getfield 10, 3) := by decide +kernel
theorem dL_eventsAreSo_109 : decode cL_eventsAreSo 109 = .ok (.iload_n 3, 1) := by decide +kernel
theorem dL_eventsAreSo_110 : decode cL_eventsAreSo 110 = .ok (.iconst 2, 1) := by decide +kernel
theorem dL_eventsAreSo_111 : decode cL_eventsAreSo 111 = .ok (.invokestatic 176, 3) := by decide +kernel
theorem dL_eventsAreSo_114 : decode cL_eventsAreSo 114 = .ok (.istore 5, 2) := by decide +kernel
theorem dL_eventsAreSo_116 : decode cL_eventsAreSo 116 = .ok (.aload_n 0, 1) := by decide +kernel
theorem dL_eventsAreSo_117 : decode cL_eventsAreSo 117 = .ok (.getfield 10, 3) := by decide +kernel
theorem dL_eventsAreSo_120 : decode cL_eventsAreSo 120 = .ok (.iload_n 3, 1) := by decide +kernel
theorem dL_eventsAreSo_121 : decode cL_eventsAreSo 121 = .ok (.iconst 3, 1) := by decide +kernel
theorem dL_eventsAreSo_122 : decode cL_eventsAreSo 122 = .ok (.invokestatic 176, 3) := by decide +kernel
theorem dL_eventsAreSo_125 : decode cL_eventsAreSo 125 = .ok (.istore 6, 2) := by decide +kernel
theorem dL_eventsAreSo_127 : decode cL_eventsAreSo 127 = .ok (.aload_n 0, 1) := by decide +kernel
theorem dL_eventsAreSo_128 : decode cL_eventsAreSo 128 = .ok (.getfield 10, 3) := by decide +kernel
theorem dL_eventsAreSo_131 : decode cL_eventsAreSo 131 = .ok (.iload_n 3, 1) := by decide +kernel
theorem dL_eventsAreSo_132 : decode cL_eventsAreSo 132 = .ok (.iconst 0, 1) := by decide +kernel
theorem dL_eventsAreSo_133 : decode cL_eventsAreSo 133 = .ok (.invokestatic 176, 3) := by decide +kernel
theorem dL_eventsAreSo_136 : decode cL_eventsAreSo 136 = .ok (.aload_n 0, 1) := by decide +kernel
theorem dL_eventsAreSo_137 : decode cL_eventsAreSo 137 = .ok (.getfield 10, 3) := by decide +kernel
theorem dL_eventsAreSo_140 : decode cL_eventsAreSo 140 = .ok (.iconst 3, 1) := by decide +kernel
theorem dL_eventsAreSo_141 : decode cL_eventsAreSo 141 = .ok (.invokestatic 142, 3) := by decide +kernel
theorem dL_eventsAreSo_144 : decode cL_eventsAreSo 144 = .ok (.if_icmp .gt 30, 3) := by decide +kernel
theorem dL_eventsAreSo_147 : decode cL_eventsAreSo 147 = .ok (.iload_n 3, 1) := by decide +kernel
theorem dL_eventsAreSo_148 : decode cL_eventsAreSo 148 = .ok (.ifCond .le 28, 3) := by decide +kernel
theorem dL_eventsAreSo_151 : decode cL_eventsAreSo 151 = .ok (.aload_n 0, 1) := by decide +kernel
theorem dL_eventsAreSo_152 : decode cL_eventsAreSo 152 = .ok (.getfield 10, 3) := by decide +kernel
theorem dL_eventsAreSo_155 : decode cL_eventsAreSo 155 = .ok (.iload_n 3, 1) := by decide +kernel
theorem dL_eventsAreSo_156 : decode cL_eventsAreSo 156 = .ok (.iconst 0, 1) := by decide +kernel
theorem dL_eventsAreSo_157 : decode cL_eventsAreSo 157 = .ok (.invokestatic 176, 3) := by decide +kernel
theorem dL_eventsAreSo_160 : decode cL_eventsAreSo 160 = .ok (.aload_n 0, 1) := by decide +kernel
theorem dL_eventsAreSo_161 : decode cL_eventsAreSo 161 = .ok (.getfield 10, 3) := by decide +kernel
theorem dL_eventsAreSo_164 : decode cL_eventsAreSo 164 = .ok (.iload_n 3, 1) := by decide +kernel
theorem dL_eventsAreSo_165 : decode cL_eventsAreSo 165 = .ok (.iconst 1, 1) := by decide +kernel
theorem dL_eventsAreSo_166 : decode cL_eventsAreSo 166 = .ok (.isub, 1) := by decide +kernel
theorem dL_eventsAreSo_167 : decode cL_eventsAreSo 167 = .ok (.iconst 0, 1) := by decide +kernel
theorem dL_eventsAreSo_168 : decode cL_eventsAreSo 168 = .ok (.invokestatic 176, 3) := by decide +kernel
theorem dL_eventsAreSo_171 : decode cL_eventsAreSo 171 = .ok (.if_icmp .ge 5, 3) := by decide +kernel
theorem dL_eventsAreSo_174 : decode cL_eventsAreSo 174 = .ok (.iconst 0, 1) := by decide +kernel
theorem dL_eventsAreSo_175 : decode cL_eventsAreSo 175 = .ok (.ireturn, 1) := by decide +kernel
theorem dL_eventsAreSo_176 : decode cL_eventsAreSo 176 = .ok (.iload 4, 2) := by decide +kernel
theorem dL_eventsAreSo_178 : decode cL_eventsAreSo 178 = .ok (.iconst 1, 1) := by decide +kernel
theorem dL_eventsAreSo_179 : decode cL_eventsAreSo 179 = .ok (.if_icmp .ne 15, 3) := by decide +kernel
theorem dL_eventsAreSo_182 : decode cL_eventsAreSo 182 = .ok (.iload 6, 2) := by decide +kernel
theorem dL_eventsAreSo_184 : decode cL_eventsAreSo 184 = .ok (.iconst 1, 1) := by decide +kernel
theorem dL_eventsAreSo_185 : decode cL_eventsAreSo 185 = .ok (.if_icmp .lt 64, 3) := by decide +kernel
theorem dL_eventsAreSo_188 : decode cL_eventsAreSo 188 = .ok (.iload 6, 2) := by decide +kernel
theorem dL_eventsAreSo_190 : decode cL_eventsAreSo 190 = .ok (.iconst 4, 1) := by decide +kernel
theorem dL_eventsAreSo_191 : decode cL_eventsAreSo 191 = .ok (.if_icmp .gt 58, 3) := by decide +kernel
theorem dL_eventsAreSo_194 : decode cL_eventsAreSo 194 = .ok (.iload 4, 2) := by decide +kernel
theorem dL_eventsAreSo_196 : decode cL_eventsAreSo 196 = .ok (.bipush 7, 2) := by decide +kernel
theorem dL_eventsAreSo_198 : decode cL_eventsAreSo 198 = .ok (.if_icmp .ne 10, 3) := by decide +kernel
theorem dL_eventsAreSo_201 : decode cL_eventsAreSo 201 = .ok (.iload 6, 2) := by decide +kernel
theorem dL_eventsAreSo_203 : decode cL_eventsAreSo 203 = .ok (.bipush (-2), 2) := by decide +kernel
theorem dL_eventsAreSo_205 : decode cL_eventsAreSo 205 = .ok (.if_icmp .eq 44, 3) := by decide +kernel
theorem dL_eventsAreSo_208 : decode cL_eventsAreSo 208 = .ok (.iload 4, 2) := by decide +kernel
theorem dL_eventsAreSo_210 : decode cL_eventsAreSo 210 = .ok (.iconst 5, 1) := by decide +kernel
theorem dL_eventsAreSo_211 : decode cL_eventsAreSo 211 = .ok (.if_icmp .ne 17, 3) := by decide +kernel
theorem dL_eventsAreSo_214 : decode cL_eventsAreSo 214 = .ok (.aload_n 0, 1) := by decide +kernel
theorem dL_eventsAreSo_215 : decode cL_eventsAreSo 215 = .ok (.getfield 10, 3) := by decide +kernel
theorem dL_eventsAreSo_218 : decode cL_eventsAreSo 218 = .ok (.iload 5, 2) := by decide +kernel
theorem dL_eventsAreSo_220 : decode cL_eventsAreSo 220 = .ok (.iconst 2, 1) := by decide +kernel
theorem dL_eventsAreSo_221 : decode cL_eventsAreSo 221 = .ok (.invokestatic 146, 3) := by decide +kernel
theorem dL_eventsAreSo_224 : decode cL_eventsAreSo 224 = .ok (.iconst 3, 1) := by decide +kernel
theorem dL_eventsAreSo_225 : decode cL_eventsAreSo 225 = .ok (.if_icmp .ne 24, 3) := by decide +kernel
theorem dL_eventsAreSo_228 : decode cL_eventsAreSo 228 = .ok (.iload 4, 2) := by decide +kernel
theorem dL_eventsAreSo_230 : decode cL_eventsAreSo 230 = .ok (.bipush 6, 2) := by decide +kernel
theorem dL_eventsAreSo_232 : decode cL_eventsAreSo 232 = .ok (.if_icmp .ne 19, 3) := by decide +kernel
theorem dL_eventsAreSo_235 : decode cL_eventsAreSo 235 = .ok (.aload_n 0, 1) := by decide +kernel
theorem dL_eventsAreSo_236 : decode cL_eventsAreSo 236 = .ok (.getfield 10, 3) := by decide +kernel
theorem dL_eventsAreSo_239 : decode cL_eventsAreSo 239 = .ok (.iload 5, 2) := by decide +kernel
theorem dL_eventsAreSo_241 : decode cL_eventsAreSo 241 = .ok (.iconst 2, 1) := by decide +kernel
theorem dL_eventsAreSo_242 : decode cL_eventsAreSo 242 = .ok (.invokestatic 146, 3) := by decide +kernel
theorem dL_eventsAreSo_245 : decode cL_eventsAreSo 245 = .ok (.iconst 4, 1) := by decide +kernel
theorem dL_eventsAreSo_246 : decode cL_eventsAreSo 246 = .ok (.if_icmp .eq 5, 3) := by decide +kernel
theorem dL_eventsAreSo_249 : decode cL_eventsAreSo 249 = .ok (.iconst 0, 1) := by decide +kernel
theorem dL_eventsAreSo_250 : decode cL_eventsAreSo 250 = .ok (.ireturn, 1) := by decide +kernel
theorem dL_eventsAreSo_251 : decode cL_eventsAreSo 251 = .ok (.iinc 3 1, 3) := by decide +kernel
theorem dL_eventsAreSo_254 : decode cL_eventsAreSo 254 = .ok (.goto (-165), 3) := by decide +kernel
theorem dL_eventsAreSo_257 : decode cL_eventsAreSo 257 = .ok (.iload_n 2, 1) := by decide +kernel
theorem dL_eventsAreSo_258 : decode cL_eventsAreSo 258 = .ok (.iload_n 1, 1) := by decide +kernel
theorem dL_eventsAreSo_259 : decode cL_eventsAreSo 259 = .ok (.if_icmp .ne 7, 3) := by decide +kernel
theorem dL_eventsAreSo_262 : decode cL_eventsAreSo 262 = .ok (.iconst 1, 1) := by decide +kernel
theorem dL_eventsAreSo_263 : decode cL_eventsAreSo 263 = .ok (.goto 4, 3) := by decide +kernel
theorem dL_eventsAreSo_266 : decode cL_eventsAreSo 266 = .ok (.iconst 0, 1) := by decide +kernel
theorem dL_eventsAreSo_267 : decode cL_eventsAreSo 267 = .ok (.ireturn, 1) := by decide +kernel
theorem dL_foretells_0 : decode cL_foretells 0 = .ok (.iconst 1, 1) := by decide +kernel
theorem dL_foretells_1 : decode cL_foretells 1 = .ok (.aload_n 0, 1) := by decide +kernel
theorem dL_foretells_2 : decode cL_foretells 2 = .ok (.bipush 50, 2) := by decide +kernel
theorem dL_foretells_4 : decode cL_foretells 4 = .ok (.invokevirtual 127, 3) := by decide +kernel
theorem dL_foretells_7 : decode cL_foretells 7 = .ok (.iadd, 1) := by decide +kernel
theorem dL_foretells_8 : decode cL_foretells 8 = .ok (.istore_n 1, 1) := by decide +kernel
theorem dL_foretells_9 : decode cL_foretells 9 = .ok (.aload_n 0, 1) := by decide +kernel
theorem dL_foretells_10 : decode cL_foretells 10 = .ok (.aload_n 0, 1) := by decide +kernel
theorem dL_foretells_11 : decode cL_foretells 11 = .ok (.getfield 10, 3) := by decide +kernel
theorem dL_foretells_14 : decode cL_foretells 14 = .ok (.iconst 2, 1) := by decide +kernel
theorem dL_foretells_15 : decode cL_foretells 15 = .ok (.invokestatic 142, 3) := by decide +kernel
theorem dL_foretells_18 : decode cL_foretells 18 = .ok (.invokevirtual 127, 3) := by decide +kernel
theorem dL_foretells_21 : decode cL_foretells 21 = .ok (.istore_n 2, 1) := by decide +kernel
theorem dL_foretells_22 : decode cL_foretells 22 = .ok (.aload_n 0, 1) := by decide +kernel
theorem dL_foretells_23 : decode cL_foretells 23 = .ok (.getfield 10, 3) := by decide +kernel
theorem dL_foretells_26 : decode cL_foretells 26 = .ok (.iload_n 2, 1) := by decide +kernel
theorem dL_foretells_27 : decode cL_foretells 27 = .ok (.iload_n 1, 1) := by decide +kernel
theorem dL_foretells_28 : decode cL_foretells 28 = .ok (.invokestatic 178, 3) := by decide +kernel
theorem dL_foretells_31 : decode cL_foretells 31 = .ok (.istore_n 3, 1) := by decide +kernel
theorem dL_foretells_32 : decode cL_foretells 32 = .ok (.aload_n 0, 1) := by decide +kernel
theorem dL_foretells_33 : decode cL_foretells 33 = .ok (.getfield 10, 3) := by decide +kernel
theorem dL_foretells_36 : decode cL_foretells 36 = .ok (.iload_n 2, 1) := by decide +kernel
theorem dL_foretells_37 : decode cL_foretells 37 = .ok (.iload_n 1, 1) := by decide +kernel
theorem dL_foretells_38 : decode cL_foretells 38 = .ok (.invokestatic 180, 3) := by decide +kernel
theorem dL_foretells_41 : decode cL_foretells 41 = .ok (.istore 4, 2) := by decide +kernel
theorem dL_foretells_43 : decode cL_foretells 43 = .ok (.aload_n 0, 1) := by decide +kernel
theorem dL_foretells_44 : decode cL_foretells 44 = .ok (.getfield 10, 3) := by decide +kernel
theorem dL_foretells_47 : decode cL_foretells 47 = .ok (.iload_n 1, 1) := by decide +kernel
theorem dL_foretells_48 : decode cL_foretells 48 = .ok (.iconst 0, 1) := by decide +kernel
theorem dL_foretells_49 : decode cL_foretells 49 = .ok (.invokestatic 182, 3) := by decide +kernel
theorem dL_foretells_52 : decode cL_foretells 52 = .ok (.istore 5, 2) := by decide +kernel
theorem dL_foretells_54 : decode cL_foretells 54 = .ok (.aload_n 0, 1) := by decide +kernel
theorem dL_foretells_55 : decode cL_foretells 55 = .ok (.getfield 10, 3) := by decide +kernel
theorem dL_foretells_58 : decode cL_foretells 58 = .ok (.iload_n 1, 1) := by decide +kernel
theorem dL_foretells_59 : decode cL_foretells 59 = .ok (.iconst 1, 1) := by decide +kernel
theorem dL_foretells_60 : decode cL_foretells 60 = .ok (.invokestatic 182, 3) := by decide +kernel
theorem dL_foretells_63 : decode cL_foretells 63 = .ok (.istore 6, 2) := by decide +kernel
theorem dL_foretells_65 : decode cL_foretells 65 = .ok (.aload_n 0, 1) := by decide +kernel
theorem dL_foretells_66 : decode cL_foretells 66 = .ok (.getfield 10, 3) := by decide +kernel
theorem dL_foretells_69 : decode cL_foretells 69 = .ok (.iload_n 1, 1) := by decide +kernel
theorem dL_foretells_70 : decode cL_foretells 70 = .ok (.iconst 2, 1) := by decide +kernel
theorem dL_foretells_71 : decode cL_foretells 71 = .ok (.invokestatic 182, 3) := by decide +kernel
theorem dL_foretells_74 : decode cL_foretells 74 = .ok (.istore 7, 2) := by decide +kernel
theorem dL_foretells_76 : decode cL_foretells 76 = .ok (.aload_n 0, 1) := by decide +kernel
theorem dL_foretells_77 : decode cL_foretells 77 = .ok (.getfield 10, 3) := by decide +kernel
theorem dL_foretells_80 : decode cL_foretells 80 = .ok (.iload_n 2, 1) := by decide +kernel
theorem dL_foretells_81 : decode cL_foretells 81 = .ok (.iload_n 1, 1) := by decide +kernel
theorem dL_foretells_82 : decode cL_foretells 82 = .ok (.invokestatic 184, 3) := by decide +kernel
theorem dL_foretells_85 : decode cL_foretells 85 = .ok (.istore 8, 2) := by decide +kernel
theorem dL_foretells_87 : decode cL_foretells 87 = .ok (.aload_n 0, 1) := by decide +kernel
theorem dL_foretells_88 : decode cL_foretells 88 = .ok (.invokevirtual 186, 3) := by decide +kernel
theorem dL_foretells_91 : decode cL_foretells 91 = .ok (.istore 9, 2) := by decide +kernel
theorem dL_foretells_93 : decode cL_foretells 93 = .ok (.aload_n 0, 1) := by decide +kernel
theorem dL_foretells_94 : decode cL_foretells 94 = .ok (.iload_n 2, 1) := by decide +kernel
theorem dL_foretells_95 : decode cL_foretells 95 = .ok (.invokevirtual 189, 3) := by decide +kernel
theorem dL_foretells_98 : decode cL_foretells 98 = .ok (.istore 10, 2) := by decide +kernel
theorem dL_foretells_100 : decode cL_foretells 100 = .ok (.aload_n 0, 1) := by decide +kernel
theorem dL_foretells_101 : decode cL_foretells 101 = .ok (.getfield 10, 3) := by decide +kernel
theorem dL_foretells_104 : decode cL_foretells 104 = .ok (.bipush 12, 2) := by decide +kernel
theorem dL_foretells_106 : decode cL_foretells 106 = .ok (.invokestatic 142, 3) := by decide +kernel
theorem dL_foretells_109 : decode cL_foretells 109 = .ok (.istore 11, 2) := by decide +kernel
theorem dL_foretells_111 : decode cL_foretells 111 = .ok (.aload_n 0, 1) := by decide +kernel
theorem dL_foretells_112 : decode cL_foretells 112 = .ok (.getfield 10, 3) := by decide +kernel
theorem dL_foretells_115 : decode cL_foretells 115 = .ok (.iconst 4, 1) := by decide +kernel
theorem dL_foretells_116 : decode cL_foretells 116 = .ok (.invokestatic 142, 3) := by decide +kernel
theorem dL_foretells_119 : decode cL_foretells 119 = .ok (.istore 12, 2) := by decide +kernel
theorem dL_foretells_121 : decode cL_foretells 121 = .ok (.aload_n 0, 1) := by decide +kernel
theorem dL_foretells_122 : decode cL_foretells 122 = .ok (.getfield 10, 3) := by decide +kernel
theorem dL_foretells_125 : decode cL_foretells 125 = .ok (.iconst 1, 1) := by decide +kernel
theorem dL_foretells_126 : decode cL_foretells 126 = .ok (.invokestatic 192, 3) := by decide +kernel
theorem dL_foretells_129 : decode cL_foretells 129 = .ok (.ifCond .eq 5, 3) := by decide +kernel
theorem dL_foretells_132 : decode cL_foretells 132 = .ok (.iconst 0, 1) := by decide +kernel
theorem dL_foretells_133 : decode cL_foretells 133 = .ok (.ireturn, 1) := by decide +kernel
theorem dL_foretells_134 : decode cL_foretells 134 = .ok (.aload_n 0, 1) := by decide +kernel
theorem dL_foretells_135 : decode cL_foretells 135 = .ok (.getfield 10, 3) := by decide +kernel
theorem dL_foretells_138 : decode cL_foretells 138 = .ok (.iload_n 2, 1) := by decide +kernel
theorem dL_foretells_139 : decode cL_foretells 139 = .ok (.iconst 2, 1) := by decide +kernel
theorem dL_foretells_140 : decode cL_foretells 140 = .ok (.invokestatic 146, 3) := by decide +kernel
theorem dL_foretells_143 : decode cL_foretells 143 = .ok (.iconst 3, 1) := by decide +kernel
theorem dL_foretells_144 : decode cL_foretells 144 = .ok (.if_icmp .ne 7, 3) := by decide +kernel
theorem dL_foretells_147 : decode cL_foretells 147 = .ok (.iconst 0, 1) := by decide +kernel
theorem dL_foretells_148 : decode cL_foretells 148 = .ok (.goto 4, 3) := by decide +kernel
theorem dL_foretells_151 : decode cL_foretells 151 = .ok (.iconst (-1), 1) := by decide +kernel
theorem dL_foretells_152 : decode cL_foretells 152 = .ok (.istore 13, 2) := by decide +kernel
theorem dL_foretells_154 : decode cL_foretells 154 = .ok (.iconst (-1), 1) := by decide +kernel
theorem dL_foretells_155 : decode cL_foretells 155 = .ok (.istore 14, 2) := by decide +kernel
theorem dL_foretells_157 : decode cL_foretells 157 = .ok (.iconst 1, 1) := by decide +kernel
theorem dL_foretells_158 : decode cL_foretells 158 = .ok (.istore 15, 2) := by decide +kernel
theorem dL_foretells_160 : decode cL_foretells 160 = .ok (.iload 15, 2) := by decide +kernel
theorem dL_foretells_162 : decode cL_foretells 162 = .ok (.iload_n 1, 1) := by decide +kernel
theorem dL_foretells_163 : decode cL_foretells 163 = .ok (.if_icmp .gt 63, 3) := by decide +kernel
theorem dL_foretells_166 : decode cL_foretells 166 = .ok (.aload_n 0, 1) := by decide +kernel
theorem dL_foretells_167 : decode cL_foretells 167 = .ok (.getfield 10, 3) := by decide +kernel
theorem dL_foretells_170 : decode cL_foretells 170 = .ok (.iconst 1, 1) := by decide +kernel
theorem dL_foretells_171 : decode cL_foretells 171 = .ok (.invokestatic 159, 3) := by decide +kernel
theorem dL_foretells_174 : decode cL_foretells 174 = .ok (.ifCond .ge 5, 3) := by decide +kernel
theorem dL_foretells_177 : decode cL_foretells 177 = .ok (.iconst 0, 1) := by decide +kernel
theorem dL_foretells_178 : decode cL_foretells 178 = .ok (.ireturn, 1) := by decide +kernel
theorem dL_foretells_179 : decode cL_foretells 179 = .ok (.iload 13, 2) := by decide +kernel
theorem dL_foretells_181 : decode cL_foretells 181 = .ok (.ifCond .ge 20, 3) := by decide +kernel
theorem dL_foretells_184 : decode cL_foretells 184 = .ok (.aload_n 0, 1) := by decide +kernel
theorem dL_foretells_185 : decode cL_foretells 185 = .ok (.getfield 10, 3) := by decide +kernel
theorem dL_foretells_188 : decode cL_foretells 188 = .ok (.iload_n 2, 1) := by decide +kernel
theorem dL_foretells_189 : decode cL_foretells 189 = .ok (.iconst 2, 1) := by decide +kernel
theorem dL_foretells_190 : decode cL_foretells 190 = .ok (.invokestatic 146, 3) := by decide +kernel
theorem dL_foretells_193 : decode cL_foretells 193 = .ok (.iconst 3, 1) := by decide +kernel
theorem dL_foretells_194 : decode cL_foretells 194 = .ok (.if_icmp .ne 7, 3) := by decide +kernel
theorem dL_foretells_197 : decode cL_foretells 197 = .ok (.iload 15, 2) := by decide +kernel
theorem dL_foretells_199 : decode cL_foretells 199 = .ok (.istore 13, 2) := by decide +kernel
theorem dL_foretells_201 : decode cL_foretells 201 = .ok (.iload 14, 2) := by decide +kernel
theorem dL_foretells_203 : decode cL_foretells 203 = .ok (.ifCond .ge 17, 3) := by decide +kernel
theorem dL_foretells_206 : decode cL_foretells 206 = .ok (.aload_n 0, 1) := by decide +kernel
theorem dL_foretells_207 : decode cL_foretells 207 = .ok (.iload_n 2, 1) := by decide +kernel
theorem dL_foretells_208 : decode cL_foretells 208 = .ok (.invokevirtual 189, 3) := by decide +kernel
theorem dL_foretells_211 : decode cL_foretells 211 = .ok (.iload 10, 2) := by decide +kernel
theorem dL_foretells_213 : decode cL_foretells 213 = .ok (.if_icmp .le 7, 3) := by decide +kernel
theorem dL_foretells_216 : decode cL_foretells 216 = .ok (.iload 15, 2) := by decide +kernel
theorem dL_foretells_218 : decode cL_foretells 218 = .ok (.istore 14, 2) := by decide +kernel
theorem dL_foretells_220 : decode cL_foretells 220 = .ok (.iinc 15 1, 3) := by decide +kernel
theorem dL_foretells_223 : decode cL_foretells 223 = .ok (.goto (-63), 3) := by decide +kernel
theorem dL_foretells_226 : decode cL_foretells 226 = .ok (.iload 13, 2) := by decide +kernel
theorem dL_foretells_228 : decode cL_foretells 228 = .ok (.iload_n 3, 1) := by decide +kernel
theorem dL_foretells_229 : decode cL_foretells 229 = .ok (.if_icmp .ne 77, 3) := by decide +kernel
theorem dL_foretells_232 : decode cL_foretells 232 = .ok (.iload 14, 2) := by decide +kernel
theorem dL_foretells_234 : decode cL_foretells 234 = .ok (.iload 4, 2) := by decide +kernel
theorem dL_foretells_236 : decode cL_foretells 236 = .ok (.if_icmp .ne 70, 3) := by decide +kernel
theorem dL_foretells_239 : decode cL_foretells 239 = .ok (.aload_n 0, 1) := by decide +kernel
theorem dL_foretells_240 : decode cL_foretells 240 = .ok (.getfield 10, 3) := by decide +kernel
theorem dL_foretells_243 : decode cL_foretells 243 = .ok (.bipush 8, 2) := by decide +kernel
theorem dL_foretells_245 : decode cL_foretells 245 = .ok (.invokestatic 142, 3) := by decide +kernel
theorem dL_foretells_248 : decode cL_foretells 248 = .ok (.iload 5, 2) := by decide +kernel
theorem dL_foretells_250 : decode cL_foretells 250 = .ok (.if_icmp .ne 56, 3) := by decide +kernel
theorem dL_foretells_253 : decode cL_foretells 253 = .ok (.aload_n 0, 1) := by decide +kernel
theorem dL_foretells_254 : decode cL_foretells 254 = .ok (.getfield 10, 3) := by decide +kernel
theorem dL_foretells_257 : decode cL_foretells 257 = .ok (.bipush 12, 2) := by decide +kernel
theorem dL_foretells_259 : decode cL_foretells 259 = .ok (.invokestatic 142, 3) := by decide +kernel
theorem dL_foretells_262 : decode cL_foretells 262 = .ok (.iload 11, 2) := by decide +kernel
theorem dL_foretells_264 : decode cL_foretells 264 = .ok (.iload 6, 2) := by decide +kernel
theorem dL_foretells_266 : decode cL_foretells 266 = .ok (.iadd, 1) := by decide +kernel
theorem dL_foretells_267 : decode cL_foretells 267 = .ok (.if_icmp .ne 39, 3) := by decide +kernel
theorem dL_foretells_270 : decode cL_foretells 270 = .ok (.aload_n 0, 1) := by decide +kernel
theorem dL_foretells_271 : decode cL_foretells 271 = .ok (.invokevirtual 186, 3) := by decide +kernel
theorem dL_foretells_274 : decode cL_foretells 274 = .ok (.iload 9, 2) := by decide +kernel
theorem dL_foretells_276 : decode cL_foretells 276 = .ok (.iload 7, 2) := by decide +kernel
theorem dL_foretells_278 : decode cL_foretells 278 = .ok (.iadd, 1) := by decide +kernel
theorem dL_foretells_279 : decode cL_foretells 279 = .ok (.if_icmp .ne 27, 3) := by decide +kernel
theorem dL_foretells_282 : decode cL_foretells 282 = .ok (.aload_n 0, 1) := by decide +kernel
theorem dL_foretells_283 : decode cL_foretells 283 = .ok (.getfield 10, 3) := by decide +kernel
theorem dL_foretells_286 : decode cL_foretells 286 = .ok (.iconst 1, 1) := by decide +kernel
theorem dL_foretells_287 : decode cL_foretells 287 = .ok (.invokestatic 194, 3) := by decide +kernel
theorem dL_foretells_290 : decode cL_foretells 290 = .ok (.ifCond .ne 16, 3) := by decide +kernel
theorem dL_foretells_293 : decode cL_foretells 293 = .ok (.aload_n 0, 1) := by decide +kernel
theorem dL_foretells_294 : decode cL_foretells 294 = .ok (.getfield 10, 3) := by decide +kernel
theorem dL_foretells_297 : decode cL_foretells 297 = .ok (.iconst 4, 1) := by decide +kernel
theorem dL_foretells_298 : decode cL_foretells 298 = .ok (.invokestatic 142, 3) := by decide +kernel
theorem dL_foretells_301 : decode cL_foretells 301 = .ok (.iload 12, 2) := by decide +kernel
theorem dL_foretells_303 : decode cL_foretells 303 = .ok (.if_icmp .eq 5, 3) := by decide +kernel
theorem dL_foretells_306 : decode cL_foretells 306 = .ok (.iconst 0, 1) := by decide +kernel
theorem dL_foretells_307 : decode cL_foretells 307 = .ok (.ireturn, 1) := by decide +kernel
theorem dL_foretells_308 : decode cL_foretells 308 = .ok (.iconst (-1), 1) := by decide +kernel
theorem dL_foretells_309 : decode cL_foretells 309 = .ok (.istore 15, 2) := by decide +kernel
theorem dL_foretells_311 : decode cL_foretells 311 = .ok (.iconst 0, 1) := by decide +kernel
theorem dL_foretells_312 : decode cL_foretells 312 = .ok (.istore 16, 2) := by decide +kernel
theorem dL_foretells_314 : decode cL_foretells 314 = .ok (.aload_n 0, 1) := by decide +kernel
theorem dL_foretells_315 : decode cL_foretells 315 = .ok (.getfield 10, 3) := by decide +kernel
theorem dL_foretells_318 : decode cL_foretells 318 = .ok (.iload_n 2, 1) := by decide +kernel
theorem dL_foretells_319 : decode cL_foretells 319 = .ok (.iconst 0, 1) := by decide +kernel
theorem dL_foretells_320 : decode cL_foretells 320 = .ok (.invokestatic 146, 3) := by decide +kernel
theorem dL_foretells_323 : decode cL_foretells 323 = .ok (.istore 17, 2) := by decide +kernel
theorem dL_foretells_325 : decode cL_foretells 325 = .ok (.iconst 1, 1) := by decide +kernel
theorem dL_foretells_326 : decode cL_foretells 326 = .ok (.istore 18, 2) := by decide +kernel
theorem dL_foretells_328 : decode cL_foretells 328 = .ok (.iload 18, 2) := by decide +kernel
theorem dL_foretells_330 : decode cL_foretells 330 = .ok (.bipush 10, 2) := by decide +kernel
theorem dL_foretells_332 : decode cL_foretells 332 = .ok (.if_icmp .ge 66, 3) := by decide +kernel
theorem dL_foretells_335 : decode cL_foretells 335 = .ok (.aload_n 0, 1) := by decide +kernel
theorem dL_foretells_336 : decode cL_foretells 336 = .ok (.getfield 10, 3) := by decide +kernel
theorem dL_foretells_339 : decode cL_foretells 339 = .ok (.iload_n 2, 1) := by decide +kernel
theorem dL_foretells_340 : decode cL_foretells 340 = .ok (.iload 18, 2) := by decide +kernel
theorem dL_foretells_342 : decode cL_foretells 342 = .ok (.invokestatic 174, 3) := by decide +kernel
theorem dL_foretells_345 : decode cL_foretells 345 = .ok (.istore 19, 2) := by decide +kernel
theorem dL_foretells_347 : decode cL_foretells 347 = .ok (.aload_n 0, 1) := by decide +kernel
theorem dL_foretells_348 : decode cL_foretells 348 = .ok (.getfield 10, 3) := by decide +kernel
theorem dL_foretells_351 : decode cL_foretells 351 = .ok (.iload_n 2, 1) := by decide +kernel
theorem dL_foretells_352 : decode cL_foretells 352 = .ok (.iload_n 1, 1) := by decide +kernel
theorem dL_foretells_353 : decode cL_foretells 353 = .ok (.invokestatic 178, 3) := by decide +kernel
theorem dL_foretells_356 : decode cL_foretells 356 = .ok (.istore 20, 2) := by decide +kernel
theorem dL_foretells_358 : decode cL_foretells 358 = .ok (.iload 19, 2) := by decide +kernel
theorem dL_foretells_360 : decode cL_foretells 360 = .ok (.iconst 1, 1) := by decide +kernel
theorem dL_foretells_361 : decode cL_foretells 361 = .ok (.if_icmp .lt 31, 3) := by decide +kernel
theorem dL_foretells_364 : decode cL_foretells 364 = .ok (.iload 20, 2) := by decide +kernel
theorem dL_foretells_366 : decode cL_foretells 366 = .ok (.ifCond .lt 26, 3) := by decide +kernel
theorem dL_foretells_369 : decode cL_foretells 369 = .ok (.iload 15, 2) := by decide +kernel
theorem dL_foretells_371 : decode cL_foretells 371 = .ok (.ifCond .le 13, 3) := by decide +kernel
theorem dL_foretells_374 : decode cL_foretells 374 = .ok (.iload 20, 2) := by decide +kernel
theorem dL_foretells_376 : decode cL_foretells 376 = .ok (.iload 16, 2) := by decide +kernel
theorem dL_foretells_378 : decode cL_foretells 378 = .ok (.if_icmp .lt 6, 3) := by decide +kernel
theorem dL_foretells_381 : decode cL_foretells 381 = .ok (.goto 11, 3) := by decide +kernel
theorem dL_foretells_384 : decode cL_foretells 384 = .ok (.iload 18, 2) := by decide +kernel
theorem dL_foretells_386 : decode cL_foretells 386 = .ok (.istore 15, 2) := by decide +kernel
theorem dL_foretells_388 : decode cL_foretells 388 = .ok (.iload 20, 2) := by decide +kernel
theorem dL_foretells_390 : decode cL_foretells 390 = .ok (.istore 16, 2) := by decide +kernel
theorem dL_foretells_392 : decode cL_foretells 392 = .ok (.iinc 18 1, 3) := by decide +kernel
theorem dL_foretells_395 : decode cL_foretells 395 = .ok (.goto (-67), 3) := by decide +kernel
theorem dL_foretells_398 : decode cL_foretells 398 = .ok (.iload 15, 2) := by decide +kernel
theorem dL_foretells_400 : decode cL_foretells 400 = .ok (.iload 8, 2) := by decide +kernel
theorem dL_foretells_402 : decode cL_foretells 402 = .ok (.if_icmp .ne 22, 3) := by decide +kernel
theorem dL_foretells_405 : decode cL_foretells 405 = .ok (.aload_n 0, 1) := by decide +kernel
theorem dL_foretells_406 : decode cL_foretells 406 = .ok (.getfield 10, 3) := by decide +kernel
theorem dL_foretells_409 : decode cL_foretells 409 = .ok (.iload_n 2, 1) := by decide +kernel
theorem dL_foretells_410 : decode cL_foretells 410 = .ok (.iload 17, 2) := by decide +kernel
theorem dL_foretells_412 : decode cL_foretells 412 = .ok (.invokestatic 174, 3) := by decide +kernel
theorem dL_foretells_415 : decode cL_foretells 415 = .ok (.bipush 9, 2) := by decide +kernel
theorem dL_foretells_417 : decode cL_foretells 417 = .ok (.if_icmp .ne 7, 3) := by decide +kernel
theorem dL_foretells_420 : decode cL_foretells 420 = .ok (.iconst 1, 1) := by decide +kernel
theorem dL_foretells_421 : decode cL_foretells 421 = .ok (.goto 4, 3) := by decide +kernel
theorem dL_foretells_424 : decode cL_foretells 424 = .ok (.iconst 0, 1) := by decide +kernel
theorem dL_foretells_425 : decode cL_foretells 425 = .ok (.ireturn, 1) := by decide +kernel
theorem dL_mine_0 : decode cL_mine 0 = .ok (.aload_n 0, 1) := by decide +kernel
theorem dL_mine_1 : decode cL_mine 1 = .ok (.getfield 10, 3) := by decide +kernel
theorem dL_mine_4 : decode cL_mine 4 = .ok (.iload_n 1, 1) := by decide +kernel
theorem dL_mine_5 : decode cL_mine 5 = .ok (.bipush 13, 2) := by decide +kernel
theorem dL_mine_7 : decode cL_mine 7 = .ok (.invokestatic 146, 3) := by decide +kernel
theorem dL_mine_10 : decode cL_mine 10 = .ok (.aload_n 0, 1) := by decide +kernel
theorem dL_mine_11 : decode cL_mine 11 = .ok (.getfield 10, 3) := by decide +kernel
theorem dL_mine_14 : decode cL_mine 14 = .ok (.iload_n 1, 1) := by decide +kernel
theorem dL_mine_15 : decode cL_mine 15 = .ok (.bipush 14, 2) := by decide +kernel
theorem dL_mine_17 : decode cL_mine 17 = .ok (.invokestatic 146, 3) := by decide +kernel
theorem dL_mine_20 : decode cL_mine 20 = .ok (.iadd, 1) := by decide +kernel
theorem dL_mine_21 : decode cL_mine 21 = .ok (.aload_n 0, 1) := by decide +kernel
theorem dL_mine_22 : decode cL_mine 22 = .ok (.getfield 10, 3) := by decide +kernel
theorem dL_mine_25 : decode cL_mine 25 = .ok (.iload_n 1, 1) := by decide +kernel
theorem dL_mine_26 : decode cL_mine 26 = .ok (.bipush 15, 2) := by decide +kernel
theorem dL_mine_28 : decode cL_mine 28 = .ok (.invokestatic 146, 3) := by decide +kernel
theorem dL_mine_31 : decode cL_mine 31 = .ok (.iadd, 1) := by decide +kernel
theorem dL_mine_32 : decode cL_mine 32 = .ok (.aload_n 0, 1) := by decide +kernel
theorem dL_mine_33 : decode cL_mine 33 = .ok (.getfield 10, 3) := by decide +kernel
theorem dL_mine_36 : decode cL_mine 36 = .ok (.iload_n 1, 1) := by decide +kernel
theorem dL_mine_37 : decode cL_mine 37 = .ok (.bipush 16, 2) := by decide +kernel
theorem dL_mine_39 : decode cL_mine 39 = .ok (.invokestatic 146, 3) := by decide +kernel
theorem dL_mine_42 : decode cL_mine 42 = .ok (.iadd, 1) := by decide +kernel
theorem dL_mine_43 : decode cL_mine 43 = .ok (.ireturn, 1) := by decide +kernel
theorem dL_returns_0 : decode cL_returns 0 = .ok (.iconst 0, 1) := by decide +kernel
theorem dL_returns_1 : decode cL_returns 1 = .ok (.istore_n 1, 1) := by decide +kernel
theorem dL_returns_2 : decode cL_returns 2 = .ok (.iconst 0, 1) := by decide +kernel
theorem dL_returns_3 : decode cL_returns 3 = .ok (.istore_n 2, 1) := by decide +kernel
theorem dL_returns_4 : decode cL_returns 4 = .ok (.iload_n 2, 1) := by decide +kernel
theorem dL_returns_5 : decode cL_returns 5 = .ok (.aload_n 0, 1) := by decide +kernel
theorem dL_returns_6 : decode cL_returns 6 = .ok (.getfield 10, 3) := by decide +kernel
theorem dL_returns_9 : decode cL_returns 9 = .ok (.iconst 2, 1) := by decide +kernel
theorem dL_returns_10 : decode cL_returns 10 = .ok (.invokestatic 142, 3) := by decide +kernel
theorem dL_returns_13 : decode cL_returns 13 = .ok (.if_icmp .ge 17, 3) := by decide +kernel
theorem dL_returns_16 : decode cL_returns 16 = .ok (.iload_n 1, 1) := by decide +kernel
theorem dL_returns_17 : decode cL_returns 17 = .ok (.aload_n 0, 1) := by decide +kernel
theorem dL_returns_18 : decode cL_returns 18 = .ok (.iload_n 2, 1) := by decide +kernel
theorem dL_returns_19 : decode cL_returns 19 = .ok (.invokevirtual 189, 3) := by decide +kernel
theorem dL_returns_22 : decode cL_returns 22 = .ok (.iadd, 1) := by decide +kernel
theorem dL_returns_23 : decode cL_returns 23 = .ok (.istore_n 1, 1) := by decide +kernel
theorem dL_returns_24 : decode cL_returns 24 = .ok (.iinc 2 1, 3) := by decide +kernel
theorem dL_returns_27 : decode cL_returns 27 = .ok (.goto (-23), 3) := by decide +kernel
theorem dL_returns_30 : decode cL_returns 30 = .ok (.iload_n 1, 1) := by decide +kernel
theorem dL_returns_31 : decode cL_returns 31 = .ok (.ireturn, 1) := by decide +kernel
theorem dL_law_0 : decode cL_law 0 = .ok (.new 11, 3) := by decide +kernel
theorem dL_law_3 : decode cL_law 3 = .ok (.dup, 1) := by decide +kernel
theorem dL_law_4 : decode cL_law 4 = .ok (.invokespecial 196, 3) := by decide +kernel
theorem dL_law_7 : decode cL_law 7 = .ok (.aload_n 0, 1) := by decide +kernel
theorem dL_law_8 : decode cL_law 8 = .ok (.invokevirtual 197, 3) := by decide +kernel
theorem dL_law_11 : decode cL_law 11 = .ok (.ireturn, 1) := by decide +kernel
theorem dL_holds_0 : decode cL_holds 0 = .ok (.aload_n 0, 1) := by decide +kernel
theorem dL_holds_1 : decode cL_holds 1 = .ok (.aload_n 1, 1) := by decide +kernel
theorem dL_holds_2 : decode cL_holds 2 = .ok (.putfield 18, 3) := by decide +kernel
theorem dL_holds_5 : decode cL_holds 5 = .ok (.aload_n 0, 1) := by decide +kernel
theorem dL_holds_6 : decode cL_holds 6 = .ok (.invokevirtual 201, 3) := by decide +kernel
theorem dL_holds_9 : decode cL_holds 9 = .ok (.ifCond .ne 5, 3) := by decide +kernel
theorem dL_holds_12 : decode cL_holds 12 = .ok (.iconst 0, 1) := by decide +kernel
theorem dL_holds_13 : decode cL_holds 13 = .ok (.ireturn, 1) := by decide +kernel
theorem dL_holds_14 : decode cL_holds 14 = .ok (.iconst 0, 1) := by decide +kernel
theorem dL_holds_15 : decode cL_holds 15 = .ok (.istore_n 2, 1) := by decide +kernel
theorem dL_holds_16 : decode cL_holds 16 = .ok (.iload_n 2, 1) := by decide +kernel
theorem dL_holds_17 : decode cL_holds 17 = .ok (.bipush 70, 2) := by decide +kernel
theorem dL_holds_19 : decode cL_holds 19 = .ok (.if_icmp .ge 87, 3) := by decide +kernel
theorem dL_holds_22 : decode cL_holds 22 = .ok (.aload_n 0, 1) := by decide +kernel
theorem dL_holds_23 : decode cL_holds 23 = .ok (.invokevirtual 205, 3) := by decide +kernel
theorem dL_holds_26 : decode cL_holds 26 = .ok (.ifCond .eq 72, 3) := by decide +kernel
theorem dL_holds_29 : decode cL_holds 29 = .ok (.aload_n 0, 1) := by decide +kernel
theorem dL_holds_30 : decode cL_holds 30 = .ok (.invokevirtual 208, 3) := by decide +kernel
theorem dL_holds_33 : decode cL_holds 33 = .ok (.ifCond .eq 65, 3) := by decide +kernel
theorem dL_holds_36 : decode cL_holds 36 = .ok (.aload_n 0, 1) := by decide +kernel
theorem dL_holds_37 : decode cL_holds 37 = .ok (.iconst 3, 1) := by decide +kernel
theorem dL_holds_38 : decode cL_holds 38 = .ok (.invokevirtual 127, 3) := by decide +kernel
theorem dL_holds_41 : decode cL_holds 41 = .ok (.ifCond .ne 10, 3) := by decide +kernel
theorem dL_holds_44 : decode cL_holds 44 = .ok (.aload_n 0, 1) := by decide +kernel
theorem dL_holds_45 : decode cL_holds 45 = .ok (.invokevirtual 211, 3) := by decide +kernel
theorem dL_holds_48 : decode cL_holds 48 = .ok (.ifCond .eq 50, 3) := by decide +kernel
theorem dL_holds_51 : decode cL_holds 51 = .ok (.iload_n 2, 1) := by decide +kernel
theorem dL_holds_52 : decode cL_holds 52 = .ok (.bipush 6, 2) := by decide +kernel
theorem dL_holds_54 : decode cL_holds 54 = .ok (.irem, 1) := by decide +kernel
theorem dL_holds_55 : decode cL_holds 55 = .ok (.iconst 3, 1) := by decide +kernel
theorem dL_holds_56 : decode cL_holds 56 = .ok (.if_icmp .ne 10, 3) := by decide +kernel
theorem dL_holds_59 : decode cL_holds 59 = .ok (.aload_n 0, 1) := by decide +kernel
theorem dL_holds_60 : decode cL_holds 60 = .ok (.invokevirtual 214, 3) := by decide +kernel
theorem dL_holds_63 : decode cL_holds 63 = .ok (.ifCond .eq 35, 3) := by decide +kernel
theorem dL_holds_66 : decode cL_holds 66 = .ok (.iload_n 2, 1) := by decide +kernel
theorem dL_holds_67 : decode cL_holds 67 = .ok (.bipush 13, 2) := by decide +kernel
theorem dL_holds_69 : decode cL_holds 69 = .ok (.irem, 1) := by decide +kernel
theorem dL_holds_70 : decode cL_holds 70 = .ok (.bipush 9, 2) := by decide +kernel
theorem dL_holds_72 : decode cL_holds 72 = .ok (.if_icmp .ne 10, 3) := by decide +kernel
theorem dL_holds_75 : decode cL_holds 75 = .ok (.aload_n 0, 1) := by decide +kernel
theorem dL_holds_76 : decode cL_holds 76 = .ok (.invokevirtual 217, 3) := by decide +kernel
theorem dL_holds_79 : decode cL_holds 79 = .ok (.ifCond .eq 19, 3) := by decide +kernel
theorem dL_holds_82 : decode cL_holds 82 = .ok (.iload_n 2, 1) := by decide +kernel
theorem dL_holds_83 : decode cL_holds 83 = .ok (.bipush 17, 2) := by decide +kernel
theorem dL_holds_85 : decode cL_holds 85 = .ok (.irem, 1) := by decide +kernel
theorem dL_holds_86 : decode cL_holds 86 = .ok (.bipush 12, 2) := by decide +kernel
theorem dL_holds_88 : decode cL_holds 88 = .ok (.if_icmp .ne 12, 3) := by decide +kernel
theorem dL_holds_91 : decode cL_holds 91 = .ok (.aload_n 0, 1) := by decide +kernel
theorem dL_holds_92 : decode cL_holds 92 = .ok (.invokevirtual 220, 3) := by decide +kernel
theorem dL_holds_95 : decode cL_holds 95 = .ok (.ifCond .ne 5, 3) := by decide +kernel
theorem dL_holds_98 : decode cL_holds 98 = .ok (.iconst 0, 1) := by decide +kernel
theorem dL_holds_99 : decode cL_holds 99 = .ok (.ireturn, 1) := by decide +kernel
theorem dL_holds_100 : decode cL_holds 100 = .ok (.iinc 2 1, 3) := by decide +kernel
theorem dL_holds_103 : decode cL_holds 103 = .ok (.goto (-87), 3) := by decide +kernel
theorem dL_holds_106 : decode cL_holds 106 = .ok (.aload_n 0, 1) := by decide +kernel
theorem dL_holds_107 : decode cL_holds 107 = .ok (.invokevirtual 214, 3) := by decide +kernel
theorem dL_holds_110 : decode cL_holds 110 = .ok (.ifCond .eq 36, 3) := by decide +kernel
theorem dL_holds_113 : decode cL_holds 113 = .ok (.aload_n 0, 1) := by decide +kernel
theorem dL_holds_114 : decode cL_holds 114 = .ok (.invokevirtual 217, 3) := by decide +kernel
theorem dL_holds_117 : decode cL_holds 117 = .ok (.ifCond .eq 29, 3) := by decide +kernel
theorem dL_holds_120 : decode cL_holds 120 = .ok (.aload_n 0, 1) := by decide +kernel
theorem dL_holds_121 : decode cL_holds 121 = .ok (.invokevirtual 220, 3) := by decide +kernel
theorem dL_holds_124 : decode cL_holds 124 = .ok (.ifCond .eq 22, 3) := by decide +kernel
theorem dL_holds_127 : decode cL_holds 127 = .ok (.aload_n 0, 1) := by decide +kernel
theorem dL_holds_128 : decode cL_holds 128 = .ok (.getfield 10, 3) := by decide +kernel
theorem dL_holds_131 : decode cL_holds 131 = .ok (.sipush 501, 3) := by decide +kernel
theorem dL_holds_134 : decode cL_holds 134 = .ok (.invokestatic 159, 3) := by decide +kernel
theorem dL_holds_137 : decode cL_holds 137 = .ok (.bipush (-102), 2) := by decide +kernel
theorem dL_holds_139 : decode cL_holds 139 = .ok (.if_icmp .ne 7, 3) := by decide +kernel
theorem dL_holds_142 : decode cL_holds 142 = .ok (.iconst 1, 1) := by decide +kernel
theorem dL_holds_143 : decode cL_holds 143 = .ok (.goto 4, 3) := by decide +kernel
theorem dL_holds_146 : decode cL_holds 146 = .ok (.iconst 0, 1) := by decide +kernel
theorem dL_holds_147 : decode cL_holds 147 = .ok (.ireturn, 1) := by decide +kernel
