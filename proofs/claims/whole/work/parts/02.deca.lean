theorem dX0_init_0 : decode cX0_init 0 = .ok (.aload_n 0, 1) := by decide +kernel
theorem dX0_init_1 : decode cX0_init 1 = .ok (.invokespecial 3, 3) := by decide +kernel
theorem dX0_init_4 : decode cX0_init 4 = .ok (.aload_n 0, 1) := by decide +kernel
theorem dX0_init_5 : decode cX0_init 5 = .ok (.new 9, 3) := by decide +kernel
theorem dX0_init_8 : decode cX0_init 8 = .ok (.dup, 1) := by decide +kernel
theorem dX0_init_9 : decode cX0_init 9 = .ok (.bipush 10, 2) := by decide +kernel
theorem dX0_init_11 : decode cX0_init 11 = .ok (.invokespecial 11, 3) := by decide +kernel
theorem dX0_init_14 : decode cX0_init 14 = .ok (.putfield 14, 3) := by decide +kernel
theorem dX0_init_17 : decode cX0_init 17 = .ok (.aload_n 0, 1) := by decide +kernel
theorem dX0_init_18 : decode cX0_init 18 = .ok (.iconst 3, 1) := by decide +kernel
theorem dX0_init_19 : decode cX0_init 19 = .ok (.newarray .int, 2) := by decide +kernel
theorem dX0_init_21 : decode cX0_init 21 = .ok (.dup, 1) := by decide +kernel
theorem dX0_init_22 : decode cX0_init 22 = .ok (.iconst 0, 1) := by decide +kernel
theorem dX0_init_23 : decode cX0_init 23 = .ok (.bipush 15, 2) := by decide +kernel
theorem dX0_init_25 : decode cX0_init 25 = .ok (.iastore, 1) := by decide +kernel
theorem dX0_init_26 : decode cX0_init 26 = .ok (.dup, 1) := by decide +kernel
theorem dX0_init_27 : decode cX0_init 27 = .ok (.iconst 1, 1) := by decide +kernel
theorem dX0_init_28 : decode cX0_init 28 = .ok (.bipush 8, 2) := by decide +kernel
theorem dX0_init_30 : decode cX0_init 30 = .ok (.iastore, 1) := by decide +kernel
theorem dX0_init_31 : decode cX0_init 31 = .ok (.dup, 1) := by decide +kernel
theorem dX0_init_32 : decode cX0_init 32 = .ok (.iconst 2, 1) := by decide +kernel
theorem dX0_init_33 : decode cX0_init 33 = .ok (.iconst 4, 1) := by decide +kernel
theorem dX0_init_34 : decode cX0_init 34 = .ok (.iastore, 1) := by decide +kernel
theorem dX0_init_35 : decode cX0_init 35 = .ok (.putfield 20, 3) := by decide +kernel
theorem dX0_init_38 : decode cX0_init 38 = .ok (.aload_n 0, 1) := by decide +kernel
theorem dX0_init_39 : decode cX0_init 39 = .ok (.iconst 0, 1) := by decide +kernel
theorem dX0_init_40 : decode cX0_init 40 = .ok (.putfield 24, 3) := by decide +kernel
theorem dX0_init_43 : decode cX0_init 43 = .ok (.aload_n 0, 1) := by decide +kernel
theorem dX0_init_44 : decode cX0_init 44 = .ok (.iconst 0, 1) := by decide +kernel
theorem dX0_init_45 : decode cX0_init 45 = .ok (.putfield 28, 3) := by decide +kernel
theorem dX0_init_48 : decode cX0_init 48 = .ok (.return_, 1) := by decide +kernel
theorem dX0_dialled_0 : decode cX0_dialled 0 = .ok (.aload_n 0, 1) := by decide +kernel
theorem dX0_dialled_1 : decode cX0_dialled 1 = .ok (.getfield 14, 3) := by decide +kernel
theorem dX0_dialled_4 : decode cX0_dialled 4 = .ok (.areturn, 1) := by decide +kernel
theorem dX0_state_0 : decode cX0_state 0 = .ok (.aload_n 0, 1) := by decide +kernel
theorem dX0_state_1 : decode cX0_state 1 = .ok (.getfield 24, 3) := by decide +kernel
theorem dX0_state_4 : decode cX0_state 4 = .ok (.ireturn, 1) := by decide +kernel
theorem dX0_isUp_0 : decode cX0_isUp 0 = .ok (.aload_n 0, 1) := by decide +kernel
theorem dX0_isUp_1 : decode cX0_isUp 1 = .ok (.getfield 24, 3) := by decide +kernel
theorem dX0_isUp_4 : decode cX0_isUp 4 = .ok (.ifCond .eq 7, 3) := by decide +kernel
theorem dX0_isUp_7 : decode cX0_isUp 7 = .ok (.iconst 1, 1) := by decide +kernel
theorem dX0_isUp_8 : decode cX0_isUp 8 = .ok (.goto 4, 3) := by decide +kernel
theorem dX0_isUp_11 : decode cX0_isUp 11 = .ok (.iconst 0, 1) := by decide +kernel
theorem dX0_isUp_12 : decode cX0_isUp 12 = .ok (.ireturn, 1) := by decide +kernel
theorem dX0_isWaiting_0 : decode cX0_isWaiting 0 = .ok (.aload_n 0, 1) := by decide +kernel
theorem dX0_isWaiting_1 : decode cX0_isWaiting 1 = .ok (.getfield 24, 3) := by decide +kernel
theorem dX0_isWaiting_4 : decode cX0_isWaiting 4 = .ok (.iconst 1, 1) := by decide +kernel
theorem dX0_isWaiting_5 : decode cX0_isWaiting 5 = .ok (.if_icmp .ne 7, 3) := by decide +kernel
theorem dX0_isWaiting_8 : decode cX0_isWaiting 8 = .ok (.iconst 1, 1) := by decide +kernel
theorem dX0_isWaiting_9 : decode cX0_isWaiting 9 = .ok (.goto 4, 3) := by decide +kernel
theorem dX0_isWaiting_12 : decode cX0_isWaiting 12 = .ok (.iconst 0, 1) := by decide +kernel
theorem dX0_isWaiting_13 : decode cX0_isWaiting 13 = .ok (.ireturn, 1) := by decide +kernel
theorem dX0_ended_0 : decode cX0_ended 0 = .ok (.aload_n 0, 1) := by decide +kernel
theorem dX0_ended_1 : decode cX0_ended 1 = .ok (.getfield 28, 3) := by decide +kernel
theorem dX0_ended_4 : decode cX0_ended 4 = .ok (.ireturn, 1) := by decide +kernel
theorem dX0_ticksLeft_0 : decode cX0_ticksLeft 0 = .ok (.aload_n 0, 1) := by decide +kernel
theorem dX0_ticksLeft_1 : decode cX0_ticksLeft 1 = .ok (.getfield 31, 3) := by decide +kernel
theorem dX0_ticksLeft_4 : decode cX0_ticksLeft 4 = .ok (.ireturn, 1) := by decide +kernel
theorem dX0_timesLifted_0 : decode cX0_timesLifted 0 = .ok (.aload_n 0, 1) := by decide +kernel
theorem dX0_timesLifted_1 : decode cX0_timesLifted 1 = .ok (.getfield 34, 3) := by decide +kernel
theorem dX0_timesLifted_4 : decode cX0_timesLifted 4 = .ok (.ireturn, 1) := by decide +kernel
theorem dX0_timesReady_0 : decode cX0_timesReady 0 = .ok (.aload_n 0, 1) := by decide +kernel
theorem dX0_timesReady_1 : decode cX0_timesReady 1 = .ok (.getfield 37, 3) := by decide +kernel
theorem dX0_timesReady_4 : decode cX0_timesReady 4 = .ok (.ireturn, 1) := by decide +kernel
theorem dX0_timesLost_0 : decode cX0_timesLost 0 = .ok (.aload_n 0, 1) := by decide +kernel
theorem dX0_timesLost_1 : decode cX0_timesLost 1 = .ok (.getfield 40, 3) := by decide +kernel
theorem dX0_timesLost_4 : decode cX0_timesLost 4 = .ok (.ireturn, 1) := by decide +kernel
theorem dX0_digitsEver_0 : decode cX0_digitsEver 0 = .ok (.aload_n 0, 1) := by decide +kernel
theorem dX0_digitsEver_1 : decode cX0_digitsEver 1 = .ok (.getfield 43, 3) := by decide +kernel
theorem dX0_digitsEver_4 : decode cX0_digitsEver 4 = .ok (.ireturn, 1) := by decide +kernel
theorem dX0_ticksOf_0 : decode cX0_ticksOf 0 = .ok (.iload_n 1, 1) := by decide +kernel
theorem dX0_ticksOf_1 : decode cX0_ticksOf 1 = .ok (.ifCond .lt 21, 3) := by decide +kernel
theorem dX0_ticksOf_4 : decode cX0_ticksOf 4 = .ok (.iload_n 1, 1) := by decide +kernel
theorem dX0_ticksOf_5 : decode cX0_ticksOf 5 = .ok (.aload_n 0, 1) := by decide +kernel
theorem dX0_ticksOf_6 : decode cX0_ticksOf 6 = .ok (.getfield 20, 3) := by decide +kernel
theorem dX0_ticksOf_9 : decode cX0_ticksOf 9 = .ok (.arraylength, 1) := by decide +kernel
theorem dX0_ticksOf_10 : decode cX0_ticksOf 10 = .ok (.if_icmp .ge 12, 3) := by decide +kernel
theorem dX0_ticksOf_13 : decode cX0_ticksOf 13 = .ok (.aload_n 0, 1) := by decide +kernel
theorem dX0_ticksOf_14 : decode cX0_ticksOf 14 = .ok (.getfield 20, 3) := by decide +kernel
theorem dX0_ticksOf_17 : decode cX0_ticksOf 17 = .ok (.iload_n 1, 1) := by decide +kernel
theorem dX0_ticksOf_18 : decode cX0_ticksOf 18 = .ok (.iaload, 1) := by decide +kernel
theorem dX0_ticksOf_19 : decode cX0_ticksOf 19 = .ok (.goto 4, 3) := by decide +kernel
theorem dX0_ticksOf_22 : decode cX0_ticksOf 22 = .ok (.iconst 0, 1) := by decide +kernel
theorem dX0_ticksOf_23 : decode cX0_ticksOf 23 = .ok (.ireturn, 1) := by decide +kernel
theorem dX0_setTicks_0 : decode cX0_setTicks 0 = .ok (.iload_n 1, 1) := by decide +kernel
theorem dX0_setTicks_1 : decode cX0_setTicks 1 = .ok (.ifCond .lt 19, 3) := by decide +kernel
theorem dX0_setTicks_4 : decode cX0_setTicks 4 = .ok (.iload_n 1, 1) := by decide +kernel
theorem dX0_setTicks_5 : decode cX0_setTicks 5 = .ok (.aload_n 0, 1) := by decide +kernel
theorem dX0_setTicks_6 : decode cX0_setTicks 6 = .ok (.getfield 20, 3) := by decide +kernel
theorem dX0_setTicks_9 : decode cX0_setTicks 9 = .ok (.arraylength, 1) := by decide +kernel
theorem dX0_setTicks_10 : decode cX0_setTicks 10 = .ok (.if_icmp .ge 10, 3) := by decide +kernel
theorem dX0_setTicks_13 : decode cX0_setTicks 13 = .ok (.aload_n 0, 1) := by decide +kernel
theorem dX0_setTicks_14 : decode cX0_setTicks 14 = .ok (.getfield 20, 3) := by decide +kernel
theorem dX0_setTicks_17 : decode cX0_setTicks 17 = .ok (.iload_n 1, 1) := by decide +kernel
theorem dX0_setTicks_18 : decode cX0_setTicks 18 = .ok (.iload_n 2, 1) := by decide +kernel
theorem dX0_setTicks_19 : decode cX0_setTicks 19 = .ok (.iastore, 1) := by decide +kernel
theorem dX0_setTicks_20 : decode cX0_setTicks 20 = .ok (.return_, 1) := by decide +kernel
theorem dX0_currentStage_0 : decode cX0_currentStage 0 = .ok (.aload_n 0, 1) := by decide +kernel
theorem dX0_currentStage_1 : decode cX0_currentStage 1 = .ok (.getfield 14, 3) := by decide +kernel
theorem dX0_currentStage_4 : decode cX0_currentStage 4 = .ok (.invokevirtual 46, 3) := by decide +kernel
theorem dX0_currentStage_7 : decode cX0_currentStage 7 = .ok (.ifCond .ne 5, 3) := by decide +kernel
theorem dX0_currentStage_10 : decode cX0_currentStage 10 = .ok (.iconst 0, 1) := by decide +kernel
theorem dX0_currentStage_11 : decode cX0_currentStage 11 = .ok (.ireturn, 1) := by decide +kernel
theorem dX0_currentStage_12 : decode cX0_currentStage 12 = .ok (.aload_n 1, 1) := by decide +kernel
theorem dX0_currentStage_13 : decode cX0_currentStage 13 = .ok (.aload_n 0, 1) := by decide +kernel
theorem dX0_currentStage_14 : decode cX0_currentStage 14 = .ok (.getfield 14, 3) := by decide +kernel
theorem dX0_currentStage_17 : decode cX0_currentStage 17 = .ok (.iconst 1, 1) := by decide +kernel
theorem dX0_currentStage_18 : decode cX0_currentStage 18 = .ok (.invokevirtual 52, 3) := by decide +kernel
theorem dX0_currentStage_21 : decode cX0_currentStage 21 = .ok (.ifCond .ne 7, 3) := by decide +kernel
theorem dX0_currentStage_24 : decode cX0_currentStage 24 = .ok (.iconst 1, 1) := by decide +kernel
theorem dX0_currentStage_25 : decode cX0_currentStage 25 = .ok (.goto 4, 3) := by decide +kernel
theorem dX0_currentStage_28 : decode cX0_currentStage 28 = .ok (.iconst 2, 1) := by decide +kernel
theorem dX0_currentStage_29 : decode cX0_currentStage 29 = .ok (.ireturn, 1) := by decide +kernel
theorem dX0_winner_0 : decode cX0_winner 0 = .ok (.aload_n 0, 1) := by decide +kernel
theorem dX0_winner_1 : decode cX0_winner 1 = .ok (.getfield 24, 3) := by decide +kernel
theorem dX0_winner_4 : decode cX0_winner 4 = .ok (.iconst 2, 1) := by decide +kernel
theorem dX0_winner_5 : decode cX0_winner 5 = .ok (.if_icmp .ne 27, 3) := by decide +kernel
theorem dX0_winner_8 : decode cX0_winner 8 = .ok (.aload_n 1, 1) := by decide +kernel
theorem dX0_winner_9 : decode cX0_winner 9 = .ok (.aload_n 0, 1) := by decide +kernel
theorem dX0_winner_10 : decode cX0_winner 10 = .ok (.getfield 14, 3) := by decide +kernel
theorem dX0_winner_13 : decode cX0_winner 13 = .ok (.aload_n 0, 1) := by decide +kernel
theorem dX0_winner_14 : decode cX0_winner 14 = .ok (.getfield 28, 3) := by decide +kernel
theorem dX0_winner_17 : decode cX0_winner 17 = .ok (.iconst 4, 1) := by decide +kernel
theorem dX0_winner_18 : decode cX0_winner 18 = .ok (.if_icmp .ne 7, 3) := by decide +kernel
theorem dX0_winner_21 : decode cX0_winner 21 = .ok (.iconst 1, 1) := by decide +kernel
theorem dX0_winner_22 : decode cX0_winner 22 = .ok (.goto 4, 3) := by decide +kernel
theorem dX0_winner_25 : decode cX0_winner 25 = .ok (.iconst 0, 1) := by decide +kernel
theorem dX0_winner_26 : decode cX0_winner 26 = .ok (.invokevirtual 58, 3) := by decide +kernel
theorem dX0_winner_29 : decode cX0_winner 29 = .ok (.goto 4, 3) := by decide +kernel
theorem dX0_winner_32 : decode cX0_winner 32 = .ok (.iconst (-1), 1) := by decide +kernel
theorem dX0_winner_33 : decode cX0_winner 33 = .ok (.ireturn, 1) := by decide +kernel
theorem dX0_putUp_0 : decode cX0_putUp 0 = .ok (.aload_n 0, 1) := by decide +kernel
theorem dX0_putUp_1 : decode cX0_putUp 1 = .ok (.dup, 1) := by decide +kernel
theorem dX0_putUp_2 : decode cX0_putUp 2 = .ok (.getfield 34, 3) := by decide +kernel
theorem dX0_putUp_5 : decode cX0_putUp 5 = .ok (.iconst 1, 1) := by decide +kernel
theorem dX0_putUp_6 : decode cX0_putUp 6 = .ok (.iadd, 1) := by decide +kernel
theorem dX0_putUp_7 : decode cX0_putUp 7 = .ok (.putfield 34, 3) := by decide +kernel
theorem dX0_putUp_10 : decode cX0_putUp 10 = .ok (.aload_n 0, 1) := by decide +kernel
theorem dX0_putUp_11 : decode cX0_putUp 11 = .ok (.aload_n 1, 1) := by decide +kernel
theorem dX0_putUp_12 : decode cX0_putUp 12 = .ok (.invokevirtual 62, 3) := by decide +kernel
theorem dX0_putUp_15 : decode cX0_putUp 15 = .ok (.return_, 1) := by decide +kernel
theorem dX0_putDown_0 : decode cX0_putDown 0 = .ok (.aload_n 0, 1) := by decide +kernel
theorem dX0_putDown_1 : decode cX0_putDown 1 = .ok (.getfield 14, 3) := by decide +kernel
theorem dX0_putDown_4 : decode cX0_putDown 4 = .ok (.invokevirtual 66, 3) := by decide +kernel
theorem dX0_putDown_7 : decode cX0_putDown 7 = .ok (.aload_n 0, 1) := by decide +kernel
theorem dX0_putDown_8 : decode cX0_putDown 8 = .ok (.iconst 0, 1) := by decide +kernel
theorem dX0_putDown_9 : decode cX0_putDown 9 = .ok (.putfield 28, 3) := by decide +kernel
theorem dX0_putDown_12 : decode cX0_putDown 12 = .ok (.aload_n 0, 1) := by decide +kernel
theorem dX0_putDown_13 : decode cX0_putDown 13 = .ok (.iconst 0, 1) := by decide +kernel
theorem dX0_putDown_14 : decode cX0_putDown 14 = .ok (.putfield 31, 3) := by decide +kernel
theorem dX0_putDown_17 : decode cX0_putDown 17 = .ok (.aload_n 0, 1) := by decide +kernel
theorem dX0_putDown_18 : decode cX0_putDown 18 = .ok (.iconst 0, 1) := by decide +kernel
theorem dX0_putDown_19 : decode cX0_putDown 19 = .ok (.putfield 24, 3) := by decide +kernel
theorem dX0_putDown_22 : decode cX0_putDown 22 = .ok (.return_, 1) := by decide +kernel
theorem dX0_take_0 : decode cX0_take 0 = .ok (.aload_n 0, 1) := by decide +kernel
theorem dX0_take_1 : decode cX0_take 1 = .ok (.getfield 14, 3) := by decide +kernel
theorem dX0_take_4 : decode cX0_take 4 = .ok (.iload_n 1, 1) := by decide +kernel
theorem dX0_take_5 : decode cX0_take 5 = .ok (.invokevirtual 69, 3) := by decide +kernel
theorem dX0_take_8 : decode cX0_take 8 = .ok (.ifCond .ne 4, 3) := by decide +kernel
theorem dX0_take_11 : decode cX0_take 11 = .ok (.return_, 1) := by decide +kernel
theorem dX0_take_12 : decode cX0_take 12 = .ok (.aload_n 0, 1) := by decide +kernel
theorem dX0_take_13 : decode cX0_take 13 = .ok (.dup, 1) := by decide +kernel
theorem dX0_take_14 : decode cX0_take 14 = .ok (.getfield 43, 3) := by decide +kernel
theorem dX0_take_17 : decode cX0_take 17 = .ok (.iconst 1, 1) := by decide +kernel
theorem dX0_take_18 : decode cX0_take 18 = .ok (.iadd, 1) := by decide +kernel
theorem dX0_take_19 : decode cX0_take 19 = .ok (.putfield 43, 3) := by decide +kernel
theorem dX0_take_22 : decode cX0_take 22 = .ok (.aload_n 2, 1) := by decide +kernel
theorem dX0_take_23 : decode cX0_take 23 = .ok (.aload_n 0, 1) := by decide +kernel
theorem dX0_take_24 : decode cX0_take 24 = .ok (.getfield 14, 3) := by decide +kernel
theorem dX0_take_27 : decode cX0_take 27 = .ok (.iconst 1, 1) := by decide +kernel
theorem dX0_take_28 : decode cX0_take 28 = .ok (.invokevirtual 58, 3) := by decide +kernel
theorem dX0_take_31 : decode cX0_take 31 = .ok (.iconst (-1), 1) := by decide +kernel
theorem dX0_take_32 : decode cX0_take 32 = .ok (.if_icmp .eq 7, 3) := by decide +kernel
theorem dX0_take_35 : decode cX0_take 35 = .ok (.iconst 1, 1) := by decide +kernel
theorem dX0_take_36 : decode cX0_take 36 = .ok (.goto 4, 3) := by decide +kernel
theorem dX0_take_39 : decode cX0_take 39 = .ok (.iconst 0, 1) := by decide +kernel
theorem dX0_take_40 : decode cX0_take 40 = .ok (.istore_n 3, 1) := by decide +kernel
theorem dX0_take_41 : decode cX0_take 41 = .ok (.aload_n 0, 1) := by decide +kernel
theorem dX0_take_42 : decode cX0_take 42 = .ok (.getfield 14, 3) := by decide +kernel
theorem dX0_take_45 : decode cX0_take 45 = .ok (.invokevirtual 46, 3) := by decide +kernel
theorem dX0_take_48 : decode cX0_take 48 = .ok (.bipush 10, 2) := by decide +kernel
theorem dX0_take_50 : decode cX0_take 50 = .ok (.if_icmp .ge 15, 3) := by decide +kernel
theorem dX0_take_53 : decode cX0_take 53 = .ok (.aload_n 2, 1) := by decide +kernel
theorem dX0_take_54 : decode cX0_take 54 = .ok (.aload_n 0, 1) := by decide +kernel
theorem dX0_take_55 : decode cX0_take 55 = .ok (.getfield 14, 3) := by decide +kernel
theorem dX0_take_58 : decode cX0_take 58 = .ok (.iconst 2, 1) := by decide +kernel
theorem dX0_take_59 : decode cX0_take 59 = .ok (.invokevirtual 52, 3) := by decide +kernel
theorem dX0_take_62 : decode cX0_take 62 = .ok (.ifCond .ne 7, 3) := by decide +kernel
theorem dX0_take_65 : decode cX0_take 65 = .ok (.iconst 1, 1) := by decide +kernel
theorem dX0_take_66 : decode cX0_take 66 = .ok (.goto 4, 3) := by decide +kernel
theorem dX0_take_69 : decode cX0_take 69 = .ok (.iconst 0, 1) := by decide +kernel
theorem dX0_take_70 : decode cX0_take 70 = .ok (.istore 4, 2) := by decide +kernel
theorem dX0_take_72 : decode cX0_take 72 = .ok (.iload_n 3, 1) := by decide +kernel
theorem dX0_take_73 : decode cX0_take 73 = .ok (.ifCond .eq 12, 3) := by decide +kernel
theorem dX0_take_76 : decode cX0_take 76 = .ok (.aload_n 0, 1) := by decide +kernel
theorem dX0_take_77 : decode cX0_take 77 = .ok (.iconst 4, 1) := by decide +kernel
theorem dX0_take_78 : decode cX0_take 78 = .ok (.aload_n 2, 1) := by decide +kernel
theorem dX0_take_79 : decode cX0_take 79 = .ok (.invokevirtual 73, 3) := by decide +kernel
theorem dX0_take_82 : decode cX0_take 82 = .ok (.goto 22, 3) := by decide +kernel
theorem dX0_take_85 : decode cX0_take 85 = .ok (.iload 4, 2) := by decide +kernel
theorem dX0_take_87 : decode cX0_take 87 = .ok (.ifCond .eq 12, 3) := by decide +kernel
theorem dX0_take_90 : decode cX0_take 90 = .ok (.aload_n 0, 1) := by decide +kernel
theorem dX0_take_91 : decode cX0_take 91 = .ok (.iconst 1, 1) := by decide +kernel
theorem dX0_take_92 : decode cX0_take 92 = .ok (.aload_n 2, 1) := by decide +kernel
theorem dX0_take_93 : decode cX0_take 93 = .ok (.invokevirtual 73, 3) := by decide +kernel
theorem dX0_take_96 : decode cX0_take 96 = .ok (.goto 8, 3) := by decide +kernel
theorem dX0_take_99 : decode cX0_take 99 = .ok (.aload_n 0, 1) := by decide +kernel
theorem dX0_take_100 : decode cX0_take 100 = .ok (.aload_n 2, 1) := by decide +kernel
theorem dX0_take_101 : decode cX0_take 101 = .ok (.invokevirtual 62, 3) := by decide +kernel
theorem dX0_take_104 : decode cX0_take 104 = .ok (.return_, 1) := by decide +kernel
theorem dX0_letTicksGo_0 : decode cX0_letTicksGo 0 = .ok (.iload_n 1, 1) := by decide +kernel
theorem dX0_letTicksGo_1 : decode cX0_letTicksGo 1 = .ok (.aload_n 0, 1) := by decide +kernel
theorem dX0_letTicksGo_2 : decode cX0_letTicksGo 2 = .ok (.getfield 31, 3) := by decide +kernel
theorem dX0_letTicksGo_5 : decode cX0_letTicksGo 5 = .ok (.if_icmp .ge 16, 3) := by decide +kernel
theorem dX0_letTicksGo_8 : decode cX0_letTicksGo 8 = .ok (.aload_n 0, 1) := by decide +kernel
theorem dX0_letTicksGo_9 : decode cX0_letTicksGo 9 = .ok (.dup, 1) := by decide +kernel
theorem dX0_letTicksGo_10 : decode cX0_letTicksGo 10 = .ok (.getfield 31, 3) := by decide +kernel
theorem dX0_letTicksGo_13 : decode cX0_letTicksGo 13 = .ok (.iload_n 1, 1) := by decide +kernel
theorem dX0_letTicksGo_14 : decode cX0_letTicksGo 14 = .ok (.isub, 1) := by decide +kernel
theorem dX0_letTicksGo_15 : decode cX0_letTicksGo 15 = .ok (.putfield 31, 3) := by decide +kernel
theorem dX0_letTicksGo_18 : decode cX0_letTicksGo 18 = .ok (.goto 9, 3) := by decide +kernel
theorem dX0_letTicksGo_21 : decode cX0_letTicksGo 21 = .ok (.aload_n 0, 1) := by decide +kernel
theorem dX0_letTicksGo_22 : decode cX0_letTicksGo 22 = .ok (.iconst 2, 1) := by decide +kernel
theorem dX0_letTicksGo_23 : decode cX0_letTicksGo 23 = .ok (.aload_n 2, 1) := by decide +kernel
theorem dX0_letTicksGo_24 : decode cX0_letTicksGo 24 = .ok (.invokevirtual 73, 3) := by decide +kernel
theorem dX0_letTicksGo_27 : decode cX0_letTicksGo 27 = .ok (.return_, 1) := by decide +kernel
theorem dX0_goOnWaiting_0 : decode cX0_goOnWaiting 0 = .ok (.aload_n 0, 1) := by decide +kernel
theorem dX0_goOnWaiting_1 : decode cX0_goOnWaiting 1 = .ok (.iconst 1, 1) := by decide +kernel
theorem dX0_goOnWaiting_2 : decode cX0_goOnWaiting 2 = .ok (.putfield 24, 3) := by decide +kernel
theorem dX0_goOnWaiting_5 : decode cX0_goOnWaiting 5 = .ok (.aload_n 0, 1) := by decide +kernel
theorem dX0_goOnWaiting_6 : decode cX0_goOnWaiting 6 = .ok (.aload_n 0, 1) := by decide +kernel
theorem dX0_goOnWaiting_7 : decode cX0_goOnWaiting 7 = .ok (.aload_n 0, 1) := by decide +kernel
theorem dX0_goOnWaiting_8 : decode cX0_goOnWaiting 8 = .ok (.aload_n 1, 1) := by decide +kernel
theorem dX0_goOnWaiting_9 : decode cX0_goOnWaiting 9 = .ok (.invokevirtual 77, 3) := by decide +kernel
theorem dX0_goOnWaiting_12 : decode cX0_goOnWaiting 12 = .ok (.invokevirtual 81, 3) := by decide +kernel
theorem dX0_goOnWaiting_15 : decode cX0_goOnWaiting 15 = .ok (.putfield 31, 3) := by decide +kernel
theorem dX0_goOnWaiting_18 : decode cX0_goOnWaiting 18 = .ok (.return_, 1) := by decide +kernel
theorem dX0_settle_0 : decode cX0_settle 0 = .ok (.aload_n 0, 1) := by decide +kernel
theorem dX0_settle_1 : decode cX0_settle 1 = .ok (.iload_n 1, 1) := by decide +kernel
theorem dX0_settle_2 : decode cX0_settle 2 = .ok (.putfield 28, 3) := by decide +kernel
theorem dX0_settle_5 : decode cX0_settle 5 = .ok (.aload_n 0, 1) := by decide +kernel
theorem dX0_settle_6 : decode cX0_settle 6 = .ok (.iconst 0, 1) := by decide +kernel
theorem dX0_settle_7 : decode cX0_settle 7 = .ok (.putfield 31, 3) := by decide +kernel
theorem dX0_settle_10 : decode cX0_settle 10 = .ok (.aload_n 2, 1) := by decide +kernel
theorem dX0_settle_11 : decode cX0_settle 11 = .ok (.aload_n 0, 1) := by decide +kernel
theorem dX0_settle_12 : decode cX0_settle 12 = .ok (.getfield 14, 3) := by decide +kernel
theorem dX0_settle_15 : decode cX0_settle 15 = .ok (.iconst 1, 1) := by decide +kernel
theorem dX0_settle_16 : decode cX0_settle 16 = .ok (.invokevirtual 52, 3) := by decide +kernel
theorem dX0_settle_19 : decode cX0_settle 19 = .ok (.ifCond .eq 21, 3) := by decide +kernel
theorem dX0_settle_22 : decode cX0_settle 22 = .ok (.aload_n 0, 1) := by decide +kernel
theorem dX0_settle_23 : decode cX0_settle 23 = .ok (.iconst 2, 1) := by decide +kernel
theorem dX0_settle_24 : decode cX0_settle 24 = .ok (.putfield 24, 3) := by decide +kernel
theorem dX0_settle_27 : decode cX0_settle 27 = .ok (.aload_n 0, 1) := by decide +kernel
theorem dX0_settle_28 : decode cX0_settle 28 = .ok (.dup, 1) := by decide +kernel
theorem dX0_settle_29 : decode cX0_settle 29 = .ok (.getfield 37, 3) := by decide +kernel
theorem dX0_settle_32 : decode cX0_settle 32 = .ok (.iconst 1, 1) := by decide +kernel
theorem dX0_settle_33 : decode cX0_settle 33 = .ok (.iadd, 1) := by decide +kernel
theorem dX0_settle_34 : decode cX0_settle 34 = .ok (.putfield 37, 3) := by decide +kernel
theorem dX0_settle_37 : decode cX0_settle 37 = .ok (.goto 18, 3) := by decide +kernel
theorem dX0_settle_40 : decode cX0_settle 40 = .ok (.aload_n 0, 1) := by decide +kernel
theorem dX0_settle_41 : decode cX0_settle 41 = .ok (.iconst 3, 1) := by decide +kernel
theorem dX0_settle_42 : decode cX0_settle 42 = .ok (.putfield 24, 3) := by decide +kernel
theorem dX0_settle_45 : decode cX0_settle 45 = .ok (.aload_n 0, 1) := by decide +kernel
theorem dX0_settle_46 : decode cX0_settle 46 = .ok (.dup, 1) := by decide +kernel
theorem dX0_settle_47 : decode cX0_settle 47 = .ok (.getfield 40, 3) := by decide +kernel
theorem dX0_settle_50 : decode cX0_settle 50 = .ok (.iconst 1, 1) := by decide +kernel
theorem dX0_settle_51 : decode cX0_settle 51 = .ok (.iadd, 1) := by decide +kernel
theorem dX0_settle_52 : decode cX0_settle 52 = .ok (.putfield 40, 3) := by decide +kernel
theorem dX0_settle_55 : decode cX0_settle 55 = .ok (.return_, 1) := by decide +kernel
theorem dX1_init_0 : decode cX1_init 0 = .ok (.aload_n 0, 1) := by decide +kernel
theorem dX1_init_1 : decode cX1_init 1 = .ok (.invokespecial 3, 3) := by decide +kernel
theorem dX1_init_4 : decode cX1_init 4 = .ok (.aload_n 0, 1) := by decide +kernel
theorem dX1_init_5 : decode cX1_init 5 = .ok (.bipush 10, 2) := by decide +kernel
theorem dX1_init_7 : decode cX1_init 7 = .ok (.newarray .int, 2) := by decide +kernel
theorem dX1_init_9 : decode cX1_init 9 = .ok (.putfield 9, 3) := by decide +kernel
theorem dX1_init_12 : decode cX1_init 12 = .ok (.aload_n 0, 1) := by decide +kernel
theorem dX1_init_13 : decode cX1_init 13 = .ok (.bipush 10, 2) := by decide +kernel
theorem dX1_init_15 : decode cX1_init 15 = .ok (.newarray .int, 2) := by decide +kernel
theorem dX1_init_17 : decode cX1_init 17 = .ok (.putfield 15, 3) := by decide +kernel
theorem dX1_init_20 : decode cX1_init 20 = .ok (.aload_n 0, 1) := by decide +kernel
theorem dX1_init_21 : decode cX1_init 21 = .ok (.new 18, 3) := by decide +kernel
theorem dX1_init_24 : decode cX1_init 24 = .ok (.dup, 1) := by decide +kernel
theorem dX1_init_25 : decode cX1_init 25 = .ok (.iconst 4, 1) := by decide +kernel
theorem dX1_init_26 : decode cX1_init 26 = .ok (.invokespecial 20, 3) := by decide +kernel
theorem dX1_init_29 : decode cX1_init 29 = .ok (.putfield 23, 3) := by decide +kernel
theorem dX1_init_32 : decode cX1_init 32 = .ok (.return_, 1) := by decide +kernel
theorem dX1_places_0 : decode cX1_places 0 = .ok (.aload_n 0, 1) := by decide +kernel
theorem dX1_places_1 : decode cX1_places 1 = .ok (.getfield 27, 3) := by decide +kernel
theorem dX1_places_4 : decode cX1_places 4 = .ok (.ireturn, 1) := by decide +kernel
theorem dX1_isOpen_0 : decode cX1_isOpen 0 = .ok (.aload_n 0, 1) := by decide +kernel
theorem dX1_isOpen_1 : decode cX1_isOpen 1 = .ok (.getfield 31, 3) := by decide +kernel
theorem dX1_isOpen_4 : decode cX1_isOpen 4 = .ok (.ireturn, 1) := by decide +kernel
theorem dX1_way_0 : decode cX1_way 0 = .ok (.aload_n 0, 1) := by decide +kernel
theorem dX1_way_1 : decode cX1_way 1 = .ok (.getfield 35, 3) := by decide +kernel
theorem dX1_way_4 : decode cX1_way 4 = .ok (.ireturn, 1) := by decide +kernel
theorem dX1_dropped_0 : decode cX1_dropped 0 = .ok (.aload_n 0, 1) := by decide +kernel
theorem dX1_dropped_1 : decode cX1_dropped 1 = .ok (.getfield 38, 3) := by decide +kernel
theorem dX1_dropped_4 : decode cX1_dropped 4 = .ok (.ireturn, 1) := by decide +kernel
theorem dX1_ahead_0 : decode cX1_ahead 0 = .ok (.aload_n 0, 1) := by decide +kernel
theorem dX1_ahead_1 : decode cX1_ahead 1 = .ok (.getfield 23, 3) := by decide +kernel
theorem dX1_ahead_4 : decode cX1_ahead 4 = .ok (.areturn, 1) := by decide +kernel
theorem dX1_digitsAt_0 : decode cX1_digitsAt 0 = .ok (.iload_n 1, 1) := by decide +kernel
theorem dX1_digitsAt_1 : decode cX1_digitsAt 1 = .ok (.ifCond .lt 21, 3) := by decide +kernel
theorem dX1_digitsAt_4 : decode cX1_digitsAt 4 = .ok (.iload_n 1, 1) := by decide +kernel
theorem dX1_digitsAt_5 : decode cX1_digitsAt 5 = .ok (.aload_n 0, 1) := by decide +kernel
theorem dX1_digitsAt_6 : decode cX1_digitsAt 6 = .ok (.getfield 9, 3) := by decide +kernel
theorem dX1_digitsAt_9 : decode cX1_digitsAt 9 = .ok (.arraylength, 1) := by decide +kernel
theorem dX1_digitsAt_10 : decode cX1_digitsAt 10 = .ok (.if_icmp .ge 12, 3) := by decide +kernel
theorem dX1_digitsAt_13 : decode cX1_digitsAt 13 = .ok (.aload_n 0, 1) := by decide +kernel
theorem dX1_digitsAt_14 : decode cX1_digitsAt 14 = .ok (.getfield 9, 3) := by decide +kernel
theorem dX1_digitsAt_17 : decode cX1_digitsAt 17 = .ok (.iload_n 1, 1) := by decide +kernel
theorem dX1_digitsAt_18 : decode cX1_digitsAt 18 = .ok (.iaload, 1) := by decide +kernel
theorem dX1_digitsAt_19 : decode cX1_digitsAt 19 = .ok (.goto 4, 3) := by decide +kernel
theorem dX1_digitsAt_22 : decode cX1_digitsAt 22 = .ok (.iconst 0, 1) := by decide +kernel
theorem dX1_digitsAt_23 : decode cX1_digitsAt 23 = .ok (.ireturn, 1) := by decide +kernel
theorem dX1_clear_0 : decode cX1_clear 0 = .ok (.aload_n 0, 1) := by decide +kernel
theorem dX1_clear_1 : decode cX1_clear 1 = .ok (.iconst 0, 1) := by decide +kernel
theorem dX1_clear_2 : decode cX1_clear 2 = .ok (.iconst 0, 1) := by decide +kernel
theorem dX1_clear_3 : decode cX1_clear 3 = .ok (.iconst 0, 1) := by decide +kernel
theorem dX1_clear_4 : decode cX1_clear 4 = .ok (.invokevirtual 41, 3) := by decide +kernel
theorem dX1_clear_7 : decode cX1_clear 7 = .ok (.aload_n 0, 1) := by decide +kernel
theorem dX1_clear_8 : decode cX1_clear 8 = .ok (.getfield 23, 3) := by decide +kernel
theorem dX1_clear_11 : decode cX1_clear 11 = .ok (.invokevirtual 45, 3) := by decide +kernel
theorem dX1_clear_14 : decode cX1_clear 14 = .ok (.aload_n 0, 1) := by decide +kernel
theorem dX1_clear_15 : decode cX1_clear 15 = .ok (.iconst 0, 1) := by decide +kernel
theorem dX1_clear_16 : decode cX1_clear 16 = .ok (.putfield 27, 3) := by decide +kernel
theorem dX1_clear_19 : decode cX1_clear 19 = .ok (.aload_n 0, 1) := by decide +kernel
theorem dX1_clear_20 : decode cX1_clear 20 = .ok (.iconst 0, 1) := by decide +kernel
theorem dX1_clear_21 : decode cX1_clear 21 = .ok (.putfield 31, 3) := by decide +kernel
theorem dX1_clear_24 : decode cX1_clear 24 = .ok (.aload_n 0, 1) := by decide +kernel
theorem dX1_clear_25 : decode cX1_clear 25 = .ok (.iconst 0, 1) := by decide +kernel
theorem dX1_clear_26 : decode cX1_clear 26 = .ok (.putfield 35, 3) := by decide +kernel
theorem dX1_clear_29 : decode cX1_clear 29 = .ok (.aload_n 0, 1) := by decide +kernel
theorem dX1_clear_30 : decode cX1_clear 30 = .ok (.iconst 0, 1) := by decide +kernel
theorem dX1_clear_31 : decode cX1_clear 31 = .ok (.putfield 38, 3) := by decide +kernel
theorem dX1_clear_34 : decode cX1_clear 34 = .ok (.return_, 1) := by decide +kernel
theorem dX1_hasRoom_0 : decode cX1_hasRoom 0 = .ok (.aload_n 0, 1) := by decide +kernel
theorem dX1_hasRoom_1 : decode cX1_hasRoom 1 = .ok (.getfield 27, 3) := by decide +kernel
theorem dX1_hasRoom_4 : decode cX1_hasRoom 4 = .ok (.ifCond .lt 16, 3) := by decide +kernel
theorem dX1_hasRoom_7 : decode cX1_hasRoom 7 = .ok (.aload_n 0, 1) := by decide +kernel
theorem dX1_hasRoom_8 : decode cX1_hasRoom 8 = .ok (.getfield 27, 3) := by decide +kernel
theorem dX1_hasRoom_11 : decode cX1_hasRoom 11 = .ok (.bipush 8, 2) := by decide +kernel
theorem dX1_hasRoom_13 : decode cX1_hasRoom 13 = .ok (.if_icmp .ge 7, 3) := by decide +kernel
theorem dX1_hasRoom_16 : decode cX1_hasRoom 16 = .ok (.iconst 1, 1) := by decide +kernel
theorem dX1_hasRoom_17 : decode cX1_hasRoom 17 = .ok (.goto 4, 3) := by decide +kernel
theorem dX1_hasRoom_20 : decode cX1_hasRoom 20 = .ok (.iconst 0, 1) := by decide +kernel
theorem dX1_hasRoom_21 : decode cX1_hasRoom 21 = .ok (.ireturn, 1) := by decide +kernel
theorem dX1_appendPlace_0 : decode cX1_appendPlace 0 = .ok (.aload_n 0, 1) := by decide +kernel
theorem dX1_appendPlace_1 : decode cX1_appendPlace 1 = .ok (.getfield 27, 3) := by decide +kernel
theorem dX1_appendPlace_4 : decode cX1_appendPlace 4 = .ok (.ifCond .lt 36, 3) := by decide +kernel
theorem dX1_appendPlace_7 : decode cX1_appendPlace 7 = .ok (.aload_n 0, 1) := by decide +kernel
theorem dX1_appendPlace_8 : decode cX1_appendPlace 8 = .ok (.getfield 27, 3) := by decide +kernel
theorem dX1_appendPlace_11 : decode cX1_appendPlace 11 = .ok (.bipush 8, 2) := by decide +kernel
theorem dX1_appendPlace_13 : decode cX1_appendPlace 13 = .ok (.if_icmp .ge 27, 3) := by decide +kernel
theorem dX1_appendPlace_16 : decode cX1_appendPlace 16 = .ok (.aload_n 0, 1) := by decide +kernel
theorem dX1_appendPlace_17 : decode cX1_appendPlace 17 = .ok (.getfield 27, 3) := by decide +kernel
theorem dX1_appendPlace_20 : decode cX1_appendPlace 20 = .ok (.aload_n 0, 1) := by decide +kernel
theorem dX1_appendPlace_21 : decode cX1_appendPlace 21 = .ok (.getfield 9, 3) := by decide +kernel
theorem dX1_appendPlace_24 : decode cX1_appendPlace 24 = .ok (.arraylength, 1) := by decide +kernel
theorem dX1_appendPlace_25 : decode cX1_appendPlace 25 = .ok (.if_icmp .ge 15, 3) := by decide +kernel
theorem dX1_appendPlace_28 : decode cX1_appendPlace 28 = .ok (.aload_n 0, 1) := by decide +kernel
theorem dX1_appendPlace_29 : decode cX1_appendPlace 29 = .ok (.getfield 27, 3) := by decide +kernel
theorem dX1_appendPlace_32 : decode cX1_appendPlace 32 = .ok (.aload_n 0, 1) := by decide +kernel
theorem dX1_appendPlace_33 : decode cX1_appendPlace 33 = .ok (.getfield 15, 3) := by decide +kernel
theorem dX1_appendPlace_36 : decode cX1_appendPlace 36 = .ok (.arraylength, 1) := by decide +kernel
theorem dX1_appendPlace_37 : decode cX1_appendPlace 37 = .ok (.if_icmp .lt 4, 3) := by decide +kernel
theorem dX1_appendPlace_40 : decode cX1_appendPlace 40 = .ok (.return_, 1) := by decide +kernel
theorem dX1_appendPlace_41 : decode cX1_appendPlace 41 = .ok (.iconst 0, 1) := by decide +kernel
theorem dX1_appendPlace_42 : decode cX1_appendPlace 42 = .ok (.istore_n 3, 1) := by decide +kernel
theorem dX1_appendPlace_43 : decode cX1_appendPlace 43 = .ok (.iload_n 1, 1) := by decide +kernel
theorem dX1_appendPlace_44 : decode cX1_appendPlace 44 = .ok (.iconst 0, 1) := by decide +kernel
theorem dX1_appendPlace_45 : decode cX1_appendPlace 45 = .ok (.invokestatic 48, 3) := by decide +kernel
theorem dX1_appendPlace_48 : decode cX1_appendPlace 48 = .ok (.istore 4, 2) := by decide +kernel
theorem dX1_appendPlace_50 : decode cX1_appendPlace 50 = .ok (.iload 4, 2) := by decide +kernel
theorem dX1_appendPlace_52 : decode cX1_appendPlace 52 = .ok (.iload_n 2, 1) := by decide +kernel
theorem dX1_appendPlace_53 : decode cX1_appendPlace 53 = .ok (.if_icmp .gt 23, 3) := by decide +kernel
theorem dX1_appendPlace_56 : decode cX1_appendPlace 56 = .ok (.iload 4, 2) := by decide +kernel
theorem dX1_appendPlace_58 : decode cX1_appendPlace 58 = .ok (.bipush 9, 2) := by decide +kernel
theorem dX1_appendPlace_60 : decode cX1_appendPlace 60 = .ok (.if_icmp .gt 16, 3) := by decide +kernel
theorem dX1_appendPlace_63 : decode cX1_appendPlace 63 = .ok (.iload_n 3, 1) := by decide +kernel
theorem dX1_appendPlace_64 : decode cX1_appendPlace 64 = .ok (.iconst 1, 1) := by decide +kernel
theorem dX1_appendPlace_65 : decode cX1_appendPlace 65 = .ok (.iload 4, 2) := by decide +kernel
theorem dX1_appendPlace_67 : decode cX1_appendPlace 67 = .ok (.ishl, 1) := by decide +kernel
theorem dX1_appendPlace_68 : decode cX1_appendPlace 68 = .ok (.ior, 1) := by decide +kernel
theorem dX1_appendPlace_69 : decode cX1_appendPlace 69 = .ok (.istore_n 3, 1) := by decide +kernel
theorem dX1_appendPlace_70 : decode cX1_appendPlace 70 = .ok (.iinc 4 1, 3) := by decide +kernel
theorem dX1_appendPlace_73 : decode cX1_appendPlace 73 = .ok (.goto (-23), 3) := by decide +kernel
theorem dX1_appendPlace_76 : decode cX1_appendPlace 76 = .ok (.aload_n 0, 1) := by decide +kernel
theorem dX1_appendPlace_77 : decode cX1_appendPlace 77 = .ok (.getfield 9, 3) := by decide +kernel
theorem dX1_appendPlace_80 : decode cX1_appendPlace 80 = .ok (.aload_n 0, 1) := by decide +kernel
theorem dX1_appendPlace_81 : decode cX1_appendPlace 81 = .ok (.getfield 27, 3) := by decide +kernel
theorem dX1_appendPlace_84 : decode cX1_appendPlace 84 = .ok (.iload_n 3, 1) := by decide +kernel
theorem dX1_appendPlace_85 : decode cX1_appendPlace 85 = .ok (.iastore, 1) := by decide +kernel
theorem dX1_appendPlace_86 : decode cX1_appendPlace 86 = .ok (.aload_n 0, 1) := by decide +kernel
theorem dX1_appendPlace_87 : decode cX1_appendPlace 87 = .ok (.getfield 15, 3) := by decide +kernel
theorem dX1_appendPlace_90 : decode cX1_appendPlace 90 = .ok (.aload_n 0, 1) := by decide +kernel
theorem dX1_appendPlace_91 : decode cX1_appendPlace 91 = .ok (.getfield 27, 3) := by decide +kernel
theorem dX1_appendPlace_94 : decode cX1_appendPlace 94 = .ok (.iload_n 3, 1) := by decide +kernel
theorem dX1_appendPlace_95 : decode cX1_appendPlace 95 = .ok (.invokestatic 54, 3) := by decide +kernel
theorem dX1_appendPlace_98 : decode cX1_appendPlace 98 = .ok (.iastore, 1) := by decide +kernel
theorem dX1_appendPlace_99 : decode cX1_appendPlace 99 = .ok (.aload_n 0, 1) := by decide +kernel
theorem dX1_appendPlace_100 : decode cX1_appendPlace 100 = .ok (.dup, 1) := by decide +kernel
theorem dX1_appendPlace_101 : decode cX1_appendPlace 101 = .ok (.getfield 27, 3) := by decide +kernel
theorem dX1_appendPlace_104 : decode cX1_appendPlace 104 = .ok (.iconst 1, 1) := by decide +kernel
theorem dX1_appendPlace_105 : decode cX1_appendPlace 105 = .ok (.iadd, 1) := by decide +kernel
theorem dX1_appendPlace_106 : decode cX1_appendPlace 106 = .ok (.putfield 27, 3) := by decide +kernel
theorem dX1_appendPlace_109 : decode cX1_appendPlace 109 = .ok (.return_, 1) := by decide +kernel
theorem dX1_makeOpen_0 : decode cX1_makeOpen 0 = .ok (.aload_n 0, 1) := by decide +kernel
theorem dX1_makeOpen_1 : decode cX1_makeOpen 1 = .ok (.iconst 1, 1) := by decide +kernel
theorem dX1_makeOpen_2 : decode cX1_makeOpen 2 = .ok (.putfield 31, 3) := by decide +kernel
theorem dX1_makeOpen_5 : decode cX1_makeOpen 5 = .ok (.aload_n 0, 1) := by decide +kernel
theorem dX1_makeOpen_6 : decode cX1_makeOpen 6 = .ok (.aload_n 0, 1) := by decide +kernel
theorem dX1_makeOpen_7 : decode cX1_makeOpen 7 = .ok (.getfield 27, 3) := by decide +kernel
theorem dX1_makeOpen_10 : decode cX1_makeOpen 10 = .ok (.sipush 1023, 3) := by decide +kernel
theorem dX1_makeOpen_13 : decode cX1_makeOpen 13 = .ok (.bipush 11, 2) := by decide +kernel
theorem dX1_makeOpen_15 : decode cX1_makeOpen 15 = .ok (.invokevirtual 41, 3) := by decide +kernel
theorem dX1_makeOpen_18 : decode cX1_makeOpen 18 = .ok (.return_, 1) := by decide +kernel
theorem dX1_setFrom_0 : decode cX1_setFrom 0 = .ok (.iload_n 1, 1) := by decide +kernel
theorem dX1_setFrom_1 : decode cX1_setFrom 1 = .ok (.iconst 0, 1) := by decide +kernel
theorem dX1_setFrom_2 : decode cX1_setFrom 2 = .ok (.invokestatic 48, 3) := by decide +kernel
theorem dX1_setFrom_5 : decode cX1_setFrom 5 = .ok (.istore 4, 2) := by decide +kernel
theorem dX1_setFrom_7 : decode cX1_setFrom 7 = .ok (.iload 4, 2) := by decide +kernel
theorem dX1_setFrom_9 : decode cX1_setFrom 9 = .ok (.aload_n 0, 1) := by decide +kernel
theorem dX1_setFrom_10 : decode cX1_setFrom 10 = .ok (.getfield 9, 3) := by decide +kernel
theorem dX1_setFrom_13 : decode cX1_setFrom 13 = .ok (.arraylength, 1) := by decide +kernel
theorem dX1_setFrom_14 : decode cX1_setFrom 14 = .ok (.if_icmp .ge 35, 3) := by decide +kernel
theorem dX1_setFrom_17 : decode cX1_setFrom 17 = .ok (.iload 4, 2) := by decide +kernel
theorem dX1_setFrom_19 : decode cX1_setFrom 19 = .ok (.aload_n 0, 1) := by decide +kernel
theorem dX1_setFrom_20 : decode cX1_setFrom 20 = .ok (.getfield 15, 3) := by decide +kernel
theorem dX1_setFrom_23 : decode cX1_setFrom 23 = .ok (.arraylength, 1) := by decide +kernel
theorem dX1_setFrom_24 : decode cX1_setFrom 24 = .ok (.if_icmp .ge 25, 3) := by decide +kernel
theorem dX1_setFrom_27 : decode cX1_setFrom 27 = .ok (.aload_n 0, 1) := by decide +kernel
theorem dX1_setFrom_28 : decode cX1_setFrom 28 = .ok (.getfield 9, 3) := by decide +kernel
theorem dX1_setFrom_31 : decode cX1_setFrom 31 = .ok (.iload 4, 2) := by decide +kernel
theorem dX1_setFrom_33 : decode cX1_setFrom 33 = .ok (.iload_n 2, 1) := by decide +kernel
theorem dX1_setFrom_34 : decode cX1_setFrom 34 = .ok (.iastore, 1) := by decide +kernel
theorem dX1_setFrom_35 : decode cX1_setFrom 35 = .ok (.aload_n 0, 1) := by decide +kernel
theorem dX1_setFrom_36 : decode cX1_setFrom 36 = .ok (.getfield 15, 3) := by decide +kernel
theorem dX1_setFrom_39 : decode cX1_setFrom 39 = .ok (.iload 4, 2) := by decide +kernel
theorem dX1_setFrom_41 : decode cX1_setFrom 41 = .ok (.iload_n 3, 1) := by decide +kernel
theorem dX1_setFrom_42 : decode cX1_setFrom 42 = .ok (.iastore, 1) := by decide +kernel
theorem dX1_setFrom_43 : decode cX1_setFrom 43 = .ok (.iinc 4 1, 3) := by decide +kernel
theorem dX1_setFrom_46 : decode cX1_setFrom 46 = .ok (.goto (-39), 3) := by decide +kernel
theorem dX1_setFrom_49 : decode cX1_setFrom 49 = .ok (.return_, 1) := by decide +kernel
theorem dX1_setWay_0 : decode cX1_setWay 0 = .ok (.aload_n 0, 1) := by decide +kernel
theorem dX1_setWay_1 : decode cX1_setWay 1 = .ok (.iload_n 1, 1) := by decide +kernel
theorem dX1_setWay_2 : decode cX1_setWay 2 = .ok (.putfield 35, 3) := by decide +kernel
theorem dX1_setWay_5 : decode cX1_setWay 5 = .ok (.return_, 1) := by decide +kernel
theorem dX1_setDropped_0 : decode cX1_setDropped 0 = .ok (.aload_n 0, 1) := by decide +kernel
theorem dX1_setDropped_1 : decode cX1_setDropped 1 = .ok (.iload_n 1, 1) := by decide +kernel
theorem dX1_setDropped_2 : decode cX1_setDropped 2 = .ok (.putfield 38, 3) := by decide +kernel
theorem dX1_setDropped_5 : decode cX1_setDropped 5 = .ok (.return_, 1) := by decide +kernel
theorem dX1_copyFrom_0 : decode cX1_copyFrom 0 = .ok (.iconst 0, 1) := by decide +kernel
theorem dX1_copyFrom_1 : decode cX1_copyFrom 1 = .ok (.istore_n 2, 1) := by decide +kernel
theorem dX1_copyFrom_2 : decode cX1_copyFrom 2 = .ok (.iload_n 2, 1) := by decide +kernel
theorem dX1_copyFrom_3 : decode cX1_copyFrom 3 = .ok (.aload_n 0, 1) := by decide +kernel
theorem dX1_copyFrom_4 : decode cX1_copyFrom 4 = .ok (.getfield 9, 3) := by decide +kernel
theorem dX1_copyFrom_7 : decode cX1_copyFrom 7 = .ok (.arraylength, 1) := by decide +kernel
theorem dX1_copyFrom_8 : decode cX1_copyFrom 8 = .ok (.if_icmp .ge 30, 3) := by decide +kernel
theorem dX1_copyFrom_11 : decode cX1_copyFrom 11 = .ok (.iload_n 2, 1) := by decide +kernel
theorem dX1_copyFrom_12 : decode cX1_copyFrom 12 = .ok (.aload_n 1, 1) := by decide +kernel
theorem dX1_copyFrom_13 : decode cX1_copyFrom 13 = .ok (.getfield 9, 3) := by decide +kernel
theorem dX1_copyFrom_16 : decode cX1_copyFrom 16 = .ok (.arraylength, 1) := by decide +kernel
theorem dX1_copyFrom_17 : decode cX1_copyFrom 17 = .ok (.if_icmp .ge 21, 3) := by decide +kernel
theorem dX1_copyFrom_20 : decode cX1_copyFrom 20 = .ok (.aload_n 0, 1) := by decide +kernel
theorem dX1_copyFrom_21 : decode cX1_copyFrom 21 = .ok (.getfield 9, 3) := by decide +kernel
theorem dX1_copyFrom_24 : decode cX1_copyFrom 24 = .ok (.iload_n 2, 1) := by decide +kernel
theorem dX1_copyFrom_25 : decode cX1_copyFrom 25 = .ok (.aload_n 1, 1) := by decide +kernel
theorem dX1_copyFrom_26 : decode cX1_copyFrom 26 = .ok (.getfield 9, 3) := by decide +kernel
theorem dX1_copyFrom_29 : decode cX1_copyFrom 29 = .ok (.iload_n 2, 1) := by decide +kernel
theorem dX1_copyFrom_30 : decode cX1_copyFrom 30 = .ok (.iaload, 1) := by decide +kernel
theorem dX1_copyFrom_31 : decode cX1_copyFrom 31 = .ok (.iastore, 1) := by decide +kernel
theorem dX1_copyFrom_32 : decode cX1_copyFrom 32 = .ok (.iinc 2 1, 3) := by decide +kernel
theorem dX1_copyFrom_35 : decode cX1_copyFrom 35 = .ok (.goto (-33), 3) := by decide +kernel
theorem dX1_copyFrom_38 : decode cX1_copyFrom 38 = .ok (.iconst 0, 1) := by decide +kernel
theorem dX1_copyFrom_39 : decode cX1_copyFrom 39 = .ok (.istore_n 2, 1) := by decide +kernel
theorem dX1_copyFrom_40 : decode cX1_copyFrom 40 = .ok (.iload_n 2, 1) := by decide +kernel
theorem dX1_copyFrom_41 : decode cX1_copyFrom 41 = .ok (.aload_n 0, 1) := by decide +kernel
theorem dX1_copyFrom_42 : decode cX1_copyFrom 42 = .ok (.getfield 15, 3) := by decide +kernel
theorem dX1_copyFrom_45 : decode cX1_copyFrom 45 = .ok (.arraylength, 1) := by decide +kernel
theorem dX1_copyFrom_46 : decode cX1_copyFrom 46 = .ok (.if_icmp .ge 30, 3) := by decide +kernel
theorem dX1_copyFrom_49 : decode cX1_copyFrom 49 = .ok (.iload_n 2, 1) := by decide +kernel
theorem dX1_copyFrom_50 : decode cX1_copyFrom 50 = .ok (.aload_n 1, 1) := by decide +kernel
theorem dX1_copyFrom_51 : decode cX1_copyFrom 51 = .ok (.getfield 15, 3) := by decide +kernel
theorem dX1_copyFrom_54 : decode cX1_copyFrom 54 = .ok (.arraylength, 1) := by decide +kernel
theorem dX1_copyFrom_55 : decode cX1_copyFrom 55 = .ok (.if_icmp .ge 21, 3) := by decide +kernel
theorem dX1_copyFrom_58 : decode cX1_copyFrom 58 = .ok (.aload_n 0, 1) := by decide +kernel
theorem dX1_copyFrom_59 : decode cX1_copyFrom 59 = .ok (.getfield 15, 3) := by decide +kernel
theorem dX1_copyFrom_62 : decode cX1_copyFrom 62 = .ok (.iload_n 2, 1) := by decide +kernel
theorem dX1_copyFrom_63 : decode cX1_copyFrom 63 = .ok (.aload_n 1, 1) := by decide +kernel
theorem dX1_copyFrom_64 : decode cX1_copyFrom 64 = .ok (.getfield 15, 3) := by decide +kernel
theorem dX1_copyFrom_67 : decode cX1_copyFrom 67 = .ok (.iload_n 2, 1) := by decide +kernel
theorem dX1_copyFrom_68 : decode cX1_copyFrom 68 = .ok (.iaload, 1) := by decide +kernel
theorem dX1_copyFrom_69 : decode cX1_copyFrom 69 = .ok (.iastore, 1) := by decide +kernel
theorem dX1_copyFrom_70 : decode cX1_copyFrom 70 = .ok (.iinc 2 1, 3) := by decide +kernel
theorem dX1_copyFrom_73 : decode cX1_copyFrom 73 = .ok (.goto (-33), 3) := by decide +kernel
theorem dX1_copyFrom_76 : decode cX1_copyFrom 76 = .ok (.aload_n 0, 1) := by decide +kernel
theorem dX1_copyFrom_77 : decode cX1_copyFrom 77 = .ok (.getfield 23, 3) := by decide +kernel
theorem dX1_copyFrom_80 : decode cX1_copyFrom 80 = .ok (.aload_n 1, 1) := by decide +kernel
theorem dX1_copyFrom_81 : decode cX1_copyFrom 81 = .ok (.getfield 23, 3) := by decide +kernel
theorem dX1_copyFrom_84 : decode cX1_copyFrom 84 = .ok (.invokevirtual 60, 3) := by decide +kernel
theorem dX1_copyFrom_87 : decode cX1_copyFrom 87 = .ok (.aload_n 0, 1) := by decide +kernel
theorem dX1_copyFrom_88 : decode cX1_copyFrom 88 = .ok (.aload_n 1, 1) := by decide +kernel
theorem dX1_copyFrom_89 : decode cX1_copyFrom 89 = .ok (.getfield 27, 3) := by decide +kernel
theorem dX1_copyFrom_92 : decode cX1_copyFrom 92 = .ok (.putfield 27, 3) := by decide +kernel
theorem dX1_copyFrom_95 : decode cX1_copyFrom 95 = .ok (.aload_n 0, 1) := by decide +kernel
theorem dX1_copyFrom_96 : decode cX1_copyFrom 96 = .ok (.aload_n 1, 1) := by decide +kernel
theorem dX1_copyFrom_97 : decode cX1_copyFrom 97 = .ok (.getfield 31, 3) := by decide +kernel
theorem dX1_copyFrom_100 : decode cX1_copyFrom 100 = .ok (.putfield 31, 3) := by decide +kernel
theorem dX1_copyFrom_103 : decode cX1_copyFrom 103 = .ok (.aload_n 0, 1) := by decide +kernel
theorem dX1_copyFrom_104 : decode cX1_copyFrom 104 = .ok (.aload_n 1, 1) := by decide +kernel
theorem dX1_copyFrom_105 : decode cX1_copyFrom 105 = .ok (.getfield 35, 3) := by decide +kernel
theorem dX1_copyFrom_108 : decode cX1_copyFrom 108 = .ok (.putfield 35, 3) := by decide +kernel
theorem dX1_copyFrom_111 : decode cX1_copyFrom 111 = .ok (.aload_n 0, 1) := by decide +kernel
theorem dX1_copyFrom_112 : decode cX1_copyFrom 112 = .ok (.aload_n 1, 1) := by decide +kernel
theorem dX1_copyFrom_113 : decode cX1_copyFrom 113 = .ok (.getfield 38, 3) := by decide +kernel
theorem dX1_copyFrom_116 : decode cX1_copyFrom 116 = .ok (.putfield 38, 3) := by decide +kernel
theorem dX1_copyFrom_119 : decode cX1_copyFrom 119 = .ok (.return_, 1) := by decide +kernel
theorem dX1_isNarrowerThan_0 : decode cX1_isNarrowerThan 0 = .ok (.iconst 0, 1) := by decide +kernel
theorem dX1_isNarrowerThan_1 : decode cX1_isNarrowerThan 1 = .ok (.istore_n 2, 1) := by decide +kernel
theorem dX1_isNarrowerThan_2 : decode cX1_isNarrowerThan 2 = .ok (.iload_n 2, 1) := by decide +kernel
theorem dX1_isNarrowerThan_3 : decode cX1_isNarrowerThan 3 = .ok (.aload_n 0, 1) := by decide +kernel
theorem dX1_isNarrowerThan_4 : decode cX1_isNarrowerThan 4 = .ok (.getfield 15, 3) := by decide +kernel
theorem dX1_isNarrowerThan_7 : decode cX1_isNarrowerThan 7 = .ok (.arraylength, 1) := by decide +kernel
theorem dX1_isNarrowerThan_8 : decode cX1_isNarrowerThan 8 = .ok (.if_icmp .ge 54, 3) := by decide +kernel
theorem dX1_isNarrowerThan_11 : decode cX1_isNarrowerThan 11 = .ok (.iload_n 2, 1) := by decide +kernel
theorem dX1_isNarrowerThan_12 : decode cX1_isNarrowerThan 12 = .ok (.aload_n 1, 1) := by decide +kernel
theorem dX1_isNarrowerThan_13 : decode cX1_isNarrowerThan 13 = .ok (.getfield 15, 3) := by decide +kernel
theorem dX1_isNarrowerThan_16 : decode cX1_isNarrowerThan 16 = .ok (.arraylength, 1) := by decide +kernel
theorem dX1_isNarrowerThan_17 : decode cX1_isNarrowerThan 17 = .ok (.if_icmp .ge 45, 3) := by decide +kernel
theorem dX1_isNarrowerThan_20 : decode cX1_isNarrowerThan 20 = .ok (.aload_n 0, 1) := by decide +kernel
theorem dX1_isNarrowerThan_21 : decode cX1_isNarrowerThan 21 = .ok (.getfield 15, 3) := by decide +kernel
theorem dX1_isNarrowerThan_24 : decode cX1_isNarrowerThan 24 = .ok (.iload_n 2, 1) := by decide +kernel
theorem dX1_isNarrowerThan_25 : decode cX1_isNarrowerThan 25 = .ok (.iaload, 1) := by decide +kernel
theorem dX1_isNarrowerThan_26 : decode cX1_isNarrowerThan 26 = .ok (.aload_n 1, 1) := by decide +kernel
theorem dX1_isNarrowerThan_27 : decode cX1_isNarrowerThan 27 = .ok (.getfield 15, 3) := by decide +kernel
theorem dX1_isNarrowerThan_30 : decode cX1_isNarrowerThan 30 = .ok (.iload_n 2, 1) := by decide +kernel
theorem dX1_isNarrowerThan_31 : decode cX1_isNarrowerThan 31 = .ok (.iaload, 1) := by decide +kernel
theorem dX1_isNarrowerThan_32 : decode cX1_isNarrowerThan 32 = .ok (.if_icmp .eq 24, 3) := by decide +kernel
theorem dX1_isNarrowerThan_35 : decode cX1_isNarrowerThan 35 = .ok (.aload_n 0, 1) := by decide +kernel
theorem dX1_isNarrowerThan_36 : decode cX1_isNarrowerThan 36 = .ok (.getfield 15, 3) := by decide +kernel
theorem dX1_isNarrowerThan_39 : decode cX1_isNarrowerThan 39 = .ok (.iload_n 2, 1) := by decide +kernel
theorem dX1_isNarrowerThan_40 : decode cX1_isNarrowerThan 40 = .ok (.iaload, 1) := by decide +kernel
theorem dX1_isNarrowerThan_41 : decode cX1_isNarrowerThan 41 = .ok (.aload_n 1, 1) := by decide +kernel
theorem dX1_isNarrowerThan_42 : decode cX1_isNarrowerThan 42 = .ok (.getfield 15, 3) := by decide +kernel
theorem dX1_isNarrowerThan_45 : decode cX1_isNarrowerThan 45 = .ok (.iload_n 2, 1) := by decide +kernel
theorem dX1_isNarrowerThan_46 : decode cX1_isNarrowerThan 46 = .ok (.iaload, 1) := by decide +kernel
theorem dX1_isNarrowerThan_47 : decode cX1_isNarrowerThan 47 = .ok (.if_icmp .ge 7, 3) := by decide +kernel
theorem dX1_isNarrowerThan_50 : decode cX1_isNarrowerThan 50 = .ok (.iconst 1, 1) := by decide +kernel
theorem dX1_isNarrowerThan_51 : decode cX1_isNarrowerThan 51 = .ok (.goto 4, 3) := by decide +kernel
theorem dX1_isNarrowerThan_54 : decode cX1_isNarrowerThan 54 = .ok (.iconst 0, 1) := by decide +kernel
theorem dX1_isNarrowerThan_55 : decode cX1_isNarrowerThan 55 = .ok (.ireturn, 1) := by decide +kernel
theorem dX1_isNarrowerThan_56 : decode cX1_isNarrowerThan 56 = .ok (.iinc 2 1, 3) := by decide +kernel
theorem dX1_isNarrowerThan_59 : decode cX1_isNarrowerThan 59 = .ok (.goto (-57), 3) := by decide +kernel
theorem dX1_isNarrowerThan_62 : decode cX1_isNarrowerThan 62 = .ok (.iconst 0, 1) := by decide +kernel
theorem dX1_isNarrowerThan_63 : decode cX1_isNarrowerThan 63 = .ok (.ireturn, 1) := by decide +kernel
theorem dX1_reach_0 : decode cX1_reach 0 = .ok (.iconst 0, 1) := by decide +kernel
theorem dX1_reach_1 : decode cX1_reach 1 = .ok (.istore_n 3, 1) := by decide +kernel
theorem dX1_reach_2 : decode cX1_reach 2 = .ok (.iload_n 3, 1) := by decide +kernel
theorem dX1_reach_3 : decode cX1_reach 3 = .ok (.iload_n 2, 1) := by decide +kernel
theorem dX1_reach_4 : decode cX1_reach 4 = .ok (.if_icmp .ge 54, 3) := by decide +kernel
theorem dX1_reach_7 : decode cX1_reach 7 = .ok (.iload_n 3, 1) := by decide +kernel
theorem dX1_reach_8 : decode cX1_reach 8 = .ok (.aload_n 0, 1) := by decide +kernel
theorem dX1_reach_9 : decode cX1_reach 9 = .ok (.getfield 27, 3) := by decide +kernel
theorem dX1_reach_12 : decode cX1_reach 12 = .ok (.if_icmp .ge 46, 3) := by decide +kernel
theorem dX1_reach_15 : decode cX1_reach 15 = .ok (.iload_n 3, 1) := by decide +kernel
theorem dX1_reach_16 : decode cX1_reach 16 = .ok (.aload_n 0, 1) := by decide +kernel
theorem dX1_reach_17 : decode cX1_reach 17 = .ok (.getfield 9, 3) := by decide +kernel
theorem dX1_reach_20 : decode cX1_reach 20 = .ok (.arraylength, 1) := by decide +kernel
theorem dX1_reach_21 : decode cX1_reach 21 = .ok (.if_icmp .ge 37, 3) := by decide +kernel
theorem dX1_reach_24 : decode cX1_reach 24 = .ok (.aload_n 1, 1) := by decide +kernel
theorem dX1_reach_25 : decode cX1_reach 25 = .ok (.iload_n 3, 1) := by decide +kernel
theorem dX1_reach_26 : decode cX1_reach 26 = .ok (.invokevirtual 64, 3) := by decide +kernel
theorem dX1_reach_29 : decode cX1_reach 29 = .ok (.istore 4, 2) := by decide +kernel
theorem dX1_reach_31 : decode cX1_reach 31 = .ok (.iload 4, 2) := by decide +kernel
theorem dX1_reach_33 : decode cX1_reach 33 = .ok (.ifCond .lt 17, 3) := by decide +kernel
theorem dX1_reach_36 : decode cX1_reach 36 = .ok (.aload_n 0, 1) := by decide +kernel
theorem dX1_reach_37 : decode cX1_reach 37 = .ok (.getfield 9, 3) := by decide +kernel
theorem dX1_reach_40 : decode cX1_reach 40 = .ok (.iload_n 3, 1) := by decide +kernel
theorem dX1_reach_41 : decode cX1_reach 41 = .ok (.iaload, 1) := by decide +kernel
theorem dX1_reach_42 : decode cX1_reach 42 = .ok (.iload 4, 2) := by decide +kernel
theorem dX1_reach_44 : decode cX1_reach 44 = .ok (.ishr, 1) := by decide +kernel
theorem dX1_reach_45 : decode cX1_reach 45 = .ok (.iconst 1, 1) := by decide +kernel
theorem dX1_reach_46 : decode cX1_reach 46 = .ok (.iand, 1) := by decide +kernel
theorem dX1_reach_47 : decode cX1_reach 47 = .ok (.ifCond .ne 5, 3) := by decide +kernel
theorem dX1_reach_50 : decode cX1_reach 50 = .ok (.iconst 0, 1) := by decide +kernel
theorem dX1_reach_51 : decode cX1_reach 51 = .ok (.ireturn, 1) := by decide +kernel
theorem dX1_reach_52 : decode cX1_reach 52 = .ok (.iinc 3 1, 3) := by decide +kernel
theorem dX1_reach_55 : decode cX1_reach 55 = .ok (.goto (-53), 3) := by decide +kernel
theorem dX1_reach_58 : decode cX1_reach 58 = .ok (.iconst 0, 1) := by decide +kernel
theorem dX1_reach_59 : decode cX1_reach 59 = .ok (.istore_n 3, 1) := by decide +kernel
theorem dX1_reach_60 : decode cX1_reach 60 = .ok (.iload_n 2, 1) := by decide +kernel
theorem dX1_reach_61 : decode cX1_reach 61 = .ok (.aload_n 0, 1) := by decide +kernel
theorem dX1_reach_62 : decode cX1_reach 62 = .ok (.getfield 27, 3) := by decide +kernel
theorem dX1_reach_65 : decode cX1_reach 65 = .ok (.if_icmp .eq 18, 3) := by decide +kernel
theorem dX1_reach_68 : decode cX1_reach 68 = .ok (.aload_n 0, 1) := by decide +kernel
theorem dX1_reach_69 : decode cX1_reach 69 = .ok (.getfield 31, 3) := by decide +kernel
theorem dX1_reach_72 : decode cX1_reach 72 = .ok (.ifCond .eq 15, 3) := by decide +kernel
theorem dX1_reach_75 : decode cX1_reach 75 = .ok (.iload_n 2, 1) := by decide +kernel
theorem dX1_reach_76 : decode cX1_reach 76 = .ok (.aload_n 0, 1) := by decide +kernel
theorem dX1_reach_77 : decode cX1_reach 77 = .ok (.getfield 27, 3) := by decide +kernel
theorem dX1_reach_80 : decode cX1_reach 80 = .ok (.if_icmp .le 7, 3) := by decide +kernel
theorem dX1_reach_83 : decode cX1_reach 83 = .ok (.iload_n 3, 1) := by decide +kernel
theorem dX1_reach_84 : decode cX1_reach 84 = .ok (.iconst 1, 1) := by decide +kernel
theorem dX1_reach_85 : decode cX1_reach 85 = .ok (.ior, 1) := by decide +kernel
theorem dX1_reach_86 : decode cX1_reach 86 = .ok (.istore_n 3, 1) := by decide +kernel
theorem dX1_reach_87 : decode cX1_reach 87 = .ok (.iload_n 2, 1) := by decide +kernel
theorem dX1_reach_88 : decode cX1_reach 88 = .ok (.aload_n 0, 1) := by decide +kernel
theorem dX1_reach_89 : decode cX1_reach 89 = .ok (.getfield 27, 3) := by decide +kernel
theorem dX1_reach_92 : decode cX1_reach 92 = .ok (.if_icmp .lt 16, 3) := by decide +kernel
theorem dX1_reach_95 : decode cX1_reach 95 = .ok (.aload_n 0, 1) := by decide +kernel
theorem dX1_reach_96 : decode cX1_reach 96 = .ok (.getfield 31, 3) := by decide +kernel
theorem dX1_reach_99 : decode cX1_reach 99 = .ok (.ifCond .eq 13, 3) := by decide +kernel
theorem dX1_reach_102 : decode cX1_reach 102 = .ok (.iload_n 2, 1) := by decide +kernel
theorem dX1_reach_103 : decode cX1_reach 103 = .ok (.bipush 10, 2) := by decide +kernel
theorem dX1_reach_105 : decode cX1_reach 105 = .ok (.if_icmp .ge 7, 3) := by decide +kernel
theorem dX1_reach_108 : decode cX1_reach 108 = .ok (.iload_n 3, 1) := by decide +kernel
theorem dX1_reach_109 : decode cX1_reach 109 = .ok (.iconst 2, 1) := by decide +kernel
theorem dX1_reach_110 : decode cX1_reach 110 = .ok (.ior, 1) := by decide +kernel
theorem dX1_reach_111 : decode cX1_reach 111 = .ok (.istore_n 3, 1) := by decide +kernel
theorem dX1_reach_112 : decode cX1_reach 112 = .ok (.iload_n 3, 1) := by decide +kernel
theorem dX1_reach_113 : decode cX1_reach 113 = .ok (.ireturn, 1) := by decide +kernel
theorem dX1_doesLike_0 : decode cX1_doesLike 0 = .ok (.aload_n 0, 1) := by decide +kernel
theorem dX1_doesLike_1 : decode cX1_doesLike 1 = .ok (.getfield 35, 3) := by decide +kernel
theorem dX1_doesLike_4 : decode cX1_doesLike 4 = .ok (.aload_n 1, 1) := by decide +kernel
theorem dX1_doesLike_5 : decode cX1_doesLike 5 = .ok (.getfield 35, 3) := by decide +kernel
theorem dX1_doesLike_8 : decode cX1_doesLike 8 = .ok (.if_icmp .ne 32, 3) := by decide +kernel
theorem dX1_doesLike_11 : decode cX1_doesLike 11 = .ok (.aload_n 0, 1) := by decide +kernel
theorem dX1_doesLike_12 : decode cX1_doesLike 12 = .ok (.getfield 38, 3) := by decide +kernel
theorem dX1_doesLike_15 : decode cX1_doesLike 15 = .ok (.aload_n 1, 1) := by decide +kernel
theorem dX1_doesLike_16 : decode cX1_doesLike 16 = .ok (.getfield 38, 3) := by decide +kernel
theorem dX1_doesLike_19 : decode cX1_doesLike 19 = .ok (.if_icmp .ne 21, 3) := by decide +kernel
theorem dX1_doesLike_22 : decode cX1_doesLike 22 = .ok (.aload_n 0, 1) := by decide +kernel
theorem dX1_doesLike_23 : decode cX1_doesLike 23 = .ok (.getfield 23, 3) := by decide +kernel
theorem dX1_doesLike_26 : decode cX1_doesLike 26 = .ok (.aload_n 1, 1) := by decide +kernel
theorem dX1_doesLike_27 : decode cX1_doesLike 27 = .ok (.getfield 23, 3) := by decide +kernel
theorem dX1_doesLike_30 : decode cX1_doesLike 30 = .ok (.invokevirtual 67, 3) := by decide +kernel
theorem dX1_doesLike_33 : decode cX1_doesLike 33 = .ok (.ifCond .eq 7, 3) := by decide +kernel
theorem dX1_doesLike_36 : decode cX1_doesLike 36 = .ok (.iconst 1, 1) := by decide +kernel
theorem dX1_doesLike_37 : decode cX1_doesLike 37 = .ok (.goto 4, 3) := by decide +kernel
theorem dX1_doesLike_40 : decode cX1_doesLike 40 = .ok (.iconst 0, 1) := by decide +kernel
theorem dX1_doesLike_41 : decode cX1_doesLike 41 = .ok (.ireturn, 1) := by decide +kernel
theorem dX1_clashesWith_0 : decode cX1_clashesWith 0 = .ok (.aload_n 0, 1) := by decide +kernel
theorem dX1_clashesWith_1 : decode cX1_clashesWith 1 = .ok (.aload_n 1, 1) := by decide +kernel
theorem dX1_clashesWith_2 : decode cX1_clashesWith 2 = .ok (.invokevirtual 71, 3) := by decide +kernel
theorem dX1_clashesWith_5 : decode cX1_clashesWith 5 = .ok (.ifCond .ne 31, 3) := by decide +kernel
theorem dX1_clashesWith_8 : decode cX1_clashesWith 8 = .ok (.aload_n 1, 1) := by decide +kernel
theorem dX1_clashesWith_9 : decode cX1_clashesWith 9 = .ok (.aload_n 0, 1) := by decide +kernel
theorem dX1_clashesWith_10 : decode cX1_clashesWith 10 = .ok (.invokevirtual 71, 3) := by decide +kernel
theorem dX1_clashesWith_13 : decode cX1_clashesWith 13 = .ok (.ifCond .ne 23, 3) := by decide +kernel
theorem dX1_clashesWith_16 : decode cX1_clashesWith 16 = .ok (.aload_n 0, 1) := by decide +kernel
theorem dX1_clashesWith_17 : decode cX1_clashesWith 17 = .ok (.aload_n 1, 1) := by decide +kernel
theorem dX1_clashesWith_18 : decode cX1_clashesWith 18 = .ok (.invokevirtual 75, 3) := by decide +kernel
theorem dX1_clashesWith_21 : decode cX1_clashesWith 21 = .ok (.ifCond .eq 15, 3) := by decide +kernel
theorem dX1_clashesWith_24 : decode cX1_clashesWith 24 = .ok (.aload_n 0, 1) := by decide +kernel
theorem dX1_clashesWith_25 : decode cX1_clashesWith 25 = .ok (.aload_n 1, 1) := by decide +kernel
theorem dX1_clashesWith_26 : decode cX1_clashesWith 26 = .ok (.invokevirtual 78, 3) := by decide +kernel
theorem dX1_clashesWith_29 : decode cX1_clashesWith 29 = .ok (.ifCond .ne 7, 3) := by decide +kernel
theorem dX1_clashesWith_32 : decode cX1_clashesWith 32 = .ok (.iconst 1, 1) := by decide +kernel
theorem dX1_clashesWith_33 : decode cX1_clashesWith 33 = .ok (.goto 4, 3) := by decide +kernel
theorem dX1_clashesWith_36 : decode cX1_clashesWith 36 = .ok (.iconst 0, 1) := by decide +kernel
theorem dX1_clashesWith_37 : decode cX1_clashesWith 37 = .ok (.ireturn, 1) := by decide +kernel
theorem dX1_sharesRowWith_0 : decode cX1_sharesRowWith 0 = .ok (.iconst 0, 1) := by decide +kernel
theorem dX1_sharesRowWith_1 : decode cX1_sharesRowWith 1 = .ok (.istore_n 2, 1) := by decide +kernel
theorem dX1_sharesRowWith_2 : decode cX1_sharesRowWith 2 = .ok (.iload_n 2, 1) := by decide +kernel
theorem dX1_sharesRowWith_3 : decode cX1_sharesRowWith 3 = .ok (.aload_n 0, 1) := by decide +kernel
theorem dX1_sharesRowWith_4 : decode cX1_sharesRowWith 4 = .ok (.getfield 27, 3) := by decide +kernel
theorem dX1_sharesRowWith_7 : decode cX1_sharesRowWith 7 = .ok (.if_icmp .ge 25, 3) := by decide +kernel
theorem dX1_sharesRowWith_10 : decode cX1_sharesRowWith 10 = .ok (.aload_n 0, 1) := by decide +kernel
theorem dX1_sharesRowWith_11 : decode cX1_sharesRowWith 11 = .ok (.iload_n 2, 1) := by decide +kernel
theorem dX1_sharesRowWith_12 : decode cX1_sharesRowWith 12 = .ok (.invokevirtual 81, 3) := by decide +kernel
theorem dX1_sharesRowWith_15 : decode cX1_sharesRowWith 15 = .ok (.aload_n 1, 1) := by decide +kernel
theorem dX1_sharesRowWith_16 : decode cX1_sharesRowWith 16 = .ok (.iload_n 2, 1) := by decide +kernel
theorem dX1_sharesRowWith_17 : decode cX1_sharesRowWith 17 = .ok (.invokevirtual 81, 3) := by decide +kernel
theorem dX1_sharesRowWith_20 : decode cX1_sharesRowWith 20 = .ok (.iand, 1) := by decide +kernel
theorem dX1_sharesRowWith_21 : decode cX1_sharesRowWith 21 = .ok (.ifCond .ne 5, 3) := by decide +kernel
theorem dX1_sharesRowWith_24 : decode cX1_sharesRowWith 24 = .ok (.iconst 0, 1) := by decide +kernel
theorem dX1_sharesRowWith_25 : decode cX1_sharesRowWith 25 = .ok (.ireturn, 1) := by decide +kernel
theorem dX1_sharesRowWith_26 : decode cX1_sharesRowWith 26 = .ok (.iinc 2 1, 3) := by decide +kernel
theorem dX1_sharesRowWith_29 : decode cX1_sharesRowWith 29 = .ok (.goto (-27), 3) := by decide +kernel
theorem dX1_sharesRowWith_32 : decode cX1_sharesRowWith 32 = .ok (.iconst 1, 1) := by decide +kernel
theorem dX1_sharesRowWith_33 : decode cX1_sharesRowWith 33 = .ok (.ireturn, 1) := by decide +kernel
theorem dX2_init_0 : decode cX2_init 0 = .ok (.aload_n 0, 1) := by decide +kernel
theorem dX2_init_1 : decode cX2_init 1 = .ok (.invokespecial 3, 3) := by decide +kernel
theorem dX2_init_4 : decode cX2_init 4 = .ok (.aload_n 0, 1) := by decide +kernel
theorem dX2_init_5 : decode cX2_init 5 = .ok (.new 9, 3) := by decide +kernel
theorem dX2_init_8 : decode cX2_init 8 = .ok (.dup, 1) := by decide +kernel
theorem dX2_init_9 : decode cX2_init 9 = .ok (.invokespecial 11, 3) := by decide +kernel
theorem dX2_init_12 : decode cX2_init 12 = .ok (.putfield 12, 3) := by decide +kernel
theorem dX2_init_15 : decode cX2_init 15 = .ok (.return_, 1) := by decide +kernel
theorem dX2_draft_0 : decode cX2_draft 0 = .ok (.aload_n 0, 1) := by decide +kernel
theorem dX2_draft_1 : decode cX2_draft 1 = .ok (.getfield 12, 3) := by decide +kernel
theorem dX2_draft_4 : decode cX2_draft 4 = .ok (.areturn, 1) := by decide +kernel
theorem dX2_isWhole_0 : decode cX2_isWhole 0 = .ok (.aload_n 0, 1) := by decide +kernel
theorem dX2_isWhole_1 : decode cX2_isWhole 1 = .ok (.getfield 18, 3) := by decide +kernel
theorem dX2_isWhole_4 : decode cX2_isWhole 4 = .ok (.bipush 9, 2) := by decide +kernel
theorem dX2_isWhole_6 : decode cX2_isWhole 6 = .ok (.if_icmp .ne 7, 3) := by decide +kernel
theorem dX2_isWhole_9 : decode cX2_isWhole 9 = .ok (.iconst 1, 1) := by decide +kernel
theorem dX2_isWhole_10 : decode cX2_isWhole 10 = .ok (.goto 4, 3) := by decide +kernel
theorem dX2_isWhole_13 : decode cX2_isWhole 13 = .ok (.iconst 0, 1) := by decide +kernel
theorem dX2_isWhole_14 : decode cX2_isWhole 14 = .ok (.ireturn, 1) := by decide +kernel
theorem dX2_scan_0 : decode cX2_scan 0 = .ok (.aload_n 0, 1) := by decide +kernel
theorem dX2_scan_1 : decode cX2_scan 1 = .ok (.getfield 12, 3) := by decide +kernel
theorem dX2_scan_4 : decode cX2_scan 4 = .ok (.invokevirtual 22, 3) := by decide +kernel
theorem dX2_scan_7 : decode cX2_scan 7 = .ok (.aload_n 0, 1) := by decide +kernel
theorem dX2_scan_8 : decode cX2_scan 8 = .ok (.iconst 0, 1) := by decide +kernel
theorem dX2_scan_9 : decode cX2_scan 9 = .ok (.putfield 18, 3) := by decide +kernel
theorem dX2_scan_12 : decode cX2_scan 12 = .ok (.iconst 0, 1) := by decide +kernel
theorem dX2_scan_13 : decode cX2_scan 13 = .ok (.istore_n 2, 1) := by decide +kernel
theorem dX2_scan_14 : decode cX2_scan 14 = .ok (.iload_n 2, 1) := by decide +kernel
theorem dX2_scan_15 : decode cX2_scan 15 = .ok (.aload_n 1, 1) := by decide +kernel
theorem dX2_scan_16 : decode cX2_scan 16 = .ok (.invokevirtual 25, 3) := by decide +kernel
theorem dX2_scan_19 : decode cX2_scan 19 = .ok (.if_icmp .ge 23, 3) := by decide +kernel
theorem dX2_scan_22 : decode cX2_scan 22 = .ok (.aload_n 0, 1) := by decide +kernel
theorem dX2_scan_23 : decode cX2_scan 23 = .ok (.aload_n 1, 1) := by decide +kernel
theorem dX2_scan_24 : decode cX2_scan 24 = .ok (.iload_n 2, 1) := by decide +kernel
theorem dX2_scan_25 : decode cX2_scan 25 = .ok (.invokevirtual 31, 3) := by decide +kernel
theorem dX2_scan_28 : decode cX2_scan 28 = .ok (.invokevirtual 35, 3) := by decide +kernel
theorem dX2_scan_31 : decode cX2_scan 31 = .ok (.ifCond .ne 5, 3) := by decide +kernel
theorem dX2_scan_34 : decode cX2_scan 34 = .ok (.iload_n 2, 1) := by decide +kernel
theorem dX2_scan_35 : decode cX2_scan 35 = .ok (.ireturn, 1) := by decide +kernel
theorem dX2_scan_36 : decode cX2_scan 36 = .ok (.iinc 2 1, 3) := by decide +kernel
theorem dX2_scan_39 : decode cX2_scan 39 = .ok (.goto (-25), 3) := by decide +kernel
theorem dX2_scan_42 : decode cX2_scan 42 = .ok (.aload_n 1, 1) := by decide +kernel
theorem dX2_scan_43 : decode cX2_scan 43 = .ok (.invokevirtual 25, 3) := by decide +kernel
theorem dX2_scan_46 : decode cX2_scan 46 = .ok (.ireturn, 1) := by decide +kernel
theorem dX2_take_0 : decode cX2_take 0 = .ok (.aload_n 0, 1) := by decide +kernel
theorem dX2_take_1 : decode cX2_take 1 = .ok (.getfield 18, 3) := by decide +kernel
theorem dX2_take_4 : decode cX2_take 4 = .ok (.tableswitch 117 0 8 #[52, 58, 64, 73, 79, 85, 95, 101, 111], 52) := by decide +kernel
theorem dX2_take_56 : decode cX2_take 56 = .ok (.aload_n 0, 1) := by decide +kernel
theorem dX2_take_57 : decode cX2_take 57 = .ok (.iload_n 1, 1) := by decide +kernel
theorem dX2_take_58 : decode cX2_take 58 = .ok (.invokevirtual 39, 3) := by decide +kernel
theorem dX2_take_61 : decode cX2_take 61 = .ok (.ireturn, 1) := by decide +kernel
theorem dX2_take_62 : decode cX2_take 62 = .ok (.aload_n 0, 1) := by decide +kernel
theorem dX2_take_63 : decode cX2_take 63 = .ok (.iload_n 1, 1) := by decide +kernel
theorem dX2_take_64 : decode cX2_take 64 = .ok (.invokevirtual 42, 3) := by decide +kernel
theorem dX2_take_67 : decode cX2_take 67 = .ok (.ireturn, 1) := by decide +kernel
theorem dX2_take_68 : decode cX2_take 68 = .ok (.aload_n 0, 1) := by decide +kernel
theorem dX2_take_69 : decode cX2_take 69 = .ok (.iload_n 1, 1) := by decide +kernel
theorem dX2_take_70 : decode cX2_take 70 = .ok (.bipush 45, 2) := by decide +kernel
theorem dX2_take_72 : decode cX2_take 72 = .ok (.iconst 3, 1) := by decide +kernel
theorem dX2_take_73 : decode cX2_take 73 = .ok (.invokevirtual 45, 3) := by decide +kernel
theorem dX2_take_76 : decode cX2_take 76 = .ok (.ireturn, 1) := by decide +kernel
theorem dX2_take_77 : decode cX2_take 77 = .ok (.aload_n 0, 1) := by decide +kernel
theorem dX2_take_78 : decode cX2_take 78 = .ok (.iload_n 1, 1) := by decide +kernel
theorem dX2_take_79 : decode cX2_take 79 = .ok (.invokevirtual 49, 3) := by decide +kernel
theorem dX2_take_82 : decode cX2_take 82 = .ok (.ireturn, 1) := by decide +kernel
theorem dX2_take_83 : decode cX2_take 83 = .ok (.aload_n 0, 1) := by decide +kernel
theorem dX2_take_84 : decode cX2_take 84 = .ok (.iload_n 1, 1) := by decide +kernel
theorem dX2_take_85 : decode cX2_take 85 = .ok (.invokevirtual 52, 3) := by decide +kernel
theorem dX2_take_88 : decode cX2_take 88 = .ok (.ireturn, 1) := by decide +kernel
theorem dX2_take_89 : decode cX2_take 89 = .ok (.aload_n 0, 1) := by decide +kernel
theorem dX2_take_90 : decode cX2_take 90 = .ok (.iload_n 1, 1) := by decide +kernel
theorem dX2_take_91 : decode cX2_take 91 = .ok (.bipush 61, 2) := by decide +kernel
theorem dX2_take_93 : decode cX2_take 93 = .ok (.bipush 6, 2) := by decide +kernel
theorem dX2_take_95 : decode cX2_take 95 = .ok (.invokevirtual 45, 3) := by decide +kernel
theorem dX2_take_98 : decode cX2_take 98 = .ok (.ireturn, 1) := by decide +kernel
theorem dX2_take_99 : decode cX2_take 99 = .ok (.aload_n 0, 1) := by decide +kernel
theorem dX2_take_100 : decode cX2_take 100 = .ok (.iload_n 1, 1) := by decide +kernel
theorem dX2_take_101 : decode cX2_take 101 = .ok (.invokevirtual 55, 3) := by decide +kernel
theorem dX2_take_104 : decode cX2_take 104 = .ok (.ireturn, 1) := by decide +kernel
theorem dX2_take_105 : decode cX2_take 105 = .ok (.aload_n 0, 1) := by decide +kernel
theorem dX2_take_106 : decode cX2_take 106 = .ok (.iload_n 1, 1) := by decide +kernel
theorem dX2_take_107 : decode cX2_take 107 = .ok (.bipush 58, 2) := by decide +kernel
theorem dX2_take_109 : decode cX2_take 109 = .ok (.bipush 8, 2) := by decide +kernel
theorem dX2_take_111 : decode cX2_take 111 = .ok (.invokevirtual 45, 3) := by decide +kernel
theorem dX2_take_114 : decode cX2_take 114 = .ok (.ireturn, 1) := by decide +kernel
theorem dX2_take_115 : decode cX2_take 115 = .ok (.aload_n 0, 1) := by decide +kernel
theorem dX2_take_116 : decode cX2_take 116 = .ok (.iload_n 1, 1) := by decide +kernel
theorem dX2_take_117 : decode cX2_take 117 = .ok (.invokevirtual 58, 3) := by decide +kernel
theorem dX2_take_120 : decode cX2_take 120 = .ok (.ireturn, 1) := by decide +kernel
theorem dX2_take_121 : decode cX2_take 121 = .ok (.aload_n 0, 1) := by decide +kernel
theorem dX2_take_122 : decode cX2_take 122 = .ok (.iload_n 1, 1) := by decide +kernel
theorem dX2_take_123 : decode cX2_take 123 = .ok (.invokevirtual 61, 3) := by decide +kernel
theorem dX2_take_126 : decode cX2_take 126 = .ok (.ireturn, 1) := by decide +kernel
theorem dX2_takeSign_0 : decode cX2_takeSign 0 = .ok (.iload_n 1, 1) := by decide +kernel
theorem dX2_takeSign_1 : decode cX2_takeSign 1 = .ok (.iload_n 2, 1) := by decide +kernel
theorem dX2_takeSign_2 : decode cX2_takeSign 2 = .ok (.if_icmp .eq 5, 3) := by decide +kernel
theorem dX2_takeSign_5 : decode cX2_takeSign 5 = .ok (.iconst 0, 1) := by decide +kernel
theorem dX2_takeSign_6 : decode cX2_takeSign 6 = .ok (.ireturn, 1) := by decide +kernel
theorem dX2_takeSign_7 : decode cX2_takeSign 7 = .ok (.aload_n 0, 1) := by decide +kernel
theorem dX2_takeSign_8 : decode cX2_takeSign 8 = .ok (.iload_n 3, 1) := by decide +kernel
theorem dX2_takeSign_9 : decode cX2_takeSign 9 = .ok (.putfield 18, 3) := by decide +kernel
theorem dX2_takeSign_12 : decode cX2_takeSign 12 = .ok (.iconst 1, 1) := by decide +kernel
theorem dX2_takeSign_13 : decode cX2_takeSign 13 = .ok (.ireturn, 1) := by decide +kernel
theorem dX2_takePlaceOrTail_0 : decode cX2_takePlaceOrTail 0 = .ok (.aload_n 0, 1) := by decide +kernel
theorem dX2_takePlaceOrTail_1 : decode cX2_takePlaceOrTail 1 = .ok (.getfield 12, 3) := by decide +kernel
theorem dX2_takePlaceOrTail_4 : decode cX2_takePlaceOrTail 4 = .ok (.invokevirtual 64, 3) := by decide +kernel
theorem dX2_takePlaceOrTail_7 : decode cX2_takePlaceOrTail 7 = .ok (.ifCond .le 23, 3) := by decide +kernel
theorem dX2_takePlaceOrTail_10 : decode cX2_takePlaceOrTail 10 = .ok (.iload_n 1, 1) := by decide +kernel
theorem dX2_takePlaceOrTail_11 : decode cX2_takePlaceOrTail 11 = .ok (.bipush 46, 2) := by decide +kernel
theorem dX2_takePlaceOrTail_13 : decode cX2_takePlaceOrTail 13 = .ok (.if_icmp .ne 17, 3) := by decide +kernel
theorem dX2_takePlaceOrTail_16 : decode cX2_takePlaceOrTail 16 = .ok (.aload_n 0, 1) := by decide +kernel
theorem dX2_takePlaceOrTail_17 : decode cX2_takePlaceOrTail 17 = .ok (.getfield 12, 3) := by decide +kernel
theorem dX2_takePlaceOrTail_20 : decode cX2_takePlaceOrTail 20 = .ok (.invokevirtual 67, 3) := by decide +kernel
theorem dX2_takePlaceOrTail_23 : decode cX2_takePlaceOrTail 23 = .ok (.aload_n 0, 1) := by decide +kernel
theorem dX2_takePlaceOrTail_24 : decode cX2_takePlaceOrTail 24 = .ok (.iconst 5, 1) := by decide +kernel
theorem dX2_takePlaceOrTail_25 : decode cX2_takePlaceOrTail 25 = .ok (.putfield 18, 3) := by decide +kernel
theorem dX2_takePlaceOrTail_28 : decode cX2_takePlaceOrTail 28 = .ok (.iconst 1, 1) := by decide +kernel
theorem dX2_takePlaceOrTail_29 : decode cX2_takePlaceOrTail 29 = .ok (.ireturn, 1) := by decide +kernel
theorem dX2_takePlaceOrTail_30 : decode cX2_takePlaceOrTail 30 = .ok (.aload_n 0, 1) := by decide +kernel
theorem dX2_takePlaceOrTail_31 : decode cX2_takePlaceOrTail 31 = .ok (.getfield 12, 3) := by decide +kernel
theorem dX2_takePlaceOrTail_34 : decode cX2_takePlaceOrTail 34 = .ok (.invokevirtual 64, 3) := by decide +kernel
theorem dX2_takePlaceOrTail_37 : decode cX2_takePlaceOrTail 37 = .ok (.ifCond .le 17, 3) := by decide +kernel
theorem dX2_takePlaceOrTail_40 : decode cX2_takePlaceOrTail 40 = .ok (.iload_n 1, 1) := by decide +kernel
theorem dX2_takePlaceOrTail_41 : decode cX2_takePlaceOrTail 41 = .ok (.bipush 61, 2) := by decide +kernel
theorem dX2_takePlaceOrTail_43 : decode cX2_takePlaceOrTail 43 = .ok (.if_icmp .ne 11, 3) := by decide +kernel
theorem dX2_takePlaceOrTail_46 : decode cX2_takePlaceOrTail 46 = .ok (.aload_n 0, 1) := by decide +kernel
theorem dX2_takePlaceOrTail_47 : decode cX2_takePlaceOrTail 47 = .ok (.bipush 6, 2) := by decide +kernel
theorem dX2_takePlaceOrTail_49 : decode cX2_takePlaceOrTail 49 = .ok (.putfield 18, 3) := by decide +kernel
theorem dX2_takePlaceOrTail_52 : decode cX2_takePlaceOrTail 52 = .ok (.iconst 1, 1) := by decide +kernel
theorem dX2_takePlaceOrTail_53 : decode cX2_takePlaceOrTail 53 = .ok (.ireturn, 1) := by decide +kernel
theorem dX2_takePlaceOrTail_54 : decode cX2_takePlaceOrTail 54 = .ok (.aload_n 0, 1) := by decide +kernel
theorem dX2_takePlaceOrTail_55 : decode cX2_takePlaceOrTail 55 = .ok (.getfield 12, 3) := by decide +kernel
theorem dX2_takePlaceOrTail_58 : decode cX2_takePlaceOrTail 58 = .ok (.invokevirtual 70, 3) := by decide +kernel
theorem dX2_takePlaceOrTail_61 : decode cX2_takePlaceOrTail 61 = .ok (.ifCond .eq 15, 3) := by decide +kernel
theorem dX2_takePlaceOrTail_64 : decode cX2_takePlaceOrTail 64 = .ok (.aload_n 0, 1) := by decide +kernel
theorem dX2_takePlaceOrTail_65 : decode cX2_takePlaceOrTail 65 = .ok (.iload_n 1, 1) := by decide +kernel
theorem dX2_takePlaceOrTail_66 : decode cX2_takePlaceOrTail 66 = .ok (.invokevirtual 74, 3) := by decide +kernel
theorem dX2_takePlaceOrTail_69 : decode cX2_takePlaceOrTail 69 = .ok (.ifCond .eq 7, 3) := by decide +kernel
theorem dX2_takePlaceOrTail_72 : decode cX2_takePlaceOrTail 72 = .ok (.iconst 1, 1) := by decide +kernel
theorem dX2_takePlaceOrTail_73 : decode cX2_takePlaceOrTail 73 = .ok (.goto 4, 3) := by decide +kernel
theorem dX2_takePlaceOrTail_76 : decode cX2_takePlaceOrTail 76 = .ok (.iconst 0, 1) := by decide +kernel
theorem dX2_takePlaceOrTail_77 : decode cX2_takePlaceOrTail 77 = .ok (.ireturn, 1) := by decide +kernel
theorem dX2_takePlace_0 : decode cX2_takePlace 0 = .ok (.iload_n 1, 1) := by decide +kernel
theorem dX2_takePlace_1 : decode cX2_takePlace 1 = .ok (.bipush 91, 2) := by decide +kernel
theorem dX2_takePlace_3 : decode cX2_takePlace 3 = .ok (.if_icmp .ne 11, 3) := by decide +kernel
theorem dX2_takePlace_6 : decode cX2_takePlace 6 = .ok (.aload_n 0, 1) := by decide +kernel
theorem dX2_takePlace_7 : decode cX2_takePlace 7 = .ok (.iconst 1, 1) := by decide +kernel
theorem dX2_takePlace_8 : decode cX2_takePlace 8 = .ok (.putfield 18, 3) := by decide +kernel
theorem dX2_takePlace_11 : decode cX2_takePlace 11 = .ok (.goto 68, 3) := by decide +kernel
theorem dX2_takePlace_14 : decode cX2_takePlace 14 = .ok (.iload_n 1, 1) := by decide +kernel
theorem dX2_takePlace_15 : decode cX2_takePlace 15 = .ok (.bipush 78, 2) := by decide +kernel
theorem dX2_takePlace_17 : decode cX2_takePlace 17 = .ok (.if_icmp .ne 16, 3) := by decide +kernel
theorem dX2_takePlace_20 : decode cX2_takePlace 20 = .ok (.aload_n 0, 1) := by decide +kernel
theorem dX2_takePlace_21 : decode cX2_takePlace 21 = .ok (.getfield 12, 3) := by decide +kernel
theorem dX2_takePlace_24 : decode cX2_takePlace 24 = .ok (.iconst 2, 1) := by decide +kernel
theorem dX2_takePlace_25 : decode cX2_takePlace 25 = .ok (.bipush 9, 2) := by decide +kernel
theorem dX2_takePlace_27 : decode cX2_takePlace 27 = .ok (.invokevirtual 77, 3) := by decide +kernel
theorem dX2_takePlace_30 : decode cX2_takePlace 30 = .ok (.goto 49, 3) := by decide +kernel
theorem dX2_takePlace_33 : decode cX2_takePlace 33 = .ok (.iload_n 1, 1) := by decide +kernel
theorem dX2_takePlace_34 : decode cX2_takePlace 34 = .ok (.bipush 88, 2) := by decide +kernel
theorem dX2_takePlace_36 : decode cX2_takePlace 36 = .ok (.if_icmp .ne 16, 3) := by decide +kernel
theorem dX2_takePlace_39 : decode cX2_takePlace 39 = .ok (.aload_n 0, 1) := by decide +kernel
theorem dX2_takePlace_40 : decode cX2_takePlace 40 = .ok (.getfield 12, 3) := by decide +kernel
theorem dX2_takePlace_43 : decode cX2_takePlace 43 = .ok (.iconst 0, 1) := by decide +kernel
theorem dX2_takePlace_44 : decode cX2_takePlace 44 = .ok (.bipush 9, 2) := by decide +kernel
theorem dX2_takePlace_46 : decode cX2_takePlace 46 = .ok (.invokevirtual 77, 3) := by decide +kernel
theorem dX2_takePlace_49 : decode cX2_takePlace 49 = .ok (.goto 30, 3) := by decide +kernel
theorem dX2_takePlace_52 : decode cX2_takePlace 52 = .ok (.iload_n 1, 1) := by decide +kernel
theorem dX2_takePlace_53 : decode cX2_takePlace 53 = .ok (.invokestatic 81, 3) := by decide +kernel
theorem dX2_takePlace_56 : decode cX2_takePlace 56 = .ok (.ifCond .eq 21, 3) := by decide +kernel
theorem dX2_takePlace_59 : decode cX2_takePlace 59 = .ok (.aload_n 0, 1) := by decide +kernel
theorem dX2_takePlace_60 : decode cX2_takePlace 60 = .ok (.getfield 12, 3) := by decide +kernel
theorem dX2_takePlace_63 : decode cX2_takePlace 63 = .ok (.iload_n 1, 1) := by decide +kernel
theorem dX2_takePlace_64 : decode cX2_takePlace 64 = .ok (.bipush 48, 2) := by decide +kernel
theorem dX2_takePlace_66 : decode cX2_takePlace 66 = .ok (.isub, 1) := by decide +kernel
theorem dX2_takePlace_67 : decode cX2_takePlace 67 = .ok (.iload_n 1, 1) := by decide +kernel
theorem dX2_takePlace_68 : decode cX2_takePlace 68 = .ok (.bipush 48, 2) := by decide +kernel
theorem dX2_takePlace_70 : decode cX2_takePlace 70 = .ok (.isub, 1) := by decide +kernel
theorem dX2_takePlace_71 : decode cX2_takePlace 71 = .ok (.invokevirtual 77, 3) := by decide +kernel
theorem dX2_takePlace_74 : decode cX2_takePlace 74 = .ok (.goto 5, 3) := by decide +kernel
theorem dX2_takePlace_77 : decode cX2_takePlace 77 = .ok (.iconst 0, 1) := by decide +kernel
theorem dX2_takePlace_78 : decode cX2_takePlace 78 = .ok (.ireturn, 1) := by decide +kernel
theorem dX2_takePlace_79 : decode cX2_takePlace 79 = .ok (.iconst 1, 1) := by decide +kernel
theorem dX2_takePlace_80 : decode cX2_takePlace 80 = .ok (.ireturn, 1) := by decide +kernel
theorem dX2_takeLow_0 : decode cX2_takeLow 0 = .ok (.iload_n 1, 1) := by decide +kernel
theorem dX2_takeLow_1 : decode cX2_takeLow 1 = .ok (.invokestatic 81, 3) := by decide +kernel
theorem dX2_takeLow_4 : decode cX2_takeLow 4 = .ok (.ifCond .eq 9, 3) := by decide +kernel
theorem dX2_takeLow_7 : decode cX2_takeLow 7 = .ok (.iload_n 1, 1) := by decide +kernel
theorem dX2_takeLow_8 : decode cX2_takeLow 8 = .ok (.bipush 57, 2) := by decide +kernel
theorem dX2_takeLow_10 : decode cX2_takeLow 10 = .ok (.if_icmp .ne 5, 3) := by decide +kernel
theorem dX2_takeLow_13 : decode cX2_takeLow 13 = .ok (.iconst 0, 1) := by decide +kernel
theorem dX2_takeLow_14 : decode cX2_takeLow 14 = .ok (.ireturn, 1) := by decide +kernel
theorem dX2_takeLow_15 : decode cX2_takeLow 15 = .ok (.aload_n 0, 1) := by decide +kernel
theorem dX2_takeLow_16 : decode cX2_takeLow 16 = .ok (.iload_n 1, 1) := by decide +kernel
theorem dX2_takeLow_17 : decode cX2_takeLow 17 = .ok (.bipush 48, 2) := by decide +kernel
theorem dX2_takeLow_19 : decode cX2_takeLow 19 = .ok (.isub, 1) := by decide +kernel
theorem dX2_takeLow_20 : decode cX2_takeLow 20 = .ok (.putfield 84, 3) := by decide +kernel
theorem dX2_takeLow_23 : decode cX2_takeLow 23 = .ok (.aload_n 0, 1) := by decide +kernel
theorem dX2_takeLow_24 : decode cX2_takeLow 24 = .ok (.iconst 2, 1) := by decide +kernel
theorem dX2_takeLow_25 : decode cX2_takeLow 25 = .ok (.putfield 18, 3) := by decide +kernel
theorem dX2_takeLow_28 : decode cX2_takeLow 28 = .ok (.iconst 1, 1) := by decide +kernel
theorem dX2_takeLow_29 : decode cX2_takeLow 29 = .ok (.ireturn, 1) := by decide +kernel
theorem dX2_takeHigh_0 : decode cX2_takeHigh 0 = .ok (.iload_n 1, 1) := by decide +kernel
theorem dX2_takeHigh_1 : decode cX2_takeHigh 1 = .ok (.invokestatic 81, 3) := by decide +kernel
theorem dX2_takeHigh_4 : decode cX2_takeHigh 4 = .ok (.ifCond .eq 14, 3) := by decide +kernel
theorem dX2_takeHigh_7 : decode cX2_takeHigh 7 = .ok (.iload_n 1, 1) := by decide +kernel
theorem dX2_takeHigh_8 : decode cX2_takeHigh 8 = .ok (.bipush 48, 2) := by decide +kernel
theorem dX2_takeHigh_10 : decode cX2_takeHigh 10 = .ok (.isub, 1) := by decide +kernel
theorem dX2_takeHigh_11 : decode cX2_takeHigh 11 = .ok (.aload_n 0, 1) := by decide +kernel
theorem dX2_takeHigh_12 : decode cX2_takeHigh 12 = .ok (.getfield 84, 3) := by decide +kernel
theorem dX2_takeHigh_15 : decode cX2_takeHigh 15 = .ok (.if_icmp .gt 5, 3) := by decide +kernel
theorem dX2_takeHigh_18 : decode cX2_takeHigh 18 = .ok (.iconst 0, 1) := by decide +kernel
theorem dX2_takeHigh_19 : decode cX2_takeHigh 19 = .ok (.ireturn, 1) := by decide +kernel
theorem dX2_takeHigh_20 : decode cX2_takeHigh 20 = .ok (.aload_n 0, 1) := by decide +kernel
theorem dX2_takeHigh_21 : decode cX2_takeHigh 21 = .ok (.iload_n 1, 1) := by decide +kernel
theorem dX2_takeHigh_22 : decode cX2_takeHigh 22 = .ok (.bipush 48, 2) := by decide +kernel
theorem dX2_takeHigh_24 : decode cX2_takeHigh 24 = .ok (.isub, 1) := by decide +kernel
theorem dX2_takeHigh_25 : decode cX2_takeHigh 25 = .ok (.putfield 87, 3) := by decide +kernel
theorem dX2_takeHigh_28 : decode cX2_takeHigh 28 = .ok (.aload_n 0, 1) := by decide +kernel
theorem dX2_takeHigh_29 : decode cX2_takeHigh 29 = .ok (.iconst 4, 1) := by decide +kernel
theorem dX2_takeHigh_30 : decode cX2_takeHigh 30 = .ok (.putfield 18, 3) := by decide +kernel
theorem dX2_takeHigh_33 : decode cX2_takeHigh 33 = .ok (.iconst 1, 1) := by decide +kernel
theorem dX2_takeHigh_34 : decode cX2_takeHigh 34 = .ok (.ireturn, 1) := by decide +kernel
theorem dX2_takeBracket_0 : decode cX2_takeBracket 0 = .ok (.iload_n 1, 1) := by decide +kernel
theorem dX2_takeBracket_1 : decode cX2_takeBracket 1 = .ok (.bipush 93, 2) := by decide +kernel
theorem dX2_takeBracket_3 : decode cX2_takeBracket 3 = .ok (.if_icmp .eq 5, 3) := by decide +kernel
theorem dX2_takeBracket_6 : decode cX2_takeBracket 6 = .ok (.iconst 0, 1) := by decide +kernel
theorem dX2_takeBracket_7 : decode cX2_takeBracket 7 = .ok (.ireturn, 1) := by decide +kernel
theorem dX2_takeBracket_8 : decode cX2_takeBracket 8 = .ok (.aload_n 0, 1) := by decide +kernel
theorem dX2_takeBracket_9 : decode cX2_takeBracket 9 = .ok (.getfield 12, 3) := by decide +kernel
theorem dX2_takeBracket_12 : decode cX2_takeBracket 12 = .ok (.aload_n 0, 1) := by decide +kernel
theorem dX2_takeBracket_13 : decode cX2_takeBracket 13 = .ok (.getfield 84, 3) := by decide +kernel
theorem dX2_takeBracket_16 : decode cX2_takeBracket 16 = .ok (.aload_n 0, 1) := by decide +kernel
theorem dX2_takeBracket_17 : decode cX2_takeBracket 17 = .ok (.getfield 87, 3) := by decide +kernel
theorem dX2_takeBracket_20 : decode cX2_takeBracket 20 = .ok (.invokevirtual 77, 3) := by decide +kernel
theorem dX2_takeBracket_23 : decode cX2_takeBracket 23 = .ok (.aload_n 0, 1) := by decide +kernel
theorem dX2_takeBracket_24 : decode cX2_takeBracket 24 = .ok (.iconst 0, 1) := by decide +kernel
theorem dX2_takeBracket_25 : decode cX2_takeBracket 25 = .ok (.putfield 18, 3) := by decide +kernel
theorem dX2_takeBracket_28 : decode cX2_takeBracket 28 = .ok (.iconst 1, 1) := by decide +kernel
theorem dX2_takeBracket_29 : decode cX2_takeBracket 29 = .ok (.ireturn, 1) := by decide +kernel
theorem dX2_takeWay_0 : decode cX2_takeWay 0 = .ok (.iload_n 1, 1) := by decide +kernel
theorem dX2_takeWay_1 : decode cX2_takeWay 1 = .ok (.invokestatic 90, 3) := by decide +kernel
theorem dX2_takeWay_4 : decode cX2_takeWay 4 = .ok (.istore_n 2, 1) := by decide +kernel
theorem dX2_takeWay_5 : decode cX2_takeWay 5 = .ok (.iload_n 2, 1) := by decide +kernel
theorem dX2_takeWay_6 : decode cX2_takeWay 6 = .ok (.iconst (-1), 1) := by decide +kernel
theorem dX2_takeWay_7 : decode cX2_takeWay 7 = .ok (.if_icmp .ne 5, 3) := by decide +kernel
theorem dX2_takeWay_10 : decode cX2_takeWay 10 = .ok (.iconst 0, 1) := by decide +kernel
theorem dX2_takeWay_11 : decode cX2_takeWay 11 = .ok (.ireturn, 1) := by decide +kernel
theorem dX2_takeWay_12 : decode cX2_takeWay 12 = .ok (.aload_n 0, 1) := by decide +kernel
theorem dX2_takeWay_13 : decode cX2_takeWay 13 = .ok (.getfield 12, 3) := by decide +kernel
theorem dX2_takeWay_16 : decode cX2_takeWay 16 = .ok (.iload_n 2, 1) := by decide +kernel
theorem dX2_takeWay_17 : decode cX2_takeWay 17 = .ok (.invokevirtual 93, 3) := by decide +kernel
theorem dX2_takeWay_20 : decode cX2_takeWay 20 = .ok (.aload_n 0, 1) := by decide +kernel
theorem dX2_takeWay_21 : decode cX2_takeWay 21 = .ok (.bipush 7, 2) := by decide +kernel
theorem dX2_takeWay_23 : decode cX2_takeWay 23 = .ok (.putfield 18, 3) := by decide +kernel
theorem dX2_takeWay_26 : decode cX2_takeWay 26 = .ok (.iconst 1, 1) := by decide +kernel
theorem dX2_takeWay_27 : decode cX2_takeWay 27 = .ok (.ireturn, 1) := by decide +kernel
theorem dX2_wayOf_0 : decode cX2_wayOf 0 = .ok (.iload_n 0, 1) := by decide +kernel
theorem dX2_wayOf_1 : decode cX2_wayOf 1 = .ok (.bipush 97, 2) := by decide +kernel
theorem dX2_wayOf_3 : decode cX2_wayOf 3 = .ok (.if_icmp .lt 14, 3) := by decide +kernel
theorem dX2_wayOf_6 : decode cX2_wayOf 6 = .ok (.iload_n 0, 1) := by decide +kernel
theorem dX2_wayOf_7 : decode cX2_wayOf 7 = .ok (.bipush 104, 2) := by decide +kernel
theorem dX2_wayOf_9 : decode cX2_wayOf 9 = .ok (.if_icmp .gt 8, 3) := by decide +kernel
theorem dX2_wayOf_12 : decode cX2_wayOf 12 = .ok (.iload_n 0, 1) := by decide +kernel
theorem dX2_wayOf_13 : decode cX2_wayOf 13 = .ok (.bipush 97, 2) := by decide +kernel
theorem dX2_wayOf_15 : decode cX2_wayOf 15 = .ok (.isub, 1) := by decide +kernel
theorem dX2_wayOf_16 : decode cX2_wayOf 16 = .ok (.ireturn, 1) := by decide +kernel
theorem dX2_wayOf_17 : decode cX2_wayOf 17 = .ok (.iload_n 0, 1) := by decide +kernel
theorem dX2_wayOf_18 : decode cX2_wayOf 18 = .ok (.lookupswitch 43 #[(33, 37), (42, 40), (45, 34)], 34) := by decide +kernel
theorem dX2_wayOf_52 : decode cX2_wayOf 52 = .ok (.bipush 8, 2) := by decide +kernel
theorem dX2_wayOf_54 : decode cX2_wayOf 54 = .ok (.ireturn, 1) := by decide +kernel
theorem dX2_wayOf_55 : decode cX2_wayOf 55 = .ok (.bipush 9, 2) := by decide +kernel
theorem dX2_wayOf_57 : decode cX2_wayOf 57 = .ok (.ireturn, 1) := by decide +kernel
theorem dX2_wayOf_58 : decode cX2_wayOf 58 = .ok (.bipush 10, 2) := by decide +kernel
theorem dX2_wayOf_60 : decode cX2_wayOf 60 = .ok (.ireturn, 1) := by decide +kernel
theorem dX2_wayOf_61 : decode cX2_wayOf 61 = .ok (.iconst (-1), 1) := by decide +kernel
theorem dX2_wayOf_62 : decode cX2_wayOf 62 = .ok (.ireturn, 1) := by decide +kernel
theorem dX2_takeDrop_0 : decode cX2_takeDrop 0 = .ok (.iload_n 1, 1) := by decide +kernel
theorem dX2_takeDrop_1 : decode cX2_takeDrop 1 = .ok (.invokestatic 81, 3) := by decide +kernel
theorem dX2_takeDrop_4 : decode cX2_takeDrop 4 = .ok (.ifCond .eq 17, 3) := by decide +kernel
theorem dX2_takeDrop_7 : decode cX2_takeDrop 7 = .ok (.iload_n 1, 1) := by decide +kernel
theorem dX2_takeDrop_8 : decode cX2_takeDrop 8 = .ok (.bipush 48, 2) := by decide +kernel
theorem dX2_takeDrop_10 : decode cX2_takeDrop 10 = .ok (.isub, 1) := by decide +kernel
theorem dX2_takeDrop_11 : decode cX2_takeDrop 11 = .ok (.aload_n 0, 1) := by decide +kernel
theorem dX2_takeDrop_12 : decode cX2_takeDrop 12 = .ok (.getfield 12, 3) := by decide +kernel
theorem dX2_takeDrop_15 : decode cX2_takeDrop 15 = .ok (.invokevirtual 64, 3) := by decide +kernel
theorem dX2_takeDrop_18 : decode cX2_takeDrop 18 = .ok (.if_icmp .le 5, 3) := by decide +kernel
theorem dX2_takeDrop_21 : decode cX2_takeDrop 21 = .ok (.iconst 0, 1) := by decide +kernel
theorem dX2_takeDrop_22 : decode cX2_takeDrop 22 = .ok (.ireturn, 1) := by decide +kernel
theorem dX2_takeDrop_23 : decode cX2_takeDrop 23 = .ok (.aload_n 0, 1) := by decide +kernel
theorem dX2_takeDrop_24 : decode cX2_takeDrop 24 = .ok (.getfield 12, 3) := by decide +kernel
theorem dX2_takeDrop_27 : decode cX2_takeDrop 27 = .ok (.iload_n 1, 1) := by decide +kernel
theorem dX2_takeDrop_28 : decode cX2_takeDrop 28 = .ok (.bipush 48, 2) := by decide +kernel
theorem dX2_takeDrop_30 : decode cX2_takeDrop 30 = .ok (.isub, 1) := by decide +kernel
theorem dX2_takeDrop_31 : decode cX2_takeDrop 31 = .ok (.invokevirtual 97, 3) := by decide +kernel
theorem dX2_takeDrop_34 : decode cX2_takeDrop 34 = .ok (.aload_n 0, 1) := by decide +kernel
theorem dX2_takeDrop_35 : decode cX2_takeDrop 35 = .ok (.bipush 9, 2) := by decide +kernel
theorem dX2_takeDrop_37 : decode cX2_takeDrop 37 = .ok (.putfield 18, 3) := by decide +kernel
theorem dX2_takeDrop_40 : decode cX2_takeDrop 40 = .ok (.iconst 1, 1) := by decide +kernel
theorem dX2_takeDrop_41 : decode cX2_takeDrop 41 = .ok (.ireturn, 1) := by decide +kernel
theorem dX2_takeAhead_0 : decode cX2_takeAhead 0 = .ok (.iload_n 1, 1) := by decide +kernel
theorem dX2_takeAhead_1 : decode cX2_takeAhead 1 = .ok (.invokestatic 81, 3) := by decide +kernel
theorem dX2_takeAhead_4 : decode cX2_takeAhead 4 = .ok (.ifCond .eq 24, 3) := by decide +kernel
theorem dX2_takeAhead_7 : decode cX2_takeAhead 7 = .ok (.aload_n 0, 1) := by decide +kernel
theorem dX2_takeAhead_8 : decode cX2_takeAhead 8 = .ok (.getfield 12, 3) := by decide +kernel
theorem dX2_takeAhead_11 : decode cX2_takeAhead 11 = .ok (.invokevirtual 100, 3) := by decide +kernel
theorem dX2_takeAhead_14 : decode cX2_takeAhead 14 = .ok (.iload_n 1, 1) := by decide +kernel
theorem dX2_takeAhead_15 : decode cX2_takeAhead 15 = .ok (.bipush 48, 2) := by decide +kernel
theorem dX2_takeAhead_17 : decode cX2_takeAhead 17 = .ok (.isub, 1) := by decide +kernel
theorem dX2_takeAhead_18 : decode cX2_takeAhead 18 = .ok (.invokevirtual 104, 3) := by decide +kernel
theorem dX2_takeAhead_21 : decode cX2_takeAhead 21 = .ok (.ifCond .eq 7, 3) := by decide +kernel
theorem dX2_takeAhead_24 : decode cX2_takeAhead 24 = .ok (.iconst 1, 1) := by decide +kernel
theorem dX2_takeAhead_25 : decode cX2_takeAhead 25 = .ok (.goto 4, 3) := by decide +kernel
theorem dX2_takeAhead_28 : decode cX2_takeAhead 28 = .ok (.iconst 0, 1) := by decide +kernel
theorem dX2_takeAhead_29 : decode cX2_takeAhead 29 = .ok (.ireturn, 1) := by decide +kernel
theorem dX3_init_0 : decode cX3_init 0 = .ok (.aload_n 0, 1) := by decide +kernel
theorem dX3_init_1 : decode cX3_init 1 = .ok (.invokespecial 3, 3) := by decide +kernel
theorem dX3_init_4 : decode cX3_init 4 = .ok (.aload_n 0, 1) := by decide +kernel
theorem dX3_init_5 : decode cX3_init 5 = .ok (.bipush 10, 2) := by decide +kernel
theorem dX3_init_7 : decode cX3_init 7 = .ok (.anewarray 9, 3) := by decide +kernel
theorem dX3_init_10 : decode cX3_init 10 = .ok (.putfield 11, 3) := by decide +kernel
theorem dX3_init_13 : decode cX3_init 13 = .ok (.iconst 0, 1) := by decide +kernel
theorem dX3_init_14 : decode cX3_init 14 = .ok (.istore_n 1, 1) := by decide +kernel
theorem dX3_init_15 : decode cX3_init 15 = .ok (.iload_n 1, 1) := by decide +kernel
theorem dX3_init_16 : decode cX3_init 16 = .ok (.aload_n 0, 1) := by decide +kernel
theorem dX3_init_17 : decode cX3_init 17 = .ok (.getfield 11, 3) := by decide +kernel
theorem dX3_init_20 : decode cX3_init 20 = .ok (.arraylength, 1) := by decide +kernel
theorem dX3_init_21 : decode cX3_init 21 = .ok (.if_icmp .ge 22, 3) := by decide +kernel
theorem dX3_init_24 : decode cX3_init 24 = .ok (.aload_n 0, 1) := by decide +kernel
theorem dX3_init_25 : decode cX3_init 25 = .ok (.getfield 11, 3) := by decide +kernel
theorem dX3_init_28 : decode cX3_init 28 = .ok (.iload_n 1, 1) := by decide +kernel
theorem dX3_init_29 : decode cX3_init 29 = .ok (.new 9, 3) := by decide +kernel
theorem dX3_init_32 : decode cX3_init 32 = .ok (.dup, 1) := by decide +kernel
theorem dX3_init_33 : decode cX3_init 33 = .ok (.invokespecial 17, 3) := by decide +kernel
theorem dX3_init_36 : decode cX3_init 36 = .ok (.aastore, 1) := by decide +kernel
theorem dX3_init_37 : decode cX3_init 37 = .ok (.iinc 1 1, 3) := by decide +kernel
theorem dX3_init_40 : decode cX3_init 40 = .ok (.goto (-25), 3) := by decide +kernel
theorem dX3_init_43 : decode cX3_init 43 = .ok (.return_, 1) := by decide +kernel
theorem dX3_size_0 : decode cX3_size 0 = .ok (.aload_n 0, 1) := by decide +kernel
theorem dX3_size_1 : decode cX3_size 1 = .ok (.getfield 18, 3) := by decide +kernel
theorem dX3_size_4 : decode cX3_size 4 = .ok (.ireturn, 1) := by decide +kernel
theorem dX3_at_0 : decode cX3_at 0 = .ok (.iload_n 1, 1) := by decide +kernel
theorem dX3_at_1 : decode cX3_at 1 = .ok (.ifCond .lt 24, 3) := by decide +kernel
theorem dX3_at_4 : decode cX3_at 4 = .ok (.iload_n 1, 1) := by decide +kernel
theorem dX3_at_5 : decode cX3_at 5 = .ok (.aload_n 0, 1) := by decide +kernel
theorem dX3_at_6 : decode cX3_at 6 = .ok (.getfield 18, 3) := by decide +kernel
theorem dX3_at_9 : decode cX3_at 9 = .ok (.if_icmp .ge 16, 3) := by decide +kernel
theorem dX3_at_12 : decode cX3_at 12 = .ok (.iload_n 1, 1) := by decide +kernel
theorem dX3_at_13 : decode cX3_at 13 = .ok (.aload_n 0, 1) := by decide +kernel
theorem dX3_at_14 : decode cX3_at 14 = .ok (.getfield 11, 3) := by decide +kernel
theorem dX3_at_17 : decode cX3_at 17 = .ok (.arraylength, 1) := by decide +kernel
theorem dX3_at_18 : decode cX3_at 18 = .ok (.if_icmp .ge 7, 3) := by decide +kernel
theorem dX3_at_21 : decode cX3_at 21 = .ok (.iconst 1, 1) := by decide +kernel
theorem dX3_at_22 : decode cX3_at 22 = .ok (.goto 4, 3) := by decide +kernel
theorem dX3_at_25 : decode cX3_at 25 = .ok (.iconst 0, 1) := by decide +kernel
theorem dX3_at_26 : decode cX3_at 26 = .ok (.istore_n 2, 1) := by decide +kernel
theorem dX3_at_27 : decode cX3_at 27 = .ok (.iload_n 2, 1) := by decide +kernel
theorem dX3_at_28 : decode cX3_at 28 = .ok (.ifCond .eq 12, 3) := by decide +kernel
theorem dX3_at_31 : decode cX3_at 31 = .ok (.aload_n 0, 1) := by decide +kernel
theorem dX3_at_32 : decode cX3_at 32 = .ok (.getfield 11, 3) := by decide +kernel
theorem dX3_at_35 : decode cX3_at 35 = .ok (.iload_n 1, 1) := by decide +kernel
theorem dX3_at_36 : decode cX3_at 36 = .ok (.aaload, 1) := by decide +kernel
theorem dX3_at_37 : decode cX3_at 37 = .ok (.goto 4, 3) := by decide +kernel
theorem dX3_at_40 : decode cX3_at 40 = .ok (.aconst_null, 1) := by decide +kernel
theorem dX3_at_41 : decode cX3_at 41 = .ok (.areturn, 1) := by decide +kernel
theorem dX3_append_0 : decode cX3_append 0 = .ok (.aload_n 0, 1) := by decide +kernel
theorem dX3_append_1 : decode cX3_append 1 = .ok (.getfield 18, 3) := by decide +kernel
theorem dX3_append_4 : decode cX3_append 4 = .ok (.ifCond .lt 15, 3) := by decide +kernel
theorem dX3_append_7 : decode cX3_append 7 = .ok (.aload_n 0, 1) := by decide +kernel
theorem dX3_append_8 : decode cX3_append 8 = .ok (.getfield 18, 3) := by decide +kernel
theorem dX3_append_11 : decode cX3_append 11 = .ok (.aload_n 0, 1) := by decide +kernel
theorem dX3_append_12 : decode cX3_append 12 = .ok (.getfield 11, 3) := by decide +kernel
theorem dX3_append_15 : decode cX3_append 15 = .ok (.arraylength, 1) := by decide +kernel
theorem dX3_append_16 : decode cX3_append 16 = .ok (.if_icmp .lt 5, 3) := by decide +kernel
theorem dX3_append_19 : decode cX3_append 19 = .ok (.iconst 0, 1) := by decide +kernel
theorem dX3_append_20 : decode cX3_append 20 = .ok (.ireturn, 1) := by decide +kernel
theorem dX3_append_21 : decode cX3_append 21 = .ok (.aload_n 0, 1) := by decide +kernel
theorem dX3_append_22 : decode cX3_append 22 = .ok (.getfield 11, 3) := by decide +kernel
theorem dX3_append_25 : decode cX3_append 25 = .ok (.aload_n 0, 1) := by decide +kernel
theorem dX3_append_26 : decode cX3_append 26 = .ok (.getfield 18, 3) := by decide +kernel
theorem dX3_append_29 : decode cX3_append 29 = .ok (.aaload, 1) := by decide +kernel
theorem dX3_append_30 : decode cX3_append 30 = .ok (.astore_n 2, 1) := by decide +kernel
theorem dX3_append_31 : decode cX3_append 31 = .ok (.aload_n 2, 1) := by decide +kernel
theorem dX3_append_32 : decode cX3_append 32 = .ok (.ifnonnull 5, 3) := by decide +kernel
theorem dX3_append_35 : decode cX3_append 35 = .ok (.iconst 0, 1) := by decide +kernel
theorem dX3_append_36 : decode cX3_append 36 = .ok (.ireturn, 1) := by decide +kernel
theorem dX3_append_37 : decode cX3_append 37 = .ok (.aload_n 2, 1) := by decide +kernel
theorem dX3_append_38 : decode cX3_append 38 = .ok (.aload_n 1, 1) := by decide +kernel
theorem dX3_append_39 : decode cX3_append 39 = .ok (.invokevirtual 22, 3) := by decide +kernel
theorem dX3_append_42 : decode cX3_append 42 = .ok (.aload_n 0, 1) := by decide +kernel
theorem dX3_append_43 : decode cX3_append 43 = .ok (.dup, 1) := by decide +kernel
theorem dX3_append_44 : decode cX3_append 44 = .ok (.getfield 18, 3) := by decide +kernel
theorem dX3_append_47 : decode cX3_append 47 = .ok (.iconst 1, 1) := by decide +kernel
theorem dX3_append_48 : decode cX3_append 48 = .ok (.iadd, 1) := by decide +kernel
theorem dX3_append_49 : decode cX3_append 49 = .ok (.putfield 18, 3) := by decide +kernel
theorem dX3_append_52 : decode cX3_append 52 = .ok (.iconst 1, 1) := by decide +kernel
theorem dX3_append_53 : decode cX3_append 53 = .ok (.ireturn, 1) := by decide +kernel
theorem dX3_remove_0 : decode cX3_remove 0 = .ok (.iload_n 1, 1) := by decide +kernel
theorem dX3_remove_1 : decode cX3_remove 1 = .ok (.ifCond .lt 23, 3) := by decide +kernel
theorem dX3_remove_4 : decode cX3_remove 4 = .ok (.iload_n 1, 1) := by decide +kernel
theorem dX3_remove_5 : decode cX3_remove 5 = .ok (.aload_n 0, 1) := by decide +kernel
theorem dX3_remove_6 : decode cX3_remove 6 = .ok (.getfield 18, 3) := by decide +kernel
theorem dX3_remove_9 : decode cX3_remove 9 = .ok (.if_icmp .ge 15, 3) := by decide +kernel
theorem dX3_remove_12 : decode cX3_remove 12 = .ok (.aload_n 0, 1) := by decide +kernel
theorem dX3_remove_13 : decode cX3_remove 13 = .ok (.getfield 18, 3) := by decide +kernel
theorem dX3_remove_16 : decode cX3_remove 16 = .ok (.aload_n 0, 1) := by decide +kernel
theorem dX3_remove_17 : decode cX3_remove 17 = .ok (.getfield 11, 3) := by decide +kernel
theorem dX3_remove_20 : decode cX3_remove 20 = .ok (.arraylength, 1) := by decide +kernel
theorem dX3_remove_21 : decode cX3_remove 21 = .ok (.if_icmp .le 4, 3) := by decide +kernel
theorem dX3_remove_24 : decode cX3_remove 24 = .ok (.return_, 1) := by decide +kernel
theorem dX3_remove_25 : decode cX3_remove 25 = .ok (.aload_n 0, 1) := by decide +kernel
theorem dX3_remove_26 : decode cX3_remove 26 = .ok (.getfield 11, 3) := by decide +kernel
theorem dX3_remove_29 : decode cX3_remove 29 = .ok (.iload_n 1, 1) := by decide +kernel
theorem dX3_remove_30 : decode cX3_remove 30 = .ok (.aaload, 1) := by decide +kernel
theorem dX3_remove_31 : decode cX3_remove 31 = .ok (.astore_n 2, 1) := by decide +kernel
theorem dX3_remove_32 : decode cX3_remove 32 = .ok (.iload_n 1, 1) := by decide +kernel
theorem dX3_remove_33 : decode cX3_remove 33 = .ok (.istore_n 3, 1) := by decide +kernel
theorem dX3_remove_34 : decode cX3_remove 34 = .ok (.iload_n 3, 1) := by decide +kernel
theorem dX3_remove_35 : decode cX3_remove 35 = .ok (.iconst 1, 1) := by decide +kernel
theorem dX3_remove_36 : decode cX3_remove 36 = .ok (.iadd, 1) := by decide +kernel
theorem dX3_remove_37 : decode cX3_remove 37 = .ok (.aload_n 0, 1) := by decide +kernel
theorem dX3_remove_38 : decode cX3_remove 38 = .ok (.getfield 18, 3) := by decide +kernel
theorem dX3_remove_41 : decode cX3_remove 41 = .ok (.if_icmp .ge 23, 3) := by decide +kernel
theorem dX3_remove_44 : decode cX3_remove 44 = .ok (.aload_n 0, 1) := by decide +kernel
theorem dX3_remove_45 : decode cX3_remove 45 = .ok (.getfield 11, 3) := by decide +kernel
theorem dX3_remove_48 : decode cX3_remove 48 = .ok (.iload_n 3, 1) := by decide +kernel
theorem dX3_remove_49 : decode cX3_remove 49 = .ok (.aload_n 0, 1) := by decide +kernel
theorem dX3_remove_50 : decode cX3_remove 50 = .ok (.getfield 11, 3) := by decide +kernel
theorem dX3_remove_53 : decode cX3_remove 53 = .ok (.iload_n 3, 1) := by decide +kernel
theorem dX3_remove_54 : decode cX3_remove 54 = .ok (.iconst 1, 1) := by decide +kernel
theorem dX3_remove_55 : decode cX3_remove 55 = .ok (.iadd, 1) := by decide +kernel
theorem dX3_remove_56 : decode cX3_remove 56 = .ok (.aaload, 1) := by decide +kernel
theorem dX3_remove_57 : decode cX3_remove 57 = .ok (.aastore, 1) := by decide +kernel
theorem dX3_remove_58 : decode cX3_remove 58 = .ok (.iinc 3 1, 3) := by decide +kernel
theorem dX3_remove_61 : decode cX3_remove 61 = .ok (.goto (-27), 3) := by decide +kernel
theorem dX3_remove_64 : decode cX3_remove 64 = .ok (.aload_n 0, 1) := by decide +kernel
theorem dX3_remove_65 : decode cX3_remove 65 = .ok (.dup, 1) := by decide +kernel
theorem dX3_remove_66 : decode cX3_remove 66 = .ok (.getfield 18, 3) := by decide +kernel
theorem dX3_remove_69 : decode cX3_remove 69 = .ok (.iconst 1, 1) := by decide +kernel
theorem dX3_remove_70 : decode cX3_remove 70 = .ok (.isub, 1) := by decide +kernel
theorem dX3_remove_71 : decode cX3_remove 71 = .ok (.putfield 18, 3) := by decide +kernel
theorem dX3_remove_74 : decode cX3_remove 74 = .ok (.aload_n 0, 1) := by decide +kernel
theorem dX3_remove_75 : decode cX3_remove 75 = .ok (.getfield 11, 3) := by decide +kernel
theorem dX3_remove_78 : decode cX3_remove 78 = .ok (.aload_n 0, 1) := by decide +kernel
theorem dX3_remove_79 : decode cX3_remove 79 = .ok (.getfield 18, 3) := by decide +kernel
theorem dX3_remove_82 : decode cX3_remove 82 = .ok (.aload_n 2, 1) := by decide +kernel
theorem dX3_remove_83 : decode cX3_remove 83 = .ok (.aastore, 1) := by decide +kernel
theorem dX3_remove_84 : decode cX3_remove 84 = .ok (.return_, 1) := by decide +kernel
theorem dX3_reached_0 : decode cX3_reached 0 = .ok (.iconst 0, 1) := by decide +kernel
theorem dX3_reached_1 : decode cX3_reached 1 = .ok (.istore_n 3, 1) := by decide +kernel
theorem dX3_reached_2 : decode cX3_reached 2 = .ok (.iconst 0, 1) := by decide +kernel
theorem dX3_reached_3 : decode cX3_reached 3 = .ok (.istore 4, 2) := by decide +kernel
theorem dX3_reached_5 : decode cX3_reached 5 = .ok (.iload 4, 2) := by decide +kernel
theorem dX3_reached_7 : decode cX3_reached 7 = .ok (.aload_n 0, 1) := by decide +kernel
theorem dX3_reached_8 : decode cX3_reached 8 = .ok (.getfield 18, 3) := by decide +kernel
theorem dX3_reached_11 : decode cX3_reached 11 = .ok (.if_icmp .ge 44, 3) := by decide +kernel
theorem dX3_reached_14 : decode cX3_reached 14 = .ok (.aload_n 0, 1) := by decide +kernel
theorem dX3_reached_15 : decode cX3_reached 15 = .ok (.iload 4, 2) := by decide +kernel
theorem dX3_reached_17 : decode cX3_reached 17 = .ok (.invokevirtual 26, 3) := by decide +kernel
theorem dX3_reached_20 : decode cX3_reached 20 = .ok (.astore 5, 2) := by decide +kernel
theorem dX3_reached_22 : decode cX3_reached 22 = .ok (.aload 5, 2) := by decide +kernel
theorem dX3_reached_24 : decode cX3_reached 24 = .ok (.ifnull 25, 3) := by decide +kernel
theorem dX3_reached_27 : decode cX3_reached 27 = .ok (.aload 5, 2) := by decide +kernel
theorem dX3_reached_29 : decode cX3_reached 29 = .ok (.aload_n 1, 1) := by decide +kernel
theorem dX3_reached_30 : decode cX3_reached 30 = .ok (.aload_n 1, 1) := by decide +kernel
theorem dX3_reached_31 : decode cX3_reached 31 = .ok (.invokevirtual 30, 3) := by decide +kernel
theorem dX3_reached_34 : decode cX3_reached 34 = .ok (.invokevirtual 35, 3) := by decide +kernel
theorem dX3_reached_37 : decode cX3_reached 37 = .ok (.iload_n 2, 1) := by decide +kernel
theorem dX3_reached_38 : decode cX3_reached 38 = .ok (.iand, 1) := by decide +kernel
theorem dX3_reached_39 : decode cX3_reached 39 = .ok (.ifCond .eq 10, 3) := by decide +kernel
theorem dX3_reached_42 : decode cX3_reached 42 = .ok (.iload_n 3, 1) := by decide +kernel
theorem dX3_reached_43 : decode cX3_reached 43 = .ok (.iconst 1, 1) := by decide +kernel
theorem dX3_reached_44 : decode cX3_reached 44 = .ok (.iload 4, 2) := by decide +kernel
theorem dX3_reached_46 : decode cX3_reached 46 = .ok (.ishl, 1) := by decide +kernel
theorem dX3_reached_47 : decode cX3_reached 47 = .ok (.ior, 1) := by decide +kernel
theorem dX3_reached_48 : decode cX3_reached 48 = .ok (.istore_n 3, 1) := by decide +kernel
theorem dX3_reached_49 : decode cX3_reached 49 = .ok (.iinc 4 1, 3) := by decide +kernel
theorem dX3_reached_52 : decode cX3_reached 52 = .ok (.goto (-47), 3) := by decide +kernel
theorem dX3_reached_55 : decode cX3_reached 55 = .ok (.iload_n 3, 1) := by decide +kernel
theorem dX3_reached_56 : decode cX3_reached 56 = .ok (.ireturn, 1) := by decide +kernel
theorem dX3_winner_0 : decode cX3_winner 0 = .ok (.iconst (-1), 1) := by decide +kernel
theorem dX3_winner_1 : decode cX3_winner 1 = .ok (.istore_n 3, 1) := by decide +kernel
theorem dX3_winner_2 : decode cX3_winner 2 = .ok (.aconst_null, 1) := by decide +kernel
theorem dX3_winner_3 : decode cX3_winner 3 = .ok (.astore 4, 2) := by decide +kernel
theorem dX3_winner_5 : decode cX3_winner 5 = .ok (.iconst 0, 1) := by decide +kernel
theorem dX3_winner_6 : decode cX3_winner 6 = .ok (.istore 5, 2) := by decide +kernel
theorem dX3_winner_8 : decode cX3_winner 8 = .ok (.iload 5, 2) := by decide +kernel
theorem dX3_winner_10 : decode cX3_winner 10 = .ok (.aload_n 0, 1) := by decide +kernel
theorem dX3_winner_11 : decode cX3_winner 11 = .ok (.getfield 18, 3) := by decide +kernel
theorem dX3_winner_14 : decode cX3_winner 14 = .ok (.if_icmp .ge 76, 3) := by decide +kernel
theorem dX3_winner_17 : decode cX3_winner 17 = .ok (.aload_n 0, 1) := by decide +kernel
theorem dX3_winner_18 : decode cX3_winner 18 = .ok (.iload 5, 2) := by decide +kernel
theorem dX3_winner_20 : decode cX3_winner 20 = .ok (.invokevirtual 26, 3) := by decide +kernel
theorem dX3_winner_23 : decode cX3_winner 23 = .ok (.astore 6, 2) := by decide +kernel
theorem dX3_winner_25 : decode cX3_winner 25 = .ok (.aload 6, 2) := by decide +kernel
theorem dX3_winner_27 : decode cX3_winner 27 = .ok (.ifnull 57, 3) := by decide +kernel
theorem dX3_winner_30 : decode cX3_winner 30 = .ok (.iload_n 2, 1) := by decide +kernel
theorem dX3_winner_31 : decode cX3_winner 31 = .ok (.ifCond .eq 13, 3) := by decide +kernel
theorem dX3_winner_34 : decode cX3_winner 34 = .ok (.aload 6, 2) := by decide +kernel
theorem dX3_winner_36 : decode cX3_winner 36 = .ok (.invokevirtual 39, 3) := by decide +kernel
theorem dX3_winner_39 : decode cX3_winner 39 = .ok (.bipush 9, 2) := by decide +kernel
theorem dX3_winner_41 : decode cX3_winner 41 = .ok (.if_icmp .ne 43, 3) := by decide +kernel
theorem dX3_winner_44 : decode cX3_winner 44 = .ok (.aload 6, 2) := by decide +kernel
theorem dX3_winner_46 : decode cX3_winner 46 = .ok (.aload_n 1, 1) := by decide +kernel
theorem dX3_winner_47 : decode cX3_winner 47 = .ok (.aload_n 1, 1) := by decide +kernel
theorem dX3_winner_48 : decode cX3_winner 48 = .ok (.invokevirtual 30, 3) := by decide +kernel
theorem dX3_winner_51 : decode cX3_winner 51 = .ok (.invokevirtual 35, 3) := by decide +kernel
theorem dX3_winner_54 : decode cX3_winner 54 = .ok (.iconst 1, 1) := by decide +kernel
theorem dX3_winner_55 : decode cX3_winner 55 = .ok (.iand, 1) := by decide +kernel
theorem dX3_winner_56 : decode cX3_winner 56 = .ok (.ifCond .ne 6, 3) := by decide +kernel
theorem dX3_winner_59 : decode cX3_winner 59 = .ok (.goto 25, 3) := by decide +kernel
theorem dX3_winner_62 : decode cX3_winner 62 = .ok (.aload 4, 2) := by decide +kernel
theorem dX3_winner_64 : decode cX3_winner 64 = .ok (.ifnull 13, 3) := by decide +kernel
theorem dX3_winner_67 : decode cX3_winner 67 = .ok (.aload 6, 2) := by decide +kernel
theorem dX3_winner_69 : decode cX3_winner 69 = .ok (.aload 4, 2) := by decide +kernel
theorem dX3_winner_71 : decode cX3_winner 71 = .ok (.invokevirtual 42, 3) := by decide +kernel
theorem dX3_winner_74 : decode cX3_winner 74 = .ok (.ifCond .eq 10, 3) := by decide +kernel
theorem dX3_winner_77 : decode cX3_winner 77 = .ok (.aload 6, 2) := by decide +kernel
theorem dX3_winner_79 : decode cX3_winner 79 = .ok (.astore 4, 2) := by decide +kernel
theorem dX3_winner_81 : decode cX3_winner 81 = .ok (.iload 5, 2) := by decide +kernel
theorem dX3_winner_83 : decode cX3_winner 83 = .ok (.istore_n 3, 1) := by decide +kernel
theorem dX3_winner_84 : decode cX3_winner 84 = .ok (.iinc 5 1, 3) := by decide +kernel
theorem dX3_winner_87 : decode cX3_winner 87 = .ok (.goto (-79), 3) := by decide +kernel
theorem dX3_winner_90 : decode cX3_winner 90 = .ok (.iload_n 3, 1) := by decide +kernel
theorem dX3_winner_91 : decode cX3_winner 91 = .ok (.ireturn, 1) := by decide +kernel
theorem dX3_sureFrom_0 : decode cX3_sureFrom 0 = .ok (.iconst 0, 1) := by decide +kernel
theorem dX3_sureFrom_1 : decode cX3_sureFrom 1 = .ok (.istore_n 2, 1) := by decide +kernel
theorem dX3_sureFrom_2 : decode cX3_sureFrom 2 = .ok (.iload_n 2, 1) := by decide +kernel
theorem dX3_sureFrom_3 : decode cX3_sureFrom 3 = .ok (.aload_n 1, 1) := by decide +kernel
theorem dX3_sureFrom_4 : decode cX3_sureFrom 4 = .ok (.invokevirtual 30, 3) := by decide +kernel
theorem dX3_sureFrom_7 : decode cX3_sureFrom 7 = .ok (.if_icmp .gt 20, 3) := by decide +kernel
theorem dX3_sureFrom_10 : decode cX3_sureFrom 10 = .ok (.aload_n 0, 1) := by decide +kernel
theorem dX3_sureFrom_11 : decode cX3_sureFrom 11 = .ok (.aload_n 1, 1) := by decide +kernel
theorem dX3_sureFrom_12 : decode cX3_sureFrom 12 = .ok (.iload_n 2, 1) := by decide +kernel
theorem dX3_sureFrom_13 : decode cX3_sureFrom 13 = .ok (.invokevirtual 46, 3) := by decide +kernel
theorem dX3_sureFrom_16 : decode cX3_sureFrom 16 = .ok (.ifCond .eq 5, 3) := by decide +kernel
theorem dX3_sureFrom_19 : decode cX3_sureFrom 19 = .ok (.iload_n 2, 1) := by decide +kernel
theorem dX3_sureFrom_20 : decode cX3_sureFrom 20 = .ok (.ireturn, 1) := by decide +kernel
theorem dX3_sureFrom_21 : decode cX3_sureFrom 21 = .ok (.iinc 2 1, 3) := by decide +kernel
theorem dX3_sureFrom_24 : decode cX3_sureFrom 24 = .ok (.goto (-22), 3) := by decide +kernel
theorem dX3_sureFrom_27 : decode cX3_sureFrom 27 = .ok (.iconst (-1), 1) := by decide +kernel
theorem dX3_sureFrom_28 : decode cX3_sureFrom 28 = .ok (.ireturn, 1) := by decide +kernel
theorem dX3_isSureBy_0 : decode cX3_isSureBy 0 = .ok (.aconst_null, 1) := by decide +kernel
theorem dX3_isSureBy_1 : decode cX3_isSureBy 1 = .ok (.astore_n 3, 1) := by decide +kernel
theorem dX3_isSureBy_2 : decode cX3_isSureBy 2 = .ok (.iconst 0, 1) := by decide +kernel
theorem dX3_isSureBy_3 : decode cX3_isSureBy 3 = .ok (.istore 4, 2) := by decide +kernel
theorem dX3_isSureBy_5 : decode cX3_isSureBy 5 = .ok (.iload 4, 2) := by decide +kernel
theorem dX3_isSureBy_7 : decode cX3_isSureBy 7 = .ok (.aload_n 0, 1) := by decide +kernel
theorem dX3_isSureBy_8 : decode cX3_isSureBy 8 = .ok (.getfield 18, 3) := by decide +kernel
theorem dX3_isSureBy_11 : decode cX3_isSureBy 11 = .ok (.if_icmp .ge 56, 3) := by decide +kernel
theorem dX3_isSureBy_14 : decode cX3_isSureBy 14 = .ok (.aload_n 0, 1) := by decide +kernel
theorem dX3_isSureBy_15 : decode cX3_isSureBy 15 = .ok (.iload 4, 2) := by decide +kernel
theorem dX3_isSureBy_17 : decode cX3_isSureBy 17 = .ok (.invokevirtual 26, 3) := by decide +kernel
theorem dX3_isSureBy_20 : decode cX3_isSureBy 20 = .ok (.astore 5, 2) := by decide +kernel
theorem dX3_isSureBy_22 : decode cX3_isSureBy 22 = .ok (.aload 5, 2) := by decide +kernel
theorem dX3_isSureBy_24 : decode cX3_isSureBy 24 = .ok (.ifnull 37, 3) := by decide +kernel
theorem dX3_isSureBy_27 : decode cX3_isSureBy 27 = .ok (.aload 5, 2) := by decide +kernel
theorem dX3_isSureBy_29 : decode cX3_isSureBy 29 = .ok (.aload_n 1, 1) := by decide +kernel
theorem dX3_isSureBy_30 : decode cX3_isSureBy 30 = .ok (.iload_n 2, 1) := by decide +kernel
theorem dX3_isSureBy_31 : decode cX3_isSureBy 31 = .ok (.invokevirtual 35, 3) := by decide +kernel
theorem dX3_isSureBy_34 : decode cX3_isSureBy 34 = .ok (.ifCond .ne 6, 3) := by decide +kernel
theorem dX3_isSureBy_37 : decode cX3_isSureBy 37 = .ok (.goto 24, 3) := by decide +kernel
theorem dX3_isSureBy_40 : decode cX3_isSureBy 40 = .ok (.aload_n 3, 1) := by decide +kernel
theorem dX3_isSureBy_41 : decode cX3_isSureBy 41 = .ok (.ifnonnull 9, 3) := by decide +kernel
theorem dX3_isSureBy_44 : decode cX3_isSureBy 44 = .ok (.aload 5, 2) := by decide +kernel
theorem dX3_isSureBy_46 : decode cX3_isSureBy 46 = .ok (.astore_n 3, 1) := by decide +kernel
theorem dX3_isSureBy_47 : decode cX3_isSureBy 47 = .ok (.goto 14, 3) := by decide +kernel
theorem dX3_isSureBy_50 : decode cX3_isSureBy 50 = .ok (.aload 5, 2) := by decide +kernel
theorem dX3_isSureBy_52 : decode cX3_isSureBy 52 = .ok (.aload_n 3, 1) := by decide +kernel
theorem dX3_isSureBy_53 : decode cX3_isSureBy 53 = .ok (.invokevirtual 50, 3) := by decide +kernel
theorem dX3_isSureBy_56 : decode cX3_isSureBy 56 = .ok (.ifCond .ne 5, 3) := by decide +kernel
theorem dX3_isSureBy_59 : decode cX3_isSureBy 59 = .ok (.iconst 0, 1) := by decide +kernel
theorem dX3_isSureBy_60 : decode cX3_isSureBy 60 = .ok (.ireturn, 1) := by decide +kernel
theorem dX3_isSureBy_61 : decode cX3_isSureBy 61 = .ok (.iinc 4 1, 3) := by decide +kernel
theorem dX3_isSureBy_64 : decode cX3_isSureBy 64 = .ok (.goto (-59), 3) := by decide +kernel
theorem dX3_isSureBy_67 : decode cX3_isSureBy 67 = .ok (.aload_n 3, 1) := by decide +kernel
theorem dX3_isSureBy_68 : decode cX3_isSureBy 68 = .ok (.ifnull 7, 3) := by decide +kernel
theorem dX3_isSureBy_71 : decode cX3_isSureBy 71 = .ok (.iconst 1, 1) := by decide +kernel
theorem dX3_isSureBy_72 : decode cX3_isSureBy 72 = .ok (.goto 4, 3) := by decide +kernel
theorem dX3_isSureBy_75 : decode cX3_isSureBy 75 = .ok (.iconst 0, 1) := by decide +kernel
theorem dX3_isSureBy_76 : decode cX3_isSureBy 76 = .ok (.ireturn, 1) := by decide +kernel
theorem dX3_isClash_0 : decode cX3_isClash 0 = .ok (.aload_n 0, 1) := by decide +kernel
theorem dX3_isClash_1 : decode cX3_isClash 1 = .ok (.iload_n 1, 1) := by decide +kernel
theorem dX3_isClash_2 : decode cX3_isClash 2 = .ok (.invokevirtual 26, 3) := by decide +kernel
theorem dX3_isClash_5 : decode cX3_isClash 5 = .ok (.astore_n 3, 1) := by decide +kernel
theorem dX3_isClash_6 : decode cX3_isClash 6 = .ok (.aload_n 0, 1) := by decide +kernel
theorem dX3_isClash_7 : decode cX3_isClash 7 = .ok (.iload_n 2, 1) := by decide +kernel
theorem dX3_isClash_8 : decode cX3_isClash 8 = .ok (.invokevirtual 26, 3) := by decide +kernel
theorem dX3_isClash_11 : decode cX3_isClash 11 = .ok (.astore 4, 2) := by decide +kernel
theorem dX3_isClash_13 : decode cX3_isClash 13 = .ok (.aload_n 3, 1) := by decide +kernel
theorem dX3_isClash_14 : decode cX3_isClash 14 = .ok (.ifnull 21, 3) := by decide +kernel
theorem dX3_isClash_17 : decode cX3_isClash 17 = .ok (.aload 4, 2) := by decide +kernel
theorem dX3_isClash_19 : decode cX3_isClash 19 = .ok (.ifnull 16, 3) := by decide +kernel
theorem dX3_isClash_22 : decode cX3_isClash 22 = .ok (.aload_n 3, 1) := by decide +kernel
theorem dX3_isClash_23 : decode cX3_isClash 23 = .ok (.aload 4, 2) := by decide +kernel
theorem dX3_isClash_25 : decode cX3_isClash 25 = .ok (.invokevirtual 53, 3) := by decide +kernel
theorem dX3_isClash_28 : decode cX3_isClash 28 = .ok (.ifCond .eq 7, 3) := by decide +kernel
theorem dX3_isClash_31 : decode cX3_isClash 31 = .ok (.iconst 1, 1) := by decide +kernel
theorem dX3_isClash_32 : decode cX3_isClash 32 = .ok (.goto 4, 3) := by decide +kernel
theorem dX3_isClash_35 : decode cX3_isClash 35 = .ok (.iconst 0, 1) := by decide +kernel
theorem dX3_isClash_36 : decode cX3_isClash 36 = .ok (.ireturn, 1) := by decide +kernel
theorem dX3_clashes_0 : decode cX3_clashes 0 = .ok (.iconst 0, 1) := by decide +kernel
theorem dX3_clashes_1 : decode cX3_clashes 1 = .ok (.istore_n 1, 1) := by decide +kernel
theorem dX3_clashes_2 : decode cX3_clashes 2 = .ok (.iconst 0, 1) := by decide +kernel
theorem dX3_clashes_3 : decode cX3_clashes 3 = .ok (.istore_n 2, 1) := by decide +kernel
theorem dX3_clashes_4 : decode cX3_clashes 4 = .ok (.iload_n 2, 1) := by decide +kernel
theorem dX3_clashes_5 : decode cX3_clashes 5 = .ok (.aload_n 0, 1) := by decide +kernel
theorem dX3_clashes_6 : decode cX3_clashes 6 = .ok (.getfield 18, 3) := by decide +kernel
theorem dX3_clashes_9 : decode cX3_clashes 9 = .ok (.if_icmp .ge 39, 3) := by decide +kernel
theorem dX3_clashes_12 : decode cX3_clashes 12 = .ok (.iload_n 2, 1) := by decide +kernel
theorem dX3_clashes_13 : decode cX3_clashes 13 = .ok (.iconst 1, 1) := by decide +kernel
theorem dX3_clashes_14 : decode cX3_clashes 14 = .ok (.iadd, 1) := by decide +kernel
theorem dX3_clashes_15 : decode cX3_clashes 15 = .ok (.istore_n 3, 1) := by decide +kernel
theorem dX3_clashes_16 : decode cX3_clashes 16 = .ok (.iload_n 3, 1) := by decide +kernel
theorem dX3_clashes_17 : decode cX3_clashes 17 = .ok (.aload_n 0, 1) := by decide +kernel
theorem dX3_clashes_18 : decode cX3_clashes 18 = .ok (.getfield 18, 3) := by decide +kernel
theorem dX3_clashes_21 : decode cX3_clashes 21 = .ok (.if_icmp .ge 21, 3) := by decide +kernel
theorem dX3_clashes_24 : decode cX3_clashes 24 = .ok (.aload_n 0, 1) := by decide +kernel
