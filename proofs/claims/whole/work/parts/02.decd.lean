theorem dX7_row_23 : decode cX7_row 23 = .ok (.ireturn, 1) := by decide +kernel
theorem dX7_row_24 : decode cX7_row 24 = .ok (.aload_n 0, 1) := by decide +kernel
theorem dX7_row_25 : decode cX7_row 25 = .ok (.invokevirtual 183, 3) := by decide +kernel
theorem dX7_row_28 : decode cX7_row 28 = .ok (.ifCond .eq 11, 3) := by decide +kernel
theorem dX7_row_31 : decode cX7_row 31 = .ok (.aload_n 0, 1) := by decide +kernel
theorem dX7_row_32 : decode cX7_row 32 = .ok (.iload_n 1, 1) := by decide +kernel
theorem dX7_row_33 : decode cX7_row 33 = .ok (.invokevirtual 187, 3) := by decide +kernel
theorem dX7_row_36 : decode cX7_row 36 = .ok (.goto 6, 3) := by decide +kernel
theorem dX7_row_39 : decode cX7_row 39 = .ok (.sipush (-1003), 3) := by decide +kernel
theorem dX7_row_42 : decode cX7_row 42 = .ok (.ireturn, 1) := by decide +kernel
theorem dX7_stage_0 : decode cX7_stage 0 = .ok (.iload_n 1, 1) := by decide +kernel
theorem dX7_stage_1 : decode cX7_stage 1 = .ok (.iconst 0, 1) := by decide +kernel
theorem dX7_stage_2 : decode cX7_stage 2 = .ok (.iconst 2, 1) := by decide +kernel
theorem dX7_stage_3 : decode cX7_stage 3 = .ok (.invokestatic 50, 3) := by decide +kernel
theorem dX7_stage_6 : decode cX7_stage 6 = .ok (.ifCond .eq 13, 3) := by decide +kernel
theorem dX7_stage_9 : decode cX7_stage 9 = .ok (.iload_n 2, 1) := by decide +kernel
theorem dX7_stage_10 : decode cX7_stage 10 = .ok (.iconst 1, 1) := by decide +kernel
theorem dX7_stage_11 : decode cX7_stage 11 = .ok (.bipush 99, 2) := by decide +kernel
theorem dX7_stage_13 : decode cX7_stage 13 = .ok (.invokestatic 50, 3) := by decide +kernel
theorem dX7_stage_16 : decode cX7_stage 16 = .ok (.ifCond .ne 7, 3) := by decide +kernel
theorem dX7_stage_19 : decode cX7_stage 19 = .ok (.sipush (-1002), 3) := by decide +kernel
theorem dX7_stage_22 : decode cX7_stage 22 = .ok (.ireturn, 1) := by decide +kernel
theorem dX7_stage_23 : decode cX7_stage 23 = .ok (.aload_n 0, 1) := by decide +kernel
theorem dX7_stage_24 : decode cX7_stage 24 = .ok (.getfield 35, 3) := by decide +kernel
theorem dX7_stage_27 : decode cX7_stage 27 = .ok (.iload_n 1, 1) := by decide +kernel
theorem dX7_stage_28 : decode cX7_stage 28 = .ok (.iaload, 1) := by decide +kernel
theorem dX7_stage_29 : decode cX7_stage 29 = .ok (.istore_n 3, 1) := by decide +kernel
theorem dX7_stage_30 : decode cX7_stage 30 = .ok (.aload_n 0, 1) := by decide +kernel
theorem dX7_stage_31 : decode cX7_stage 31 = .ok (.getfield 35, 3) := by decide +kernel
theorem dX7_stage_34 : decode cX7_stage 34 = .ok (.iload_n 1, 1) := by decide +kernel
theorem dX7_stage_35 : decode cX7_stage 35 = .ok (.iload_n 2, 1) := by decide +kernel
theorem dX7_stage_36 : decode cX7_stage 36 = .ok (.iastore, 1) := by decide +kernel
theorem dX7_stage_37 : decode cX7_stage 37 = .ok (.iload_n 3, 1) := by decide +kernel
theorem dX7_stage_38 : decode cX7_stage 38 = .ok (.ireturn, 1) := by decide +kernel
theorem dX7_layPressed_0 : decode cX7_layPressed 0 = .ok (.aload_n 0, 1) := by decide +kernel
theorem dX7_layPressed_1 : decode cX7_layPressed 1 = .ok (.aload_n 0, 1) := by decide +kernel
theorem dX7_layPressed_2 : decode cX7_layPressed 2 = .ok (.getfield 190, 3) := by decide +kernel
theorem dX7_layPressed_5 : decode cX7_layPressed 5 = .ok (.putfield 162, 3) := by decide +kernel
theorem dX7_layPressed_8 : decode cX7_layPressed 8 = .ok (.iconst 0, 1) := by decide +kernel
theorem dX7_layPressed_9 : decode cX7_layPressed 9 = .ok (.istore_n 1, 1) := by decide +kernel
theorem dX7_layPressed_10 : decode cX7_layPressed 10 = .ok (.iload_n 1, 1) := by decide +kernel
theorem dX7_layPressed_11 : decode cX7_layPressed 11 = .ok (.aload_n 0, 1) := by decide +kernel
theorem dX7_layPressed_12 : decode cX7_layPressed 12 = .ok (.getfield 190, 3) := by decide +kernel
theorem dX7_layPressed_15 : decode cX7_layPressed 15 = .ok (.if_icmp .ge 21, 3) := by decide +kernel
theorem dX7_layPressed_18 : decode cX7_layPressed 18 = .ok (.aload_n 0, 1) := by decide +kernel
theorem dX7_layPressed_19 : decode cX7_layPressed 19 = .ok (.getfield 44, 3) := by decide +kernel
theorem dX7_layPressed_22 : decode cX7_layPressed 22 = .ok (.iload_n 1, 1) := by decide +kernel
theorem dX7_layPressed_23 : decode cX7_layPressed 23 = .ok (.aload_n 0, 1) := by decide +kernel
theorem dX7_layPressed_24 : decode cX7_layPressed 24 = .ok (.getfield 47, 3) := by decide +kernel
theorem dX7_layPressed_27 : decode cX7_layPressed 27 = .ok (.iload_n 1, 1) := by decide +kernel
theorem dX7_layPressed_28 : decode cX7_layPressed 28 = .ok (.iaload, 1) := by decide +kernel
theorem dX7_layPressed_29 : decode cX7_layPressed 29 = .ok (.iastore, 1) := by decide +kernel
theorem dX7_layPressed_30 : decode cX7_layPressed 30 = .ok (.iinc 1 1, 3) := by decide +kernel
theorem dX7_layPressed_33 : decode cX7_layPressed 33 = .ok (.goto (-23), 3) := by decide +kernel
theorem dX7_layPressed_36 : decode cX7_layPressed 36 = .ok (.return_, 1) := by decide +kernel
theorem dX7_lift_0 : decode cX7_lift 0 = .ok (.aload_n 0, 1) := by decide +kernel
theorem dX7_lift_1 : decode cX7_lift 1 = .ok (.getfield 106, 3) := by decide +kernel
theorem dX7_lift_4 : decode cX7_lift 4 = .ok (.ifCond .eq 7, 3) := by decide +kernel
theorem dX7_lift_7 : decode cX7_lift 7 = .ok (.sipush (-1003), 3) := by decide +kernel
theorem dX7_lift_10 : decode cX7_lift 10 = .ok (.ireturn, 1) := by decide +kernel
theorem dX7_lift_11 : decode cX7_lift 11 = .ok (.aload_n 0, 1) := by decide +kernel
theorem dX7_lift_12 : decode cX7_lift 12 = .ok (.iconst 1, 1) := by decide +kernel
theorem dX7_lift_13 : decode cX7_lift 13 = .ok (.putfield 106, 3) := by decide +kernel
theorem dX7_lift_16 : decode cX7_lift 16 = .ok (.aload_n 0, 1) := by decide +kernel
theorem dX7_lift_17 : decode cX7_lift 17 = .ok (.iconst 0, 1) := by decide +kernel
theorem dX7_lift_18 : decode cX7_lift 18 = .ok (.putfield 190, 3) := by decide +kernel
theorem dX7_lift_21 : decode cX7_lift 21 = .ok (.aload_n 0, 1) := by decide +kernel
theorem dX7_lift_22 : decode cX7_lift 22 = .ok (.iconst 0, 1) := by decide +kernel
theorem dX7_lift_23 : decode cX7_lift 23 = .ok (.putfield 193, 3) := by decide +kernel
theorem dX7_lift_26 : decode cX7_lift 26 = .ok (.aload_n 0, 1) := by decide +kernel
theorem dX7_lift_27 : decode cX7_lift 27 = .ok (.aload_n 0, 1) := by decide +kernel
theorem dX7_lift_28 : decode cX7_lift 28 = .ok (.getfield 35, 3) := by decide +kernel
theorem dX7_lift_31 : decode cX7_lift 31 = .ok (.iconst 0, 1) := by decide +kernel
theorem dX7_lift_32 : decode cX7_lift 32 = .ok (.iaload, 1) := by decide +kernel
theorem dX7_lift_33 : decode cX7_lift 33 = .ok (.putfield 196, 3) := by decide +kernel
theorem dX7_lift_36 : decode cX7_lift 36 = .ok (.aload_n 0, 1) := by decide +kernel
theorem dX7_lift_37 : decode cX7_lift 37 = .ok (.dup, 1) := by decide +kernel
theorem dX7_lift_38 : decode cX7_lift 38 = .ok (.getfield 199, 3) := by decide +kernel
theorem dX7_lift_41 : decode cX7_lift 41 = .ok (.iconst 1, 1) := by decide +kernel
theorem dX7_lift_42 : decode cX7_lift 42 = .ok (.iadd, 1) := by decide +kernel
theorem dX7_lift_43 : decode cX7_lift 43 = .ok (.putfield 199, 3) := by decide +kernel
theorem dX7_lift_46 : decode cX7_lift 46 = .ok (.aload_n 0, 1) := by decide +kernel
theorem dX7_lift_47 : decode cX7_lift 47 = .ok (.getfield 196, 3) := by decide +kernel
theorem dX7_lift_50 : decode cX7_lift 50 = .ok (.ireturn, 1) := by decide +kernel
theorem dX7_hang_0 : decode cX7_hang 0 = .ok (.aload_n 0, 1) := by decide +kernel
theorem dX7_hang_1 : decode cX7_hang 1 = .ok (.getfield 106, 3) := by decide +kernel
theorem dX7_hang_4 : decode cX7_hang 4 = .ok (.ifCond .ne 7, 3) := by decide +kernel
theorem dX7_hang_7 : decode cX7_hang 7 = .ok (.sipush (-1003), 3) := by decide +kernel
theorem dX7_hang_10 : decode cX7_hang 10 = .ok (.ireturn, 1) := by decide +kernel
theorem dX7_hang_11 : decode cX7_hang 11 = .ok (.aload_n 0, 1) := by decide +kernel
theorem dX7_hang_12 : decode cX7_hang 12 = .ok (.getfield 190, 3) := by decide +kernel
theorem dX7_hang_15 : decode cX7_hang 15 = .ok (.istore_n 1, 1) := by decide +kernel
theorem dX7_hang_16 : decode cX7_hang 16 = .ok (.aload_n 0, 1) := by decide +kernel
theorem dX7_hang_17 : decode cX7_hang 17 = .ok (.iconst 0, 1) := by decide +kernel
theorem dX7_hang_18 : decode cX7_hang 18 = .ok (.putfield 106, 3) := by decide +kernel
theorem dX7_hang_21 : decode cX7_hang 21 = .ok (.aload_n 0, 1) := by decide +kernel
theorem dX7_hang_22 : decode cX7_hang 22 = .ok (.iconst 0, 1) := by decide +kernel
theorem dX7_hang_23 : decode cX7_hang 23 = .ok (.putfield 190, 3) := by decide +kernel
theorem dX7_hang_26 : decode cX7_hang 26 = .ok (.aload_n 0, 1) := by decide +kernel
theorem dX7_hang_27 : decode cX7_hang 27 = .ok (.iconst 0, 1) := by decide +kernel
theorem dX7_hang_28 : decode cX7_hang 28 = .ok (.putfield 193, 3) := by decide +kernel
theorem dX7_hang_31 : decode cX7_hang 31 = .ok (.iload_n 1, 1) := by decide +kernel
theorem dX7_hang_32 : decode cX7_hang 32 = .ok (.ireturn, 1) := by decide +kernel
theorem dX7_ends_0 : decode cX7_ends 0 = .ok (.aload_n 0, 1) := by decide +kernel
theorem dX7_ends_1 : decode cX7_ends 1 = .ok (.invokevirtual 202, 3) := by decide +kernel
theorem dX7_ends_4 : decode cX7_ends 4 = .ok (.aload_n 0, 1) := by decide +kernel
theorem dX7_ends_5 : decode cX7_ends 5 = .ok (.iload_n 1, 1) := by decide +kernel
theorem dX7_ends_6 : decode cX7_ends 6 = .ok (.putfield 193, 3) := by decide +kernel
theorem dX7_ends_9 : decode cX7_ends 9 = .ok (.aload_n 0, 1) := by decide +kernel
theorem dX7_ends_10 : decode cX7_ends 10 = .ok (.aload_n 0, 1) := by decide +kernel
theorem dX7_ends_11 : decode cX7_ends 11 = .ok (.aload_n 0, 1) := by decide +kernel
theorem dX7_ends_12 : decode cX7_ends 12 = .ok (.getfield 190, 3) := by decide +kernel
theorem dX7_ends_15 : decode cX7_ends 15 = .ok (.invokevirtual 168, 3) := by decide +kernel
theorem dX7_ends_18 : decode cX7_ends 18 = .ok (.ifCond .eq 7, 3) := by decide +kernel
theorem dX7_ends_21 : decode cX7_ends 21 = .ok (.iconst 2, 1) := by decide +kernel
theorem dX7_ends_22 : decode cX7_ends 22 = .ok (.goto 4, 3) := by decide +kernel
theorem dX7_ends_25 : decode cX7_ends 25 = .ok (.iconst 3, 1) := by decide +kernel
theorem dX7_ends_26 : decode cX7_ends 26 = .ok (.putfield 106, 3) := by decide +kernel
theorem dX7_ends_29 : decode cX7_ends 29 = .ok (.aload_n 0, 1) := by decide +kernel
theorem dX7_ends_30 : decode cX7_ends 30 = .ok (.dup, 1) := by decide +kernel
theorem dX7_ends_31 : decode cX7_ends 31 = .ok (.getfield 205, 3) := by decide +kernel
theorem dX7_ends_34 : decode cX7_ends 34 = .ok (.aload_n 0, 1) := by decide +kernel
theorem dX7_ends_35 : decode cX7_ends 35 = .ok (.getfield 106, 3) := by decide +kernel
theorem dX7_ends_38 : decode cX7_ends 38 = .ok (.iconst 2, 1) := by decide +kernel
theorem dX7_ends_39 : decode cX7_ends 39 = .ok (.if_icmp .ne 7, 3) := by decide +kernel
theorem dX7_ends_42 : decode cX7_ends 42 = .ok (.iconst 1, 1) := by decide +kernel
theorem dX7_ends_43 : decode cX7_ends 43 = .ok (.goto 4, 3) := by decide +kernel
theorem dX7_ends_46 : decode cX7_ends 46 = .ok (.iconst 0, 1) := by decide +kernel
theorem dX7_ends_47 : decode cX7_ends 47 = .ok (.iadd, 1) := by decide +kernel
theorem dX7_ends_48 : decode cX7_ends 48 = .ok (.putfield 205, 3) := by decide +kernel
theorem dX7_ends_51 : decode cX7_ends 51 = .ok (.aload_n 0, 1) := by decide +kernel
theorem dX7_ends_52 : decode cX7_ends 52 = .ok (.dup, 1) := by decide +kernel
theorem dX7_ends_53 : decode cX7_ends 53 = .ok (.getfield 208, 3) := by decide +kernel
theorem dX7_ends_56 : decode cX7_ends 56 = .ok (.aload_n 0, 1) := by decide +kernel
theorem dX7_ends_57 : decode cX7_ends 57 = .ok (.getfield 106, 3) := by decide +kernel
theorem dX7_ends_60 : decode cX7_ends 60 = .ok (.iconst 3, 1) := by decide +kernel
theorem dX7_ends_61 : decode cX7_ends 61 = .ok (.if_icmp .ne 7, 3) := by decide +kernel
theorem dX7_ends_64 : decode cX7_ends 64 = .ok (.iconst 1, 1) := by decide +kernel
theorem dX7_ends_65 : decode cX7_ends 65 = .ok (.goto 4, 3) := by decide +kernel
theorem dX7_ends_68 : decode cX7_ends 68 = .ok (.iconst 0, 1) := by decide +kernel
theorem dX7_ends_69 : decode cX7_ends 69 = .ok (.iadd, 1) := by decide +kernel
theorem dX7_ends_70 : decode cX7_ends 70 = .ok (.putfield 208, 3) := by decide +kernel
theorem dX7_ends_73 : decode cX7_ends 73 = .ok (.aload_n 0, 1) := by decide +kernel
theorem dX7_ends_74 : decode cX7_ends 74 = .ok (.getfield 106, 3) := by decide +kernel
theorem dX7_ends_77 : decode cX7_ends 77 = .ok (.ireturn, 1) := by decide +kernel
theorem dX7_helps_0 : decode cX7_helps 0 = .ok (.iconst 0, 1) := by decide +kernel
theorem dX7_helps_1 : decode cX7_helps 1 = .ok (.istore_n 2, 1) := by decide +kernel
theorem dX7_helps_2 : decode cX7_helps 2 = .ok (.iconst 0, 1) := by decide +kernel
theorem dX7_helps_3 : decode cX7_helps 3 = .ok (.istore_n 3, 1) := by decide +kernel
theorem dX7_helps_4 : decode cX7_helps 4 = .ok (.iload_n 3, 1) := by decide +kernel
theorem dX7_helps_5 : decode cX7_helps 5 = .ok (.aload_n 0, 1) := by decide +kernel
theorem dX7_helps_6 : decode cX7_helps 6 = .ok (.getfield 109, 3) := by decide +kernel
theorem dX7_helps_9 : decode cX7_helps 9 = .ok (.if_icmp .ge 39, 3) := by decide +kernel
theorem dX7_helps_12 : decode cX7_helps 12 = .ok (.iload_n 2, 1) := by decide +kernel
theorem dX7_helps_13 : decode cX7_helps 13 = .ok (.iload_n 1, 1) := by decide +kernel
theorem dX7_helps_14 : decode cX7_helps 14 = .ok (.iload_n 3, 1) := by decide +kernel
theorem dX7_helps_15 : decode cX7_helps 15 = .ok (.ishr, 1) := by decide +kernel
theorem dX7_helps_16 : decode cX7_helps 16 = .ok (.iconst 1, 1) := by decide +kernel
theorem dX7_helps_17 : decode cX7_helps 17 = .ok (.iand, 1) := by decide +kernel
theorem dX7_helps_18 : decode cX7_helps 18 = .ok (.iconst 1, 1) := by decide +kernel
theorem dX7_helps_19 : decode cX7_helps 19 = .ok (.if_icmp .ne 20, 3) := by decide +kernel
theorem dX7_helps_22 : decode cX7_helps 22 = .ok (.aload_n 0, 1) := by decide +kernel
theorem dX7_helps_23 : decode cX7_helps 23 = .ok (.getfield 23, 3) := by decide +kernel
theorem dX7_helps_26 : decode cX7_helps 26 = .ok (.iload_n 3, 1) := by decide +kernel
theorem dX7_helps_27 : decode cX7_helps 27 = .ok (.iaload, 1) := by decide +kernel
theorem dX7_helps_28 : decode cX7_helps 28 = .ok (.bipush 9, 2) := by decide +kernel
theorem dX7_helps_30 : decode cX7_helps 30 = .ok (.if_icmp .ne 9, 3) := by decide +kernel
theorem dX7_helps_33 : decode cX7_helps 33 = .ok (.iconst 1, 1) := by decide +kernel
theorem dX7_helps_34 : decode cX7_helps 34 = .ok (.iload_n 3, 1) := by decide +kernel
theorem dX7_helps_35 : decode cX7_helps 35 = .ok (.ishl, 1) := by decide +kernel
theorem dX7_helps_36 : decode cX7_helps 36 = .ok (.goto 4, 3) := by decide +kernel
theorem dX7_helps_39 : decode cX7_helps 39 = .ok (.iconst 0, 1) := by decide +kernel
theorem dX7_helps_40 : decode cX7_helps 40 = .ok (.ior, 1) := by decide +kernel
theorem dX7_helps_41 : decode cX7_helps 41 = .ok (.istore_n 2, 1) := by decide +kernel
theorem dX7_helps_42 : decode cX7_helps 42 = .ok (.iinc 3 1, 3) := by decide +kernel
theorem dX7_helps_45 : decode cX7_helps 45 = .ok (.goto (-41), 3) := by decide +kernel
theorem dX7_helps_48 : decode cX7_helps 48 = .ok (.iload_n 2, 1) := by decide +kernel
theorem dX7_helps_49 : decode cX7_helps 49 = .ok (.ireturn, 1) := by decide +kernel
theorem dX7_press_0 : decode cX7_press 0 = .ok (.iload_n 1, 1) := by decide +kernel
theorem dX7_press_1 : decode cX7_press 1 = .ok (.iconst 0, 1) := by decide +kernel
theorem dX7_press_2 : decode cX7_press 2 = .ok (.bipush 9, 2) := by decide +kernel
theorem dX7_press_4 : decode cX7_press 4 = .ok (.invokestatic 50, 3) := by decide +kernel
theorem dX7_press_7 : decode cX7_press 7 = .ok (.ifCond .ne 7, 3) := by decide +kernel
theorem dX7_press_10 : decode cX7_press 10 = .ok (.sipush (-1002), 3) := by decide +kernel
theorem dX7_press_13 : decode cX7_press 13 = .ok (.ireturn, 1) := by decide +kernel
theorem dX7_press_14 : decode cX7_press 14 = .ok (.aload_n 0, 1) := by decide +kernel
theorem dX7_press_15 : decode cX7_press 15 = .ok (.getfield 106, 3) := by decide +kernel
theorem dX7_press_18 : decode cX7_press 18 = .ok (.iconst 1, 1) := by decide +kernel
theorem dX7_press_19 : decode cX7_press 19 = .ok (.if_icmp .eq 7, 3) := by decide +kernel
theorem dX7_press_22 : decode cX7_press 22 = .ok (.sipush (-1003), 3) := by decide +kernel
theorem dX7_press_25 : decode cX7_press 25 = .ok (.ireturn, 1) := by decide +kernel
theorem dX7_press_26 : decode cX7_press 26 = .ok (.aload_n 0, 1) := by decide +kernel
theorem dX7_press_27 : decode cX7_press 27 = .ok (.getfield 47, 3) := by decide +kernel
theorem dX7_press_30 : decode cX7_press 30 = .ok (.aload_n 0, 1) := by decide +kernel
theorem dX7_press_31 : decode cX7_press 31 = .ok (.getfield 190, 3) := by decide +kernel
theorem dX7_press_34 : decode cX7_press 34 = .ok (.iload_n 1, 1) := by decide +kernel
theorem dX7_press_35 : decode cX7_press 35 = .ok (.iastore, 1) := by decide +kernel
theorem dX7_press_36 : decode cX7_press 36 = .ok (.aload_n 0, 1) := by decide +kernel
theorem dX7_press_37 : decode cX7_press 37 = .ok (.dup, 1) := by decide +kernel
theorem dX7_press_38 : decode cX7_press 38 = .ok (.getfield 190, 3) := by decide +kernel
theorem dX7_press_41 : decode cX7_press 41 = .ok (.iconst 1, 1) := by decide +kernel
theorem dX7_press_42 : decode cX7_press 42 = .ok (.iadd, 1) := by decide +kernel
theorem dX7_press_43 : decode cX7_press 43 = .ok (.putfield 190, 3) := by decide +kernel
theorem dX7_press_46 : decode cX7_press 46 = .ok (.aload_n 0, 1) := by decide +kernel
theorem dX7_press_47 : decode cX7_press 47 = .ok (.dup, 1) := by decide +kernel
theorem dX7_press_48 : decode cX7_press 48 = .ok (.getfield 211, 3) := by decide +kernel
theorem dX7_press_51 : decode cX7_press 51 = .ok (.iconst 1, 1) := by decide +kernel
theorem dX7_press_52 : decode cX7_press 52 = .ok (.iadd, 1) := by decide +kernel
theorem dX7_press_53 : decode cX7_press 53 = .ok (.putfield 211, 3) := by decide +kernel
theorem dX7_press_56 : decode cX7_press 56 = .ok (.aload_n 0, 1) := by decide +kernel
theorem dX7_press_57 : decode cX7_press 57 = .ok (.invokevirtual 202, 3) := by decide +kernel
theorem dX7_press_60 : decode cX7_press 60 = .ok (.aload_n 0, 1) := by decide +kernel
theorem dX7_press_61 : decode cX7_press 61 = .ok (.aload_n 0, 1) := by decide +kernel
theorem dX7_press_62 : decode cX7_press 62 = .ok (.getfield 190, 3) := by decide +kernel
theorem dX7_press_65 : decode cX7_press 65 = .ok (.invokevirtual 168, 3) := by decide +kernel
theorem dX7_press_68 : decode cX7_press 68 = .ok (.istore_n 2, 1) := by decide +kernel
theorem dX7_press_69 : decode cX7_press 69 = .ok (.aload_n 0, 1) := by decide +kernel
theorem dX7_press_70 : decode cX7_press 70 = .ok (.iload_n 2, 1) := by decide +kernel
theorem dX7_press_71 : decode cX7_press 71 = .ok (.invokevirtual 214, 3) := by decide +kernel
theorem dX7_press_74 : decode cX7_press 74 = .ok (.ifCond .eq 9, 3) := by decide +kernel
theorem dX7_press_77 : decode cX7_press 77 = .ok (.aload_n 0, 1) := by decide +kernel
theorem dX7_press_78 : decode cX7_press 78 = .ok (.iconst 4, 1) := by decide +kernel
theorem dX7_press_79 : decode cX7_press 79 = .ok (.invokevirtual 217, 3) := by decide +kernel
theorem dX7_press_82 : decode cX7_press 82 = .ok (.ireturn, 1) := by decide +kernel
theorem dX7_press_83 : decode cX7_press 83 = .ok (.aload_n 0, 1) := by decide +kernel
theorem dX7_press_84 : decode cX7_press 84 = .ok (.getfield 190, 3) := by decide +kernel
theorem dX7_press_87 : decode cX7_press 87 = .ok (.bipush 10, 2) := by decide +kernel
theorem dX7_press_89 : decode cX7_press 89 = .ok (.if_icmp .eq 14, 3) := by decide +kernel
theorem dX7_press_92 : decode cX7_press 92 = .ok (.aload_n 0, 1) := by decide +kernel
theorem dX7_press_93 : decode cX7_press 93 = .ok (.aload_n 0, 1) := by decide +kernel
theorem dX7_press_94 : decode cX7_press 94 = .ok (.getfield 190, 3) := by decide +kernel
theorem dX7_press_97 : decode cX7_press 97 = .ok (.invokevirtual 177, 3) := by decide +kernel
theorem dX7_press_100 : decode cX7_press 100 = .ok (.ifCond .ne 9, 3) := by decide +kernel
theorem dX7_press_103 : decode cX7_press 103 = .ok (.aload_n 0, 1) := by decide +kernel
theorem dX7_press_104 : decode cX7_press 104 = .ok (.iconst 1, 1) := by decide +kernel
theorem dX7_press_105 : decode cX7_press 105 = .ok (.invokevirtual 217, 3) := by decide +kernel
theorem dX7_press_108 : decode cX7_press 108 = .ok (.ireturn, 1) := by decide +kernel
theorem dX7_press_109 : decode cX7_press 109 = .ok (.aload_n 0, 1) := by decide +kernel
theorem dX7_press_110 : decode cX7_press 110 = .ok (.aload_n 0, 1) := by decide +kernel
theorem dX7_press_111 : decode cX7_press 111 = .ok (.getfield 35, 3) := by decide +kernel
theorem dX7_press_114 : decode cX7_press 114 = .ok (.iload_n 2, 1) := by decide +kernel
theorem dX7_press_115 : decode cX7_press 115 = .ok (.ifCond .ne 7, 3) := by decide +kernel
theorem dX7_press_118 : decode cX7_press 118 = .ok (.iconst 1, 1) := by decide +kernel
theorem dX7_press_119 : decode cX7_press 119 = .ok (.goto 4, 3) := by decide +kernel
theorem dX7_press_122 : decode cX7_press 122 = .ok (.iconst 2, 1) := by decide +kernel
theorem dX7_press_123 : decode cX7_press 123 = .ok (.iaload, 1) := by decide +kernel
theorem dX7_press_124 : decode cX7_press 124 = .ok (.putfield 196, 3) := by decide +kernel
theorem dX7_press_127 : decode cX7_press 127 = .ok (.iconst 1, 1) := by decide +kernel
theorem dX7_press_128 : decode cX7_press 128 = .ok (.ireturn, 1) := by decide +kernel
theorem dX7_pass_0 : decode cX7_pass 0 = .ok (.iload_n 1, 1) := by decide +kernel
theorem dX7_pass_1 : decode cX7_pass 1 = .ok (.iconst 1, 1) := by decide +kernel
theorem dX7_pass_2 : decode cX7_pass 2 = .ok (.bipush 99, 2) := by decide +kernel
theorem dX7_pass_4 : decode cX7_pass 4 = .ok (.invokestatic 50, 3) := by decide +kernel
theorem dX7_pass_7 : decode cX7_pass 7 = .ok (.ifCond .ne 7, 3) := by decide +kernel
theorem dX7_pass_10 : decode cX7_pass 10 = .ok (.sipush (-1002), 3) := by decide +kernel
theorem dX7_pass_13 : decode cX7_pass 13 = .ok (.ireturn, 1) := by decide +kernel
theorem dX7_pass_14 : decode cX7_pass 14 = .ok (.aload_n 0, 1) := by decide +kernel
theorem dX7_pass_15 : decode cX7_pass 15 = .ok (.getfield 106, 3) := by decide +kernel
theorem dX7_pass_18 : decode cX7_pass 18 = .ok (.iconst 1, 1) := by decide +kernel
theorem dX7_pass_19 : decode cX7_pass 19 = .ok (.if_icmp .eq 7, 3) := by decide +kernel
theorem dX7_pass_22 : decode cX7_pass 22 = .ok (.sipush (-1003), 3) := by decide +kernel
theorem dX7_pass_25 : decode cX7_pass 25 = .ok (.ireturn, 1) := by decide +kernel
theorem dX7_pass_26 : decode cX7_pass 26 = .ok (.aload_n 0, 1) := by decide +kernel
theorem dX7_pass_27 : decode cX7_pass 27 = .ok (.dup, 1) := by decide +kernel
theorem dX7_pass_28 : decode cX7_pass 28 = .ok (.getfield 196, 3) := by decide +kernel
theorem dX7_pass_31 : decode cX7_pass 31 = .ok (.iload_n 1, 1) := by decide +kernel
theorem dX7_pass_32 : decode cX7_pass 32 = .ok (.isub, 1) := by decide +kernel
theorem dX7_pass_33 : decode cX7_pass 33 = .ok (.putfield 196, 3) := by decide +kernel
theorem dX7_pass_36 : decode cX7_pass 36 = .ok (.aload_n 0, 1) := by decide +kernel
theorem dX7_pass_37 : decode cX7_pass 37 = .ok (.getfield 196, 3) := by decide +kernel
theorem dX7_pass_40 : decode cX7_pass 40 = .ok (.ifCond .gt 11, 3) := by decide +kernel
theorem dX7_pass_43 : decode cX7_pass 43 = .ok (.aload_n 0, 1) := by decide +kernel
theorem dX7_pass_44 : decode cX7_pass 44 = .ok (.iconst 2, 1) := by decide +kernel
theorem dX7_pass_45 : decode cX7_pass 45 = .ok (.invokevirtual 217, 3) := by decide +kernel
theorem dX7_pass_48 : decode cX7_pass 48 = .ok (.goto 4, 3) := by decide +kernel
theorem dX7_pass_51 : decode cX7_pass 51 = .ok (.iconst 1, 1) := by decide +kernel
theorem dX7_pass_52 : decode cX7_pass 52 = .ok (.ireturn, 1) := by decide +kernel
theorem dX7_end_0 : decode cX7_end 0 = .ok (.aload_n 0, 1) := by decide +kernel
theorem dX7_end_1 : decode cX7_end 1 = .ok (.getfield 106, 3) := by decide +kernel
theorem dX7_end_4 : decode cX7_end 4 = .ok (.iconst 1, 1) := by decide +kernel
theorem dX7_end_5 : decode cX7_end 5 = .ok (.if_icmp .ne 11, 3) := by decide +kernel
theorem dX7_end_8 : decode cX7_end 8 = .ok (.aload_n 0, 1) := by decide +kernel
theorem dX7_end_9 : decode cX7_end 9 = .ok (.iconst 3, 1) := by decide +kernel
theorem dX7_end_10 : decode cX7_end 10 = .ok (.invokevirtual 217, 3) := by decide +kernel
theorem dX7_end_13 : decode cX7_end 13 = .ok (.goto 6, 3) := by decide +kernel
theorem dX7_end_16 : decode cX7_end 16 = .ok (.sipush (-1003), 3) := by decide +kernel
theorem dX7_end_19 : decode cX7_end 19 = .ok (.ireturn, 1) := by decide +kernel
theorem dX7_stageNow_0 : decode cX7_stageNow 0 = .ok (.aload_n 0, 1) := by decide +kernel
theorem dX7_stageNow_1 : decode cX7_stageNow 1 = .ok (.invokevirtual 202, 3) := by decide +kernel
theorem dX7_stageNow_4 : decode cX7_stageNow 4 = .ok (.aload_n 0, 1) := by decide +kernel
theorem dX7_stageNow_5 : decode cX7_stageNow 5 = .ok (.getfield 190, 3) := by decide +kernel
theorem dX7_stageNow_8 : decode cX7_stageNow 8 = .ok (.ifCond .ne 7, 3) := by decide +kernel
theorem dX7_stageNow_11 : decode cX7_stageNow 11 = .ok (.iconst 0, 1) := by decide +kernel
theorem dX7_stageNow_12 : decode cX7_stageNow 12 = .ok (.goto 19, 3) := by decide +kernel
theorem dX7_stageNow_15 : decode cX7_stageNow 15 = .ok (.aload_n 0, 1) := by decide +kernel
theorem dX7_stageNow_16 : decode cX7_stageNow 16 = .ok (.aload_n 0, 1) := by decide +kernel
theorem dX7_stageNow_17 : decode cX7_stageNow 17 = .ok (.getfield 190, 3) := by decide +kernel
theorem dX7_stageNow_20 : decode cX7_stageNow 20 = .ok (.invokevirtual 168, 3) := by decide +kernel
theorem dX7_stageNow_23 : decode cX7_stageNow 23 = .ok (.ifCond .ne 7, 3) := by decide +kernel
theorem dX7_stageNow_26 : decode cX7_stageNow 26 = .ok (.iconst 1, 1) := by decide +kernel
theorem dX7_stageNow_27 : decode cX7_stageNow 27 = .ok (.goto 4, 3) := by decide +kernel
theorem dX7_stageNow_30 : decode cX7_stageNow 30 = .ok (.iconst 2, 1) := by decide +kernel
theorem dX7_stageNow_31 : decode cX7_stageNow 31 = .ok (.ireturn, 1) := by decide +kernel
theorem dX7_winsNow_0 : decode cX7_winsNow 0 = .ok (.aload_n 0, 1) := by decide +kernel
theorem dX7_winsNow_1 : decode cX7_winsNow 1 = .ok (.invokevirtual 202, 3) := by decide +kernel
theorem dX7_winsNow_4 : decode cX7_winsNow 4 = .ok (.aload_n 0, 1) := by decide +kernel
theorem dX7_winsNow_5 : decode cX7_winsNow 5 = .ok (.aload_n 0, 1) := by decide +kernel
theorem dX7_winsNow_6 : decode cX7_winsNow 6 = .ok (.getfield 193, 3) := by decide +kernel
theorem dX7_winsNow_9 : decode cX7_winsNow 9 = .ok (.iconst 4, 1) := by decide +kernel
theorem dX7_winsNow_10 : decode cX7_winsNow 10 = .ok (.if_icmp .ne 18, 3) := by decide +kernel
theorem dX7_winsNow_13 : decode cX7_winsNow 13 = .ok (.aload_n 0, 1) := by decide +kernel
theorem dX7_winsNow_14 : decode cX7_winsNow 14 = .ok (.aload_n 0, 1) := by decide +kernel
theorem dX7_winsNow_15 : decode cX7_winsNow 15 = .ok (.aload_n 0, 1) := by decide +kernel
theorem dX7_winsNow_16 : decode cX7_winsNow 16 = .ok (.getfield 190, 3) := by decide +kernel
theorem dX7_winsNow_19 : decode cX7_winsNow 19 = .ok (.invokevirtual 168, 3) := by decide +kernel
theorem dX7_winsNow_22 : decode cX7_winsNow 22 = .ok (.invokevirtual 214, 3) := by decide +kernel
theorem dX7_winsNow_25 : decode cX7_winsNow 25 = .ok (.goto 11, 3) := by decide +kernel
theorem dX7_winsNow_28 : decode cX7_winsNow 28 = .ok (.aload_n 0, 1) := by decide +kernel
theorem dX7_winsNow_29 : decode cX7_winsNow 29 = .ok (.aload_n 0, 1) := by decide +kernel
theorem dX7_winsNow_30 : decode cX7_winsNow 30 = .ok (.getfield 190, 3) := by decide +kernel
theorem dX7_winsNow_33 : decode cX7_winsNow 33 = .ok (.invokevirtual 168, 3) := by decide +kernel
theorem dX7_winsNow_36 : decode cX7_winsNow 36 = .ok (.invokevirtual 171, 3) := by decide +kernel
theorem dX7_winsNow_39 : decode cX7_winsNow 39 = .ok (.ireturn, 1) := by decide +kernel
theorem dX7_isSureBy_0 : decode cX7_isSureBy 0 = .ok (.aload_n 0, 1) := by decide +kernel
theorem dX7_isSureBy_1 : decode cX7_isSureBy 1 = .ok (.iload_n 1, 1) := by decide +kernel
theorem dX7_isSureBy_2 : decode cX7_isSureBy 2 = .ok (.invokevirtual 168, 3) := by decide +kernel
theorem dX7_isSureBy_5 : decode cX7_isSureBy 5 = .ok (.aload_n 0, 1) := by decide +kernel
theorem dX7_isSureBy_6 : decode cX7_isSureBy 6 = .ok (.iload_n 1, 1) := by decide +kernel
theorem dX7_isSureBy_7 : decode cX7_isSureBy 7 = .ok (.invokevirtual 177, 3) := by decide +kernel
theorem dX7_isSureBy_10 : decode cX7_isSureBy 10 = .ok (.ior, 1) := by decide +kernel
theorem dX7_isSureBy_11 : decode cX7_isSureBy 11 = .ok (.istore_n 2, 1) := by decide +kernel
theorem dX7_isSureBy_12 : decode cX7_isSureBy 12 = .ok (.iconst (-1), 1) := by decide +kernel
theorem dX7_isSureBy_13 : decode cX7_isSureBy 13 = .ok (.istore_n 3, 1) := by decide +kernel
theorem dX7_isSureBy_14 : decode cX7_isSureBy 14 = .ok (.iload_n 2, 1) := by decide +kernel
theorem dX7_isSureBy_15 : decode cX7_isSureBy 15 = .ok (.ifCond .eq 7, 3) := by decide +kernel
theorem dX7_isSureBy_18 : decode cX7_isSureBy 18 = .ok (.iconst 1, 1) := by decide +kernel
theorem dX7_isSureBy_19 : decode cX7_isSureBy 19 = .ok (.goto 4, 3) := by decide +kernel
theorem dX7_isSureBy_22 : decode cX7_isSureBy 22 = .ok (.iconst 0, 1) := by decide +kernel
theorem dX7_isSureBy_23 : decode cX7_isSureBy 23 = .ok (.istore 4, 2) := by decide +kernel
theorem dX7_isSureBy_25 : decode cX7_isSureBy 25 = .ok (.iconst 0, 1) := by decide +kernel
theorem dX7_isSureBy_26 : decode cX7_isSureBy 26 = .ok (.istore 5, 2) := by decide +kernel
theorem dX7_isSureBy_28 : decode cX7_isSureBy 28 = .ok (.iload 5, 2) := by decide +kernel
theorem dX7_isSureBy_30 : decode cX7_isSureBy 30 = .ok (.aload_n 0, 1) := by decide +kernel
theorem dX7_isSureBy_31 : decode cX7_isSureBy 31 = .ok (.getfield 109, 3) := by decide +kernel
theorem dX7_isSureBy_34 : decode cX7_isSureBy 34 = .ok (.if_icmp .ge 58, 3) := by decide +kernel
theorem dX7_isSureBy_37 : decode cX7_isSureBy 37 = .ok (.iload_n 2, 1) := by decide +kernel
theorem dX7_isSureBy_38 : decode cX7_isSureBy 38 = .ok (.iload 5, 2) := by decide +kernel
theorem dX7_isSureBy_40 : decode cX7_isSureBy 40 = .ok (.ishr, 1) := by decide +kernel
theorem dX7_isSureBy_41 : decode cX7_isSureBy 41 = .ok (.iconst 1, 1) := by decide +kernel
theorem dX7_isSureBy_42 : decode cX7_isSureBy 42 = .ok (.iand, 1) := by decide +kernel
theorem dX7_isSureBy_43 : decode cX7_isSureBy 43 = .ok (.iconst 1, 1) := by decide +kernel
theorem dX7_isSureBy_44 : decode cX7_isSureBy 44 = .ok (.if_icmp .ne 42, 3) := by decide +kernel
theorem dX7_isSureBy_47 : decode cX7_isSureBy 47 = .ok (.iload 4, 2) := by decide +kernel
theorem dX7_isSureBy_49 : decode cX7_isSureBy 49 = .ok (.ifCond .eq 22, 3) := by decide +kernel
theorem dX7_isSureBy_52 : decode cX7_isSureBy 52 = .ok (.iload_n 3, 1) := by decide +kernel
theorem dX7_isSureBy_53 : decode cX7_isSureBy 53 = .ok (.iconst (-1), 1) := by decide +kernel
theorem dX7_isSureBy_54 : decode cX7_isSureBy 54 = .ok (.if_icmp .eq 13, 3) := by decide +kernel
theorem dX7_isSureBy_57 : decode cX7_isSureBy 57 = .ok (.aload_n 0, 1) := by decide +kernel
theorem dX7_isSureBy_58 : decode cX7_isSureBy 58 = .ok (.iload_n 3, 1) := by decide +kernel
theorem dX7_isSureBy_59 : decode cX7_isSureBy 59 = .ok (.iload 5, 2) := by decide +kernel
theorem dX7_isSureBy_61 : decode cX7_isSureBy 61 = .ok (.invokevirtual 143, 3) := by decide +kernel
theorem dX7_isSureBy_64 : decode cX7_isSureBy 64 = .ok (.ifCond .eq 7, 3) := by decide +kernel
theorem dX7_isSureBy_67 : decode cX7_isSureBy 67 = .ok (.iconst 1, 1) := by decide +kernel
theorem dX7_isSureBy_68 : decode cX7_isSureBy 68 = .ok (.goto 4, 3) := by decide +kernel
theorem dX7_isSureBy_71 : decode cX7_isSureBy 71 = .ok (.iconst 0, 1) := by decide +kernel
theorem dX7_isSureBy_72 : decode cX7_isSureBy 72 = .ok (.istore 4, 2) := by decide +kernel
theorem dX7_isSureBy_74 : decode cX7_isSureBy 74 = .ok (.iload_n 3, 1) := by decide +kernel
theorem dX7_isSureBy_75 : decode cX7_isSureBy 75 = .ok (.iconst (-1), 1) := by decide +kernel
theorem dX7_isSureBy_76 : decode cX7_isSureBy 76 = .ok (.if_icmp .ne 8, 3) := by decide +kernel
theorem dX7_isSureBy_79 : decode cX7_isSureBy 79 = .ok (.iload 5, 2) := by decide +kernel
theorem dX7_isSureBy_81 : decode cX7_isSureBy 81 = .ok (.goto 4, 3) := by decide +kernel
theorem dX7_isSureBy_84 : decode cX7_isSureBy 84 = .ok (.iload_n 3, 1) := by decide +kernel
theorem dX7_isSureBy_85 : decode cX7_isSureBy 85 = .ok (.istore_n 3, 1) := by decide +kernel
theorem dX7_isSureBy_86 : decode cX7_isSureBy 86 = .ok (.iinc 5 1, 3) := by decide +kernel
theorem dX7_isSureBy_89 : decode cX7_isSureBy 89 = .ok (.goto (-61), 3) := by decide +kernel
theorem dX7_isSureBy_92 : decode cX7_isSureBy 92 = .ok (.iload 4, 2) := by decide +kernel
theorem dX7_isSureBy_94 : decode cX7_isSureBy 94 = .ok (.ireturn, 1) := by decide +kernel
theorem dX7_sureNow_0 : decode cX7_sureNow 0 = .ok (.aload_n 0, 1) := by decide +kernel
theorem dX7_sureNow_1 : decode cX7_sureNow 1 = .ok (.invokevirtual 202, 3) := by decide +kernel
theorem dX7_sureNow_4 : decode cX7_sureNow 4 = .ok (.iconst (-1), 1) := by decide +kernel
theorem dX7_sureNow_5 : decode cX7_sureNow 5 = .ok (.istore_n 1, 1) := by decide +kernel
theorem dX7_sureNow_6 : decode cX7_sureNow 6 = .ok (.aload_n 0, 1) := by decide +kernel
theorem dX7_sureNow_7 : decode cX7_sureNow 7 = .ok (.getfield 190, 3) := by decide +kernel
theorem dX7_sureNow_10 : decode cX7_sureNow 10 = .ok (.istore_n 2, 1) := by decide +kernel
theorem dX7_sureNow_11 : decode cX7_sureNow 11 = .ok (.iload_n 2, 1) := by decide +kernel
theorem dX7_sureNow_12 : decode cX7_sureNow 12 = .ok (.ifCond .lt 23, 3) := by decide +kernel
theorem dX7_sureNow_15 : decode cX7_sureNow 15 = .ok (.aload_n 0, 1) := by decide +kernel
theorem dX7_sureNow_16 : decode cX7_sureNow 16 = .ok (.iload_n 2, 1) := by decide +kernel
theorem dX7_sureNow_17 : decode cX7_sureNow 17 = .ok (.invokevirtual 220, 3) := by decide +kernel
theorem dX7_sureNow_20 : decode cX7_sureNow 20 = .ok (.ifCond .eq 7, 3) := by decide +kernel
theorem dX7_sureNow_23 : decode cX7_sureNow 23 = .ok (.iload_n 2, 1) := by decide +kernel
theorem dX7_sureNow_24 : decode cX7_sureNow 24 = .ok (.goto 4, 3) := by decide +kernel
theorem dX7_sureNow_27 : decode cX7_sureNow 27 = .ok (.iload_n 1, 1) := by decide +kernel
theorem dX7_sureNow_28 : decode cX7_sureNow 28 = .ok (.istore_n 1, 1) := by decide +kernel
theorem dX7_sureNow_29 : decode cX7_sureNow 29 = .ok (.iinc 2 (-1), 3) := by decide +kernel
theorem dX7_sureNow_32 : decode cX7_sureNow 32 = .ok (.goto (-21), 3) := by decide +kernel
theorem dX7_sureNow_35 : decode cX7_sureNow 35 = .ok (.iload_n 1, 1) := by decide +kernel
theorem dX7_sureNow_36 : decode cX7_sureNow 36 = .ok (.ireturn, 1) := by decide +kernel
theorem dX7_wayNow_0 : decode cX7_wayNow 0 = .ok (.aload_n 0, 1) := by decide +kernel
theorem dX7_wayNow_1 : decode cX7_wayNow 1 = .ok (.invokevirtual 202, 3) := by decide +kernel
theorem dX7_wayNow_4 : decode cX7_wayNow 4 = .ok (.aload_n 0, 1) := by decide +kernel
theorem dX7_wayNow_5 : decode cX7_wayNow 5 = .ok (.getfield 193, 3) := by decide +kernel
theorem dX7_wayNow_8 : decode cX7_wayNow 8 = .ok (.iconst 4, 1) := by decide +kernel
theorem dX7_wayNow_9 : decode cX7_wayNow 9 = .ok (.if_icmp .ne 8, 3) := by decide +kernel
theorem dX7_wayNow_12 : decode cX7_wayNow 12 = .ok (.bipush 9, 2) := by decide +kernel
theorem dX7_wayNow_14 : decode cX7_wayNow 14 = .ok (.goto 7, 3) := by decide +kernel
theorem dX7_wayNow_17 : decode cX7_wayNow 17 = .ok (.aload_n 0, 1) := by decide +kernel
theorem dX7_wayNow_18 : decode cX7_wayNow 18 = .ok (.invokevirtual 180, 3) := by decide +kernel
theorem dX7_wayNow_21 : decode cX7_wayNow 21 = .ok (.ireturn, 1) := by decide +kernel
theorem dX7_lineNow_0 : decode cX7_lineNow 0 = .ok (.iload_n 1, 1) := by decide +kernel
theorem dX7_lineNow_1 : decode cX7_lineNow 1 = .ok (.tableswitch 135 0 7 #[47, 52, 57, 74, 91, 108, 113, 118], 47) := by decide +kernel
theorem dX7_lineNow_48 : decode cX7_lineNow 48 = .ok (.aload_n 0, 1) := by decide +kernel
theorem dX7_lineNow_49 : decode cX7_lineNow 49 = .ok (.getfield 106, 3) := by decide +kernel
theorem dX7_lineNow_52 : decode cX7_lineNow 52 = .ok (.ireturn, 1) := by decide +kernel
theorem dX7_lineNow_53 : decode cX7_lineNow 53 = .ok (.aload_n 0, 1) := by decide +kernel
theorem dX7_lineNow_54 : decode cX7_lineNow 54 = .ok (.getfield 190, 3) := by decide +kernel
theorem dX7_lineNow_57 : decode cX7_lineNow 57 = .ok (.ireturn, 1) := by decide +kernel
theorem dX7_lineNow_58 : decode cX7_lineNow 58 = .ok (.aload_n 0, 1) := by decide +kernel
theorem dX7_lineNow_59 : decode cX7_lineNow 59 = .ok (.getfield 106, 3) := by decide +kernel
theorem dX7_lineNow_62 : decode cX7_lineNow 62 = .ok (.iconst 1, 1) := by decide +kernel
theorem dX7_lineNow_63 : decode cX7_lineNow 63 = .ok (.if_icmp .ne 10, 3) := by decide +kernel
theorem dX7_lineNow_66 : decode cX7_lineNow 66 = .ok (.aload_n 0, 1) := by decide +kernel
theorem dX7_lineNow_67 : decode cX7_lineNow 67 = .ok (.getfield 196, 3) := by decide +kernel
theorem dX7_lineNow_70 : decode cX7_lineNow 70 = .ok (.goto 4, 3) := by decide +kernel
theorem dX7_lineNow_73 : decode cX7_lineNow 73 = .ok (.iconst 0, 1) := by decide +kernel
theorem dX7_lineNow_74 : decode cX7_lineNow 74 = .ok (.ireturn, 1) := by decide +kernel
theorem dX7_lineNow_75 : decode cX7_lineNow 75 = .ok (.aload_n 0, 1) := by decide +kernel
theorem dX7_lineNow_76 : decode cX7_lineNow 76 = .ok (.getfield 106, 3) := by decide +kernel
theorem dX7_lineNow_79 : decode cX7_lineNow 79 = .ok (.iconst 1, 1) := by decide +kernel
theorem dX7_lineNow_80 : decode cX7_lineNow 80 = .ok (.if_icmp .ne 10, 3) := by decide +kernel
theorem dX7_lineNow_83 : decode cX7_lineNow 83 = .ok (.aload_n 0, 1) := by decide +kernel
theorem dX7_lineNow_84 : decode cX7_lineNow 84 = .ok (.invokevirtual 223, 3) := by decide +kernel
theorem dX7_lineNow_87 : decode cX7_lineNow 87 = .ok (.goto 4, 3) := by decide +kernel
theorem dX7_lineNow_90 : decode cX7_lineNow 90 = .ok (.iconst (-1), 1) := by decide +kernel
theorem dX7_lineNow_91 : decode cX7_lineNow 91 = .ok (.ireturn, 1) := by decide +kernel
theorem dX7_lineNow_92 : decode cX7_lineNow 92 = .ok (.aload_n 0, 1) := by decide +kernel
theorem dX7_lineNow_93 : decode cX7_lineNow 93 = .ok (.getfield 106, 3) := by decide +kernel
theorem dX7_lineNow_96 : decode cX7_lineNow 96 = .ok (.iconst 2, 1) := by decide +kernel
theorem dX7_lineNow_97 : decode cX7_lineNow 97 = .ok (.if_icmp .ne 10, 3) := by decide +kernel
theorem dX7_lineNow_100 : decode cX7_lineNow 100 = .ok (.aload_n 0, 1) := by decide +kernel
theorem dX7_lineNow_101 : decode cX7_lineNow 101 = .ok (.invokevirtual 226, 3) := by decide +kernel
theorem dX7_lineNow_104 : decode cX7_lineNow 104 = .ok (.goto 4, 3) := by decide +kernel
theorem dX7_lineNow_107 : decode cX7_lineNow 107 = .ok (.iconst (-1), 1) := by decide +kernel
theorem dX7_lineNow_108 : decode cX7_lineNow 108 = .ok (.ireturn, 1) := by decide +kernel
theorem dX7_lineNow_109 : decode cX7_lineNow 109 = .ok (.aload_n 0, 1) := by decide +kernel
theorem dX7_lineNow_110 : decode cX7_lineNow 110 = .ok (.invokevirtual 229, 3) := by decide +kernel
theorem dX7_lineNow_113 : decode cX7_lineNow 113 = .ok (.ireturn, 1) := by decide +kernel
theorem dX7_lineNow_114 : decode cX7_lineNow 114 = .ok (.aload_n 0, 1) := by decide +kernel
theorem dX7_lineNow_115 : decode cX7_lineNow 115 = .ok (.getfield 193, 3) := by decide +kernel
theorem dX7_lineNow_118 : decode cX7_lineNow 118 = .ok (.ireturn, 1) := by decide +kernel
theorem dX7_lineNow_119 : decode cX7_lineNow 119 = .ok (.aload_n 0, 1) := by decide +kernel
theorem dX7_lineNow_120 : decode cX7_lineNow 120 = .ok (.getfield 106, 3) := by decide +kernel
theorem dX7_lineNow_123 : decode cX7_lineNow 123 = .ok (.iconst 2, 1) := by decide +kernel
theorem dX7_lineNow_124 : decode cX7_lineNow 124 = .ok (.if_icmp .ne 10, 3) := by decide +kernel
theorem dX7_lineNow_127 : decode cX7_lineNow 127 = .ok (.aload_n 0, 1) := by decide +kernel
theorem dX7_lineNow_128 : decode cX7_lineNow 128 = .ok (.invokevirtual 232, 3) := by decide +kernel
theorem dX7_lineNow_131 : decode cX7_lineNow 131 = .ok (.goto 4, 3) := by decide +kernel
theorem dX7_lineNow_134 : decode cX7_lineNow 134 = .ok (.iconst (-1), 1) := by decide +kernel
theorem dX7_lineNow_135 : decode cX7_lineNow 135 = .ok (.ireturn, 1) := by decide +kernel
theorem dX7_lineNow_136 : decode cX7_lineNow 136 = .ok (.iload_n 1, 1) := by decide +kernel
theorem dX7_lineNow_137 : decode cX7_lineNow 137 = .ok (.bipush 10, 2) := by decide +kernel
theorem dX7_lineNow_139 : decode cX7_lineNow 139 = .ok (.isub, 1) := by decide +kernel
theorem dX7_lineNow_140 : decode cX7_lineNow 140 = .ok (.aload_n 0, 1) := by decide +kernel
theorem dX7_lineNow_141 : decode cX7_lineNow 141 = .ok (.getfield 190, 3) := by decide +kernel
theorem dX7_lineNow_144 : decode cX7_lineNow 144 = .ok (.if_icmp .ge 15, 3) := by decide +kernel
theorem dX7_lineNow_147 : decode cX7_lineNow 147 = .ok (.aload_n 0, 1) := by decide +kernel
theorem dX7_lineNow_148 : decode cX7_lineNow 148 = .ok (.getfield 47, 3) := by decide +kernel
theorem dX7_lineNow_151 : decode cX7_lineNow 151 = .ok (.iload_n 1, 1) := by decide +kernel
theorem dX7_lineNow_152 : decode cX7_lineNow 152 = .ok (.bipush 10, 2) := by decide +kernel
theorem dX7_lineNow_154 : decode cX7_lineNow 154 = .ok (.isub, 1) := by decide +kernel
theorem dX7_lineNow_155 : decode cX7_lineNow 155 = .ok (.iaload, 1) := by decide +kernel
theorem dX7_lineNow_156 : decode cX7_lineNow 156 = .ok (.goto 4, 3) := by decide +kernel
theorem dX7_lineNow_159 : decode cX7_lineNow 159 = .ok (.iconst (-1), 1) := by decide +kernel
theorem dX7_lineNow_160 : decode cX7_lineNow 160 = .ok (.ireturn, 1) := by decide +kernel
theorem dX7_line_0 : decode cX7_line 0 = .ok (.iload_n 1, 1) := by decide +kernel
theorem dX7_line_1 : decode cX7_line 1 = .ok (.iconst 0, 1) := by decide +kernel
theorem dX7_line_2 : decode cX7_line 2 = .ok (.bipush 7, 2) := by decide +kernel
theorem dX7_line_4 : decode cX7_line 4 = .ok (.invokestatic 50, 3) := by decide +kernel
theorem dX7_line_7 : decode cX7_line 7 = .ok (.ifCond .ne 14, 3) := by decide +kernel
theorem dX7_line_10 : decode cX7_line 10 = .ok (.iload_n 1, 1) := by decide +kernel
theorem dX7_line_11 : decode cX7_line 11 = .ok (.bipush 10, 2) := by decide +kernel
theorem dX7_line_13 : decode cX7_line 13 = .ok (.bipush 19, 2) := by decide +kernel
theorem dX7_line_15 : decode cX7_line 15 = .ok (.invokestatic 50, 3) := by decide +kernel
theorem dX7_line_18 : decode cX7_line 18 = .ok (.ifCond .eq 11, 3) := by decide +kernel
theorem dX7_line_21 : decode cX7_line 21 = .ok (.aload_n 0, 1) := by decide +kernel
theorem dX7_line_22 : decode cX7_line 22 = .ok (.iload_n 1, 1) := by decide +kernel
theorem dX7_line_23 : decode cX7_line 23 = .ok (.invokevirtual 235, 3) := by decide +kernel
theorem dX7_line_26 : decode cX7_line 26 = .ok (.goto 6, 3) := by decide +kernel
theorem dX7_line_29 : decode cX7_line 29 = .ok (.sipush (-1002), 3) := by decide +kernel
theorem dX7_line_32 : decode cX7_line 32 = .ok (.ireturn, 1) := by decide +kernel
theorem dX7_howMany_0 : decode cX7_howMany 0 = .ok (.iload_n 1, 1) := by decide +kernel
theorem dX7_howMany_1 : decode cX7_howMany 1 = .ok (.tableswitch 99 0 9 #[55, 60, 65, 70, 70, 70, 79, 84, 89, 94], 55) := by decide +kernel
theorem dX7_howMany_56 : decode cX7_howMany 56 = .ok (.aload_n 0, 1) := by decide +kernel
theorem dX7_howMany_57 : decode cX7_howMany 57 = .ok (.getfield 109, 3) := by decide +kernel
theorem dX7_howMany_60 : decode cX7_howMany 60 = .ok (.ireturn, 1) := by decide +kernel
theorem dX7_howMany_61 : decode cX7_howMany 61 = .ok (.aload_n 0, 1) := by decide +kernel
theorem dX7_howMany_62 : decode cX7_howMany 62 = .ok (.getfield 54, 3) := by decide +kernel
theorem dX7_howMany_65 : decode cX7_howMany 65 = .ok (.ireturn, 1) := by decide +kernel
theorem dX7_howMany_66 : decode cX7_howMany 66 = .ok (.aload_n 0, 1) := by decide +kernel
theorem dX7_howMany_67 : decode cX7_howMany 67 = .ok (.invokevirtual 238, 3) := by decide +kernel
theorem dX7_howMany_70 : decode cX7_howMany 70 = .ok (.ireturn, 1) := by decide +kernel
theorem dX7_howMany_71 : decode cX7_howMany 71 = .ok (.aload_n 0, 1) := by decide +kernel
theorem dX7_howMany_72 : decode cX7_howMany 72 = .ok (.getfield 35, 3) := by decide +kernel
theorem dX7_howMany_75 : decode cX7_howMany 75 = .ok (.iload_n 1, 1) := by decide +kernel
theorem dX7_howMany_76 : decode cX7_howMany 76 = .ok (.iconst 3, 1) := by decide +kernel
theorem dX7_howMany_77 : decode cX7_howMany 77 = .ok (.isub, 1) := by decide +kernel
theorem dX7_howMany_78 : decode cX7_howMany 78 = .ok (.iaload, 1) := by decide +kernel
theorem dX7_howMany_79 : decode cX7_howMany 79 = .ok (.ireturn, 1) := by decide +kernel
theorem dX7_howMany_80 : decode cX7_howMany 80 = .ok (.aload_n 0, 1) := by decide +kernel
theorem dX7_howMany_81 : decode cX7_howMany 81 = .ok (.getfield 199, 3) := by decide +kernel
theorem dX7_howMany_84 : decode cX7_howMany 84 = .ok (.ireturn, 1) := by decide +kernel
theorem dX7_howMany_85 : decode cX7_howMany 85 = .ok (.aload_n 0, 1) := by decide +kernel
theorem dX7_howMany_86 : decode cX7_howMany 86 = .ok (.getfield 205, 3) := by decide +kernel
theorem dX7_howMany_89 : decode cX7_howMany 89 = .ok (.ireturn, 1) := by decide +kernel
theorem dX7_howMany_90 : decode cX7_howMany 90 = .ok (.aload_n 0, 1) := by decide +kernel
theorem dX7_howMany_91 : decode cX7_howMany 91 = .ok (.getfield 208, 3) := by decide +kernel
theorem dX7_howMany_94 : decode cX7_howMany 94 = .ok (.ireturn, 1) := by decide +kernel
theorem dX7_howMany_95 : decode cX7_howMany 95 = .ok (.aload_n 0, 1) := by decide +kernel
theorem dX7_howMany_96 : decode cX7_howMany 96 = .ok (.getfield 211, 3) := by decide +kernel
theorem dX7_howMany_99 : decode cX7_howMany 99 = .ok (.ireturn, 1) := by decide +kernel
theorem dX7_howMany_100 : decode cX7_howMany 100 = .ok (.sipush (-1002), 3) := by decide +kernel
theorem dX7_howMany_103 : decode cX7_howMany 103 = .ok (.ireturn, 1) := by decide +kernel
theorem dX7_count_0 : decode cX7_count 0 = .ok (.aload_n 0, 1) := by decide +kernel
theorem dX7_count_1 : decode cX7_count 1 = .ok (.iload_n 1, 1) := by decide +kernel
theorem dX7_count_2 : decode cX7_count 2 = .ok (.invokevirtual 241, 3) := by decide +kernel
theorem dX7_count_5 : decode cX7_count 5 = .ok (.ireturn, 1) := by decide +kernel
theorem dX7_mix_0 : decode cX7_mix 0 = .ok (.aload_n 0, 1) := by decide +kernel
theorem dX7_mix_1 : decode cX7_mix 1 = .ok (.ldc2_w 244, 3) := by decide +kernel
theorem dX7_mix_4 : decode cX7_mix 4 = .ok (.aload_n 0, 1) := by decide +kernel
theorem dX7_mix_5 : decode cX7_mix 5 = .ok (.getfield 246, 3) := by decide +kernel
theorem dX7_mix_8 : decode cX7_mix 8 = .ok (.lmul, 1) := by decide +kernel
theorem dX7_mix_9 : decode cX7_mix 9 = .ok (.lload_n 1, 1) := by decide +kernel
theorem dX7_mix_10 : decode cX7_mix 10 = .ok (.ladd, 1) := by decide +kernel
theorem dX7_mix_11 : decode cX7_mix 11 = .ok (.putfield 246, 3) := by decide +kernel
theorem dX7_mix_14 : decode cX7_mix 14 = .ok (.return_, 1) := by decide +kernel
theorem dX7_digest_0 : decode cX7_digest 0 = .ok (.aload_n 0, 1) := by decide +kernel
theorem dX7_digest_1 : decode cX7_digest 1 = .ok (.ldc2_w 250, 3) := by decide +kernel
theorem dX7_digest_4 : decode cX7_digest 4 = .ok (.putfield 246, 3) := by decide +kernel
theorem dX7_digest_7 : decode cX7_digest 7 = .ok (.iconst 0, 1) := by decide +kernel
theorem dX7_digest_8 : decode cX7_digest 8 = .ok (.istore_n 1, 1) := by decide +kernel
theorem dX7_digest_9 : decode cX7_digest 9 = .ok (.iload_n 1, 1) := by decide +kernel
theorem dX7_digest_10 : decode cX7_digest 10 = .ok (.aload_n 0, 1) := by decide +kernel
theorem dX7_digest_11 : decode cX7_digest 11 = .ok (.getfield 109, 3) := by decide +kernel
theorem dX7_digest_14 : decode cX7_digest 14 = .ok (.if_icmp .ge 59, 3) := by decide +kernel
theorem dX7_digest_17 : decode cX7_digest 17 = .ok (.iconst 0, 1) := by decide +kernel
theorem dX7_digest_18 : decode cX7_digest 18 = .ok (.istore_n 2, 1) := by decide +kernel
theorem dX7_digest_19 : decode cX7_digest 19 = .ok (.iload_n 2, 1) := by decide +kernel
theorem dX7_digest_20 : decode cX7_digest 20 = .ok (.bipush 6, 2) := by decide +kernel
theorem dX7_digest_22 : decode cX7_digest 22 = .ok (.if_icmp .ge 20, 3) := by decide +kernel
theorem dX7_digest_25 : decode cX7_digest 25 = .ok (.aload_n 0, 1) := by decide +kernel
theorem dX7_digest_26 : decode cX7_digest 26 = .ok (.aload_n 0, 1) := by decide +kernel
theorem dX7_digest_27 : decode cX7_digest 27 = .ok (.iload_n 1, 1) := by decide +kernel
theorem dX7_digest_28 : decode cX7_digest 28 = .ok (.iload_n 2, 1) := by decide +kernel
theorem dX7_digest_29 : decode cX7_digest 29 = .ok (.invokevirtual 127, 3) := by decide +kernel
theorem dX7_digest_32 : decode cX7_digest 32 = .ok (.i2l, 1) := by decide +kernel
theorem dX7_digest_33 : decode cX7_digest 33 = .ok (.invokevirtual 252, 3) := by decide +kernel
theorem dX7_digest_36 : decode cX7_digest 36 = .ok (.iinc 2 1, 3) := by decide +kernel
theorem dX7_digest_39 : decode cX7_digest 39 = .ok (.goto (-20), 3) := by decide +kernel
theorem dX7_digest_42 : decode cX7_digest 42 = .ok (.iconst 0, 1) := by decide +kernel
theorem dX7_digest_43 : decode cX7_digest 43 = .ok (.istore_n 2, 1) := by decide +kernel
theorem dX7_digest_44 : decode cX7_digest 44 = .ok (.iload_n 2, 1) := by decide +kernel
theorem dX7_digest_45 : decode cX7_digest 45 = .ok (.bipush 10, 2) := by decide +kernel
theorem dX7_digest_47 : decode cX7_digest 47 = .ok (.if_icmp .ge 20, 3) := by decide +kernel
theorem dX7_digest_50 : decode cX7_digest 50 = .ok (.aload_n 0, 1) := by decide +kernel
theorem dX7_digest_51 : decode cX7_digest 51 = .ok (.aload_n 0, 1) := by decide +kernel
theorem dX7_digest_52 : decode cX7_digest 52 = .ok (.iload_n 1, 1) := by decide +kernel
theorem dX7_digest_53 : decode cX7_digest 53 = .ok (.iload_n 2, 1) := by decide +kernel
theorem dX7_digest_54 : decode cX7_digest 54 = .ok (.invokevirtual 131, 3) := by decide +kernel
theorem dX7_digest_57 : decode cX7_digest 57 = .ok (.i2l, 1) := by decide +kernel
theorem dX7_digest_58 : decode cX7_digest 58 = .ok (.invokevirtual 252, 3) := by decide +kernel
theorem dX7_digest_61 : decode cX7_digest 61 = .ok (.iinc 2 1, 3) := by decide +kernel
theorem dX7_digest_64 : decode cX7_digest 64 = .ok (.goto (-20), 3) := by decide +kernel
theorem dX7_digest_67 : decode cX7_digest 67 = .ok (.iinc 1 1, 3) := by decide +kernel
theorem dX7_digest_70 : decode cX7_digest 70 = .ok (.goto (-61), 3) := by decide +kernel
theorem dX7_digest_73 : decode cX7_digest 73 = .ok (.iconst 0, 1) := by decide +kernel
theorem dX7_digest_74 : decode cX7_digest 74 = .ok (.istore_n 1, 1) := by decide +kernel
theorem dX7_digest_75 : decode cX7_digest 75 = .ok (.aload_n 0, 1) := by decide +kernel
theorem dX7_digest_76 : decode cX7_digest 76 = .ok (.iload_n 1, 1) := by decide +kernel
theorem dX7_digest_77 : decode cX7_digest 77 = .ok (.invokevirtual 150, 3) := by decide +kernel
theorem dX7_digest_80 : decode cX7_digest 80 = .ok (.iconst (-1), 1) := by decide +kernel
theorem dX7_digest_81 : decode cX7_digest 81 = .ok (.if_icmp .eq 19, 3) := by decide +kernel
theorem dX7_digest_84 : decode cX7_digest 84 = .ok (.aload_n 0, 1) := by decide +kernel
theorem dX7_digest_85 : decode cX7_digest 85 = .ok (.aload_n 0, 1) := by decide +kernel
theorem dX7_digest_86 : decode cX7_digest 86 = .ok (.iload_n 1, 1) := by decide +kernel
theorem dX7_digest_87 : decode cX7_digest 87 = .ok (.invokevirtual 150, 3) := by decide +kernel
theorem dX7_digest_90 : decode cX7_digest 90 = .ok (.i2l, 1) := by decide +kernel
theorem dX7_digest_91 : decode cX7_digest 91 = .ok (.invokevirtual 252, 3) := by decide +kernel
theorem dX7_digest_94 : decode cX7_digest 94 = .ok (.iinc 1 1, 3) := by decide +kernel
theorem dX7_digest_97 : decode cX7_digest 97 = .ok (.goto (-22), 3) := by decide +kernel
theorem dX7_digest_100 : decode cX7_digest 100 = .ok (.iconst 0, 1) := by decide +kernel
theorem dX7_digest_101 : decode cX7_digest 101 = .ok (.istore_n 1, 1) := by decide +kernel
theorem dX7_digest_102 : decode cX7_digest 102 = .ok (.iload_n 1, 1) := by decide +kernel
theorem dX7_digest_103 : decode cX7_digest 103 = .ok (.bipush 8, 2) := by decide +kernel
theorem dX7_digest_105 : decode cX7_digest 105 = .ok (.if_icmp .ge 19, 3) := by decide +kernel
theorem dX7_digest_108 : decode cX7_digest 108 = .ok (.aload_n 0, 1) := by decide +kernel
theorem dX7_digest_109 : decode cX7_digest 109 = .ok (.aload_n 0, 1) := by decide +kernel
theorem dX7_digest_110 : decode cX7_digest 110 = .ok (.iload_n 1, 1) := by decide +kernel
theorem dX7_digest_111 : decode cX7_digest 111 = .ok (.invokevirtual 235, 3) := by decide +kernel
theorem dX7_digest_114 : decode cX7_digest 114 = .ok (.i2l, 1) := by decide +kernel
theorem dX7_digest_115 : decode cX7_digest 115 = .ok (.invokevirtual 252, 3) := by decide +kernel
theorem dX7_digest_118 : decode cX7_digest 118 = .ok (.iinc 1 1, 3) := by decide +kernel
theorem dX7_digest_121 : decode cX7_digest 121 = .ok (.goto (-19), 3) := by decide +kernel
theorem dX7_digest_124 : decode cX7_digest 124 = .ok (.bipush 10, 2) := by decide +kernel
theorem dX7_digest_126 : decode cX7_digest 126 = .ok (.istore_n 1, 1) := by decide +kernel
theorem dX7_digest_127 : decode cX7_digest 127 = .ok (.iload_n 1, 1) := by decide +kernel
theorem dX7_digest_128 : decode cX7_digest 128 = .ok (.bipush 20, 2) := by decide +kernel
theorem dX7_digest_130 : decode cX7_digest 130 = .ok (.if_icmp .ge 19, 3) := by decide +kernel
theorem dX7_digest_133 : decode cX7_digest 133 = .ok (.aload_n 0, 1) := by decide +kernel
theorem dX7_digest_134 : decode cX7_digest 134 = .ok (.aload_n 0, 1) := by decide +kernel
theorem dX7_digest_135 : decode cX7_digest 135 = .ok (.iload_n 1, 1) := by decide +kernel
theorem dX7_digest_136 : decode cX7_digest 136 = .ok (.invokevirtual 235, 3) := by decide +kernel
theorem dX7_digest_139 : decode cX7_digest 139 = .ok (.i2l, 1) := by decide +kernel
theorem dX7_digest_140 : decode cX7_digest 140 = .ok (.invokevirtual 252, 3) := by decide +kernel
theorem dX7_digest_143 : decode cX7_digest 143 = .ok (.iinc 1 1, 3) := by decide +kernel
theorem dX7_digest_146 : decode cX7_digest 146 = .ok (.goto (-19), 3) := by decide +kernel
theorem dX7_digest_149 : decode cX7_digest 149 = .ok (.iconst 0, 1) := by decide +kernel
theorem dX7_digest_150 : decode cX7_digest 150 = .ok (.istore_n 1, 1) := by decide +kernel
theorem dX7_digest_151 : decode cX7_digest 151 = .ok (.iload_n 1, 1) := by decide +kernel
theorem dX7_digest_152 : decode cX7_digest 152 = .ok (.aload_n 0, 1) := by decide +kernel
theorem dX7_digest_153 : decode cX7_digest 153 = .ok (.getfield 54, 3) := by decide +kernel
theorem dX7_digest_156 : decode cX7_digest 156 = .ok (.if_icmp .ge 20, 3) := by decide +kernel
theorem dX7_digest_159 : decode cX7_digest 159 = .ok (.aload_n 0, 1) := by decide +kernel
theorem dX7_digest_160 : decode cX7_digest 160 = .ok (.aload_n 0, 1) := by decide +kernel
theorem dX7_digest_161 : decode cX7_digest 161 = .ok (.getfield 7, 3) := by decide +kernel
theorem dX7_digest_164 : decode cX7_digest 164 = .ok (.iload_n 1, 1) := by decide +kernel
theorem dX7_digest_165 : decode cX7_digest 165 = .ok (.iaload, 1) := by decide +kernel
theorem dX7_digest_166 : decode cX7_digest 166 = .ok (.i2l, 1) := by decide +kernel
theorem dX7_digest_167 : decode cX7_digest 167 = .ok (.invokevirtual 252, 3) := by decide +kernel
theorem dX7_digest_170 : decode cX7_digest 170 = .ok (.iinc 1 1, 3) := by decide +kernel
theorem dX7_digest_173 : decode cX7_digest 173 = .ok (.goto (-22), 3) := by decide +kernel
theorem dX7_digest_176 : decode cX7_digest 176 = .ok (.iconst 0, 1) := by decide +kernel
theorem dX7_digest_177 : decode cX7_digest 177 = .ok (.istore_n 1, 1) := by decide +kernel
theorem dX7_digest_178 : decode cX7_digest 178 = .ok (.iload_n 1, 1) := by decide +kernel
theorem dX7_digest_179 : decode cX7_digest 179 = .ok (.bipush 10, 2) := by decide +kernel
theorem dX7_digest_181 : decode cX7_digest 181 = .ok (.if_icmp .ge 19, 3) := by decide +kernel
theorem dX7_digest_184 : decode cX7_digest 184 = .ok (.aload_n 0, 1) := by decide +kernel
theorem dX7_digest_185 : decode cX7_digest 185 = .ok (.aload_n 0, 1) := by decide +kernel
theorem dX7_digest_186 : decode cX7_digest 186 = .ok (.iload_n 1, 1) := by decide +kernel
theorem dX7_digest_187 : decode cX7_digest 187 = .ok (.invokevirtual 241, 3) := by decide +kernel
theorem dX7_digest_190 : decode cX7_digest 190 = .ok (.i2l, 1) := by decide +kernel
theorem dX7_digest_191 : decode cX7_digest 191 = .ok (.invokevirtual 252, 3) := by decide +kernel
theorem dX7_digest_194 : decode cX7_digest 194 = .ok (.iinc 1 1, 3) := by decide +kernel
theorem dX7_digest_197 : decode cX7_digest 197 = .ok (.goto (-19), 3) := by decide +kernel
theorem dX7_digest_200 : decode cX7_digest 200 = .ok (.aload_n 0, 1) := by decide +kernel
theorem dX7_digest_201 : decode cX7_digest 201 = .ok (.getfield 246, 3) := by decide +kernel
theorem dX7_digest_204 : decode cX7_digest 204 = .ok (.lreturn, 1) := by decide +kernel
theorem dJ6_bitCount_0f7a4_0 : decode cJ6_bitCount_0f7a4 0 = .ok (.iload_n 0, 1) := by decide +kernel
theorem dJ6_bitCount_0f7a4_1 : decode cJ6_bitCount_0f7a4 1 = .ok (.iload_n 0, 1) := by decide +kernel
theorem dJ6_bitCount_0f7a4_2 : decode cJ6_bitCount_0f7a4 2 = .ok (.iconst 1, 1) := by decide +kernel
theorem dJ6_bitCount_0f7a4_3 : decode cJ6_bitCount_0f7a4 3 = .ok (.iushr, 1) := by decide +kernel
theorem dJ6_bitCount_0f7a4_4 : decode cJ6_bitCount_0f7a4 4 = .ok (.ldc_w 265, 3) := by decide +kernel
theorem dJ6_bitCount_0f7a4_7 : decode cJ6_bitCount_0f7a4 7 = .ok (.iand, 1) := by decide +kernel
theorem dJ6_bitCount_0f7a4_8 : decode cJ6_bitCount_0f7a4 8 = .ok (.isub, 1) := by decide +kernel
theorem dJ6_bitCount_0f7a4_9 : decode cJ6_bitCount_0f7a4 9 = .ok (.istore_n 0, 1) := by decide +kernel
theorem dJ6_bitCount_0f7a4_10 : decode cJ6_bitCount_0f7a4 10 = .ok (.iload_n 0, 1) := by decide +kernel
theorem dJ6_bitCount_0f7a4_11 : decode cJ6_bitCount_0f7a4 11 = .ok (.ldc_w 266, 3) := by decide +kernel
theorem dJ6_bitCount_0f7a4_14 : decode cJ6_bitCount_0f7a4 14 = .ok (.iand, 1) := by decide +kernel
theorem dJ6_bitCount_0f7a4_15 : decode cJ6_bitCount_0f7a4 15 = .ok (.iload_n 0, 1) := by decide +kernel
theorem dJ6_bitCount_0f7a4_16 : decode cJ6_bitCount_0f7a4 16 = .ok (.iconst 2, 1) := by decide +kernel
theorem dJ6_bitCount_0f7a4_17 : decode cJ6_bitCount_0f7a4 17 = .ok (.iushr, 1) := by decide +kernel
theorem dJ6_bitCount_0f7a4_18 : decode cJ6_bitCount_0f7a4 18 = .ok (.ldc_w 266, 3) := by decide +kernel
theorem dJ6_bitCount_0f7a4_21 : decode cJ6_bitCount_0f7a4 21 = .ok (.iand, 1) := by decide +kernel
theorem dJ6_bitCount_0f7a4_22 : decode cJ6_bitCount_0f7a4 22 = .ok (.iadd, 1) := by decide +kernel
theorem dJ6_bitCount_0f7a4_23 : decode cJ6_bitCount_0f7a4 23 = .ok (.istore_n 0, 1) := by decide +kernel
theorem dJ6_bitCount_0f7a4_24 : decode cJ6_bitCount_0f7a4 24 = .ok (.iload_n 0, 1) := by decide +kernel
theorem dJ6_bitCount_0f7a4_25 : decode cJ6_bitCount_0f7a4 25 = .ok (.iload_n 0, 1) := by decide +kernel
theorem dJ6_bitCount_0f7a4_26 : decode cJ6_bitCount_0f7a4 26 = .ok (.iconst 4, 1) := by decide +kernel
theorem dJ6_bitCount_0f7a4_27 : decode cJ6_bitCount_0f7a4 27 = .ok (.iushr, 1) := by decide +kernel
theorem dJ6_bitCount_0f7a4_28 : decode cJ6_bitCount_0f7a4 28 = .ok (.iadd, 1) := by decide +kernel
theorem dJ6_bitCount_0f7a4_29 : decode cJ6_bitCount_0f7a4 29 = .ok (.ldc_w 267, 3) := by decide +kernel
theorem dJ6_bitCount_0f7a4_32 : decode cJ6_bitCount_0f7a4 32 = .ok (.iand, 1) := by decide +kernel
theorem dJ6_bitCount_0f7a4_33 : decode cJ6_bitCount_0f7a4 33 = .ok (.istore_n 0, 1) := by decide +kernel
theorem dJ6_bitCount_0f7a4_34 : decode cJ6_bitCount_0f7a4 34 = .ok (.iload_n 0, 1) := by decide +kernel
theorem dJ6_bitCount_0f7a4_35 : decode cJ6_bitCount_0f7a4 35 = .ok (.iload_n 0, 1) := by decide +kernel
theorem dJ6_bitCount_0f7a4_36 : decode cJ6_bitCount_0f7a4 36 = .ok (.bipush 8, 2) := by decide +kernel
theorem dJ6_bitCount_0f7a4_38 : decode cJ6_bitCount_0f7a4 38 = .ok (.iushr, 1) := by decide +kernel
theorem dJ6_bitCount_0f7a4_39 : decode cJ6_bitCount_0f7a4 39 = .ok (.iadd, 1) := by decide +kernel
theorem dJ6_bitCount_0f7a4_40 : decode cJ6_bitCount_0f7a4 40 = .ok (.istore_n 0, 1) := by decide +kernel
theorem dJ6_bitCount_0f7a4_41 : decode cJ6_bitCount_0f7a4 41 = .ok (.iload_n 0, 1) := by decide +kernel
theorem dJ6_bitCount_0f7a4_42 : decode cJ6_bitCount_0f7a4 42 = .ok (.iload_n 0, 1) := by decide +kernel
theorem dJ6_bitCount_0f7a4_43 : decode cJ6_bitCount_0f7a4 43 = .ok (.bipush 16, 2) := by decide +kernel
theorem dJ6_bitCount_0f7a4_45 : decode cJ6_bitCount_0f7a4 45 = .ok (.iushr, 1) := by decide +kernel
theorem dJ6_bitCount_0f7a4_46 : decode cJ6_bitCount_0f7a4 46 = .ok (.iadd, 1) := by decide +kernel
theorem dJ6_bitCount_0f7a4_47 : decode cJ6_bitCount_0f7a4 47 = .ok (.istore_n 0, 1) := by decide +kernel
theorem dJ6_bitCount_0f7a4_48 : decode cJ6_bitCount_0f7a4 48 = .ok (.iload_n 0, 1) := by decide +kernel
theorem dJ6_bitCount_0f7a4_49 : decode cJ6_bitCount_0f7a4 49 = .ok (.bipush 63, 2) := by decide +kernel
theorem dJ6_bitCount_0f7a4_51 : decode cJ6_bitCount_0f7a4 51 = .ok (.iand, 1) := by decide +kernel
theorem dJ6_bitCount_0f7a4_52 : decode cJ6_bitCount_0f7a4 52 = .ok (.ireturn, 1) := by decide +kernel
theorem dJ9_max_7cf53_0 : decode cJ9_max_7cf53 0 = .ok (.iload_n 0, 1) := by decide +kernel
theorem dJ9_max_7cf53_1 : decode cJ9_max_7cf53 1 = .ok (.iload_n 1, 1) := by decide +kernel
theorem dJ9_max_7cf53_2 : decode cJ9_max_7cf53 2 = .ok (.if_icmp .lt 7, 3) := by decide +kernel
theorem dJ9_max_7cf53_5 : decode cJ9_max_7cf53 5 = .ok (.iload_n 0, 1) := by decide +kernel
theorem dJ9_max_7cf53_6 : decode cJ9_max_7cf53 6 = .ok (.goto 4, 3) := by decide +kernel
theorem dJ9_max_7cf53_9 : decode cJ9_max_7cf53 9 = .ok (.iload_n 1, 1) := by decide +kernel
theorem dJ9_max_7cf53_10 : decode cJ9_max_7cf53 10 = .ok (.ireturn, 1) := by decide +kernel
theorem dL_law_0 : decode cL_law 0 = .ok (.new 7, 3) := by decide +kernel
theorem dL_law_3 : decode cL_law 3 = .ok (.dup, 1) := by decide +kernel
theorem dL_law_4 : decode cL_law 4 = .ok (.invokespecial 9, 3) := by decide +kernel
theorem dL_law_7 : decode cL_law 7 = .ok (.astore_n 1, 1) := by decide +kernel
theorem dL_law_8 : decode cL_law 8 = .ok (.new 10, 3) := by decide +kernel
theorem dL_law_11 : decode cL_law 11 = .ok (.dup, 1) := by decide +kernel
theorem dL_law_12 : decode cL_law 12 = .ok (.invokespecial 12, 3) := by decide +kernel
theorem dL_law_15 : decode cL_law 15 = .ok (.astore_n 2, 1) := by decide +kernel
theorem dL_law_16 : decode cL_law 16 = .ok (.iconst 0, 1) := by decide +kernel
theorem dL_law_17 : decode cL_law 17 = .ok (.istore_n 3, 1) := by decide +kernel
theorem dL_law_18 : decode cL_law 18 = .ok (.iload_n 3, 1) := by decide +kernel
theorem dL_law_19 : decode cL_law 19 = .ok (.aload_n 0, 1) := by decide +kernel
theorem dL_law_20 : decode cL_law 20 = .ok (.arraylength, 1) := by decide +kernel
theorem dL_law_21 : decode cL_law 21 = .ok (.iconst 3, 1) := by decide +kernel
theorem dL_law_22 : decode cL_law 22 = .ok (.isub, 1) := by decide +kernel
theorem dL_law_23 : decode cL_law 23 = .ok (.if_icmp .gt 515, 3) := by decide +kernel
theorem dL_law_26 : decode cL_law 26 = .ok (.aload_n 0, 1) := by decide +kernel
theorem dL_law_27 : decode cL_law 27 = .ok (.iload_n 3, 1) := by decide +kernel
theorem dL_law_28 : decode cL_law 28 = .ok (.iaload, 1) := by decide +kernel
theorem dL_law_29 : decode cL_law 29 = .ok (.bipush 31, 2) := by decide +kernel
theorem dL_law_31 : decode cL_law 31 = .ok (.iand, 1) := by decide +kernel
theorem dL_law_32 : decode cL_law 32 = .ok (.tableswitch 500 0 18 #[92, 115, 128, 141, 154, 177, 210, 243, 276, 299, 322, 355, 368, 381, 404, 427, 440, 463, 486], 92) := by decide +kernel
theorem dL_law_124 : decode cL_law 124 = .ok (.aload_n 1, 1) := by decide +kernel
theorem dL_law_125 : decode cL_law 125 = .ok (.aload_n 0, 1) := by decide +kernel
theorem dL_law_126 : decode cL_law 126 = .ok (.iload_n 3, 1) := by decide +kernel
theorem dL_law_127 : decode cL_law 127 = .ok (.iconst 1, 1) := by decide +kernel
theorem dL_law_128 : decode cL_law 128 = .ok (.iadd, 1) := by decide +kernel
theorem dL_law_129 : decode cL_law 129 = .ok (.iaload, 1) := by decide +kernel
theorem dL_law_130 : decode cL_law 130 = .ok (.invokevirtual 13, 3) := by decide +kernel
theorem dL_law_133 : decode cL_law 133 = .ok (.aload_n 2, 1) := by decide +kernel
theorem dL_law_134 : decode cL_law 134 = .ok (.aload_n 0, 1) := by decide +kernel
theorem dL_law_135 : decode cL_law 135 = .ok (.iload_n 3, 1) := by decide +kernel
theorem dL_law_136 : decode cL_law 136 = .ok (.iconst 1, 1) := by decide +kernel
theorem dL_law_137 : decode cL_law 137 = .ok (.iadd, 1) := by decide +kernel
theorem dL_law_138 : decode cL_law 138 = .ok (.iaload, 1) := by decide +kernel
theorem dL_law_139 : decode cL_law 139 = .ok (.invokevirtual 17, 3) := by decide +kernel
theorem dL_law_142 : decode cL_law 142 = .ok (.if_icmp .eq 390, 3) := by decide +kernel
theorem dL_law_145 : decode cL_law 145 = .ok (.iconst 0, 1) := by decide +kernel
theorem dL_law_146 : decode cL_law 146 = .ok (.ireturn, 1) := by decide +kernel
theorem dL_law_147 : decode cL_law 147 = .ok (.aload_n 1, 1) := by decide +kernel
theorem dL_law_148 : decode cL_law 148 = .ok (.invokevirtual 18, 3) := by decide +kernel
theorem dL_law_151 : decode cL_law 151 = .ok (.aload_n 2, 1) := by decide +kernel
theorem dL_law_152 : decode cL_law 152 = .ok (.invokevirtual 22, 3) := by decide +kernel
theorem dL_law_155 : decode cL_law 155 = .ok (.if_icmp .eq 377, 3) := by decide +kernel
theorem dL_law_158 : decode cL_law 158 = .ok (.iconst 0, 1) := by decide +kernel
theorem dL_law_159 : decode cL_law 159 = .ok (.ireturn, 1) := by decide +kernel
theorem dL_law_160 : decode cL_law 160 = .ok (.aload_n 1, 1) := by decide +kernel
theorem dL_law_161 : decode cL_law 161 = .ok (.invokevirtual 23, 3) := by decide +kernel
theorem dL_law_164 : decode cL_law 164 = .ok (.aload_n 2, 1) := by decide +kernel
theorem dL_law_165 : decode cL_law 165 = .ok (.invokevirtual 26, 3) := by decide +kernel
theorem dL_law_168 : decode cL_law 168 = .ok (.if_icmp .eq 364, 3) := by decide +kernel
theorem dL_law_171 : decode cL_law 171 = .ok (.iconst 0, 1) := by decide +kernel
theorem dL_law_172 : decode cL_law 172 = .ok (.ireturn, 1) := by decide +kernel
theorem dL_law_173 : decode cL_law 173 = .ok (.aload_n 1, 1) := by decide +kernel
theorem dL_law_174 : decode cL_law 174 = .ok (.invokevirtual 27, 3) := by decide +kernel
theorem dL_law_177 : decode cL_law 177 = .ok (.aload_n 2, 1) := by decide +kernel
theorem dL_law_178 : decode cL_law 178 = .ok (.invokevirtual 30, 3) := by decide +kernel
theorem dL_law_181 : decode cL_law 181 = .ok (.if_icmp .eq 351, 3) := by decide +kernel
theorem dL_law_184 : decode cL_law 184 = .ok (.iconst 0, 1) := by decide +kernel
theorem dL_law_185 : decode cL_law 185 = .ok (.ireturn, 1) := by decide +kernel
theorem dL_law_186 : decode cL_law 186 = .ok (.aload_n 1, 1) := by decide +kernel
theorem dL_law_187 : decode cL_law 187 = .ok (.aload_n 0, 1) := by decide +kernel
theorem dL_law_188 : decode cL_law 188 = .ok (.iload_n 3, 1) := by decide +kernel
theorem dL_law_189 : decode cL_law 189 = .ok (.iconst 1, 1) := by decide +kernel
theorem dL_law_190 : decode cL_law 190 = .ok (.iadd, 1) := by decide +kernel
theorem dL_law_191 : decode cL_law 191 = .ok (.iaload, 1) := by decide +kernel
theorem dL_law_192 : decode cL_law 192 = .ok (.invokevirtual 31, 3) := by decide +kernel
theorem dL_law_195 : decode cL_law 195 = .ok (.aload_n 2, 1) := by decide +kernel
theorem dL_law_196 : decode cL_law 196 = .ok (.aload_n 0, 1) := by decide +kernel
theorem dL_law_197 : decode cL_law 197 = .ok (.iload_n 3, 1) := by decide +kernel
theorem dL_law_198 : decode cL_law 198 = .ok (.iconst 1, 1) := by decide +kernel
theorem dL_law_199 : decode cL_law 199 = .ok (.iadd, 1) := by decide +kernel
theorem dL_law_200 : decode cL_law 200 = .ok (.iaload, 1) := by decide +kernel
theorem dL_law_201 : decode cL_law 201 = .ok (.invokevirtual 34, 3) := by decide +kernel
theorem dL_law_204 : decode cL_law 204 = .ok (.if_icmp .eq 328, 3) := by decide +kernel
theorem dL_law_207 : decode cL_law 207 = .ok (.iconst 0, 1) := by decide +kernel
theorem dL_law_208 : decode cL_law 208 = .ok (.ireturn, 1) := by decide +kernel
theorem dL_law_209 : decode cL_law 209 = .ok (.aload_n 1, 1) := by decide +kernel
theorem dL_law_210 : decode cL_law 210 = .ok (.aload_n 0, 1) := by decide +kernel
theorem dL_law_211 : decode cL_law 211 = .ok (.iload_n 3, 1) := by decide +kernel
theorem dL_law_212 : decode cL_law 212 = .ok (.iconst 1, 1) := by decide +kernel
theorem dL_law_213 : decode cL_law 213 = .ok (.iadd, 1) := by decide +kernel
theorem dL_law_214 : decode cL_law 214 = .ok (.iaload, 1) := by decide +kernel
theorem dL_law_215 : decode cL_law 215 = .ok (.aload_n 0, 1) := by decide +kernel
theorem dL_law_216 : decode cL_law 216 = .ok (.iload_n 3, 1) := by decide +kernel
theorem dL_law_217 : decode cL_law 217 = .ok (.iconst 2, 1) := by decide +kernel
theorem dL_law_218 : decode cL_law 218 = .ok (.iadd, 1) := by decide +kernel
theorem dL_law_219 : decode cL_law 219 = .ok (.iaload, 1) := by decide +kernel
theorem dL_law_220 : decode cL_law 220 = .ok (.invokevirtual 35, 3) := by decide +kernel
theorem dL_law_223 : decode cL_law 223 = .ok (.aload_n 2, 1) := by decide +kernel
theorem dL_law_224 : decode cL_law 224 = .ok (.aload_n 0, 1) := by decide +kernel
theorem dL_law_225 : decode cL_law 225 = .ok (.iload_n 3, 1) := by decide +kernel
theorem dL_law_226 : decode cL_law 226 = .ok (.iconst 1, 1) := by decide +kernel
theorem dL_law_227 : decode cL_law 227 = .ok (.iadd, 1) := by decide +kernel
theorem dL_law_228 : decode cL_law 228 = .ok (.iaload, 1) := by decide +kernel
theorem dL_law_229 : decode cL_law 229 = .ok (.aload_n 0, 1) := by decide +kernel
theorem dL_law_230 : decode cL_law 230 = .ok (.iload_n 3, 1) := by decide +kernel
theorem dL_law_231 : decode cL_law 231 = .ok (.iconst 2, 1) := by decide +kernel
theorem dL_law_232 : decode cL_law 232 = .ok (.iadd, 1) := by decide +kernel
theorem dL_law_233 : decode cL_law 233 = .ok (.iaload, 1) := by decide +kernel
theorem dL_law_234 : decode cL_law 234 = .ok (.invokevirtual 39, 3) := by decide +kernel
theorem dL_law_237 : decode cL_law 237 = .ok (.if_icmp .eq 295, 3) := by decide +kernel
theorem dL_law_240 : decode cL_law 240 = .ok (.iconst 0, 1) := by decide +kernel
theorem dL_law_241 : decode cL_law 241 = .ok (.ireturn, 1) := by decide +kernel
theorem dL_law_242 : decode cL_law 242 = .ok (.aload_n 1, 1) := by decide +kernel
theorem dL_law_243 : decode cL_law 243 = .ok (.aload_n 0, 1) := by decide +kernel
theorem dL_law_244 : decode cL_law 244 = .ok (.iload_n 3, 1) := by decide +kernel
theorem dL_law_245 : decode cL_law 245 = .ok (.iconst 1, 1) := by decide +kernel
theorem dL_law_246 : decode cL_law 246 = .ok (.iadd, 1) := by decide +kernel
theorem dL_law_247 : decode cL_law 247 = .ok (.iaload, 1) := by decide +kernel
theorem dL_law_248 : decode cL_law 248 = .ok (.aload_n 0, 1) := by decide +kernel
theorem dL_law_249 : decode cL_law 249 = .ok (.iload_n 3, 1) := by decide +kernel
theorem dL_law_250 : decode cL_law 250 = .ok (.iconst 2, 1) := by decide +kernel
theorem dL_law_251 : decode cL_law 251 = .ok (.iadd, 1) := by decide +kernel
theorem dL_law_252 : decode cL_law 252 = .ok (.iaload, 1) := by decide +kernel
theorem dL_law_253 : decode cL_law 253 = .ok (.invokevirtual 40, 3) := by decide +kernel
theorem dL_law_256 : decode cL_law 256 = .ok (.aload_n 2, 1) := by decide +kernel
theorem dL_law_257 : decode cL_law 257 = .ok (.aload_n 0, 1) := by decide +kernel
theorem dL_law_258 : decode cL_law 258 = .ok (.iload_n 3, 1) := by decide +kernel
theorem dL_law_259 : decode cL_law 259 = .ok (.iconst 1, 1) := by decide +kernel
theorem dL_law_260 : decode cL_law 260 = .ok (.iadd, 1) := by decide +kernel
theorem dL_law_261 : decode cL_law 261 = .ok (.iaload, 1) := by decide +kernel
theorem dL_law_262 : decode cL_law 262 = .ok (.aload_n 0, 1) := by decide +kernel
theorem dL_law_263 : decode cL_law 263 = .ok (.iload_n 3, 1) := by decide +kernel
theorem dL_law_264 : decode cL_law 264 = .ok (.iconst 2, 1) := by decide +kernel
theorem dL_law_265 : decode cL_law 265 = .ok (.iadd, 1) := by decide +kernel
theorem dL_law_266 : decode cL_law 266 = .ok (.iaload, 1) := by decide +kernel
theorem dL_law_267 : decode cL_law 267 = .ok (.invokevirtual 43, 3) := by decide +kernel
theorem dL_law_270 : decode cL_law 270 = .ok (.if_icmp .eq 262, 3) := by decide +kernel
theorem dL_law_273 : decode cL_law 273 = .ok (.iconst 0, 1) := by decide +kernel
theorem dL_law_274 : decode cL_law 274 = .ok (.ireturn, 1) := by decide +kernel
theorem dL_law_275 : decode cL_law 275 = .ok (.aload_n 1, 1) := by decide +kernel
theorem dL_law_276 : decode cL_law 276 = .ok (.aload_n 0, 1) := by decide +kernel
theorem dL_law_277 : decode cL_law 277 = .ok (.iload_n 3, 1) := by decide +kernel
theorem dL_law_278 : decode cL_law 278 = .ok (.iconst 1, 1) := by decide +kernel
theorem dL_law_279 : decode cL_law 279 = .ok (.iadd, 1) := by decide +kernel
theorem dL_law_280 : decode cL_law 280 = .ok (.iaload, 1) := by decide +kernel
theorem dL_law_281 : decode cL_law 281 = .ok (.aload_n 0, 1) := by decide +kernel
theorem dL_law_282 : decode cL_law 282 = .ok (.iload_n 3, 1) := by decide +kernel
theorem dL_law_283 : decode cL_law 283 = .ok (.iconst 2, 1) := by decide +kernel
theorem dL_law_284 : decode cL_law 284 = .ok (.iadd, 1) := by decide +kernel
theorem dL_law_285 : decode cL_law 285 = .ok (.iaload, 1) := by decide +kernel
theorem dL_law_286 : decode cL_law 286 = .ok (.invokevirtual 44, 3) := by decide +kernel
theorem dL_law_289 : decode cL_law 289 = .ok (.aload_n 2, 1) := by decide +kernel
theorem dL_law_290 : decode cL_law 290 = .ok (.aload_n 0, 1) := by decide +kernel
theorem dL_law_291 : decode cL_law 291 = .ok (.iload_n 3, 1) := by decide +kernel
theorem dL_law_292 : decode cL_law 292 = .ok (.iconst 1, 1) := by decide +kernel
theorem dL_law_293 : decode cL_law 293 = .ok (.iadd, 1) := by decide +kernel
theorem dL_law_294 : decode cL_law 294 = .ok (.iaload, 1) := by decide +kernel
theorem dL_law_295 : decode cL_law 295 = .ok (.aload_n 0, 1) := by decide +kernel
theorem dL_law_296 : decode cL_law 296 = .ok (.iload_n 3, 1) := by decide +kernel
theorem dL_law_297 : decode cL_law 297 = .ok (.iconst 2, 1) := by decide +kernel
theorem dL_law_298 : decode cL_law 298 = .ok (.iadd, 1) := by decide +kernel
theorem dL_law_299 : decode cL_law 299 = .ok (.iaload, 1) := by decide +kernel
theorem dL_law_300 : decode cL_law 300 = .ok (.invokevirtual 47, 3) := by decide +kernel
theorem dL_law_303 : decode cL_law 303 = .ok (.if_icmp .eq 229, 3) := by decide +kernel
theorem dL_law_306 : decode cL_law 306 = .ok (.iconst 0, 1) := by decide +kernel
theorem dL_law_307 : decode cL_law 307 = .ok (.ireturn, 1) := by decide +kernel
theorem dL_law_308 : decode cL_law 308 = .ok (.aload_n 1, 1) := by decide +kernel
theorem dL_law_309 : decode cL_law 309 = .ok (.aload_n 0, 1) := by decide +kernel
theorem dL_law_310 : decode cL_law 310 = .ok (.iload_n 3, 1) := by decide +kernel
theorem dL_law_311 : decode cL_law 311 = .ok (.iconst 1, 1) := by decide +kernel
theorem dL_law_312 : decode cL_law 312 = .ok (.iadd, 1) := by decide +kernel
theorem dL_law_313 : decode cL_law 313 = .ok (.iaload, 1) := by decide +kernel
theorem dL_law_314 : decode cL_law 314 = .ok (.invokevirtual 48, 3) := by decide +kernel
theorem dL_law_317 : decode cL_law 317 = .ok (.aload_n 2, 1) := by decide +kernel
theorem dL_law_318 : decode cL_law 318 = .ok (.aload_n 0, 1) := by decide +kernel
theorem dL_law_319 : decode cL_law 319 = .ok (.iload_n 3, 1) := by decide +kernel
theorem dL_law_320 : decode cL_law 320 = .ok (.iconst 1, 1) := by decide +kernel
theorem dL_law_321 : decode cL_law 321 = .ok (.iadd, 1) := by decide +kernel
theorem dL_law_322 : decode cL_law 322 = .ok (.iaload, 1) := by decide +kernel
theorem dL_law_323 : decode cL_law 323 = .ok (.invokevirtual 51, 3) := by decide +kernel
theorem dL_law_326 : decode cL_law 326 = .ok (.if_icmp .eq 206, 3) := by decide +kernel
theorem dL_law_329 : decode cL_law 329 = .ok (.iconst 0, 1) := by decide +kernel
theorem dL_law_330 : decode cL_law 330 = .ok (.ireturn, 1) := by decide +kernel
theorem dL_law_331 : decode cL_law 331 = .ok (.aload_n 1, 1) := by decide +kernel
theorem dL_law_332 : decode cL_law 332 = .ok (.aload_n 0, 1) := by decide +kernel
theorem dL_law_333 : decode cL_law 333 = .ok (.iload_n 3, 1) := by decide +kernel
theorem dL_law_334 : decode cL_law 334 = .ok (.iconst 1, 1) := by decide +kernel
theorem dL_law_335 : decode cL_law 335 = .ok (.iadd, 1) := by decide +kernel
theorem dL_law_336 : decode cL_law 336 = .ok (.iaload, 1) := by decide +kernel
theorem dL_law_337 : decode cL_law 337 = .ok (.invokevirtual 52, 3) := by decide +kernel
theorem dL_law_340 : decode cL_law 340 = .ok (.aload_n 2, 1) := by decide +kernel
theorem dL_law_341 : decode cL_law 341 = .ok (.aload_n 0, 1) := by decide +kernel
theorem dL_law_342 : decode cL_law 342 = .ok (.iload_n 3, 1) := by decide +kernel
theorem dL_law_343 : decode cL_law 343 = .ok (.iconst 1, 1) := by decide +kernel
theorem dL_law_344 : decode cL_law 344 = .ok (.iadd, 1) := by decide +kernel
theorem dL_law_345 : decode cL_law 345 = .ok (.iaload, 1) := by decide +kernel
theorem dL_law_346 : decode cL_law 346 = .ok (.invokevirtual 55, 3) := by decide +kernel
theorem dL_law_349 : decode cL_law 349 = .ok (.if_icmp .eq 183, 3) := by decide +kernel
theorem dL_law_352 : decode cL_law 352 = .ok (.iconst 0, 1) := by decide +kernel
theorem dL_law_353 : decode cL_law 353 = .ok (.ireturn, 1) := by decide +kernel
theorem dL_law_354 : decode cL_law 354 = .ok (.aload_n 1, 1) := by decide +kernel
theorem dL_law_355 : decode cL_law 355 = .ok (.aload_n 0, 1) := by decide +kernel
theorem dL_law_356 : decode cL_law 356 = .ok (.iload_n 3, 1) := by decide +kernel
theorem dL_law_357 : decode cL_law 357 = .ok (.iconst 1, 1) := by decide +kernel
theorem dL_law_358 : decode cL_law 358 = .ok (.iadd, 1) := by decide +kernel
theorem dL_law_359 : decode cL_law 359 = .ok (.iaload, 1) := by decide +kernel
theorem dL_law_360 : decode cL_law 360 = .ok (.aload_n 0, 1) := by decide +kernel
theorem dL_law_361 : decode cL_law 361 = .ok (.iload_n 3, 1) := by decide +kernel
theorem dL_law_362 : decode cL_law 362 = .ok (.iconst 2, 1) := by decide +kernel
theorem dL_law_363 : decode cL_law 363 = .ok (.iadd, 1) := by decide +kernel
theorem dL_law_364 : decode cL_law 364 = .ok (.iaload, 1) := by decide +kernel
theorem dL_law_365 : decode cL_law 365 = .ok (.invokevirtual 56, 3) := by decide +kernel
theorem dL_law_368 : decode cL_law 368 = .ok (.aload_n 2, 1) := by decide +kernel
theorem dL_law_369 : decode cL_law 369 = .ok (.aload_n 0, 1) := by decide +kernel
theorem dL_law_370 : decode cL_law 370 = .ok (.iload_n 3, 1) := by decide +kernel
theorem dL_law_371 : decode cL_law 371 = .ok (.iconst 1, 1) := by decide +kernel
theorem dL_law_372 : decode cL_law 372 = .ok (.iadd, 1) := by decide +kernel
theorem dL_law_373 : decode cL_law 373 = .ok (.iaload, 1) := by decide +kernel
theorem dL_law_374 : decode cL_law 374 = .ok (.aload_n 0, 1) := by decide +kernel
theorem dL_law_375 : decode cL_law 375 = .ok (.iload_n 3, 1) := by decide +kernel
theorem dL_law_376 : decode cL_law 376 = .ok (.iconst 2, 1) := by decide +kernel
theorem dL_law_377 : decode cL_law 377 = .ok (.iadd, 1) := by decide +kernel
theorem dL_law_378 : decode cL_law 378 = .ok (.iaload, 1) := by decide +kernel
theorem dL_law_379 : decode cL_law 379 = .ok (.invokevirtual 59, 3) := by decide +kernel
theorem dL_law_382 : decode cL_law 382 = .ok (.if_icmp .eq 150, 3) := by decide +kernel
theorem dL_law_385 : decode cL_law 385 = .ok (.iconst 0, 1) := by decide +kernel
theorem dL_law_386 : decode cL_law 386 = .ok (.ireturn, 1) := by decide +kernel
theorem dL_law_387 : decode cL_law 387 = .ok (.aload_n 1, 1) := by decide +kernel
theorem dL_law_388 : decode cL_law 388 = .ok (.invokevirtual 60, 3) := by decide +kernel
theorem dL_law_391 : decode cL_law 391 = .ok (.aload_n 2, 1) := by decide +kernel
theorem dL_law_392 : decode cL_law 392 = .ok (.invokevirtual 63, 3) := by decide +kernel
theorem dL_law_395 : decode cL_law 395 = .ok (.if_icmp .eq 137, 3) := by decide +kernel
theorem dL_law_398 : decode cL_law 398 = .ok (.iconst 0, 1) := by decide +kernel
theorem dL_law_399 : decode cL_law 399 = .ok (.ireturn, 1) := by decide +kernel
theorem dL_law_400 : decode cL_law 400 = .ok (.aload_n 1, 1) := by decide +kernel
theorem dL_law_401 : decode cL_law 401 = .ok (.invokevirtual 64, 3) := by decide +kernel
theorem dL_law_404 : decode cL_law 404 = .ok (.aload_n 2, 1) := by decide +kernel
theorem dL_law_405 : decode cL_law 405 = .ok (.invokevirtual 67, 3) := by decide +kernel
theorem dL_law_408 : decode cL_law 408 = .ok (.if_icmp .eq 124, 3) := by decide +kernel
theorem dL_law_411 : decode cL_law 411 = .ok (.iconst 0, 1) := by decide +kernel
theorem dL_law_412 : decode cL_law 412 = .ok (.ireturn, 1) := by decide +kernel
theorem dL_law_413 : decode cL_law 413 = .ok (.aload_n 1, 1) := by decide +kernel
theorem dL_law_414 : decode cL_law 414 = .ok (.aload_n 0, 1) := by decide +kernel
theorem dL_law_415 : decode cL_law 415 = .ok (.iload_n 3, 1) := by decide +kernel
theorem dL_law_416 : decode cL_law 416 = .ok (.iconst 1, 1) := by decide +kernel
theorem dL_law_417 : decode cL_law 417 = .ok (.iadd, 1) := by decide +kernel
theorem dL_law_418 : decode cL_law 418 = .ok (.iaload, 1) := by decide +kernel
theorem dL_law_419 : decode cL_law 419 = .ok (.invokevirtual 68, 3) := by decide +kernel
theorem dL_law_422 : decode cL_law 422 = .ok (.aload_n 2, 1) := by decide +kernel
theorem dL_law_423 : decode cL_law 423 = .ok (.aload_n 0, 1) := by decide +kernel
theorem dL_law_424 : decode cL_law 424 = .ok (.iload_n 3, 1) := by decide +kernel
theorem dL_law_425 : decode cL_law 425 = .ok (.iconst 1, 1) := by decide +kernel
theorem dL_law_426 : decode cL_law 426 = .ok (.iadd, 1) := by decide +kernel
theorem dL_law_427 : decode cL_law 427 = .ok (.iaload, 1) := by decide +kernel
theorem dL_law_428 : decode cL_law 428 = .ok (.invokevirtual 71, 3) := by decide +kernel
theorem dL_law_431 : decode cL_law 431 = .ok (.if_icmp .eq 101, 3) := by decide +kernel
theorem dL_law_434 : decode cL_law 434 = .ok (.iconst 0, 1) := by decide +kernel
theorem dL_law_435 : decode cL_law 435 = .ok (.ireturn, 1) := by decide +kernel
theorem dL_law_436 : decode cL_law 436 = .ok (.aload_n 1, 1) := by decide +kernel
theorem dL_law_437 : decode cL_law 437 = .ok (.aload_n 0, 1) := by decide +kernel
theorem dL_law_438 : decode cL_law 438 = .ok (.iload_n 3, 1) := by decide +kernel
theorem dL_law_439 : decode cL_law 439 = .ok (.iconst 1, 1) := by decide +kernel
theorem dL_law_440 : decode cL_law 440 = .ok (.iadd, 1) := by decide +kernel
theorem dL_law_441 : decode cL_law 441 = .ok (.iaload, 1) := by decide +kernel
theorem dL_law_442 : decode cL_law 442 = .ok (.invokevirtual 72, 3) := by decide +kernel
theorem dL_law_445 : decode cL_law 445 = .ok (.aload_n 2, 1) := by decide +kernel
theorem dL_law_446 : decode cL_law 446 = .ok (.aload_n 0, 1) := by decide +kernel
theorem dL_law_447 : decode cL_law 447 = .ok (.iload_n 3, 1) := by decide +kernel
theorem dL_law_448 : decode cL_law 448 = .ok (.iconst 1, 1) := by decide +kernel
theorem dL_law_449 : decode cL_law 449 = .ok (.iadd, 1) := by decide +kernel
theorem dL_law_450 : decode cL_law 450 = .ok (.iaload, 1) := by decide +kernel
theorem dL_law_451 : decode cL_law 451 = .ok (.invokevirtual 75, 3) := by decide +kernel
theorem dL_law_454 : decode cL_law 454 = .ok (.if_icmp .eq 78, 3) := by decide +kernel
theorem dL_law_457 : decode cL_law 457 = .ok (.iconst 0, 1) := by decide +kernel
theorem dL_law_458 : decode cL_law 458 = .ok (.ireturn, 1) := by decide +kernel
theorem dL_law_459 : decode cL_law 459 = .ok (.aload_n 1, 1) := by decide +kernel
theorem dL_law_460 : decode cL_law 460 = .ok (.invokevirtual 76, 3) := by decide +kernel
theorem dL_law_463 : decode cL_law 463 = .ok (.aload_n 2, 1) := by decide +kernel
theorem dL_law_464 : decode cL_law 464 = .ok (.invokevirtual 79, 3) := by decide +kernel
theorem dL_law_467 : decode cL_law 467 = .ok (.if_icmp .eq 65, 3) := by decide +kernel
theorem dL_law_470 : decode cL_law 470 = .ok (.iconst 0, 1) := by decide +kernel
theorem dL_law_471 : decode cL_law 471 = .ok (.ireturn, 1) := by decide +kernel
theorem dL_law_472 : decode cL_law 472 = .ok (.aload_n 1, 1) := by decide +kernel
theorem dL_law_473 : decode cL_law 473 = .ok (.aload_n 0, 1) := by decide +kernel
theorem dL_law_474 : decode cL_law 474 = .ok (.iload_n 3, 1) := by decide +kernel
theorem dL_law_475 : decode cL_law 475 = .ok (.iconst 1, 1) := by decide +kernel
theorem dL_law_476 : decode cL_law 476 = .ok (.iadd, 1) := by decide +kernel
theorem dL_law_477 : decode cL_law 477 = .ok (.iaload, 1) := by decide +kernel
theorem dL_law_478 : decode cL_law 478 = .ok (.invokevirtual 80, 3) := by decide +kernel
theorem dL_law_481 : decode cL_law 481 = .ok (.aload_n 2, 1) := by decide +kernel
theorem dL_law_482 : decode cL_law 482 = .ok (.aload_n 0, 1) := by decide +kernel
theorem dL_law_483 : decode cL_law 483 = .ok (.iload_n 3, 1) := by decide +kernel
theorem dL_law_484 : decode cL_law 484 = .ok (.iconst 1, 1) := by decide +kernel
theorem dL_law_485 : decode cL_law 485 = .ok (.iadd, 1) := by decide +kernel
theorem dL_law_486 : decode cL_law 486 = .ok (.iaload, 1) := by decide +kernel
theorem dL_law_487 : decode cL_law 487 = .ok (.invokevirtual 83, 3) := by decide +kernel
theorem dL_law_490 : decode cL_law 490 = .ok (.if_icmp .eq 42, 3) := by decide +kernel
theorem dL_law_493 : decode cL_law 493 = .ok (.iconst 0, 1) := by decide +kernel
theorem dL_law_494 : decode cL_law 494 = .ok (.ireturn, 1) := by decide +kernel
theorem dL_law_495 : decode cL_law 495 = .ok (.aload_n 1, 1) := by decide +kernel
theorem dL_law_496 : decode cL_law 496 = .ok (.aload_n 0, 1) := by decide +kernel
theorem dL_law_497 : decode cL_law 497 = .ok (.iload_n 3, 1) := by decide +kernel
theorem dL_law_498 : decode cL_law 498 = .ok (.iconst 1, 1) := by decide +kernel
theorem dL_law_499 : decode cL_law 499 = .ok (.iadd, 1) := by decide +kernel
theorem dL_law_500 : decode cL_law 500 = .ok (.iaload, 1) := by decide +kernel
theorem dL_law_501 : decode cL_law 501 = .ok (.invokevirtual 84, 3) := by decide +kernel
theorem dL_law_504 : decode cL_law 504 = .ok (.aload_n 2, 1) := by decide +kernel
theorem dL_law_505 : decode cL_law 505 = .ok (.aload_n 0, 1) := by decide +kernel
theorem dL_law_506 : decode cL_law 506 = .ok (.iload_n 3, 1) := by decide +kernel
theorem dL_law_507 : decode cL_law 507 = .ok (.iconst 1, 1) := by decide +kernel
theorem dL_law_508 : decode cL_law 508 = .ok (.iadd, 1) := by decide +kernel
theorem dL_law_509 : decode cL_law 509 = .ok (.iaload, 1) := by decide +kernel
theorem dL_law_510 : decode cL_law 510 = .ok (.invokevirtual 87, 3) := by decide +kernel
theorem dL_law_513 : decode cL_law 513 = .ok (.if_icmp .eq 19, 3) := by decide +kernel
theorem dL_law_516 : decode cL_law 516 = .ok (.iconst 0, 1) := by decide +kernel
theorem dL_law_517 : decode cL_law 517 = .ok (.ireturn, 1) := by decide +kernel
theorem dL_law_518 : decode cL_law 518 = .ok (.aload_n 1, 1) := by decide +kernel
theorem dL_law_519 : decode cL_law 519 = .ok (.invokevirtual 88, 3) := by decide +kernel
theorem dL_law_522 : decode cL_law 522 = .ok (.aload_n 2, 1) := by decide +kernel
theorem dL_law_523 : decode cL_law 523 = .ok (.invokevirtual 92, 3) := by decide +kernel
theorem dL_law_526 : decode cL_law 526 = .ok (.lcmp, 1) := by decide +kernel
theorem dL_law_527 : decode cL_law 527 = .ok (.ifCond .eq 5, 3) := by decide +kernel
theorem dL_law_530 : decode cL_law 530 = .ok (.iconst 0, 1) := by decide +kernel
theorem dL_law_531 : decode cL_law 531 = .ok (.ireturn, 1) := by decide +kernel
theorem dL_law_532 : decode cL_law 532 = .ok (.iinc 3 3, 3) := by decide +kernel
theorem dL_law_535 : decode cL_law 535 = .ok (.goto (-517), 3) := by decide +kernel
theorem dL_law_538 : decode cL_law 538 = .ok (.iconst 1, 1) := by decide +kernel
theorem dL_law_539 : decode cL_law 539 = .ok (.ireturn, 1) := by decide +kernel
