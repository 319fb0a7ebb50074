theorem dX3_clashes_25 : decode cX3_clashes 25 = .ok (.iload_n 2, 1) := by decide +kernel
theorem dX3_clashes_26 : decode cX3_clashes 26 = .ok (.iload_n 3, 1) := by decide +kernel
theorem dX3_clashes_27 : decode cX3_clashes 27 = .ok (.invokevirtual 56, 3) := by decide +kernel
theorem dX3_clashes_30 : decode cX3_clashes 30 = .ok (.ifCond .eq 6, 3) := by decide +kernel
theorem dX3_clashes_33 : decode cX3_clashes 33 = .ok (.iinc 1 1, 3) := by decide +kernel
theorem dX3_clashes_36 : decode cX3_clashes 36 = .ok (.iinc 3 1, 3) := by decide +kernel
theorem dX3_clashes_39 : decode cX3_clashes 39 = .ok (.goto (-23), 3) := by decide +kernel
theorem dX3_clashes_42 : decode cX3_clashes 42 = .ok (.iinc 2 1, 3) := by decide +kernel
theorem dX3_clashes_45 : decode cX3_clashes 45 = .ok (.goto (-41), 3) := by decide +kernel
theorem dX3_clashes_48 : decode cX3_clashes 48 = .ok (.iload_n 1, 1) := by decide +kernel
theorem dX3_clashes_49 : decode cX3_clashes 49 = .ok (.ireturn, 1) := by decide +kernel
theorem dX4_init_0 : decode cX4_init 0 = .ok (.aload_n 0, 1) := by decide +kernel
theorem dX4_init_1 : decode cX4_init 1 = .ok (.invokespecial 3, 3) := by decide +kernel
theorem dX4_init_4 : decode cX4_init 4 = .ok (.aload_n 0, 1) := by decide +kernel
theorem dX4_init_5 : decode cX4_init 5 = .ok (.new 9, 3) := by decide +kernel
theorem dX4_init_8 : decode cX4_init 8 = .ok (.dup, 1) := by decide +kernel
theorem dX4_init_9 : decode cX4_init 9 = .ok (.bipush 10, 2) := by decide +kernel
theorem dX4_init_11 : decode cX4_init 11 = .ok (.invokespecial 11, 3) := by decide +kernel
theorem dX4_init_14 : decode cX4_init 14 = .ok (.putfield 14, 3) := by decide +kernel
theorem dX4_init_17 : decode cX4_init 17 = .ok (.aload_n 0, 1) := by decide +kernel
theorem dX4_init_18 : decode cX4_init 18 = .ok (.new 9, 3) := by decide +kernel
theorem dX4_init_21 : decode cX4_init 21 = .ok (.dup, 1) := by decide +kernel
theorem dX4_init_22 : decode cX4_init 22 = .ok (.bipush 10, 2) := by decide +kernel
theorem dX4_init_24 : decode cX4_init 24 = .ok (.invokespecial 11, 3) := by decide +kernel
theorem dX4_init_27 : decode cX4_init 27 = .ok (.putfield 20, 3) := by decide +kernel
theorem dX4_init_30 : decode cX4_init 30 = .ok (.aload_n 0, 1) := by decide +kernel
theorem dX4_init_31 : decode cX4_init 31 = .ok (.iconst (-1), 1) := by decide +kernel
theorem dX4_init_32 : decode cX4_init 32 = .ok (.putfield 23, 3) := by decide +kernel
theorem dX4_init_35 : decode cX4_init 35 = .ok (.return_, 1) := by decide +kernel
theorem dX4_way_0 : decode cX4_way 0 = .ok (.aload_n 0, 1) := by decide +kernel
theorem dX4_way_1 : decode cX4_way 1 = .ok (.getfield 23, 3) := by decide +kernel
theorem dX4_way_4 : decode cX4_way 4 = .ok (.ireturn, 1) := by decide +kernel
theorem dX4_times_0 : decode cX4_times 0 = .ok (.aload_n 0, 1) := by decide +kernel
theorem dX4_times_1 : decode cX4_times 1 = .ok (.getfield 27, 3) := by decide +kernel
theorem dX4_times_4 : decode cX4_times 4 = .ok (.ireturn, 1) := by decide +kernel
theorem dX4_result_0 : decode cX4_result 0 = .ok (.aload_n 0, 1) := by decide +kernel
theorem dX4_result_1 : decode cX4_result 1 = .ok (.getfield 14, 3) := by decide +kernel
theorem dX4_result_4 : decode cX4_result 4 = .ok (.areturn, 1) := by decide +kernel
theorem dX4_read_0 : decode cX4_read 0 = .ok (.aload_n 0, 1) := by decide +kernel
theorem dX4_read_1 : decode cX4_read 1 = .ok (.getfield 14, 3) := by decide +kernel
theorem dX4_read_4 : decode cX4_read 4 = .ok (.aload_n 2, 1) := by decide +kernel
theorem dX4_read_5 : decode cX4_read 5 = .ok (.invokevirtual 30, 3) := by decide +kernel
theorem dX4_read_8 : decode cX4_read 8 = .ok (.aload_n 0, 1) := by decide +kernel
theorem dX4_read_9 : decode cX4_read 9 = .ok (.iconst (-1), 1) := by decide +kernel
theorem dX4_read_10 : decode cX4_read 10 = .ok (.putfield 23, 3) := by decide +kernel
theorem dX4_read_13 : decode cX4_read 13 = .ok (.aload_n 0, 1) := by decide +kernel
theorem dX4_read_14 : decode cX4_read 14 = .ok (.iconst 0, 1) := by decide +kernel
theorem dX4_read_15 : decode cX4_read 15 = .ok (.putfield 27, 3) := by decide +kernel
theorem dX4_read_18 : decode cX4_read 18 = .ok (.aload_n 0, 1) := by decide +kernel
theorem dX4_read_19 : decode cX4_read 19 = .ok (.getfield 27, 3) := by decide +kernel
theorem dX4_read_22 : decode cX4_read 22 = .ok (.bipush 6, 2) := by decide +kernel
theorem dX4_read_24 : decode cX4_read 24 = .ok (.if_icmp .ge 63, 3) := by decide +kernel
theorem dX4_read_27 : decode cX4_read 27 = .ok (.aload_n 0, 1) := by decide +kernel
theorem dX4_read_28 : decode cX4_read 28 = .ok (.dup, 1) := by decide +kernel
theorem dX4_read_29 : decode cX4_read 29 = .ok (.getfield 27, 3) := by decide +kernel
theorem dX4_read_32 : decode cX4_read 32 = .ok (.iconst 1, 1) := by decide +kernel
theorem dX4_read_33 : decode cX4_read 33 = .ok (.iadd, 1) := by decide +kernel
theorem dX4_read_34 : decode cX4_read 34 = .ok (.putfield 27, 3) := by decide +kernel
theorem dX4_read_37 : decode cX4_read 37 = .ok (.aload_n 1, 1) := by decide +kernel
theorem dX4_read_38 : decode cX4_read 38 = .ok (.aload_n 1, 1) := by decide +kernel
theorem dX4_read_39 : decode cX4_read 39 = .ok (.aload_n 0, 1) := by decide +kernel
theorem dX4_read_40 : decode cX4_read 40 = .ok (.getfield 14, 3) := by decide +kernel
theorem dX4_read_43 : decode cX4_read 43 = .ok (.iconst 0, 1) := by decide +kernel
theorem dX4_read_44 : decode cX4_read 44 = .ok (.invokevirtual 34, 3) := by decide +kernel
theorem dX4_read_47 : decode cX4_read 47 = .ok (.invokevirtual 40, 3) := by decide +kernel
theorem dX4_read_50 : decode cX4_read 50 = .ok (.astore_n 3, 1) := by decide +kernel
theorem dX4_read_51 : decode cX4_read 51 = .ok (.aload_n 3, 1) := by decide +kernel
theorem dX4_read_52 : decode cX4_read 52 = .ok (.ifnull 35, 3) := by decide +kernel
theorem dX4_read_55 : decode cX4_read 55 = .ok (.aload_n 0, 1) := by decide +kernel
theorem dX4_read_56 : decode cX4_read 56 = .ok (.aload_n 3, 1) := by decide +kernel
theorem dX4_read_57 : decode cX4_read 57 = .ok (.invokevirtual 44, 3) := by decide +kernel
theorem dX4_read_60 : decode cX4_read 60 = .ok (.ifCond .ne 6, 3) := by decide +kernel
theorem dX4_read_63 : decode cX4_read 63 = .ok (.goto 24, 3) := by decide +kernel
theorem dX4_read_66 : decode cX4_read 66 = .ok (.aload_n 3, 1) := by decide +kernel
theorem dX4_read_67 : decode cX4_read 67 = .ok (.invokevirtual 48, 3) := by decide +kernel
theorem dX4_read_70 : decode cX4_read 70 = .ok (.bipush 10, 2) := by decide +kernel
theorem dX4_read_72 : decode cX4_read 72 = .ok (.if_icmp .eq 12, 3) := by decide +kernel
theorem dX4_read_75 : decode cX4_read 75 = .ok (.aload_n 0, 1) := by decide +kernel
theorem dX4_read_76 : decode cX4_read 76 = .ok (.aload_n 3, 1) := by decide +kernel
theorem dX4_read_77 : decode cX4_read 77 = .ok (.invokevirtual 48, 3) := by decide +kernel
theorem dX4_read_80 : decode cX4_read 80 = .ok (.putfield 23, 3) := by decide +kernel
theorem dX4_read_83 : decode cX4_read 83 = .ok (.return_, 1) := by decide +kernel
theorem dX4_read_84 : decode cX4_read 84 = .ok (.goto (-66), 3) := by decide +kernel
theorem dX4_read_87 : decode cX4_read 87 = .ok (.aload_n 0, 1) := by decide +kernel
theorem dX4_read_88 : decode cX4_read 88 = .ok (.getfield 14, 3) := by decide +kernel
theorem dX4_read_91 : decode cX4_read 91 = .ok (.invokevirtual 53, 3) := by decide +kernel
theorem dX4_read_94 : decode cX4_read 94 = .ok (.return_, 1) := by decide +kernel
theorem dX4_rewrite_0 : decode cX4_rewrite 0 = .ok (.aload_n 0, 1) := by decide +kernel
theorem dX4_rewrite_1 : decode cX4_rewrite 1 = .ok (.getfield 20, 3) := by decide +kernel
theorem dX4_rewrite_4 : decode cX4_rewrite 4 = .ok (.aload_n 1, 1) := by decide +kernel
theorem dX4_rewrite_5 : decode cX4_rewrite 5 = .ok (.invokevirtual 56, 3) := by decide +kernel
theorem dX4_rewrite_8 : decode cX4_rewrite 8 = .ok (.invokevirtual 30, 3) := by decide +kernel
theorem dX4_rewrite_11 : decode cX4_rewrite 11 = .ok (.iconst 1, 1) := by decide +kernel
theorem dX4_rewrite_12 : decode cX4_rewrite 12 = .ok (.istore_n 2, 1) := by decide +kernel
theorem dX4_rewrite_13 : decode cX4_rewrite 13 = .ok (.aload_n 1, 1) := by decide +kernel
theorem dX4_rewrite_14 : decode cX4_rewrite 14 = .ok (.invokevirtual 60, 3) := by decide +kernel
theorem dX4_rewrite_17 : decode cX4_rewrite 17 = .ok (.istore_n 3, 1) := by decide +kernel
theorem dX4_rewrite_18 : decode cX4_rewrite 18 = .ok (.iload_n 3, 1) := by decide +kernel
theorem dX4_rewrite_19 : decode cX4_rewrite 19 = .ok (.aload_n 0, 1) := by decide +kernel
theorem dX4_rewrite_20 : decode cX4_rewrite 20 = .ok (.getfield 14, 3) := by decide +kernel
theorem dX4_rewrite_23 : decode cX4_rewrite 23 = .ok (.invokevirtual 63, 3) := by decide +kernel
theorem dX4_rewrite_26 : decode cX4_rewrite 26 = .ok (.if_icmp .ge 37, 3) := by decide +kernel
theorem dX4_rewrite_29 : decode cX4_rewrite 29 = .ok (.aload_n 0, 1) := by decide +kernel
theorem dX4_rewrite_30 : decode cX4_rewrite 30 = .ok (.getfield 20, 3) := by decide +kernel
theorem dX4_rewrite_33 : decode cX4_rewrite 33 = .ok (.aload_n 0, 1) := by decide +kernel
theorem dX4_rewrite_34 : decode cX4_rewrite 34 = .ok (.getfield 14, 3) := by decide +kernel
theorem dX4_rewrite_37 : decode cX4_rewrite 37 = .ok (.iload_n 3, 1) := by decide +kernel
theorem dX4_rewrite_38 : decode cX4_rewrite 38 = .ok (.invokevirtual 66, 3) := by decide +kernel
theorem dX4_rewrite_41 : decode cX4_rewrite 41 = .ok (.invokevirtual 69, 3) := by decide +kernel
theorem dX4_rewrite_44 : decode cX4_rewrite 44 = .ok (.ifCond .eq 11, 3) := by decide +kernel
theorem dX4_rewrite_47 : decode cX4_rewrite 47 = .ok (.iload_n 2, 1) := by decide +kernel
theorem dX4_rewrite_48 : decode cX4_rewrite 48 = .ok (.ifCond .eq 7, 3) := by decide +kernel
theorem dX4_rewrite_51 : decode cX4_rewrite 51 = .ok (.iconst 1, 1) := by decide +kernel
theorem dX4_rewrite_52 : decode cX4_rewrite 52 = .ok (.goto 4, 3) := by decide +kernel
theorem dX4_rewrite_55 : decode cX4_rewrite 55 = .ok (.iconst 0, 1) := by decide +kernel
theorem dX4_rewrite_56 : decode cX4_rewrite 56 = .ok (.istore_n 2, 1) := by decide +kernel
theorem dX4_rewrite_57 : decode cX4_rewrite 57 = .ok (.iinc 3 1, 3) := by decide +kernel
theorem dX4_rewrite_60 : decode cX4_rewrite 60 = .ok (.goto (-42), 3) := by decide +kernel
theorem dX4_rewrite_63 : decode cX4_rewrite 63 = .ok (.aload_n 0, 1) := by decide +kernel
theorem dX4_rewrite_64 : decode cX4_rewrite 64 = .ok (.getfield 14, 3) := by decide +kernel
theorem dX4_rewrite_67 : decode cX4_rewrite 67 = .ok (.aload_n 0, 1) := by decide +kernel
theorem dX4_rewrite_68 : decode cX4_rewrite 68 = .ok (.getfield 20, 3) := by decide +kernel
theorem dX4_rewrite_71 : decode cX4_rewrite 71 = .ok (.invokevirtual 30, 3) := by decide +kernel
theorem dX4_rewrite_74 : decode cX4_rewrite 74 = .ok (.iload_n 2, 1) := by decide +kernel
theorem dX4_rewrite_75 : decode cX4_rewrite 75 = .ok (.ifCond .eq 17, 3) := by decide +kernel
theorem dX4_rewrite_78 : decode cX4_rewrite 78 = .ok (.aload_n 0, 1) := by decide +kernel
theorem dX4_rewrite_79 : decode cX4_rewrite 79 = .ok (.getfield 14, 3) := by decide +kernel
theorem dX4_rewrite_82 : decode cX4_rewrite 82 = .ok (.invokevirtual 63, 3) := by decide +kernel
theorem dX4_rewrite_85 : decode cX4_rewrite 85 = .ok (.ifCond .le 7, 3) := by decide +kernel
theorem dX4_rewrite_88 : decode cX4_rewrite 88 = .ok (.iconst 1, 1) := by decide +kernel
theorem dX4_rewrite_89 : decode cX4_rewrite 89 = .ok (.goto 4, 3) := by decide +kernel
theorem dX4_rewrite_92 : decode cX4_rewrite 92 = .ok (.iconst 0, 1) := by decide +kernel
theorem dX4_rewrite_93 : decode cX4_rewrite 93 = .ok (.ireturn, 1) := by decide +kernel
theorem dX5_init_0 : decode cX5_init 0 = .ok (.aload_n 0, 1) := by decide +kernel
theorem dX5_init_1 : decode cX5_init 1 = .ok (.invokespecial 3, 3) := by decide +kernel
theorem dX5_init_4 : decode cX5_init 4 = .ok (.aload_n 0, 1) := by decide +kernel
theorem dX5_init_5 : decode cX5_init 5 = .ok (.iload_n 1, 1) := by decide +kernel
theorem dX5_init_6 : decode cX5_init 6 = .ok (.iconst 0, 1) := by decide +kernel
theorem dX5_init_7 : decode cX5_init 7 = .ok (.invokestatic 9, 3) := by decide +kernel
theorem dX5_init_10 : decode cX5_init 10 = .ok (.newarray .int, 2) := by decide +kernel
theorem dX5_init_12 : decode cX5_init 12 = .ok (.putfield 15, 3) := by decide +kernel
theorem dX5_init_15 : decode cX5_init 15 = .ok (.return_, 1) := by decide +kernel
theorem dX5_size_0 : decode cX5_size 0 = .ok (.aload_n 0, 1) := by decide +kernel
theorem dX5_size_1 : decode cX5_size 1 = .ok (.getfield 21, 3) := by decide +kernel
theorem dX5_size_4 : decode cX5_size 4 = .ok (.ireturn, 1) := by decide +kernel
theorem dX5_at_0 : decode cX5_at 0 = .ok (.iload_n 1, 1) := by decide +kernel
theorem dX5_at_1 : decode cX5_at 1 = .ok (.ifCond .lt 24, 3) := by decide +kernel
theorem dX5_at_4 : decode cX5_at 4 = .ok (.iload_n 1, 1) := by decide +kernel
theorem dX5_at_5 : decode cX5_at 5 = .ok (.aload_n 0, 1) := by decide +kernel
theorem dX5_at_6 : decode cX5_at 6 = .ok (.getfield 21, 3) := by decide +kernel
theorem dX5_at_9 : decode cX5_at 9 = .ok (.if_icmp .ge 16, 3) := by decide +kernel
theorem dX5_at_12 : decode cX5_at 12 = .ok (.iload_n 1, 1) := by decide +kernel
theorem dX5_at_13 : decode cX5_at 13 = .ok (.aload_n 0, 1) := by decide +kernel
theorem dX5_at_14 : decode cX5_at 14 = .ok (.getfield 15, 3) := by decide +kernel
theorem dX5_at_17 : decode cX5_at 17 = .ok (.arraylength, 1) := by decide +kernel
theorem dX5_at_18 : decode cX5_at 18 = .ok (.if_icmp .ge 7, 3) := by decide +kernel
theorem dX5_at_21 : decode cX5_at 21 = .ok (.iconst 1, 1) := by decide +kernel
theorem dX5_at_22 : decode cX5_at 22 = .ok (.goto 4, 3) := by decide +kernel
theorem dX5_at_25 : decode cX5_at 25 = .ok (.iconst 0, 1) := by decide +kernel
theorem dX5_at_26 : decode cX5_at 26 = .ok (.istore_n 2, 1) := by decide +kernel
theorem dX5_at_27 : decode cX5_at 27 = .ok (.iload_n 2, 1) := by decide +kernel
theorem dX5_at_28 : decode cX5_at 28 = .ok (.ifCond .eq 12, 3) := by decide +kernel
theorem dX5_at_31 : decode cX5_at 31 = .ok (.aload_n 0, 1) := by decide +kernel
theorem dX5_at_32 : decode cX5_at 32 = .ok (.getfield 15, 3) := by decide +kernel
theorem dX5_at_35 : decode cX5_at 35 = .ok (.iload_n 1, 1) := by decide +kernel
theorem dX5_at_36 : decode cX5_at 36 = .ok (.iaload, 1) := by decide +kernel
theorem dX5_at_37 : decode cX5_at 37 = .ok (.goto 4, 3) := by decide +kernel
theorem dX5_at_40 : decode cX5_at 40 = .ok (.iconst (-1), 1) := by decide +kernel
theorem dX5_at_41 : decode cX5_at 41 = .ok (.ireturn, 1) := by decide +kernel
theorem dX5_clear_0 : decode cX5_clear 0 = .ok (.aload_n 0, 1) := by decide +kernel
theorem dX5_clear_1 : decode cX5_clear 1 = .ok (.iconst 0, 1) := by decide +kernel
theorem dX5_clear_2 : decode cX5_clear 2 = .ok (.putfield 21, 3) := by decide +kernel
theorem dX5_clear_5 : decode cX5_clear 5 = .ok (.return_, 1) := by decide +kernel
theorem dX5_append_0 : decode cX5_append 0 = .ok (.aload_n 0, 1) := by decide +kernel
theorem dX5_append_1 : decode cX5_append 1 = .ok (.getfield 21, 3) := by decide +kernel
theorem dX5_append_4 : decode cX5_append 4 = .ok (.ifCond .lt 15, 3) := by decide +kernel
theorem dX5_append_7 : decode cX5_append 7 = .ok (.aload_n 0, 1) := by decide +kernel
theorem dX5_append_8 : decode cX5_append 8 = .ok (.getfield 21, 3) := by decide +kernel
theorem dX5_append_11 : decode cX5_append 11 = .ok (.aload_n 0, 1) := by decide +kernel
theorem dX5_append_12 : decode cX5_append 12 = .ok (.getfield 15, 3) := by decide +kernel
theorem dX5_append_15 : decode cX5_append 15 = .ok (.arraylength, 1) := by decide +kernel
theorem dX5_append_16 : decode cX5_append 16 = .ok (.if_icmp .lt 5, 3) := by decide +kernel
theorem dX5_append_19 : decode cX5_append 19 = .ok (.iconst 0, 1) := by decide +kernel
theorem dX5_append_20 : decode cX5_append 20 = .ok (.ireturn, 1) := by decide +kernel
theorem dX5_append_21 : decode cX5_append 21 = .ok (.aload_n 0, 1) := by decide +kernel
theorem dX5_append_22 : decode cX5_append 22 = .ok (.getfield 15, 3) := by decide +kernel
theorem dX5_append_25 : decode cX5_append 25 = .ok (.aload_n 0, 1) := by decide +kernel
theorem dX5_append_26 : decode cX5_append 26 = .ok (.getfield 21, 3) := by decide +kernel
theorem dX5_append_29 : decode cX5_append 29 = .ok (.iload_n 1, 1) := by decide +kernel
theorem dX5_append_30 : decode cX5_append 30 = .ok (.iastore, 1) := by decide +kernel
theorem dX5_append_31 : decode cX5_append 31 = .ok (.aload_n 0, 1) := by decide +kernel
theorem dX5_append_32 : decode cX5_append 32 = .ok (.dup, 1) := by decide +kernel
theorem dX5_append_33 : decode cX5_append 33 = .ok (.getfield 21, 3) := by decide +kernel
theorem dX5_append_36 : decode cX5_append 36 = .ok (.iconst 1, 1) := by decide +kernel
theorem dX5_append_37 : decode cX5_append 37 = .ok (.iadd, 1) := by decide +kernel
theorem dX5_append_38 : decode cX5_append 38 = .ok (.putfield 21, 3) := by decide +kernel
theorem dX5_append_41 : decode cX5_append 41 = .ok (.iconst 1, 1) := by decide +kernel
theorem dX5_append_42 : decode cX5_append 42 = .ok (.ireturn, 1) := by decide +kernel
theorem dX5_copyFrom_0 : decode cX5_copyFrom 0 = .ok (.aload_n 0, 1) := by decide +kernel
theorem dX5_copyFrom_1 : decode cX5_copyFrom 1 = .ok (.invokevirtual 25, 3) := by decide +kernel
theorem dX5_copyFrom_4 : decode cX5_copyFrom 4 = .ok (.iconst 0, 1) := by decide +kernel
theorem dX5_copyFrom_5 : decode cX5_copyFrom 5 = .ok (.istore_n 2, 1) := by decide +kernel
theorem dX5_copyFrom_6 : decode cX5_copyFrom 6 = .ok (.iload_n 2, 1) := by decide +kernel
theorem dX5_copyFrom_7 : decode cX5_copyFrom 7 = .ok (.aload_n 1, 1) := by decide +kernel
theorem dX5_copyFrom_8 : decode cX5_copyFrom 8 = .ok (.invokevirtual 28, 3) := by decide +kernel
theorem dX5_copyFrom_11 : decode cX5_copyFrom 11 = .ok (.if_icmp .ge 19, 3) := by decide +kernel
theorem dX5_copyFrom_14 : decode cX5_copyFrom 14 = .ok (.aload_n 0, 1) := by decide +kernel
theorem dX5_copyFrom_15 : decode cX5_copyFrom 15 = .ok (.aload_n 1, 1) := by decide +kernel
theorem dX5_copyFrom_16 : decode cX5_copyFrom 16 = .ok (.iload_n 2, 1) := by decide +kernel
theorem dX5_copyFrom_17 : decode cX5_copyFrom 17 = .ok (.invokevirtual 31, 3) := by decide +kernel
theorem dX5_copyFrom_20 : decode cX5_copyFrom 20 = .ok (.invokevirtual 35, 3) := by decide +kernel
theorem dX5_copyFrom_23 : decode cX5_copyFrom 23 = .ok (.pop, 1) := by decide +kernel
theorem dX5_copyFrom_24 : decode cX5_copyFrom 24 = .ok (.iinc 2 1, 3) := by decide +kernel
theorem dX5_copyFrom_27 : decode cX5_copyFrom 27 = .ok (.goto (-21), 3) := by decide +kernel
theorem dX5_copyFrom_30 : decode cX5_copyFrom 30 = .ok (.return_, 1) := by decide +kernel
theorem dX5_isLike_0 : decode cX5_isLike 0 = .ok (.aload_n 0, 1) := by decide +kernel
theorem dX5_isLike_1 : decode cX5_isLike 1 = .ok (.getfield 21, 3) := by decide +kernel
theorem dX5_isLike_4 : decode cX5_isLike 4 = .ok (.aload_n 1, 1) := by decide +kernel
theorem dX5_isLike_5 : decode cX5_isLike 5 = .ok (.getfield 21, 3) := by decide +kernel
theorem dX5_isLike_8 : decode cX5_isLike 8 = .ok (.if_icmp .eq 5, 3) := by decide +kernel
theorem dX5_isLike_11 : decode cX5_isLike 11 = .ok (.iconst 0, 1) := by decide +kernel
theorem dX5_isLike_12 : decode cX5_isLike 12 = .ok (.ireturn, 1) := by decide +kernel
theorem dX5_isLike_13 : decode cX5_isLike 13 = .ok (.iconst 0, 1) := by decide +kernel
theorem dX5_isLike_14 : decode cX5_isLike 14 = .ok (.istore_n 2, 1) := by decide +kernel
theorem dX5_isLike_15 : decode cX5_isLike 15 = .ok (.iload_n 2, 1) := by decide +kernel
theorem dX5_isLike_16 : decode cX5_isLike 16 = .ok (.aload_n 0, 1) := by decide +kernel
theorem dX5_isLike_17 : decode cX5_isLike 17 = .ok (.getfield 21, 3) := by decide +kernel
theorem dX5_isLike_20 : decode cX5_isLike 20 = .ok (.if_icmp .ge 44, 3) := by decide +kernel
theorem dX5_isLike_23 : decode cX5_isLike 23 = .ok (.iload_n 2, 1) := by decide +kernel
theorem dX5_isLike_24 : decode cX5_isLike 24 = .ok (.aload_n 0, 1) := by decide +kernel
theorem dX5_isLike_25 : decode cX5_isLike 25 = .ok (.getfield 15, 3) := by decide +kernel
theorem dX5_isLike_28 : decode cX5_isLike 28 = .ok (.arraylength, 1) := by decide +kernel
theorem dX5_isLike_29 : decode cX5_isLike 29 = .ok (.if_icmp .ge 35, 3) := by decide +kernel
theorem dX5_isLike_32 : decode cX5_isLike 32 = .ok (.iload_n 2, 1) := by decide +kernel
theorem dX5_isLike_33 : decode cX5_isLike 33 = .ok (.aload_n 1, 1) := by decide +kernel
theorem dX5_isLike_34 : decode cX5_isLike 34 = .ok (.getfield 15, 3) := by decide +kernel
theorem dX5_isLike_37 : decode cX5_isLike 37 = .ok (.arraylength, 1) := by decide +kernel
theorem dX5_isLike_38 : decode cX5_isLike 38 = .ok (.if_icmp .ge 26, 3) := by decide +kernel
theorem dX5_isLike_41 : decode cX5_isLike 41 = .ok (.aload_n 0, 1) := by decide +kernel
theorem dX5_isLike_42 : decode cX5_isLike 42 = .ok (.getfield 15, 3) := by decide +kernel
theorem dX5_isLike_45 : decode cX5_isLike 45 = .ok (.iload_n 2, 1) := by decide +kernel
theorem dX5_isLike_46 : decode cX5_isLike 46 = .ok (.iaload, 1) := by decide +kernel
theorem dX5_isLike_47 : decode cX5_isLike 47 = .ok (.aload_n 1, 1) := by decide +kernel
theorem dX5_isLike_48 : decode cX5_isLike 48 = .ok (.getfield 15, 3) := by decide +kernel
theorem dX5_isLike_51 : decode cX5_isLike 51 = .ok (.iload_n 2, 1) := by decide +kernel
theorem dX5_isLike_52 : decode cX5_isLike 52 = .ok (.iaload, 1) := by decide +kernel
theorem dX5_isLike_53 : decode cX5_isLike 53 = .ok (.if_icmp .eq 5, 3) := by decide +kernel
theorem dX5_isLike_56 : decode cX5_isLike 56 = .ok (.iconst 0, 1) := by decide +kernel
theorem dX5_isLike_57 : decode cX5_isLike 57 = .ok (.ireturn, 1) := by decide +kernel
theorem dX5_isLike_58 : decode cX5_isLike 58 = .ok (.iinc 2 1, 3) := by decide +kernel
theorem dX5_isLike_61 : decode cX5_isLike 61 = .ok (.goto (-46), 3) := by decide +kernel
theorem dX5_isLike_64 : decode cX5_isLike 64 = .ok (.iconst 1, 1) := by decide +kernel
theorem dX5_isLike_65 : decode cX5_isLike 65 = .ok (.ireturn, 1) := by decide +kernel
theorem dX5_asNumber_0 : decode cX5_asNumber 0 = .ok (.iconst 0, 1) := by decide +kernel
theorem dX5_asNumber_1 : decode cX5_asNumber 1 = .ok (.istore_n 1, 1) := by decide +kernel
theorem dX5_asNumber_2 : decode cX5_asNumber 2 = .ok (.iconst 0, 1) := by decide +kernel
theorem dX5_asNumber_3 : decode cX5_asNumber 3 = .ok (.istore_n 2, 1) := by decide +kernel
theorem dX5_asNumber_4 : decode cX5_asNumber 4 = .ok (.iload_n 2, 1) := by decide +kernel
theorem dX5_asNumber_5 : decode cX5_asNumber 5 = .ok (.aload_n 0, 1) := by decide +kernel
theorem dX5_asNumber_6 : decode cX5_asNumber 6 = .ok (.getfield 21, 3) := by decide +kernel
theorem dX5_asNumber_9 : decode cX5_asNumber 9 = .ok (.if_icmp .ge 20, 3) := by decide +kernel
theorem dX5_asNumber_12 : decode cX5_asNumber 12 = .ok (.bipush 10, 2) := by decide +kernel
theorem dX5_asNumber_14 : decode cX5_asNumber 14 = .ok (.iload_n 1, 1) := by decide +kernel
theorem dX5_asNumber_15 : decode cX5_asNumber 15 = .ok (.imul, 1) := by decide +kernel
theorem dX5_asNumber_16 : decode cX5_asNumber 16 = .ok (.aload_n 0, 1) := by decide +kernel
theorem dX5_asNumber_17 : decode cX5_asNumber 17 = .ok (.iload_n 2, 1) := by decide +kernel
theorem dX5_asNumber_18 : decode cX5_asNumber 18 = .ok (.invokevirtual 31, 3) := by decide +kernel
theorem dX5_asNumber_21 : decode cX5_asNumber 21 = .ok (.iadd, 1) := by decide +kernel
theorem dX5_asNumber_22 : decode cX5_asNumber 22 = .ok (.istore_n 1, 1) := by decide +kernel
theorem dX5_asNumber_23 : decode cX5_asNumber 23 = .ok (.iinc 2 1, 3) := by decide +kernel
theorem dX5_asNumber_26 : decode cX5_asNumber 26 = .ok (.goto (-22), 3) := by decide +kernel
theorem dX5_asNumber_29 : decode cX5_asNumber 29 = .ok (.iload_n 1, 1) := by decide +kernel
theorem dX5_asNumber_30 : decode cX5_asNumber 30 = .ok (.ireturn, 1) := by decide +kernel
theorem dX6_init_0 : decode cX6_init 0 = .ok (.aload_n 0, 1) := by decide +kernel
theorem dX6_init_1 : decode cX6_init 1 = .ok (.invokespecial 1, 3) := by decide +kernel
theorem dX6_init_4 : decode cX6_init 4 = .ok (.aload_n 0, 1) := by decide +kernel
theorem dX6_init_5 : decode cX6_init 5 = .ok (.new 7, 3) := by decide +kernel
theorem dX6_init_8 : decode cX6_init 8 = .ok (.dup, 1) := by decide +kernel
theorem dX6_init_9 : decode cX6_init 9 = .ok (.bipush 52, 2) := by decide +kernel
theorem dX6_init_11 : decode cX6_init 11 = .ok (.invokespecial 11, 3) := by decide +kernel
theorem dX6_init_14 : decode cX6_init 14 = .ok (.putfield 14, 3) := by decide +kernel
theorem dX6_init_17 : decode cX6_init 17 = .ok (.aload_n 0, 1) := by decide +kernel
theorem dX6_init_18 : decode cX6_init 18 = .ok (.new 18, 3) := by decide +kernel
theorem dX6_init_21 : decode cX6_init 21 = .ok (.dup, 1) := by decide +kernel
theorem dX6_init_22 : decode cX6_init 22 = .ok (.invokespecial 20, 3) := by decide +kernel
theorem dX6_init_25 : decode cX6_init 25 = .ok (.putfield 21, 3) := by decide +kernel
theorem dX6_init_28 : decode cX6_init 28 = .ok (.aload_n 0, 1) := by decide +kernel
theorem dX6_init_29 : decode cX6_init 29 = .ok (.new 25, 3) := by decide +kernel
theorem dX6_init_32 : decode cX6_init 32 = .ok (.dup, 1) := by decide +kernel
theorem dX6_init_33 : decode cX6_init 33 = .ok (.invokespecial 27, 3) := by decide +kernel
theorem dX6_init_36 : decode cX6_init 36 = .ok (.putfield 28, 3) := by decide +kernel
theorem dX6_init_39 : decode cX6_init 39 = .ok (.aload_n 0, 1) := by decide +kernel
theorem dX6_init_40 : decode cX6_init 40 = .ok (.new 7, 3) := by decide +kernel
theorem dX6_init_43 : decode cX6_init 43 = .ok (.dup, 1) := by decide +kernel
theorem dX6_init_44 : decode cX6_init 44 = .ok (.bipush 10, 2) := by decide +kernel
theorem dX6_init_46 : decode cX6_init 46 = .ok (.invokespecial 11, 3) := by decide +kernel
theorem dX6_init_49 : decode cX6_init 49 = .ok (.putfield 32, 3) := by decide +kernel
theorem dX6_init_52 : decode cX6_init 52 = .ok (.aload_n 0, 1) := by decide +kernel
theorem dX6_init_53 : decode cX6_init 53 = .ok (.new 35, 3) := by decide +kernel
theorem dX6_init_56 : decode cX6_init 56 = .ok (.dup, 1) := by decide +kernel
theorem dX6_init_57 : decode cX6_init 57 = .ok (.invokespecial 37, 3) := by decide +kernel
theorem dX6_init_60 : decode cX6_init 60 = .ok (.putfield 38, 3) := by decide +kernel
theorem dX6_init_63 : decode cX6_init 63 = .ok (.aload_n 0, 1) := by decide +kernel
theorem dX6_init_64 : decode cX6_init 64 = .ok (.new 42, 3) := by decide +kernel
theorem dX6_init_67 : decode cX6_init 67 = .ok (.dup, 1) := by decide +kernel
theorem dX6_init_68 : decode cX6_init 68 = .ok (.invokespecial 44, 3) := by decide +kernel
theorem dX6_init_71 : decode cX6_init 71 = .ok (.putfield 45, 3) := by decide +kernel
theorem dX6_init_74 : decode cX6_init 74 = .ok (.return_, 1) := by decide +kernel
theorem dX6_letter_0 : decode cX6_letter 0 = .ok (.iload_n 1, 1) := by decide +kernel
theorem dX6_letter_1 : decode cX6_letter 1 = .ok (.bipush 32, 2) := by decide +kernel
theorem dX6_letter_3 : decode cX6_letter 3 = .ok (.if_icmp .lt 9, 3) := by decide +kernel
theorem dX6_letter_6 : decode cX6_letter 6 = .ok (.iload_n 1, 1) := by decide +kernel
theorem dX6_letter_7 : decode cX6_letter 7 = .ok (.bipush 126, 2) := by decide +kernel
theorem dX6_letter_9 : decode cX6_letter 9 = .ok (.if_icmp .le 7, 3) := by decide +kernel
theorem dX6_letter_12 : decode cX6_letter 12 = .ok (.sipush (-1002), 3) := by decide +kernel
theorem dX6_letter_15 : decode cX6_letter 15 = .ok (.ireturn, 1) := by decide +kernel
theorem dX6_letter_16 : decode cX6_letter 16 = .ok (.aload_n 0, 1) := by decide +kernel
theorem dX6_letter_17 : decode cX6_letter 17 = .ok (.getfield 14, 3) := by decide +kernel
theorem dX6_letter_20 : decode cX6_letter 20 = .ok (.iload_n 1, 1) := by decide +kernel
theorem dX6_letter_21 : decode cX6_letter 21 = .ok (.invokevirtual 49, 3) := by decide +kernel
theorem dX6_letter_24 : decode cX6_letter 24 = .ok (.ifCond .eq 13, 3) := by decide +kernel
theorem dX6_letter_27 : decode cX6_letter 27 = .ok (.aload_n 0, 1) := by decide +kernel
theorem dX6_letter_28 : decode cX6_letter 28 = .ok (.getfield 14, 3) := by decide +kernel
theorem dX6_letter_31 : decode cX6_letter 31 = .ok (.invokevirtual 53, 3) := by decide +kernel
theorem dX6_letter_34 : decode cX6_letter 34 = .ok (.goto 6, 3) := by decide +kernel
theorem dX6_letter_37 : decode cX6_letter 37 = .ok (.sipush (-1004), 3) := by decide +kernel
theorem dX6_letter_40 : decode cX6_letter 40 = .ok (.ireturn, 1) := by decide +kernel
theorem dX6_blank_0 : decode cX6_blank 0 = .ok (.aload_n 0, 1) := by decide +kernel
theorem dX6_blank_1 : decode cX6_blank 1 = .ok (.getfield 14, 3) := by decide +kernel
theorem dX6_blank_4 : decode cX6_blank 4 = .ok (.invokevirtual 53, 3) := by decide +kernel
theorem dX6_blank_7 : decode cX6_blank 7 = .ok (.istore_n 1, 1) := by decide +kernel
theorem dX6_blank_8 : decode cX6_blank 8 = .ok (.aload_n 0, 1) := by decide +kernel
theorem dX6_blank_9 : decode cX6_blank 9 = .ok (.getfield 14, 3) := by decide +kernel
theorem dX6_blank_12 : decode cX6_blank 12 = .ok (.invokevirtual 57, 3) := by decide +kernel
theorem dX6_blank_15 : decode cX6_blank 15 = .ok (.iload_n 1, 1) := by decide +kernel
theorem dX6_blank_16 : decode cX6_blank 16 = .ok (.ireturn, 1) := by decide +kernel
theorem dX6_fault_0 : decode cX6_fault 0 = .ok (.aload_n 0, 1) := by decide +kernel
theorem dX6_fault_1 : decode cX6_fault 1 = .ok (.getfield 21, 3) := by decide +kernel
theorem dX6_fault_4 : decode cX6_fault 4 = .ok (.aload_n 0, 1) := by decide +kernel
theorem dX6_fault_5 : decode cX6_fault 5 = .ok (.getfield 14, 3) := by decide +kernel
theorem dX6_fault_8 : decode cX6_fault 8 = .ok (.invokevirtual 60, 3) := by decide +kernel
theorem dX6_fault_11 : decode cX6_fault 11 = .ok (.ireturn, 1) := by decide +kernel
theorem dX6_add_0 : decode cX6_add 0 = .ok (.aload_n 0, 1) := by decide +kernel
theorem dX6_add_1 : decode cX6_add 1 = .ok (.getfield 21, 3) := by decide +kernel
theorem dX6_add_4 : decode cX6_add 4 = .ok (.aload_n 0, 1) := by decide +kernel
theorem dX6_add_5 : decode cX6_add 5 = .ok (.getfield 14, 3) := by decide +kernel
theorem dX6_add_8 : decode cX6_add 8 = .ok (.invokevirtual 60, 3) := by decide +kernel
theorem dX6_add_11 : decode cX6_add 11 = .ok (.aload_n 0, 1) := by decide +kernel
theorem dX6_add_12 : decode cX6_add 12 = .ok (.getfield 14, 3) := by decide +kernel
theorem dX6_add_15 : decode cX6_add 15 = .ok (.invokevirtual 53, 3) := by decide +kernel
theorem dX6_add_18 : decode cX6_add 18 = .ok (.if_icmp .ne 17, 3) := by decide +kernel
theorem dX6_add_21 : decode cX6_add 21 = .ok (.aload_n 0, 1) := by decide +kernel
theorem dX6_add_22 : decode cX6_add 22 = .ok (.getfield 21, 3) := by decide +kernel
theorem dX6_add_25 : decode cX6_add 25 = .ok (.invokevirtual 64, 3) := by decide +kernel
theorem dX6_add_28 : decode cX6_add 28 = .ok (.ifCond .eq 7, 3) := by decide +kernel
theorem dX6_add_31 : decode cX6_add 31 = .ok (.iconst 1, 1) := by decide +kernel
theorem dX6_add_32 : decode cX6_add 32 = .ok (.goto 4, 3) := by decide +kernel
theorem dX6_add_35 : decode cX6_add 35 = .ok (.iconst 0, 1) := by decide +kernel
theorem dX6_add_36 : decode cX6_add 36 = .ok (.istore_n 1, 1) := by decide +kernel
theorem dX6_add_37 : decode cX6_add 37 = .ok (.iload_n 1, 1) := by decide +kernel
theorem dX6_add_38 : decode cX6_add 38 = .ok (.ifCond .eq 13, 3) := by decide +kernel
theorem dX6_add_41 : decode cX6_add 41 = .ok (.aload_n 0, 1) := by decide +kernel
theorem dX6_add_42 : decode cX6_add 42 = .ok (.getfield 45, 3) := by decide +kernel
theorem dX6_add_45 : decode cX6_add 45 = .ok (.invokevirtual 68, 3) := by decide +kernel
theorem dX6_add_48 : decode cX6_add 48 = .ok (.ifCond .eq 7, 3) := by decide +kernel
theorem dX6_add_51 : decode cX6_add 51 = .ok (.sipush (-1003), 3) := by decide +kernel
theorem dX6_add_54 : decode cX6_add 54 = .ok (.ireturn, 1) := by decide +kernel
theorem dX6_add_55 : decode cX6_add 55 = .ok (.aload_n 0, 1) := by decide +kernel
theorem dX6_add_56 : decode cX6_add 56 = .ok (.getfield 28, 3) := by decide +kernel
theorem dX6_add_59 : decode cX6_add 59 = .ok (.aload_n 0, 1) := by decide +kernel
theorem dX6_add_60 : decode cX6_add 60 = .ok (.getfield 21, 3) := by decide +kernel
theorem dX6_add_63 : decode cX6_add 63 = .ok (.invokevirtual 71, 3) := by decide +kernel
theorem dX6_add_66 : decode cX6_add 66 = .ok (.invokevirtual 75, 3) := by decide +kernel
theorem dX6_add_69 : decode cX6_add 69 = .ok (.ifCond .ne 7, 3) := by decide +kernel
theorem dX6_add_72 : decode cX6_add 72 = .ok (.sipush (-1004), 3) := by decide +kernel
theorem dX6_add_75 : decode cX6_add 75 = .ok (.ireturn, 1) := by decide +kernel
theorem dX6_add_76 : decode cX6_add 76 = .ok (.aload_n 0, 1) := by decide +kernel
theorem dX6_add_77 : decode cX6_add 77 = .ok (.getfield 14, 3) := by decide +kernel
theorem dX6_add_80 : decode cX6_add 80 = .ok (.invokevirtual 57, 3) := by decide +kernel
theorem dX6_add_83 : decode cX6_add 83 = .ok (.aload_n 0, 1) := by decide +kernel
theorem dX6_add_84 : decode cX6_add 84 = .ok (.getfield 28, 3) := by decide +kernel
theorem dX6_add_87 : decode cX6_add 87 = .ok (.invokevirtual 78, 3) := by decide +kernel
theorem dX6_add_90 : decode cX6_add 90 = .ok (.iconst 1, 1) := by decide +kernel
theorem dX6_add_91 : decode cX6_add 91 = .ok (.isub, 1) := by decide +kernel
theorem dX6_add_92 : decode cX6_add 92 = .ok (.ireturn, 1) := by decide +kernel
theorem dX6_drop_0 : decode cX6_drop 0 = .ok (.aload_n 0, 1) := by decide +kernel
theorem dX6_drop_1 : decode cX6_drop 1 = .ok (.getfield 28, 3) := by decide +kernel
theorem dX6_drop_4 : decode cX6_drop 4 = .ok (.iload_n 1, 1) := by decide +kernel
theorem dX6_drop_5 : decode cX6_drop 5 = .ok (.invokevirtual 79, 3) := by decide +kernel
theorem dX6_drop_8 : decode cX6_drop 8 = .ok (.ifnonnull 7, 3) := by decide +kernel
theorem dX6_drop_11 : decode cX6_drop 11 = .ok (.sipush (-1001), 3) := by decide +kernel
theorem dX6_drop_14 : decode cX6_drop 14 = .ok (.ireturn, 1) := by decide +kernel
theorem dX6_drop_15 : decode cX6_drop 15 = .ok (.aload_n 0, 1) := by decide +kernel
theorem dX6_drop_16 : decode cX6_drop 16 = .ok (.getfield 45, 3) := by decide +kernel
theorem dX6_drop_19 : decode cX6_drop 19 = .ok (.invokevirtual 68, 3) := by decide +kernel
theorem dX6_drop_22 : decode cX6_drop 22 = .ok (.ifCond .eq 7, 3) := by decide +kernel
theorem dX6_drop_25 : decode cX6_drop 25 = .ok (.sipush (-1003), 3) := by decide +kernel
theorem dX6_drop_28 : decode cX6_drop 28 = .ok (.ireturn, 1) := by decide +kernel
theorem dX6_drop_29 : decode cX6_drop 29 = .ok (.aload_n 0, 1) := by decide +kernel
theorem dX6_drop_30 : decode cX6_drop 30 = .ok (.getfield 28, 3) := by decide +kernel
theorem dX6_drop_33 : decode cX6_drop 33 = .ok (.iload_n 1, 1) := by decide +kernel
theorem dX6_drop_34 : decode cX6_drop 34 = .ok (.invokevirtual 83, 3) := by decide +kernel
theorem dX6_drop_37 : decode cX6_drop 37 = .ok (.aload_n 0, 1) := by decide +kernel
theorem dX6_drop_38 : decode cX6_drop 38 = .ok (.getfield 28, 3) := by decide +kernel
theorem dX6_drop_41 : decode cX6_drop 41 = .ok (.invokevirtual 78, 3) := by decide +kernel
theorem dX6_drop_44 : decode cX6_drop 44 = .ok (.ireturn, 1) := by decide +kernel
theorem dX6_pattern_0 : decode cX6_pattern 0 = .ok (.aload_n 0, 1) := by decide +kernel
theorem dX6_pattern_1 : decode cX6_pattern 1 = .ok (.getfield 28, 3) := by decide +kernel
theorem dX6_pattern_4 : decode cX6_pattern 4 = .ok (.iload_n 1, 1) := by decide +kernel
theorem dX6_pattern_5 : decode cX6_pattern 5 = .ok (.invokevirtual 79, 3) := by decide +kernel
theorem dX6_pattern_8 : decode cX6_pattern 8 = .ok (.astore_n 3, 1) := by decide +kernel
theorem dX6_pattern_9 : decode cX6_pattern 9 = .ok (.aload_n 3, 1) := by decide +kernel
theorem dX6_pattern_10 : decode cX6_pattern 10 = .ok (.ifnonnull 7, 3) := by decide +kernel
theorem dX6_pattern_13 : decode cX6_pattern 13 = .ok (.sipush (-1001), 3) := by decide +kernel
theorem dX6_pattern_16 : decode cX6_pattern 16 = .ok (.ireturn, 1) := by decide +kernel
theorem dX6_pattern_17 : decode cX6_pattern 17 = .ok (.iload_n 2, 1) := by decide +kernel
theorem dX6_pattern_18 : decode cX6_pattern 18 = .ok (.tableswitch 82 0 5 #[38, 43, 56, 61, 66, 74], 38) := by decide +kernel
theorem dX6_pattern_56 : decode cX6_pattern 56 = .ok (.aload_n 3, 1) := by decide +kernel
theorem dX6_pattern_57 : decode cX6_pattern 57 = .ok (.invokevirtual 86, 3) := by decide +kernel
theorem dX6_pattern_60 : decode cX6_pattern 60 = .ok (.ireturn, 1) := by decide +kernel
theorem dX6_pattern_61 : decode cX6_pattern 61 = .ok (.aload_n 3, 1) := by decide +kernel
theorem dX6_pattern_62 : decode cX6_pattern 62 = .ok (.invokevirtual 91, 3) := by decide +kernel
theorem dX6_pattern_65 : decode cX6_pattern 65 = .ok (.ifCond .eq 7, 3) := by decide +kernel
theorem dX6_pattern_68 : decode cX6_pattern 68 = .ok (.iconst 1, 1) := by decide +kernel
theorem dX6_pattern_69 : decode cX6_pattern 69 = .ok (.goto 4, 3) := by decide +kernel
theorem dX6_pattern_72 : decode cX6_pattern 72 = .ok (.iconst 0, 1) := by decide +kernel
theorem dX6_pattern_73 : decode cX6_pattern 73 = .ok (.ireturn, 1) := by decide +kernel
theorem dX6_pattern_74 : decode cX6_pattern 74 = .ok (.aload_n 3, 1) := by decide +kernel
theorem dX6_pattern_75 : decode cX6_pattern 75 = .ok (.invokevirtual 94, 3) := by decide +kernel
theorem dX6_pattern_78 : decode cX6_pattern 78 = .ok (.ireturn, 1) := by decide +kernel
theorem dX6_pattern_79 : decode cX6_pattern 79 = .ok (.aload_n 3, 1) := by decide +kernel
theorem dX6_pattern_80 : decode cX6_pattern 80 = .ok (.invokevirtual 97, 3) := by decide +kernel
theorem dX6_pattern_83 : decode cX6_pattern 83 = .ok (.ireturn, 1) := by decide +kernel
theorem dX6_pattern_84 : decode cX6_pattern 84 = .ok (.aload_n 3, 1) := by decide +kernel
theorem dX6_pattern_85 : decode cX6_pattern 85 = .ok (.invokevirtual 100, 3) := by decide +kernel
theorem dX6_pattern_88 : decode cX6_pattern 88 = .ok (.invokevirtual 53, 3) := by decide +kernel
theorem dX6_pattern_91 : decode cX6_pattern 91 = .ok (.ireturn, 1) := by decide +kernel
theorem dX6_pattern_92 : decode cX6_pattern 92 = .ok (.aload_n 3, 1) := by decide +kernel
theorem dX6_pattern_93 : decode cX6_pattern 93 = .ok (.invokevirtual 100, 3) := by decide +kernel
theorem dX6_pattern_96 : decode cX6_pattern 96 = .ok (.invokevirtual 104, 3) := by decide +kernel
theorem dX6_pattern_99 : decode cX6_pattern 99 = .ok (.ireturn, 1) := by decide +kernel
theorem dX6_pattern_100 : decode cX6_pattern 100 = .ok (.sipush (-1002), 3) := by decide +kernel
theorem dX6_pattern_103 : decode cX6_pattern 103 = .ok (.ireturn, 1) := by decide +kernel
theorem dX6_lets_0 : decode cX6_lets 0 = .ok (.aload_n 0, 1) := by decide +kernel
theorem dX6_lets_1 : decode cX6_lets 1 = .ok (.getfield 28, 3) := by decide +kernel
theorem dX6_lets_4 : decode cX6_lets 4 = .ok (.iload_n 1, 1) := by decide +kernel
theorem dX6_lets_5 : decode cX6_lets 5 = .ok (.invokevirtual 79, 3) := by decide +kernel
theorem dX6_lets_8 : decode cX6_lets 8 = .ok (.astore_n 3, 1) := by decide +kernel
theorem dX6_lets_9 : decode cX6_lets 9 = .ok (.aload_n 3, 1) := by decide +kernel
theorem dX6_lets_10 : decode cX6_lets 10 = .ok (.ifnonnull 7, 3) := by decide +kernel
theorem dX6_lets_13 : decode cX6_lets 13 = .ok (.sipush (-1001), 3) := by decide +kernel
theorem dX6_lets_16 : decode cX6_lets 16 = .ok (.ireturn, 1) := by decide +kernel
theorem dX6_lets_17 : decode cX6_lets 17 = .ok (.iload_n 2, 1) := by decide +kernel
theorem dX6_lets_18 : decode cX6_lets 18 = .ok (.ifCond .lt 9, 3) := by decide +kernel
theorem dX6_lets_21 : decode cX6_lets 21 = .ok (.iload_n 2, 1) := by decide +kernel
theorem dX6_lets_22 : decode cX6_lets 22 = .ok (.bipush 10, 2) := by decide +kernel
theorem dX6_lets_24 : decode cX6_lets 24 = .ok (.if_icmp .lt 7, 3) := by decide +kernel
theorem dX6_lets_27 : decode cX6_lets 27 = .ok (.sipush (-1002), 3) := by decide +kernel
theorem dX6_lets_30 : decode cX6_lets 30 = .ok (.ireturn, 1) := by decide +kernel
theorem dX6_lets_31 : decode cX6_lets 31 = .ok (.aload_n 3, 1) := by decide +kernel
theorem dX6_lets_32 : decode cX6_lets 32 = .ok (.iload_n 2, 1) := by decide +kernel
theorem dX6_lets_33 : decode cX6_lets 33 = .ok (.invokevirtual 107, 3) := by decide +kernel
theorem dX6_lets_36 : decode cX6_lets 36 = .ok (.ireturn, 1) := by decide +kernel
theorem dX6_narrower_0 : decode cX6_narrower 0 = .ok (.aload_n 0, 1) := by decide +kernel
theorem dX6_narrower_1 : decode cX6_narrower 1 = .ok (.getfield 28, 3) := by decide +kernel
theorem dX6_narrower_4 : decode cX6_narrower 4 = .ok (.iload_n 1, 1) := by decide +kernel
theorem dX6_narrower_5 : decode cX6_narrower 5 = .ok (.invokevirtual 79, 3) := by decide +kernel
theorem dX6_narrower_8 : decode cX6_narrower 8 = .ok (.astore_n 3, 1) := by decide +kernel
theorem dX6_narrower_9 : decode cX6_narrower 9 = .ok (.aload_n 0, 1) := by decide +kernel
theorem dX6_narrower_10 : decode cX6_narrower 10 = .ok (.getfield 28, 3) := by decide +kernel
theorem dX6_narrower_13 : decode cX6_narrower 13 = .ok (.iload_n 2, 1) := by decide +kernel
theorem dX6_narrower_14 : decode cX6_narrower 14 = .ok (.invokevirtual 79, 3) := by decide +kernel
theorem dX6_narrower_17 : decode cX6_narrower 17 = .ok (.astore 4, 2) := by decide +kernel
theorem dX6_narrower_19 : decode cX6_narrower 19 = .ok (.aload_n 3, 1) := by decide +kernel
theorem dX6_narrower_20 : decode cX6_narrower 20 = .ok (.ifnull 8, 3) := by decide +kernel
theorem dX6_narrower_23 : decode cX6_narrower 23 = .ok (.aload 4, 2) := by decide +kernel
theorem dX6_narrower_25 : decode cX6_narrower 25 = .ok (.ifnonnull 7, 3) := by decide +kernel
theorem dX6_narrower_28 : decode cX6_narrower 28 = .ok (.sipush (-1001), 3) := by decide +kernel
theorem dX6_narrower_31 : decode cX6_narrower 31 = .ok (.ireturn, 1) := by decide +kernel
theorem dX6_narrower_32 : decode cX6_narrower 32 = .ok (.aload_n 3, 1) := by decide +kernel
theorem dX6_narrower_33 : decode cX6_narrower 33 = .ok (.aload 4, 2) := by decide +kernel
theorem dX6_narrower_35 : decode cX6_narrower 35 = .ok (.invokevirtual 111, 3) := by decide +kernel
theorem dX6_narrower_38 : decode cX6_narrower 38 = .ok (.ifCond .eq 5, 3) := by decide +kernel
theorem dX6_narrower_41 : decode cX6_narrower 41 = .ok (.iconst 0, 1) := by decide +kernel
theorem dX6_narrower_42 : decode cX6_narrower 42 = .ok (.ireturn, 1) := by decide +kernel
theorem dX6_narrower_43 : decode cX6_narrower 43 = .ok (.aload 4, 2) := by decide +kernel
theorem dX6_narrower_45 : decode cX6_narrower 45 = .ok (.aload_n 3, 1) := by decide +kernel
theorem dX6_narrower_46 : decode cX6_narrower 46 = .ok (.invokevirtual 111, 3) := by decide +kernel
theorem dX6_narrower_49 : decode cX6_narrower 49 = .ok (.ifCond .eq 7, 3) := by decide +kernel
theorem dX6_narrower_52 : decode cX6_narrower 52 = .ok (.iconst 1, 1) := by decide +kernel
theorem dX6_narrower_53 : decode cX6_narrower 53 = .ok (.goto 4, 3) := by decide +kernel
theorem dX6_narrower_56 : decode cX6_narrower 56 = .ok (.iconst 2, 1) := by decide +kernel
theorem dX6_narrower_57 : decode cX6_narrower 57 = .ok (.ireturn, 1) := by decide +kernel
theorem dX6_clash_0 : decode cX6_clash 0 = .ok (.iload_n 1, 1) := by decide +kernel
theorem dX6_clash_1 : decode cX6_clash 1 = .ok (.istore_n 2, 1) := by decide +kernel
theorem dX6_clash_2 : decode cX6_clash 2 = .ok (.iconst 0, 1) := by decide +kernel
theorem dX6_clash_3 : decode cX6_clash 3 = .ok (.istore_n 3, 1) := by decide +kernel
theorem dX6_clash_4 : decode cX6_clash 4 = .ok (.iload_n 3, 1) := by decide +kernel
theorem dX6_clash_5 : decode cX6_clash 5 = .ok (.aload_n 0, 1) := by decide +kernel
theorem dX6_clash_6 : decode cX6_clash 6 = .ok (.getfield 28, 3) := by decide +kernel
theorem dX6_clash_9 : decode cX6_clash 9 = .ok (.invokevirtual 78, 3) := by decide +kernel
theorem dX6_clash_12 : decode cX6_clash 12 = .ok (.if_icmp .ge 64, 3) := by decide +kernel
theorem dX6_clash_15 : decode cX6_clash 15 = .ok (.iload_n 2, 1) := by decide +kernel
theorem dX6_clash_16 : decode cX6_clash 16 = .ok (.ifCond .lt 60, 3) := by decide +kernel
theorem dX6_clash_19 : decode cX6_clash 19 = .ok (.iload_n 3, 1) := by decide +kernel
theorem dX6_clash_20 : decode cX6_clash 20 = .ok (.iconst 1, 1) := by decide +kernel
theorem dX6_clash_21 : decode cX6_clash 21 = .ok (.iadd, 1) := by decide +kernel
theorem dX6_clash_22 : decode cX6_clash 22 = .ok (.istore 4, 2) := by decide +kernel
theorem dX6_clash_24 : decode cX6_clash 24 = .ok (.iload 4, 2) := by decide +kernel
theorem dX6_clash_26 : decode cX6_clash 26 = .ok (.aload_n 0, 1) := by decide +kernel
theorem dX6_clash_27 : decode cX6_clash 27 = .ok (.getfield 28, 3) := by decide +kernel
theorem dX6_clash_30 : decode cX6_clash 30 = .ok (.invokevirtual 78, 3) := by decide +kernel
theorem dX6_clash_33 : decode cX6_clash 33 = .ok (.if_icmp .ge 37, 3) := by decide +kernel
theorem dX6_clash_36 : decode cX6_clash 36 = .ok (.aload_n 0, 1) := by decide +kernel
theorem dX6_clash_37 : decode cX6_clash 37 = .ok (.getfield 28, 3) := by decide +kernel
theorem dX6_clash_40 : decode cX6_clash 40 = .ok (.iload_n 3, 1) := by decide +kernel
theorem dX6_clash_41 : decode cX6_clash 41 = .ok (.iload 4, 2) := by decide +kernel
theorem dX6_clash_43 : decode cX6_clash 43 = .ok (.invokevirtual 114, 3) := by decide +kernel
theorem dX6_clash_46 : decode cX6_clash 46 = .ok (.ifCond .eq 18, 3) := by decide +kernel
theorem dX6_clash_49 : decode cX6_clash 49 = .ok (.iload_n 2, 1) := by decide +kernel
theorem dX6_clash_50 : decode cX6_clash 50 = .ok (.ifCond .ne 11, 3) := by decide +kernel
theorem dX6_clash_53 : decode cX6_clash 53 = .ok (.bipush 16, 2) := by decide +kernel
theorem dX6_clash_55 : decode cX6_clash 55 = .ok (.iload_n 3, 1) := by decide +kernel
theorem dX6_clash_56 : decode cX6_clash 56 = .ok (.imul, 1) := by decide +kernel
theorem dX6_clash_57 : decode cX6_clash 57 = .ok (.iload 4, 2) := by decide +kernel
theorem dX6_clash_59 : decode cX6_clash 59 = .ok (.iadd, 1) := by decide +kernel
theorem dX6_clash_60 : decode cX6_clash 60 = .ok (.ireturn, 1) := by decide +kernel
theorem dX6_clash_61 : decode cX6_clash 61 = .ok (.iinc 2 (-1), 3) := by decide +kernel
theorem dX6_clash_64 : decode cX6_clash 64 = .ok (.iinc 4 1, 3) := by decide +kernel
theorem dX6_clash_67 : decode cX6_clash 67 = .ok (.goto (-43), 3) := by decide +kernel
theorem dX6_clash_70 : decode cX6_clash 70 = .ok (.iinc 3 1, 3) := by decide +kernel
theorem dX6_clash_73 : decode cX6_clash 73 = .ok (.goto (-69), 3) := by decide +kernel
theorem dX6_clash_76 : decode cX6_clash 76 = .ok (.sipush (-1001), 3) := by decide +kernel
theorem dX6_clash_79 : decode cX6_clash 79 = .ok (.ireturn, 1) := by decide +kernel
theorem dX6_row_0 : decode cX6_row 0 = .ok (.iload_n 1, 1) := by decide +kernel
theorem dX6_row_1 : decode cX6_row 1 = .ok (.bipush 10, 2) := by decide +kernel
theorem dX6_row_3 : decode cX6_row 3 = .ok (.if_icmp .lt 13, 3) := by decide +kernel
theorem dX6_row_6 : decode cX6_row 6 = .ok (.iload_n 1, 1) := by decide +kernel
theorem dX6_row_7 : decode cX6_row 7 = .ok (.bipush 20, 2) := by decide +kernel
theorem dX6_row_9 : decode cX6_row 9 = .ok (.if_icmp .ge 7, 3) := by decide +kernel
theorem dX6_row_12 : decode cX6_row 12 = .ok (.iconst 1, 1) := by decide +kernel
theorem dX6_row_13 : decode cX6_row 13 = .ok (.goto 4, 3) := by decide +kernel
theorem dX6_row_16 : decode cX6_row 16 = .ok (.iconst 0, 1) := by decide +kernel
theorem dX6_row_17 : decode cX6_row 17 = .ok (.istore_n 2, 1) := by decide +kernel
theorem dX6_row_18 : decode cX6_row 18 = .ok (.iload_n 2, 1) := by decide +kernel
theorem dX6_row_19 : decode cX6_row 19 = .ok (.ifCond .ne 16, 3) := by decide +kernel
theorem dX6_row_22 : decode cX6_row 22 = .ok (.iload_n 1, 1) := by decide +kernel
theorem dX6_row_23 : decode cX6_row 23 = .ok (.ifCond .lt 8, 3) := by decide +kernel
theorem dX6_row_26 : decode cX6_row 26 = .ok (.iload_n 1, 1) := by decide +kernel
theorem dX6_row_27 : decode cX6_row 27 = .ok (.iconst 5, 1) := by decide +kernel
theorem dX6_row_28 : decode cX6_row 28 = .ok (.if_icmp .le 7, 3) := by decide +kernel
theorem dX6_row_31 : decode cX6_row 31 = .ok (.sipush (-1002), 3) := by decide +kernel
theorem dX6_row_34 : decode cX6_row 34 = .ok (.ireturn, 1) := by decide +kernel
theorem dX6_row_35 : decode cX6_row 35 = .ok (.aload_n 0, 1) := by decide +kernel
theorem dX6_row_36 : decode cX6_row 36 = .ok (.invokevirtual 118, 3) := by decide +kernel
theorem dX6_row_39 : decode cX6_row 39 = .ok (.ifCond .ne 7, 3) := by decide +kernel
theorem dX6_row_42 : decode cX6_row 42 = .ok (.sipush (-1003), 3) := by decide +kernel
theorem dX6_row_45 : decode cX6_row 45 = .ok (.ireturn, 1) := by decide +kernel
theorem dX6_row_46 : decode cX6_row 46 = .ok (.iload_n 1, 1) := by decide +kernel
theorem dX6_row_47 : decode cX6_row 47 = .ok (.tableswitch 64 0 2 #[25, 38, 51], 25) := by decide +kernel
theorem dX6_row_72 : decode cX6_row 72 = .ok (.aload_n 0, 1) := by decide +kernel
theorem dX6_row_73 : decode cX6_row 73 = .ok (.getfield 28, 3) := by decide +kernel
theorem dX6_row_76 : decode cX6_row 76 = .ok (.aload_n 0, 1) := by decide +kernel
theorem dX6_row_77 : decode cX6_row 77 = .ok (.getfield 32, 3) := by decide +kernel
theorem dX6_row_80 : decode cX6_row 80 = .ok (.iconst 0, 1) := by decide +kernel
theorem dX6_row_81 : decode cX6_row 81 = .ok (.invokevirtual 121, 3) := by decide +kernel
theorem dX6_row_84 : decode cX6_row 84 = .ok (.ireturn, 1) := by decide +kernel
theorem dX6_row_85 : decode cX6_row 85 = .ok (.aload_n 0, 1) := by decide +kernel
theorem dX6_row_86 : decode cX6_row 86 = .ok (.getfield 28, 3) := by decide +kernel
theorem dX6_row_89 : decode cX6_row 89 = .ok (.aload_n 0, 1) := by decide +kernel
theorem dX6_row_90 : decode cX6_row 90 = .ok (.getfield 32, 3) := by decide +kernel
theorem dX6_row_93 : decode cX6_row 93 = .ok (.iconst 1, 1) := by decide +kernel
theorem dX6_row_94 : decode cX6_row 94 = .ok (.invokevirtual 125, 3) := by decide +kernel
theorem dX6_row_97 : decode cX6_row 97 = .ok (.ireturn, 1) := by decide +kernel
theorem dX6_row_98 : decode cX6_row 98 = .ok (.aload_n 0, 1) := by decide +kernel
theorem dX6_row_99 : decode cX6_row 99 = .ok (.getfield 28, 3) := by decide +kernel
theorem dX6_row_102 : decode cX6_row 102 = .ok (.aload_n 0, 1) := by decide +kernel
theorem dX6_row_103 : decode cX6_row 103 = .ok (.getfield 32, 3) := by decide +kernel
theorem dX6_row_106 : decode cX6_row 106 = .ok (.iconst 2, 1) := by decide +kernel
theorem dX6_row_107 : decode cX6_row 107 = .ok (.invokevirtual 125, 3) := by decide +kernel
theorem dX6_row_110 : decode cX6_row 110 = .ok (.ireturn, 1) := by decide +kernel
theorem dX6_row_111 : decode cX6_row 111 = .ok (.aload_n 0, 1) := by decide +kernel
theorem dX6_row_112 : decode cX6_row 112 = .ok (.getfield 38, 3) := by decide +kernel
theorem dX6_row_115 : decode cX6_row 115 = .ok (.aload_n 0, 1) := by decide +kernel
theorem dX6_row_116 : decode cX6_row 116 = .ok (.getfield 28, 3) := by decide +kernel
theorem dX6_row_119 : decode cX6_row 119 = .ok (.aload_n 0, 1) := by decide +kernel
theorem dX6_row_120 : decode cX6_row 120 = .ok (.getfield 32, 3) := by decide +kernel
theorem dX6_row_123 : decode cX6_row 123 = .ok (.invokevirtual 129, 3) := by decide +kernel
theorem dX6_row_126 : decode cX6_row 126 = .ok (.iload_n 1, 1) := by decide +kernel
theorem dX6_row_127 : decode cX6_row 127 = .ok (.tableswitch 52 3 5 #[25, 33, 41], 25) := by decide +kernel
theorem dX6_row_152 : decode cX6_row 152 = .ok (.aload_n 0, 1) := by decide +kernel
theorem dX6_row_153 : decode cX6_row 153 = .ok (.getfield 38, 3) := by decide +kernel
theorem dX6_row_156 : decode cX6_row 156 = .ok (.invokevirtual 133, 3) := by decide +kernel
theorem dX6_row_159 : decode cX6_row 159 = .ok (.ireturn, 1) := by decide +kernel
theorem dX6_row_160 : decode cX6_row 160 = .ok (.aload_n 0, 1) := by decide +kernel
theorem dX6_row_161 : decode cX6_row 161 = .ok (.getfield 38, 3) := by decide +kernel
theorem dX6_row_164 : decode cX6_row 164 = .ok (.invokevirtual 134, 3) := by decide +kernel
theorem dX6_row_167 : decode cX6_row 167 = .ok (.ireturn, 1) := by decide +kernel
theorem dX6_row_168 : decode cX6_row 168 = .ok (.aload_n 0, 1) := by decide +kernel
theorem dX6_row_169 : decode cX6_row 169 = .ok (.getfield 38, 3) := by decide +kernel
theorem dX6_row_172 : decode cX6_row 172 = .ok (.invokevirtual 137, 3) := by decide +kernel
theorem dX6_row_175 : decode cX6_row 175 = .ok (.invokevirtual 53, 3) := by decide +kernel
theorem dX6_row_178 : decode cX6_row 178 = .ok (.ireturn, 1) := by decide +kernel
theorem dX6_row_179 : decode cX6_row 179 = .ok (.aload_n 0, 1) := by decide +kernel
theorem dX6_row_180 : decode cX6_row 180 = .ok (.getfield 38, 3) := by decide +kernel
theorem dX6_row_183 : decode cX6_row 183 = .ok (.invokevirtual 137, 3) := by decide +kernel
theorem dX6_row_186 : decode cX6_row 186 = .ok (.iload_n 1, 1) := by decide +kernel
theorem dX6_row_187 : decode cX6_row 187 = .ok (.bipush 10, 2) := by decide +kernel
theorem dX6_row_189 : decode cX6_row 189 = .ok (.isub, 1) := by decide +kernel
theorem dX6_row_190 : decode cX6_row 190 = .ok (.invokevirtual 140, 3) := by decide +kernel
theorem dX6_row_193 : decode cX6_row 193 = .ok (.ireturn, 1) := by decide +kernel
theorem dX6_readsPageAsRow_0 : decode cX6_readsPageAsRow 0 = .ok (.aload_n 0, 1) := by decide +kernel
theorem dX6_readsPageAsRow_1 : decode cX6_readsPageAsRow 1 = .ok (.getfield 32, 3) := by decide +kernel
theorem dX6_readsPageAsRow_4 : decode cX6_readsPageAsRow 4 = .ok (.invokevirtual 57, 3) := by decide +kernel
theorem dX6_readsPageAsRow_7 : decode cX6_readsPageAsRow 7 = .ok (.iconst 0, 1) := by decide +kernel
theorem dX6_readsPageAsRow_8 : decode cX6_readsPageAsRow 8 = .ok (.istore_n 1, 1) := by decide +kernel
theorem dX6_readsPageAsRow_9 : decode cX6_readsPageAsRow 9 = .ok (.iload_n 1, 1) := by decide +kernel
theorem dX6_readsPageAsRow_10 : decode cX6_readsPageAsRow 10 = .ok (.aload_n 0, 1) := by decide +kernel
theorem dX6_readsPageAsRow_11 : decode cX6_readsPageAsRow 11 = .ok (.getfield 14, 3) := by decide +kernel
theorem dX6_readsPageAsRow_14 : decode cX6_readsPageAsRow 14 = .ok (.invokevirtual 53, 3) := by decide +kernel
theorem dX6_readsPageAsRow_17 : decode cX6_readsPageAsRow 17 = .ok (.if_icmp .ge 46, 3) := by decide +kernel
theorem dX6_readsPageAsRow_20 : decode cX6_readsPageAsRow 20 = .ok (.aload_n 0, 1) := by decide +kernel
theorem dX6_readsPageAsRow_21 : decode cX6_readsPageAsRow 21 = .ok (.getfield 14, 3) := by decide +kernel
theorem dX6_readsPageAsRow_24 : decode cX6_readsPageAsRow 24 = .ok (.iload_n 1, 1) := by decide +kernel
theorem dX6_readsPageAsRow_25 : decode cX6_readsPageAsRow 25 = .ok (.invokevirtual 140, 3) := by decide +kernel
theorem dX6_readsPageAsRow_28 : decode cX6_readsPageAsRow 28 = .ok (.invokestatic 142, 3) := by decide +kernel
theorem dX6_readsPageAsRow_31 : decode cX6_readsPageAsRow 31 = .ok (.ifCond .eq 24, 3) := by decide +kernel
theorem dX6_readsPageAsRow_34 : decode cX6_readsPageAsRow 34 = .ok (.aload_n 0, 1) := by decide +kernel
theorem dX6_readsPageAsRow_35 : decode cX6_readsPageAsRow 35 = .ok (.getfield 32, 3) := by decide +kernel
theorem dX6_readsPageAsRow_38 : decode cX6_readsPageAsRow 38 = .ok (.aload_n 0, 1) := by decide +kernel
theorem dX6_readsPageAsRow_39 : decode cX6_readsPageAsRow 39 = .ok (.getfield 14, 3) := by decide +kernel
theorem dX6_readsPageAsRow_42 : decode cX6_readsPageAsRow 42 = .ok (.iload_n 1, 1) := by decide +kernel
theorem dX6_readsPageAsRow_43 : decode cX6_readsPageAsRow 43 = .ok (.invokevirtual 140, 3) := by decide +kernel
theorem dX6_readsPageAsRow_46 : decode cX6_readsPageAsRow 46 = .ok (.bipush 48, 2) := by decide +kernel
theorem dX6_readsPageAsRow_48 : decode cX6_readsPageAsRow 48 = .ok (.isub, 1) := by decide +kernel
theorem dX6_readsPageAsRow_49 : decode cX6_readsPageAsRow 49 = .ok (.invokevirtual 49, 3) := by decide +kernel
theorem dX6_readsPageAsRow_52 : decode cX6_readsPageAsRow 52 = .ok (.ifCond .ne 5, 3) := by decide +kernel
theorem dX6_readsPageAsRow_55 : decode cX6_readsPageAsRow 55 = .ok (.iconst 0, 1) := by decide +kernel
theorem dX6_readsPageAsRow_56 : decode cX6_readsPageAsRow 56 = .ok (.ireturn, 1) := by decide +kernel
theorem dX6_readsPageAsRow_57 : decode cX6_readsPageAsRow 57 = .ok (.iinc 1 1, 3) := by decide +kernel
theorem dX6_readsPageAsRow_60 : decode cX6_readsPageAsRow 60 = .ok (.goto (-51), 3) := by decide +kernel
theorem dX6_readsPageAsRow_63 : decode cX6_readsPageAsRow 63 = .ok (.aload_n 0, 1) := by decide +kernel
theorem dX6_readsPageAsRow_64 : decode cX6_readsPageAsRow 64 = .ok (.getfield 14, 3) := by decide +kernel
theorem dX6_readsPageAsRow_67 : decode cX6_readsPageAsRow 67 = .ok (.invokevirtual 53, 3) := by decide +kernel
theorem dX6_readsPageAsRow_70 : decode cX6_readsPageAsRow 70 = .ok (.ifCond .le 7, 3) := by decide +kernel
theorem dX6_readsPageAsRow_73 : decode cX6_readsPageAsRow 73 = .ok (.iconst 1, 1) := by decide +kernel
theorem dX6_readsPageAsRow_74 : decode cX6_readsPageAsRow 74 = .ok (.goto 4, 3) := by decide +kernel
theorem dX6_readsPageAsRow_77 : decode cX6_readsPageAsRow 77 = .ok (.iconst 0, 1) := by decide +kernel
theorem dX6_readsPageAsRow_78 : decode cX6_readsPageAsRow 78 = .ok (.ireturn, 1) := by decide +kernel
theorem dX6_isFigure_0 : decode cX6_isFigure 0 = .ok (.iload_n 0, 1) := by decide +kernel
theorem dX6_isFigure_1 : decode cX6_isFigure 1 = .ok (.bipush 48, 2) := by decide +kernel
theorem dX6_isFigure_3 : decode cX6_isFigure 3 = .ok (.if_icmp .lt 13, 3) := by decide +kernel
theorem dX6_isFigure_6 : decode cX6_isFigure 6 = .ok (.iload_n 0, 1) := by decide +kernel
theorem dX6_isFigure_7 : decode cX6_isFigure 7 = .ok (.bipush 57, 2) := by decide +kernel
theorem dX6_isFigure_9 : decode cX6_isFigure 9 = .ok (.if_icmp .gt 7, 3) := by decide +kernel
theorem dX6_isFigure_12 : decode cX6_isFigure 12 = .ok (.iconst 1, 1) := by decide +kernel
theorem dX6_isFigure_13 : decode cX6_isFigure 13 = .ok (.goto 4, 3) := by decide +kernel
theorem dX6_isFigure_16 : decode cX6_isFigure 16 = .ok (.iconst 0, 1) := by decide +kernel
theorem dX6_isFigure_17 : decode cX6_isFigure 17 = .ok (.ireturn, 1) := by decide +kernel
theorem dX6_stage_0 : decode cX6_stage 0 = .ok (.iload_n 1, 1) := by decide +kernel
theorem dX6_stage_1 : decode cX6_stage 1 = .ok (.ifCond .lt 19, 3) := by decide +kernel
theorem dX6_stage_4 : decode cX6_stage 4 = .ok (.iload_n 1, 1) := by decide +kernel
theorem dX6_stage_5 : decode cX6_stage 5 = .ok (.iconst 3, 1) := by decide +kernel
theorem dX6_stage_6 : decode cX6_stage 6 = .ok (.if_icmp .ge 14, 3) := by decide +kernel
theorem dX6_stage_9 : decode cX6_stage 9 = .ok (.iload_n 2, 1) := by decide +kernel
theorem dX6_stage_10 : decode cX6_stage 10 = .ok (.iconst 1, 1) := by decide +kernel
theorem dX6_stage_11 : decode cX6_stage 11 = .ok (.if_icmp .lt 9, 3) := by decide +kernel
theorem dX6_stage_14 : decode cX6_stage 14 = .ok (.iload_n 2, 1) := by decide +kernel
theorem dX6_stage_15 : decode cX6_stage 15 = .ok (.bipush 99, 2) := by decide +kernel
theorem dX6_stage_17 : decode cX6_stage 17 = .ok (.if_icmp .le 7, 3) := by decide +kernel
theorem dX6_stage_20 : decode cX6_stage 20 = .ok (.sipush (-1002), 3) := by decide +kernel
theorem dX6_stage_23 : decode cX6_stage 23 = .ok (.ireturn, 1) := by decide +kernel
theorem dX6_stage_24 : decode cX6_stage 24 = .ok (.aload_n 0, 1) := by decide +kernel
theorem dX6_stage_25 : decode cX6_stage 25 = .ok (.getfield 45, 3) := by decide +kernel
theorem dX6_stage_28 : decode cX6_stage 28 = .ok (.iload_n 1, 1) := by decide +kernel
theorem dX6_stage_29 : decode cX6_stage 29 = .ok (.invokevirtual 145, 3) := by decide +kernel
theorem dX6_stage_32 : decode cX6_stage 32 = .ok (.istore_n 3, 1) := by decide +kernel
theorem dX6_stage_33 : decode cX6_stage 33 = .ok (.aload_n 0, 1) := by decide +kernel
theorem dX6_stage_34 : decode cX6_stage 34 = .ok (.getfield 45, 3) := by decide +kernel
theorem dX6_stage_37 : decode cX6_stage 37 = .ok (.iload_n 1, 1) := by decide +kernel
theorem dX6_stage_38 : decode cX6_stage 38 = .ok (.iload_n 2, 1) := by decide +kernel
theorem dX6_stage_39 : decode cX6_stage 39 = .ok (.invokevirtual 148, 3) := by decide +kernel
theorem dX6_stage_42 : decode cX6_stage 42 = .ok (.iload_n 3, 1) := by decide +kernel
theorem dX6_stage_43 : decode cX6_stage 43 = .ok (.ireturn, 1) := by decide +kernel
theorem dX6_lift_0 : decode cX6_lift 0 = .ok (.aload_n 0, 1) := by decide +kernel
theorem dX6_lift_1 : decode cX6_lift 1 = .ok (.getfield 45, 3) := by decide +kernel
theorem dX6_lift_4 : decode cX6_lift 4 = .ok (.invokevirtual 68, 3) := by decide +kernel
theorem dX6_lift_7 : decode cX6_lift 7 = .ok (.ifCond .eq 7, 3) := by decide +kernel
theorem dX6_lift_10 : decode cX6_lift 10 = .ok (.sipush (-1003), 3) := by decide +kernel
theorem dX6_lift_13 : decode cX6_lift 13 = .ok (.ireturn, 1) := by decide +kernel
theorem dX6_lift_14 : decode cX6_lift 14 = .ok (.aload_n 0, 1) := by decide +kernel
theorem dX6_lift_15 : decode cX6_lift 15 = .ok (.getfield 45, 3) := by decide +kernel
theorem dX6_lift_18 : decode cX6_lift 18 = .ok (.aload_n 0, 1) := by decide +kernel
theorem dX6_lift_19 : decode cX6_lift 19 = .ok (.getfield 28, 3) := by decide +kernel
theorem dX6_lift_22 : decode cX6_lift 22 = .ok (.invokevirtual 152, 3) := by decide +kernel
theorem dX6_lift_25 : decode cX6_lift 25 = .ok (.aload_n 0, 1) := by decide +kernel
theorem dX6_lift_26 : decode cX6_lift 26 = .ok (.getfield 45, 3) := by decide +kernel
theorem dX6_lift_29 : decode cX6_lift 29 = .ok (.invokevirtual 156, 3) := by decide +kernel
theorem dX6_lift_32 : decode cX6_lift 32 = .ok (.ireturn, 1) := by decide +kernel
theorem dX6_hang_0 : decode cX6_hang 0 = .ok (.aload_n 0, 1) := by decide +kernel
theorem dX6_hang_1 : decode cX6_hang 1 = .ok (.getfield 45, 3) := by decide +kernel
theorem dX6_hang_4 : decode cX6_hang 4 = .ok (.invokevirtual 68, 3) := by decide +kernel
theorem dX6_hang_7 : decode cX6_hang 7 = .ok (.ifCond .ne 7, 3) := by decide +kernel
theorem dX6_hang_10 : decode cX6_hang 10 = .ok (.sipush (-1003), 3) := by decide +kernel
theorem dX6_hang_13 : decode cX6_hang 13 = .ok (.ireturn, 1) := by decide +kernel
theorem dX6_hang_14 : decode cX6_hang 14 = .ok (.aload_n 0, 1) := by decide +kernel
theorem dX6_hang_15 : decode cX6_hang 15 = .ok (.getfield 45, 3) := by decide +kernel
theorem dX6_hang_18 : decode cX6_hang 18 = .ok (.invokevirtual 159, 3) := by decide +kernel
theorem dX6_hang_21 : decode cX6_hang 21 = .ok (.invokevirtual 53, 3) := by decide +kernel
theorem dX6_hang_24 : decode cX6_hang 24 = .ok (.istore_n 1, 1) := by decide +kernel
theorem dX6_hang_25 : decode cX6_hang 25 = .ok (.aload_n 0, 1) := by decide +kernel
theorem dX6_hang_26 : decode cX6_hang 26 = .ok (.getfield 45, 3) := by decide +kernel
theorem dX6_hang_29 : decode cX6_hang 29 = .ok (.invokevirtual 162, 3) := by decide +kernel
theorem dX6_hang_32 : decode cX6_hang 32 = .ok (.iload_n 1, 1) := by decide +kernel
theorem dX6_hang_33 : decode cX6_hang 33 = .ok (.ireturn, 1) := by decide +kernel
theorem dX6_press_0 : decode cX6_press 0 = .ok (.iload_n 1, 1) := by decide +kernel
theorem dX6_press_1 : decode cX6_press 1 = .ok (.ifCond .lt 9, 3) := by decide +kernel
theorem dX6_press_4 : decode cX6_press 4 = .ok (.iload_n 1, 1) := by decide +kernel
theorem dX6_press_5 : decode cX6_press 5 = .ok (.bipush 9, 2) := by decide +kernel
theorem dX6_press_7 : decode cX6_press 7 = .ok (.if_icmp .le 7, 3) := by decide +kernel
theorem dX6_press_10 : decode cX6_press 10 = .ok (.sipush (-1002), 3) := by decide +kernel
theorem dX6_press_13 : decode cX6_press 13 = .ok (.ireturn, 1) := by decide +kernel
theorem dX6_press_14 : decode cX6_press 14 = .ok (.aload_n 0, 1) := by decide +kernel
theorem dX6_press_15 : decode cX6_press 15 = .ok (.getfield 45, 3) := by decide +kernel
theorem dX6_press_18 : decode cX6_press 18 = .ok (.invokevirtual 165, 3) := by decide +kernel
theorem dX6_press_21 : decode cX6_press 21 = .ok (.ifCond .ne 7, 3) := by decide +kernel
theorem dX6_press_24 : decode cX6_press 24 = .ok (.sipush (-1003), 3) := by decide +kernel
theorem dX6_press_27 : decode cX6_press 27 = .ok (.ireturn, 1) := by decide +kernel
theorem dX6_press_28 : decode cX6_press 28 = .ok (.aload_n 0, 1) := by decide +kernel
theorem dX6_press_29 : decode cX6_press 29 = .ok (.getfield 45, 3) := by decide +kernel
theorem dX6_press_32 : decode cX6_press 32 = .ok (.iload_n 1, 1) := by decide +kernel
theorem dX6_press_33 : decode cX6_press 33 = .ok (.aload_n 0, 1) := by decide +kernel
theorem dX6_press_34 : decode cX6_press 34 = .ok (.getfield 28, 3) := by decide +kernel
theorem dX6_press_37 : decode cX6_press 37 = .ok (.invokevirtual 168, 3) := by decide +kernel
theorem dX6_press_40 : decode cX6_press 40 = .ok (.aload_n 0, 1) := by decide +kernel
theorem dX6_press_41 : decode cX6_press 41 = .ok (.getfield 45, 3) := by decide +kernel
theorem dX6_press_44 : decode cX6_press 44 = .ok (.invokevirtual 172, 3) := by decide +kernel
theorem dX6_press_47 : decode cX6_press 47 = .ok (.ireturn, 1) := by decide +kernel
theorem dX6_pass_0 : decode cX6_pass 0 = .ok (.iload_n 1, 1) := by decide +kernel
theorem dX6_pass_1 : decode cX6_pass 1 = .ok (.iconst 1, 1) := by decide +kernel
theorem dX6_pass_2 : decode cX6_pass 2 = .ok (.if_icmp .lt 9, 3) := by decide +kernel
theorem dX6_pass_5 : decode cX6_pass 5 = .ok (.iload_n 1, 1) := by decide +kernel
theorem dX6_pass_6 : decode cX6_pass 6 = .ok (.bipush 99, 2) := by decide +kernel
theorem dX6_pass_8 : decode cX6_pass 8 = .ok (.if_icmp .le 7, 3) := by decide +kernel
theorem dX6_pass_11 : decode cX6_pass 11 = .ok (.sipush (-1002), 3) := by decide +kernel
theorem dX6_pass_14 : decode cX6_pass 14 = .ok (.ireturn, 1) := by decide +kernel
theorem dX6_pass_15 : decode cX6_pass 15 = .ok (.aload_n 0, 1) := by decide +kernel
theorem dX6_pass_16 : decode cX6_pass 16 = .ok (.getfield 45, 3) := by decide +kernel
theorem dX6_pass_19 : decode cX6_pass 19 = .ok (.invokevirtual 165, 3) := by decide +kernel
theorem dX6_pass_22 : decode cX6_pass 22 = .ok (.ifCond .ne 7, 3) := by decide +kernel
theorem dX6_pass_25 : decode cX6_pass 25 = .ok (.sipush (-1003), 3) := by decide +kernel
theorem dX6_pass_28 : decode cX6_pass 28 = .ok (.ireturn, 1) := by decide +kernel
theorem dX6_pass_29 : decode cX6_pass 29 = .ok (.aload_n 0, 1) := by decide +kernel
theorem dX6_pass_30 : decode cX6_pass 30 = .ok (.getfield 45, 3) := by decide +kernel
theorem dX6_pass_33 : decode cX6_pass 33 = .ok (.iload_n 1, 1) := by decide +kernel
theorem dX6_pass_34 : decode cX6_pass 34 = .ok (.aload_n 0, 1) := by decide +kernel
theorem dX6_pass_35 : decode cX6_pass 35 = .ok (.getfield 28, 3) := by decide +kernel
theorem dX6_pass_38 : decode cX6_pass 38 = .ok (.invokevirtual 175, 3) := by decide +kernel
theorem dX6_pass_41 : decode cX6_pass 41 = .ok (.aload_n 0, 1) := by decide +kernel
theorem dX6_pass_42 : decode cX6_pass 42 = .ok (.getfield 45, 3) := by decide +kernel
theorem dX6_pass_45 : decode cX6_pass 45 = .ok (.invokevirtual 172, 3) := by decide +kernel
theorem dX6_pass_48 : decode cX6_pass 48 = .ok (.ireturn, 1) := by decide +kernel
theorem dX6_end_0 : decode cX6_end 0 = .ok (.aload_n 0, 1) := by decide +kernel
theorem dX6_end_1 : decode cX6_end 1 = .ok (.getfield 45, 3) := by decide +kernel
theorem dX6_end_4 : decode cX6_end 4 = .ok (.invokevirtual 165, 3) := by decide +kernel
theorem dX6_end_7 : decode cX6_end 7 = .ok (.ifCond .ne 7, 3) := by decide +kernel
theorem dX6_end_10 : decode cX6_end 10 = .ok (.sipush (-1003), 3) := by decide +kernel
theorem dX6_end_13 : decode cX6_end 13 = .ok (.ireturn, 1) := by decide +kernel
theorem dX6_end_14 : decode cX6_end 14 = .ok (.aload_n 0, 1) := by decide +kernel
theorem dX6_end_15 : decode cX6_end 15 = .ok (.getfield 45, 3) := by decide +kernel
theorem dX6_end_18 : decode cX6_end 18 = .ok (.iconst 3, 1) := by decide +kernel
theorem dX6_end_19 : decode cX6_end 19 = .ok (.aload_n 0, 1) := by decide +kernel
theorem dX6_end_20 : decode cX6_end 20 = .ok (.getfield 28, 3) := by decide +kernel
theorem dX6_end_23 : decode cX6_end 23 = .ok (.invokevirtual 178, 3) := by decide +kernel
theorem dX6_end_26 : decode cX6_end 26 = .ok (.aload_n 0, 1) := by decide +kernel
theorem dX6_end_27 : decode cX6_end 27 = .ok (.getfield 45, 3) := by decide +kernel
theorem dX6_end_30 : decode cX6_end 30 = .ok (.invokevirtual 172, 3) := by decide +kernel
theorem dX6_end_33 : decode cX6_end 33 = .ok (.ireturn, 1) := by decide +kernel
theorem dX6_line_0 : decode cX6_line 0 = .ok (.iload_n 1, 1) := by decide +kernel
theorem dX6_line_1 : decode cX6_line 1 = .ok (.bipush 10, 2) := by decide +kernel
theorem dX6_line_3 : decode cX6_line 3 = .ok (.if_icmp .lt 24, 3) := by decide +kernel
theorem dX6_line_6 : decode cX6_line 6 = .ok (.iload_n 1, 1) := by decide +kernel
theorem dX6_line_7 : decode cX6_line 7 = .ok (.bipush 20, 2) := by decide +kernel
theorem dX6_line_9 : decode cX6_line 9 = .ok (.if_icmp .ge 18, 3) := by decide +kernel
theorem dX6_line_12 : decode cX6_line 12 = .ok (.aload_n 0, 1) := by decide +kernel
theorem dX6_line_13 : decode cX6_line 13 = .ok (.getfield 45, 3) := by decide +kernel
theorem dX6_line_16 : decode cX6_line 16 = .ok (.invokevirtual 159, 3) := by decide +kernel
theorem dX6_line_19 : decode cX6_line 19 = .ok (.iload_n 1, 1) := by decide +kernel
theorem dX6_line_20 : decode cX6_line 20 = .ok (.bipush 10, 2) := by decide +kernel
theorem dX6_line_22 : decode cX6_line 22 = .ok (.isub, 1) := by decide +kernel
theorem dX6_line_23 : decode cX6_line 23 = .ok (.invokevirtual 140, 3) := by decide +kernel
theorem dX6_line_26 : decode cX6_line 26 = .ok (.ireturn, 1) := by decide +kernel
theorem dX6_line_27 : decode cX6_line 27 = .ok (.iload_n 1, 1) := by decide +kernel
theorem dX6_line_28 : decode cX6_line 28 = .ok (.tableswitch 141 0 7 #[48, 56, 67, 75, 101, 113, 128, 136], 48) := by decide +kernel
theorem dX6_line_76 : decode cX6_line 76 = .ok (.aload_n 0, 1) := by decide +kernel
theorem dX6_line_77 : decode cX6_line 77 = .ok (.getfield 45, 3) := by decide +kernel
theorem dX6_line_80 : decode cX6_line 80 = .ok (.invokevirtual 172, 3) := by decide +kernel
theorem dX6_line_83 : decode cX6_line 83 = .ok (.ireturn, 1) := by decide +kernel
theorem dX6_line_84 : decode cX6_line 84 = .ok (.aload_n 0, 1) := by decide +kernel
theorem dX6_line_85 : decode cX6_line 85 = .ok (.getfield 45, 3) := by decide +kernel
theorem dX6_line_88 : decode cX6_line 88 = .ok (.invokevirtual 159, 3) := by decide +kernel
theorem dX6_line_91 : decode cX6_line 91 = .ok (.invokevirtual 53, 3) := by decide +kernel
theorem dX6_line_94 : decode cX6_line 94 = .ok (.ireturn, 1) := by decide +kernel
theorem dX6_line_95 : decode cX6_line 95 = .ok (.aload_n 0, 1) := by decide +kernel
theorem dX6_line_96 : decode cX6_line 96 = .ok (.getfield 45, 3) := by decide +kernel
theorem dX6_line_99 : decode cX6_line 99 = .ok (.invokevirtual 156, 3) := by decide +kernel
theorem dX6_line_102 : decode cX6_line 102 = .ok (.ireturn, 1) := by decide +kernel
theorem dX6_line_103 : decode cX6_line 103 = .ok (.aload_n 0, 1) := by decide +kernel
theorem dX6_line_104 : decode cX6_line 104 = .ok (.getfield 45, 3) := by decide +kernel
theorem dX6_line_107 : decode cX6_line 107 = .ok (.invokevirtual 165, 3) := by decide +kernel
theorem dX6_line_110 : decode cX6_line 110 = .ok (.ifCond .eq 17, 3) := by decide +kernel
theorem dX6_line_113 : decode cX6_line 113 = .ok (.aload_n 0, 1) := by decide +kernel
theorem dX6_line_114 : decode cX6_line 114 = .ok (.getfield 45, 3) := by decide +kernel
theorem dX6_line_117 : decode cX6_line 117 = .ok (.aload_n 0, 1) := by decide +kernel
theorem dX6_line_118 : decode cX6_line 118 = .ok (.getfield 28, 3) := by decide +kernel
theorem dX6_line_121 : decode cX6_line 121 = .ok (.invokevirtual 181, 3) := by decide +kernel
theorem dX6_line_124 : decode cX6_line 124 = .ok (.goto 4, 3) := by decide +kernel
theorem dX6_line_127 : decode cX6_line 127 = .ok (.iconst (-1), 1) := by decide +kernel
theorem dX6_line_128 : decode cX6_line 128 = .ok (.ireturn, 1) := by decide +kernel
theorem dX6_line_129 : decode cX6_line 129 = .ok (.aload_n 0, 1) := by decide +kernel
theorem dX6_line_130 : decode cX6_line 130 = .ok (.getfield 45, 3) := by decide +kernel
theorem dX6_line_133 : decode cX6_line 133 = .ok (.aload_n 0, 1) := by decide +kernel
theorem dX6_line_134 : decode cX6_line 134 = .ok (.getfield 28, 3) := by decide +kernel
theorem dX6_line_137 : decode cX6_line 137 = .ok (.invokevirtual 185, 3) := by decide +kernel
theorem dX6_line_140 : decode cX6_line 140 = .ok (.ireturn, 1) := by decide +kernel
theorem dX6_line_141 : decode cX6_line 141 = .ok (.aload_n 0, 1) := by decide +kernel
theorem dX6_line_142 : decode cX6_line 142 = .ok (.getfield 28, 3) := by decide +kernel
theorem dX6_line_145 : decode cX6_line 145 = .ok (.aload_n 0, 1) := by decide +kernel
theorem dX6_line_146 : decode cX6_line 146 = .ok (.getfield 45, 3) := by decide +kernel
theorem dX6_line_149 : decode cX6_line 149 = .ok (.invokevirtual 159, 3) := by decide +kernel
theorem dX6_line_152 : decode cX6_line 152 = .ok (.invokevirtual 187, 3) := by decide +kernel
theorem dX6_line_155 : decode cX6_line 155 = .ok (.ireturn, 1) := by decide +kernel
theorem dX6_line_156 : decode cX6_line 156 = .ok (.aload_n 0, 1) := by decide +kernel
theorem dX6_line_157 : decode cX6_line 157 = .ok (.getfield 45, 3) := by decide +kernel
theorem dX6_line_160 : decode cX6_line 160 = .ok (.invokevirtual 190, 3) := by decide +kernel
theorem dX6_line_163 : decode cX6_line 163 = .ok (.ireturn, 1) := by decide +kernel
theorem dX6_line_164 : decode cX6_line 164 = .ok (.aload_n 0, 1) := by decide +kernel
theorem dX6_line_165 : decode cX6_line 165 = .ok (.invokevirtual 193, 3) := by decide +kernel
theorem dX6_line_168 : decode cX6_line 168 = .ok (.ireturn, 1) := by decide +kernel
theorem dX6_line_169 : decode cX6_line 169 = .ok (.sipush (-1002), 3) := by decide +kernel
theorem dX6_line_172 : decode cX6_line 172 = .ok (.ireturn, 1) := by decide +kernel
theorem dX6_wayOfTheLine_0 : decode cX6_wayOfTheLine 0 = .ok (.aload_n 0, 1) := by decide +kernel
theorem dX6_wayOfTheLine_1 : decode cX6_wayOfTheLine 1 = .ok (.getfield 45, 3) := by decide +kernel
theorem dX6_wayOfTheLine_4 : decode cX6_wayOfTheLine 4 = .ok (.invokevirtual 172, 3) := by decide +kernel
theorem dX6_wayOfTheLine_7 : decode cX6_wayOfTheLine 7 = .ok (.iconst 2, 1) := by decide +kernel
theorem dX6_wayOfTheLine_8 : decode cX6_wayOfTheLine 8 = .ok (.if_icmp .eq 5, 3) := by decide +kernel
theorem dX6_wayOfTheLine_11 : decode cX6_wayOfTheLine 11 = .ok (.iconst (-1), 1) := by decide +kernel
theorem dX6_wayOfTheLine_12 : decode cX6_wayOfTheLine 12 = .ok (.ireturn, 1) := by decide +kernel
theorem dX6_wayOfTheLine_13 : decode cX6_wayOfTheLine 13 = .ok (.aload_n 0, 1) := by decide +kernel
theorem dX6_wayOfTheLine_14 : decode cX6_wayOfTheLine 14 = .ok (.getfield 45, 3) := by decide +kernel
theorem dX6_wayOfTheLine_17 : decode cX6_wayOfTheLine 17 = .ok (.invokevirtual 190, 3) := by decide +kernel
theorem dX6_wayOfTheLine_20 : decode cX6_wayOfTheLine 20 = .ok (.iconst 4, 1) := by decide +kernel
theorem dX6_wayOfTheLine_21 : decode cX6_wayOfTheLine 21 = .ok (.if_icmp .ne 6, 3) := by decide +kernel
theorem dX6_wayOfTheLine_24 : decode cX6_wayOfTheLine 24 = .ok (.bipush 9, 2) := by decide +kernel
theorem dX6_wayOfTheLine_26 : decode cX6_wayOfTheLine 26 = .ok (.ireturn, 1) := by decide +kernel
theorem dX6_wayOfTheLine_27 : decode cX6_wayOfTheLine 27 = .ok (.aload_n 0, 1) := by decide +kernel
theorem dX6_wayOfTheLine_28 : decode cX6_wayOfTheLine 28 = .ok (.getfield 38, 3) := by decide +kernel
theorem dX6_wayOfTheLine_31 : decode cX6_wayOfTheLine 31 = .ok (.aload_n 0, 1) := by decide +kernel
theorem dX6_wayOfTheLine_32 : decode cX6_wayOfTheLine 32 = .ok (.getfield 28, 3) := by decide +kernel
theorem dX6_wayOfTheLine_35 : decode cX6_wayOfTheLine 35 = .ok (.aload_n 0, 1) := by decide +kernel
theorem dX6_wayOfTheLine_36 : decode cX6_wayOfTheLine 36 = .ok (.getfield 45, 3) := by decide +kernel
theorem dX6_wayOfTheLine_39 : decode cX6_wayOfTheLine 39 = .ok (.invokevirtual 159, 3) := by decide +kernel
theorem dX6_wayOfTheLine_42 : decode cX6_wayOfTheLine 42 = .ok (.invokevirtual 129, 3) := by decide +kernel
theorem dX6_wayOfTheLine_45 : decode cX6_wayOfTheLine 45 = .ok (.aload_n 0, 1) := by decide +kernel
theorem dX6_wayOfTheLine_46 : decode cX6_wayOfTheLine 46 = .ok (.getfield 38, 3) := by decide +kernel
theorem dX6_wayOfTheLine_49 : decode cX6_wayOfTheLine 49 = .ok (.invokevirtual 133, 3) := by decide +kernel
theorem dX6_wayOfTheLine_52 : decode cX6_wayOfTheLine 52 = .ok (.ireturn, 1) := by decide +kernel
theorem dX6_count_0 : decode cX6_count 0 = .ok (.iload_n 1, 1) := by decide +kernel
theorem dX6_count_1 : decode cX6_count 1 = .ok (.tableswitch 138 0 9 #[55, 63, 71, 79, 88, 97, 106, 114, 122, 130], 55) := by decide +kernel
theorem dX6_count_56 : decode cX6_count 56 = .ok (.aload_n 0, 1) := by decide +kernel
theorem dX6_count_57 : decode cX6_count 57 = .ok (.getfield 28, 3) := by decide +kernel
theorem dX6_count_60 : decode cX6_count 60 = .ok (.invokevirtual 78, 3) := by decide +kernel
theorem dX6_count_63 : decode cX6_count 63 = .ok (.ireturn, 1) := by decide +kernel
theorem dX6_count_64 : decode cX6_count 64 = .ok (.aload_n 0, 1) := by decide +kernel
theorem dX6_count_65 : decode cX6_count 65 = .ok (.getfield 14, 3) := by decide +kernel
theorem dX6_count_68 : decode cX6_count 68 = .ok (.invokevirtual 53, 3) := by decide +kernel
theorem dX6_count_71 : decode cX6_count 71 = .ok (.ireturn, 1) := by decide +kernel
theorem dX6_count_72 : decode cX6_count 72 = .ok (.aload_n 0, 1) := by decide +kernel
theorem dX6_count_73 : decode cX6_count 73 = .ok (.getfield 28, 3) := by decide +kernel
theorem dX6_count_76 : decode cX6_count 76 = .ok (.invokevirtual 196, 3) := by decide +kernel
theorem dX6_count_79 : decode cX6_count 79 = .ok (.ireturn, 1) := by decide +kernel
theorem dX6_count_80 : decode cX6_count 80 = .ok (.aload_n 0, 1) := by decide +kernel
theorem dX6_count_81 : decode cX6_count 81 = .ok (.getfield 45, 3) := by decide +kernel
theorem dX6_count_84 : decode cX6_count 84 = .ok (.iconst 0, 1) := by decide +kernel
theorem dX6_count_85 : decode cX6_count 85 = .ok (.invokevirtual 145, 3) := by decide +kernel
theorem dX6_count_88 : decode cX6_count 88 = .ok (.ireturn, 1) := by decide +kernel
theorem dX6_count_89 : decode cX6_count 89 = .ok (.aload_n 0, 1) := by decide +kernel
theorem dX6_count_90 : decode cX6_count 90 = .ok (.getfield 45, 3) := by decide +kernel
theorem dX6_count_93 : decode cX6_count 93 = .ok (.iconst 1, 1) := by decide +kernel
theorem dX6_count_94 : decode cX6_count 94 = .ok (.invokevirtual 145, 3) := by decide +kernel
theorem dX6_count_97 : decode cX6_count 97 = .ok (.ireturn, 1) := by decide +kernel
theorem dX6_count_98 : decode cX6_count 98 = .ok (.aload_n 0, 1) := by decide +kernel
theorem dX6_count_99 : decode cX6_count 99 = .ok (.getfield 45, 3) := by decide +kernel
theorem dX6_count_102 : decode cX6_count 102 = .ok (.iconst 2, 1) := by decide +kernel
theorem dX6_count_103 : decode cX6_count 103 = .ok (.invokevirtual 145, 3) := by decide +kernel
theorem dX6_count_106 : decode cX6_count 106 = .ok (.ireturn, 1) := by decide +kernel
theorem dX6_count_107 : decode cX6_count 107 = .ok (.aload_n 0, 1) := by decide +kernel
theorem dX6_count_108 : decode cX6_count 108 = .ok (.getfield 45, 3) := by decide +kernel
theorem dX6_count_111 : decode cX6_count 111 = .ok (.invokevirtual 199, 3) := by decide +kernel
theorem dX6_count_114 : decode cX6_count 114 = .ok (.ireturn, 1) := by decide +kernel
theorem dX6_count_115 : decode cX6_count 115 = .ok (.aload_n 0, 1) := by decide +kernel
theorem dX6_count_116 : decode cX6_count 116 = .ok (.getfield 45, 3) := by decide +kernel
theorem dX6_count_119 : decode cX6_count 119 = .ok (.invokevirtual 202, 3) := by decide +kernel
theorem dX6_count_122 : decode cX6_count 122 = .ok (.ireturn, 1) := by decide +kernel
theorem dX6_count_123 : decode cX6_count 123 = .ok (.aload_n 0, 1) := by decide +kernel
theorem dX6_count_124 : decode cX6_count 124 = .ok (.getfield 45, 3) := by decide +kernel
theorem dX6_count_127 : decode cX6_count 127 = .ok (.invokevirtual 205, 3) := by decide +kernel
theorem dX6_count_130 : decode cX6_count 130 = .ok (.ireturn, 1) := by decide +kernel
theorem dX6_count_131 : decode cX6_count 131 = .ok (.aload_n 0, 1) := by decide +kernel
theorem dX6_count_132 : decode cX6_count 132 = .ok (.getfield 45, 3) := by decide +kernel
theorem dX6_count_135 : decode cX6_count 135 = .ok (.invokevirtual 208, 3) := by decide +kernel
theorem dX6_count_138 : decode cX6_count 138 = .ok (.ireturn, 1) := by decide +kernel
theorem dX6_count_139 : decode cX6_count 139 = .ok (.sipush (-1002), 3) := by decide +kernel
theorem dX6_count_142 : decode cX6_count 142 = .ok (.ireturn, 1) := by decide +kernel
theorem dX6_digest_0 : decode cX6_digest 0 = .ok (.aload_n 0, 1) := by decide +kernel
theorem dX6_digest_1 : decode cX6_digest 1 = .ok (.ldc2_w 211, 3) := by decide +kernel
theorem dX6_digest_4 : decode cX6_digest 4 = .ok (.invokevirtual 213, 3) := by decide +kernel
theorem dX6_digest_7 : decode cX6_digest 7 = .ok (.lstore_n 1, 1) := by decide +kernel
theorem dX6_digest_8 : decode cX6_digest 8 = .ok (.aload_n 0, 1) := by decide +kernel
theorem dX6_digest_9 : decode cX6_digest 9 = .ok (.lload_n 1, 1) := by decide +kernel
theorem dX6_digest_10 : decode cX6_digest 10 = .ok (.invokevirtual 217, 3) := by decide +kernel
theorem dX6_digest_13 : decode cX6_digest 13 = .ok (.lstore_n 1, 1) := by decide +kernel
theorem dX6_digest_14 : decode cX6_digest 14 = .ok (.iconst 0, 1) := by decide +kernel
theorem dX6_digest_15 : decode cX6_digest 15 = .ok (.istore_n 3, 1) := by decide +kernel
theorem dX6_digest_16 : decode cX6_digest 16 = .ok (.iload_n 3, 1) := by decide +kernel
theorem dX6_digest_17 : decode cX6_digest 17 = .ok (.bipush 8, 2) := by decide +kernel
theorem dX6_digest_19 : decode cX6_digest 19 = .ok (.if_icmp .ge 22, 3) := by decide +kernel
theorem dX6_digest_22 : decode cX6_digest 22 = .ok (.ldc2_w 220, 3) := by decide +kernel
theorem dX6_digest_25 : decode cX6_digest 25 = .ok (.lload_n 1, 1) := by decide +kernel
theorem dX6_digest_26 : decode cX6_digest 26 = .ok (.lmul, 1) := by decide +kernel
theorem dX6_digest_27 : decode cX6_digest 27 = .ok (.aload_n 0, 1) := by decide +kernel
theorem dX6_digest_28 : decode cX6_digest 28 = .ok (.iload_n 3, 1) := by decide +kernel
theorem dX6_digest_29 : decode cX6_digest 29 = .ok (.invokevirtual 222, 3) := by decide +kernel
theorem dX6_digest_32 : decode cX6_digest 32 = .ok (.i2l, 1) := by decide +kernel
theorem dX6_digest_33 : decode cX6_digest 33 = .ok (.ladd, 1) := by decide +kernel
theorem dX6_digest_34 : decode cX6_digest 34 = .ok (.lstore_n 1, 1) := by decide +kernel
theorem dX6_digest_35 : decode cX6_digest 35 = .ok (.iinc 3 1, 3) := by decide +kernel
theorem dX6_digest_38 : decode cX6_digest 38 = .ok (.goto (-22), 3) := by decide +kernel
theorem dX6_digest_41 : decode cX6_digest 41 = .ok (.iconst 0, 1) := by decide +kernel
theorem dX6_digest_42 : decode cX6_digest 42 = .ok (.istore_n 3, 1) := by decide +kernel
theorem dX6_digest_43 : decode cX6_digest 43 = .ok (.iload_n 3, 1) := by decide +kernel
theorem dX6_digest_44 : decode cX6_digest 44 = .ok (.bipush 10, 2) := by decide +kernel
theorem dX6_digest_46 : decode cX6_digest 46 = .ok (.if_icmp .ge 25, 3) := by decide +kernel
theorem dX6_digest_49 : decode cX6_digest 49 = .ok (.ldc2_w 220, 3) := by decide +kernel
theorem dX6_digest_52 : decode cX6_digest 52 = .ok (.lload_n 1, 1) := by decide +kernel
theorem dX6_digest_53 : decode cX6_digest 53 = .ok (.lmul, 1) := by decide +kernel
theorem dX6_digest_54 : decode cX6_digest 54 = .ok (.aload_n 0, 1) := by decide +kernel
theorem dX6_digest_55 : decode cX6_digest 55 = .ok (.bipush 10, 2) := by decide +kernel
theorem dX6_digest_57 : decode cX6_digest 57 = .ok (.iload_n 3, 1) := by decide +kernel
theorem dX6_digest_58 : decode cX6_digest 58 = .ok (.iadd, 1) := by decide +kernel
theorem dX6_digest_59 : decode cX6_digest 59 = .ok (.invokevirtual 222, 3) := by decide +kernel
theorem dX6_digest_62 : decode cX6_digest 62 = .ok (.i2l, 1) := by decide +kernel
theorem dX6_digest_63 : decode cX6_digest 63 = .ok (.ladd, 1) := by decide +kernel
theorem dX6_digest_64 : decode cX6_digest 64 = .ok (.lstore_n 1, 1) := by decide +kernel
theorem dX6_digest_65 : decode cX6_digest 65 = .ok (.iinc 3 1, 3) := by decide +kernel
theorem dX6_digest_68 : decode cX6_digest 68 = .ok (.goto (-25), 3) := by decide +kernel
theorem dX6_digest_71 : decode cX6_digest 71 = .ok (.iconst 0, 1) := by decide +kernel
theorem dX6_digest_72 : decode cX6_digest 72 = .ok (.istore_n 3, 1) := by decide +kernel
theorem dX6_digest_73 : decode cX6_digest 73 = .ok (.iload_n 3, 1) := by decide +kernel
theorem dX6_digest_74 : decode cX6_digest 74 = .ok (.aload_n 0, 1) := by decide +kernel
theorem dX6_digest_75 : decode cX6_digest 75 = .ok (.getfield 14, 3) := by decide +kernel
theorem dX6_digest_78 : decode cX6_digest 78 = .ok (.invokevirtual 53, 3) := by decide +kernel
theorem dX6_digest_81 : decode cX6_digest 81 = .ok (.if_icmp .ge 25, 3) := by decide +kernel
theorem dX6_digest_84 : decode cX6_digest 84 = .ok (.ldc2_w 220, 3) := by decide +kernel
theorem dX6_digest_87 : decode cX6_digest 87 = .ok (.lload_n 1, 1) := by decide +kernel
theorem dX6_digest_88 : decode cX6_digest 88 = .ok (.lmul, 1) := by decide +kernel
theorem dX6_digest_89 : decode cX6_digest 89 = .ok (.aload_n 0, 1) := by decide +kernel
theorem dX6_digest_90 : decode cX6_digest 90 = .ok (.getfield 14, 3) := by decide +kernel
theorem dX6_digest_93 : decode cX6_digest 93 = .ok (.iload_n 3, 1) := by decide +kernel
theorem dX6_digest_94 : decode cX6_digest 94 = .ok (.invokevirtual 140, 3) := by decide +kernel
theorem dX6_digest_97 : decode cX6_digest 97 = .ok (.i2l, 1) := by decide +kernel
theorem dX6_digest_98 : decode cX6_digest 98 = .ok (.ladd, 1) := by decide +kernel
theorem dX6_digest_99 : decode cX6_digest 99 = .ok (.lstore_n 1, 1) := by decide +kernel
theorem dX6_digest_100 : decode cX6_digest 100 = .ok (.iinc 3 1, 3) := by decide +kernel
theorem dX6_digest_103 : decode cX6_digest 103 = .ok (.goto (-30), 3) := by decide +kernel
theorem dX6_digest_106 : decode cX6_digest 106 = .ok (.iconst 0, 1) := by decide +kernel
theorem dX6_digest_107 : decode cX6_digest 107 = .ok (.istore_n 3, 1) := by decide +kernel
theorem dX6_digest_108 : decode cX6_digest 108 = .ok (.iload_n 3, 1) := by decide +kernel
theorem dX6_digest_109 : decode cX6_digest 109 = .ok (.bipush 10, 2) := by decide +kernel
theorem dX6_digest_111 : decode cX6_digest 111 = .ok (.if_icmp .ge 22, 3) := by decide +kernel
theorem dX6_digest_114 : decode cX6_digest 114 = .ok (.ldc2_w 220, 3) := by decide +kernel
theorem dX6_digest_117 : decode cX6_digest 117 = .ok (.lload_n 1, 1) := by decide +kernel
theorem dX6_digest_118 : decode cX6_digest 118 = .ok (.lmul, 1) := by decide +kernel
theorem dX6_digest_119 : decode cX6_digest 119 = .ok (.aload_n 0, 1) := by decide +kernel
theorem dX6_digest_120 : decode cX6_digest 120 = .ok (.iload_n 3, 1) := by decide +kernel
theorem dX6_digest_121 : decode cX6_digest 121 = .ok (.invokevirtual 225, 3) := by decide +kernel
theorem dX6_digest_124 : decode cX6_digest 124 = .ok (.i2l, 1) := by decide +kernel
theorem dX6_digest_125 : decode cX6_digest 125 = .ok (.ladd, 1) := by decide +kernel
theorem dX6_digest_126 : decode cX6_digest 126 = .ok (.lstore_n 1, 1) := by decide +kernel
theorem dX6_digest_127 : decode cX6_digest 127 = .ok (.iinc 3 1, 3) := by decide +kernel
theorem dX6_digest_130 : decode cX6_digest 130 = .ok (.goto (-22), 3) := by decide +kernel
theorem dX6_digest_133 : decode cX6_digest 133 = .ok (.lload_n 1, 1) := by decide +kernel
theorem dX6_digest_134 : decode cX6_digest 134 = .ok (.lreturn, 1) := by decide +kernel
theorem dX6_digestOfPatterns_0 : decode cX6_digestOfPatterns 0 = .ok (.lload_n 1, 1) := by decide +kernel
theorem dX6_digestOfPatterns_1 : decode cX6_digestOfPatterns 1 = .ok (.lstore_n 3, 1) := by decide +kernel
theorem dX6_digestOfPatterns_2 : decode cX6_digestOfPatterns 2 = .ok (.iconst 0, 1) := by decide +kernel
theorem dX6_digestOfPatterns_3 : decode cX6_digestOfPatterns 3 = .ok (.istore 5, 2) := by decide +kernel
theorem dX6_digestOfPatterns_5 : decode cX6_digestOfPatterns 5 = .ok (.iload 5, 2) := by decide +kernel
theorem dX6_digestOfPatterns_7 : decode cX6_digestOfPatterns 7 = .ok (.aload_n 0, 1) := by decide +kernel
theorem dX6_digestOfPatterns_8 : decode cX6_digestOfPatterns 8 = .ok (.getfield 28, 3) := by decide +kernel
theorem dX6_digestOfPatterns_11 : decode cX6_digestOfPatterns 11 = .ok (.invokevirtual 78, 3) := by decide +kernel
theorem dX6_digestOfPatterns_14 : decode cX6_digestOfPatterns 14 = .ok (.if_icmp .ge 73, 3) := by decide +kernel
theorem dX6_digestOfPatterns_17 : decode cX6_digestOfPatterns 17 = .ok (.iconst 0, 1) := by decide +kernel
theorem dX6_digestOfPatterns_18 : decode cX6_digestOfPatterns 18 = .ok (.istore 6, 2) := by decide +kernel
theorem dX6_digestOfPatterns_20 : decode cX6_digestOfPatterns 20 = .ok (.iload 6, 2) := by decide +kernel
theorem dX6_digestOfPatterns_22 : decode cX6_digestOfPatterns 22 = .ok (.bipush 6, 2) := by decide +kernel
theorem dX6_digestOfPatterns_24 : decode cX6_digestOfPatterns 24 = .ok (.if_icmp .ge 25, 3) := by decide +kernel
theorem dX6_digestOfPatterns_27 : decode cX6_digestOfPatterns 27 = .ok (.ldc2_w 220, 3) := by decide +kernel
theorem dX6_digestOfPatterns_30 : decode cX6_digestOfPatterns 30 = .ok (.lload_n 3, 1) := by decide +kernel
theorem dX6_digestOfPatterns_31 : decode cX6_digestOfPatterns 31 = .ok (.lmul, 1) := by decide +kernel
theorem dX6_digestOfPatterns_32 : decode cX6_digestOfPatterns 32 = .ok (.aload_n 0, 1) := by decide +kernel
theorem dX6_digestOfPatterns_33 : decode cX6_digestOfPatterns 33 = .ok (.iload 5, 2) := by decide +kernel
theorem dX6_digestOfPatterns_35 : decode cX6_digestOfPatterns 35 = .ok (.iload 6, 2) := by decide +kernel
theorem dX6_digestOfPatterns_37 : decode cX6_digestOfPatterns 37 = .ok (.invokevirtual 228, 3) := by decide +kernel
theorem dX6_digestOfPatterns_40 : decode cX6_digestOfPatterns 40 = .ok (.i2l, 1) := by decide +kernel
theorem dX6_digestOfPatterns_41 : decode cX6_digestOfPatterns 41 = .ok (.ladd, 1) := by decide +kernel
theorem dX6_digestOfPatterns_42 : decode cX6_digestOfPatterns 42 = .ok (.lstore_n 3, 1) := by decide +kernel
theorem dX6_digestOfPatterns_43 : decode cX6_digestOfPatterns 43 = .ok (.iinc 6 1, 3) := by decide +kernel
theorem dX6_digestOfPatterns_46 : decode cX6_digestOfPatterns 46 = .ok (.goto (-26), 3) := by decide +kernel
theorem dX6_digestOfPatterns_49 : decode cX6_digestOfPatterns 49 = .ok (.iconst 0, 1) := by decide +kernel
theorem dX6_digestOfPatterns_50 : decode cX6_digestOfPatterns 50 = .ok (.istore 6, 2) := by decide +kernel
theorem dX6_digestOfPatterns_52 : decode cX6_digestOfPatterns 52 = .ok (.iload 6, 2) := by decide +kernel
theorem dX6_digestOfPatterns_54 : decode cX6_digestOfPatterns 54 = .ok (.bipush 10, 2) := by decide +kernel
theorem dX6_digestOfPatterns_56 : decode cX6_digestOfPatterns 56 = .ok (.if_icmp .ge 25, 3) := by decide +kernel
theorem dX6_digestOfPatterns_59 : decode cX6_digestOfPatterns 59 = .ok (.ldc2_w 220, 3) := by decide +kernel
theorem dX6_digestOfPatterns_62 : decode cX6_digestOfPatterns 62 = .ok (.lload_n 3, 1) := by decide +kernel
theorem dX6_digestOfPatterns_63 : decode cX6_digestOfPatterns 63 = .ok (.lmul, 1) := by decide +kernel
theorem dX6_digestOfPatterns_64 : decode cX6_digestOfPatterns 64 = .ok (.aload_n 0, 1) := by decide +kernel
theorem dX6_digestOfPatterns_65 : decode cX6_digestOfPatterns 65 = .ok (.iload 5, 2) := by decide +kernel
theorem dX6_digestOfPatterns_67 : decode cX6_digestOfPatterns 67 = .ok (.iload 6, 2) := by decide +kernel
theorem dX6_digestOfPatterns_69 : decode cX6_digestOfPatterns 69 = .ok (.invokevirtual 232, 3) := by decide +kernel
theorem dX6_digestOfPatterns_72 : decode cX6_digestOfPatterns 72 = .ok (.i2l, 1) := by decide +kernel
theorem dX6_digestOfPatterns_73 : decode cX6_digestOfPatterns 73 = .ok (.ladd, 1) := by decide +kernel
theorem dX6_digestOfPatterns_74 : decode cX6_digestOfPatterns 74 = .ok (.lstore_n 3, 1) := by decide +kernel
theorem dX6_digestOfPatterns_75 : decode cX6_digestOfPatterns 75 = .ok (.iinc 6 1, 3) := by decide +kernel
theorem dX6_digestOfPatterns_78 : decode cX6_digestOfPatterns 78 = .ok (.goto (-26), 3) := by decide +kernel
theorem dX6_digestOfPatterns_81 : decode cX6_digestOfPatterns 81 = .ok (.iinc 5 1, 3) := by decide +kernel
theorem dX6_digestOfPatterns_84 : decode cX6_digestOfPatterns 84 = .ok (.goto (-79), 3) := by decide +kernel
theorem dX6_digestOfPatterns_87 : decode cX6_digestOfPatterns 87 = .ok (.lload_n 3, 1) := by decide +kernel
theorem dX6_digestOfPatterns_88 : decode cX6_digestOfPatterns 88 = .ok (.lreturn, 1) := by decide +kernel
theorem dX6_digestOfClashes_0 : decode cX6_digestOfClashes 0 = .ok (.lload_n 1, 1) := by decide +kernel
theorem dX6_digestOfClashes_1 : decode cX6_digestOfClashes 1 = .ok (.lstore_n 3, 1) := by decide +kernel
theorem dX6_digestOfClashes_2 : decode cX6_digestOfClashes 2 = .ok (.iconst 0, 1) := by decide +kernel
theorem dX6_digestOfClashes_3 : decode cX6_digestOfClashes 3 = .ok (.istore 5, 2) := by decide +kernel
theorem dX6_digestOfClashes_5 : decode cX6_digestOfClashes 5 = .ok (.iload 5, 2) := by decide +kernel
theorem dX6_digestOfClashes_7 : decode cX6_digestOfClashes 7 = .ok (.aload_n 0, 1) := by decide +kernel
theorem dX6_digestOfClashes_8 : decode cX6_digestOfClashes 8 = .ok (.getfield 28, 3) := by decide +kernel
theorem dX6_digestOfClashes_11 : decode cX6_digestOfClashes 11 = .ok (.invokevirtual 78, 3) := by decide +kernel
theorem dX6_digestOfClashes_14 : decode cX6_digestOfClashes 14 = .ok (.if_icmp .ge 63, 3) := by decide +kernel
theorem dX6_digestOfClashes_17 : decode cX6_digestOfClashes 17 = .ok (.iload 5, 2) := by decide +kernel
theorem dX6_digestOfClashes_19 : decode cX6_digestOfClashes 19 = .ok (.iconst 1, 1) := by decide +kernel
theorem dX6_digestOfClashes_20 : decode cX6_digestOfClashes 20 = .ok (.iadd, 1) := by decide +kernel
theorem dX6_digestOfClashes_21 : decode cX6_digestOfClashes 21 = .ok (.istore 6, 2) := by decide +kernel
theorem dX6_digestOfClashes_23 : decode cX6_digestOfClashes 23 = .ok (.iload 6, 2) := by decide +kernel
theorem dX6_digestOfClashes_25 : decode cX6_digestOfClashes 25 = .ok (.aload_n 0, 1) := by decide +kernel
theorem dX6_digestOfClashes_26 : decode cX6_digestOfClashes 26 = .ok (.getfield 28, 3) := by decide +kernel
theorem dX6_digestOfClashes_29 : decode cX6_digestOfClashes 29 = .ok (.invokevirtual 78, 3) := by decide +kernel
theorem dX6_digestOfClashes_32 : decode cX6_digestOfClashes 32 = .ok (.if_icmp .ge 39, 3) := by decide +kernel
theorem dX6_digestOfClashes_35 : decode cX6_digestOfClashes 35 = .ok (.aload_n 0, 1) := by decide +kernel
theorem dX6_digestOfClashes_36 : decode cX6_digestOfClashes 36 = .ok (.getfield 28, 3) := by decide +kernel
theorem dX6_digestOfClashes_39 : decode cX6_digestOfClashes 39 = .ok (.iload 5, 2) := by decide +kernel
theorem dX6_digestOfClashes_41 : decode cX6_digestOfClashes 41 = .ok (.iload 6, 2) := by decide +kernel
theorem dX6_digestOfClashes_43 : decode cX6_digestOfClashes 43 = .ok (.invokevirtual 114, 3) := by decide +kernel
theorem dX6_digestOfClashes_46 : decode cX6_digestOfClashes 46 = .ok (.ifCond .eq 19, 3) := by decide +kernel
theorem dX6_digestOfClashes_49 : decode cX6_digestOfClashes 49 = .ok (.ldc2_w 220, 3) := by decide +kernel
theorem dX6_digestOfClashes_52 : decode cX6_digestOfClashes 52 = .ok (.lload_n 3, 1) := by decide +kernel
theorem dX6_digestOfClashes_53 : decode cX6_digestOfClashes 53 = .ok (.lmul, 1) := by decide +kernel
theorem dX6_digestOfClashes_54 : decode cX6_digestOfClashes 54 = .ok (.bipush 16, 2) := by decide +kernel
theorem dX6_digestOfClashes_56 : decode cX6_digestOfClashes 56 = .ok (.iload 5, 2) := by decide +kernel
theorem dX6_digestOfClashes_58 : decode cX6_digestOfClashes 58 = .ok (.imul, 1) := by decide +kernel
theorem dX6_digestOfClashes_59 : decode cX6_digestOfClashes 59 = .ok (.iload 6, 2) := by decide +kernel
theorem dX6_digestOfClashes_61 : decode cX6_digestOfClashes 61 = .ok (.iadd, 1) := by decide +kernel
theorem dX6_digestOfClashes_62 : decode cX6_digestOfClashes 62 = .ok (.i2l, 1) := by decide +kernel
theorem dX6_digestOfClashes_63 : decode cX6_digestOfClashes 63 = .ok (.ladd, 1) := by decide +kernel
theorem dX6_digestOfClashes_64 : decode cX6_digestOfClashes 64 = .ok (.lstore_n 3, 1) := by decide +kernel
theorem dX6_digestOfClashes_65 : decode cX6_digestOfClashes 65 = .ok (.iinc 6 1, 3) := by decide +kernel
theorem dX6_digestOfClashes_68 : decode cX6_digestOfClashes 68 = .ok (.goto (-45), 3) := by decide +kernel
theorem dX6_digestOfClashes_71 : decode cX6_digestOfClashes 71 = .ok (.iinc 5 1, 3) := by decide +kernel
theorem dX6_digestOfClashes_74 : decode cX6_digestOfClashes 74 = .ok (.goto (-69), 3) := by decide +kernel
theorem dX6_digestOfClashes_77 : decode cX6_digestOfClashes 77 = .ok (.lload_n 3, 1) := by decide +kernel
theorem dX6_digestOfClashes_78 : decode cX6_digestOfClashes 78 = .ok (.lreturn, 1) := by decide +kernel
theorem dX7_init_0 : decode cX7_init 0 = .ok (.aload_n 0, 1) := by decide +kernel
theorem dX7_init_1 : decode cX7_init 1 = .ok (.invokespecial 1, 3) := by decide +kernel
theorem dX7_init_4 : decode cX7_init 4 = .ok (.aload_n 0, 1) := by decide +kernel
theorem dX7_init_5 : decode cX7_init 5 = .ok (.bipush 52, 2) := by decide +kernel
theorem dX7_init_7 : decode cX7_init 7 = .ok (.newarray .int, 2) := by decide +kernel
theorem dX7_init_9 : decode cX7_init 9 = .ok (.putfield 7, 3) := by decide +kernel
theorem dX7_init_12 : decode cX7_init 12 = .ok (.aload_n 0, 1) := by decide +kernel
theorem dX7_init_13 : decode cX7_init 13 = .ok (.bipush 10, 2) := by decide +kernel
theorem dX7_init_15 : decode cX7_init 15 = .ok (.newarray .int, 2) := by decide +kernel
theorem dX7_init_17 : decode cX7_init 17 = .ok (.putfield 13, 3) := by decide +kernel
theorem dX7_init_20 : decode cX7_init 20 = .ok (.aload_n 0, 1) := by decide +kernel
theorem dX7_init_21 : decode cX7_init 21 = .ok (.bipush 10, 2) := by decide +kernel
theorem dX7_init_23 : decode cX7_init 23 = .ok (.newarray .boolean, 2) := by decide +kernel
theorem dX7_init_25 : decode cX7_init 25 = .ok (.putfield 16, 3) := by decide +kernel
theorem dX7_init_28 : decode cX7_init 28 = .ok (.aload_n 0, 1) := by decide +kernel
theorem dX7_init_29 : decode cX7_init 29 = .ok (.bipush 80, 2) := by decide +kernel
theorem dX7_init_31 : decode cX7_init 31 = .ok (.newarray .int, 2) := by decide +kernel
theorem dX7_init_33 : decode cX7_init 33 = .ok (.putfield 20, 3) := by decide +kernel
theorem dX7_init_36 : decode cX7_init 36 = .ok (.aload_n 0, 1) := by decide +kernel
theorem dX7_init_37 : decode cX7_init 37 = .ok (.bipush 10, 2) := by decide +kernel
theorem dX7_init_39 : decode cX7_init 39 = .ok (.newarray .int, 2) := by decide +kernel
theorem dX7_init_41 : decode cX7_init 41 = .ok (.putfield 23, 3) := by decide +kernel
theorem dX7_init_44 : decode cX7_init 44 = .ok (.aload_n 0, 1) := by decide +kernel
theorem dX7_init_45 : decode cX7_init 45 = .ok (.bipush 10, 2) := by decide +kernel
theorem dX7_init_47 : decode cX7_init 47 = .ok (.newarray .int, 2) := by decide +kernel
theorem dX7_init_49 : decode cX7_init 49 = .ok (.putfield 26, 3) := by decide +kernel
theorem dX7_init_52 : decode cX7_init 52 = .ok (.aload_n 0, 1) := by decide +kernel
theorem dX7_init_53 : decode cX7_init 53 = .ok (.bipush 10, 2) := by decide +kernel
theorem dX7_init_55 : decode cX7_init 55 = .ok (.newarray .int, 2) := by decide +kernel
theorem dX7_init_57 : decode cX7_init 57 = .ok (.putfield 29, 3) := by decide +kernel
theorem dX7_init_60 : decode cX7_init 60 = .ok (.aload_n 0, 1) := by decide +kernel
theorem dX7_init_61 : decode cX7_init 61 = .ok (.bipush 40, 2) := by decide +kernel
theorem dX7_init_63 : decode cX7_init 63 = .ok (.newarray .int, 2) := by decide +kernel
theorem dX7_init_65 : decode cX7_init 65 = .ok (.putfield 32, 3) := by decide +kernel
theorem dX7_init_68 : decode cX7_init 68 = .ok (.aload_n 0, 1) := by decide +kernel
theorem dX7_init_69 : decode cX7_init 69 = .ok (.iconst 3, 1) := by decide +kernel
theorem dX7_init_70 : decode cX7_init 70 = .ok (.newarray .int, 2) := by decide +kernel
theorem dX7_init_72 : decode cX7_init 72 = .ok (.putfield 35, 3) := by decide +kernel
theorem dX7_init_75 : decode cX7_init 75 = .ok (.aload_n 0, 1) := by decide +kernel
theorem dX7_init_76 : decode cX7_init 76 = .ok (.bipush 8, 2) := by decide +kernel
theorem dX7_init_78 : decode cX7_init 78 = .ok (.newarray .int, 2) := by decide +kernel
theorem dX7_init_80 : decode cX7_init 80 = .ok (.putfield 38, 3) := by decide +kernel
theorem dX7_init_83 : decode cX7_init 83 = .ok (.aload_n 0, 1) := by decide +kernel
theorem dX7_init_84 : decode cX7_init 84 = .ok (.iconst 4, 1) := by decide +kernel
theorem dX7_init_85 : decode cX7_init 85 = .ok (.newarray .int, 2) := by decide +kernel
theorem dX7_init_87 : decode cX7_init 87 = .ok (.putfield 41, 3) := by decide +kernel
theorem dX7_init_90 : decode cX7_init 90 = .ok (.aload_n 0, 1) := by decide +kernel
theorem dX7_init_91 : decode cX7_init 91 = .ok (.bipush 14, 2) := by decide +kernel
theorem dX7_init_93 : decode cX7_init 93 = .ok (.newarray .int, 2) := by decide +kernel
theorem dX7_init_95 : decode cX7_init 95 = .ok (.putfield 44, 3) := by decide +kernel
theorem dX7_init_98 : decode cX7_init 98 = .ok (.aload_n 0, 1) := by decide +kernel
theorem dX7_init_99 : decode cX7_init 99 = .ok (.bipush 10, 2) := by decide +kernel
theorem dX7_init_101 : decode cX7_init 101 = .ok (.newarray .int, 2) := by decide +kernel
theorem dX7_init_103 : decode cX7_init 103 = .ok (.putfield 47, 3) := by decide +kernel
theorem dX7_init_106 : decode cX7_init 106 = .ok (.aload_n 0, 1) := by decide +kernel
theorem dX7_init_107 : decode cX7_init 107 = .ok (.getfield 35, 3) := by decide +kernel
theorem dX7_init_110 : decode cX7_init 110 = .ok (.iconst 0, 1) := by decide +kernel
theorem dX7_init_111 : decode cX7_init 111 = .ok (.bipush 15, 2) := by decide +kernel
theorem dX7_init_113 : decode cX7_init 113 = .ok (.iastore, 1) := by decide +kernel
theorem dX7_init_114 : decode cX7_init 114 = .ok (.aload_n 0, 1) := by decide +kernel
theorem dX7_init_115 : decode cX7_init 115 = .ok (.getfield 35, 3) := by decide +kernel
theorem dX7_init_118 : decode cX7_init 118 = .ok (.iconst 1, 1) := by decide +kernel
theorem dX7_init_119 : decode cX7_init 119 = .ok (.bipush 8, 2) := by decide +kernel
theorem dX7_init_121 : decode cX7_init 121 = .ok (.iastore, 1) := by decide +kernel
theorem dX7_init_122 : decode cX7_init 122 = .ok (.aload_n 0, 1) := by decide +kernel
theorem dX7_init_123 : decode cX7_init 123 = .ok (.getfield 35, 3) := by decide +kernel
theorem dX7_init_126 : decode cX7_init 126 = .ok (.iconst 2, 1) := by decide +kernel
theorem dX7_init_127 : decode cX7_init 127 = .ok (.iconst 4, 1) := by decide +kernel
theorem dX7_init_128 : decode cX7_init 128 = .ok (.iastore, 1) := by decide +kernel
theorem dX7_init_129 : decode cX7_init 129 = .ok (.return_, 1) := by decide +kernel
theorem dX7_within_0 : decode cX7_within 0 = .ok (.iload_n 0, 1) := by decide +kernel
theorem dX7_within_1 : decode cX7_within 1 = .ok (.iload_n 1, 1) := by decide +kernel
theorem dX7_within_2 : decode cX7_within 2 = .ok (.if_icmp .lt 12, 3) := by decide +kernel
theorem dX7_within_5 : decode cX7_within 5 = .ok (.iload_n 0, 1) := by decide +kernel
theorem dX7_within_6 : decode cX7_within 6 = .ok (.iload_n 2, 1) := by decide +kernel
theorem dX7_within_7 : decode cX7_within 7 = .ok (.if_icmp .gt 7, 3) := by decide +kernel
theorem dX7_within_10 : decode cX7_within 10 = .ok (.iconst 1, 1) := by decide +kernel
theorem dX7_within_11 : decode cX7_within 11 = .ok (.goto 4, 3) := by decide +kernel
theorem dX7_within_14 : decode cX7_within 14 = .ok (.iconst 0, 1) := by decide +kernel
theorem dX7_within_15 : decode cX7_within 15 = .ok (.ireturn, 1) := by decide +kernel
theorem dX7_ones_0 : decode cX7_ones 0 = .ok (.iconst 0, 1) := by decide +kernel
theorem dX7_ones_1 : decode cX7_ones 1 = .ok (.istore_n 1, 1) := by decide +kernel
theorem dX7_ones_2 : decode cX7_ones 2 = .ok (.iconst 0, 1) := by decide +kernel
theorem dX7_ones_3 : decode cX7_ones 3 = .ok (.istore_n 2, 1) := by decide +kernel
theorem dX7_ones_4 : decode cX7_ones 4 = .ok (.iload_n 2, 1) := by decide +kernel
theorem dX7_ones_5 : decode cX7_ones 5 = .ok (.bipush 10, 2) := by decide +kernel
theorem dX7_ones_7 : decode cX7_ones 7 = .ok (.if_icmp .ge 17, 3) := by decide +kernel
theorem dX7_ones_10 : decode cX7_ones 10 = .ok (.iload_n 1, 1) := by decide +kernel
theorem dX7_ones_11 : decode cX7_ones 11 = .ok (.iload_n 0, 1) := by decide +kernel
theorem dX7_ones_12 : decode cX7_ones 12 = .ok (.iload_n 2, 1) := by decide +kernel
theorem dX7_ones_13 : decode cX7_ones 13 = .ok (.ishr, 1) := by decide +kernel
theorem dX7_ones_14 : decode cX7_ones 14 = .ok (.iconst 1, 1) := by decide +kernel
theorem dX7_ones_15 : decode cX7_ones 15 = .ok (.iand, 1) := by decide +kernel
theorem dX7_ones_16 : decode cX7_ones 16 = .ok (.iadd, 1) := by decide +kernel
theorem dX7_ones_17 : decode cX7_ones 17 = .ok (.istore_n 1, 1) := by decide +kernel
theorem dX7_ones_18 : decode cX7_ones 18 = .ok (.iinc 2 1, 3) := by decide +kernel
theorem dX7_ones_21 : decode cX7_ones 21 = .ok (.goto (-17), 3) := by decide +kernel
theorem dX7_ones_24 : decode cX7_ones 24 = .ok (.iload_n 1, 1) := by decide +kernel
theorem dX7_ones_25 : decode cX7_ones 25 = .ok (.ireturn, 1) := by decide +kernel
theorem dX7_letter_0 : decode cX7_letter 0 = .ok (.iload_n 1, 1) := by decide +kernel
theorem dX7_letter_1 : decode cX7_letter 1 = .ok (.bipush 32, 2) := by decide +kernel
theorem dX7_letter_3 : decode cX7_letter 3 = .ok (.bipush 126, 2) := by decide +kernel
theorem dX7_letter_5 : decode cX7_letter 5 = .ok (.invokestatic 50, 3) := by decide +kernel
theorem dX7_letter_8 : decode cX7_letter 8 = .ok (.ifCond .ne 7, 3) := by decide +kernel
theorem dX7_letter_11 : decode cX7_letter 11 = .ok (.sipush (-1002), 3) := by decide +kernel
theorem dX7_letter_14 : decode cX7_letter 14 = .ok (.ireturn, 1) := by decide +kernel
theorem dX7_letter_15 : decode cX7_letter 15 = .ok (.aload_n 0, 1) := by decide +kernel
theorem dX7_letter_16 : decode cX7_letter 16 = .ok (.getfield 54, 3) := by decide +kernel
theorem dX7_letter_19 : decode cX7_letter 19 = .ok (.bipush 52, 2) := by decide +kernel
theorem dX7_letter_21 : decode cX7_letter 21 = .ok (.if_icmp .ne 7, 3) := by decide +kernel
theorem dX7_letter_24 : decode cX7_letter 24 = .ok (.sipush (-1004), 3) := by decide +kernel
theorem dX7_letter_27 : decode cX7_letter 27 = .ok (.ireturn, 1) := by decide +kernel
theorem dX7_letter_28 : decode cX7_letter 28 = .ok (.aload_n 0, 1) := by decide +kernel
theorem dX7_letter_29 : decode cX7_letter 29 = .ok (.getfield 7, 3) := by decide +kernel
theorem dX7_letter_32 : decode cX7_letter 32 = .ok (.aload_n 0, 1) := by decide +kernel
theorem dX7_letter_33 : decode cX7_letter 33 = .ok (.getfield 54, 3) := by decide +kernel
theorem dX7_letter_36 : decode cX7_letter 36 = .ok (.iload_n 1, 1) := by decide +kernel
theorem dX7_letter_37 : decode cX7_letter 37 = .ok (.iastore, 1) := by decide +kernel
theorem dX7_letter_38 : decode cX7_letter 38 = .ok (.aload_n 0, 1) := by decide +kernel
theorem dX7_letter_39 : decode cX7_letter 39 = .ok (.dup, 1) := by decide +kernel
theorem dX7_letter_40 : decode cX7_letter 40 = .ok (.getfield 54, 3) := by decide +kernel
theorem dX7_letter_43 : decode cX7_letter 43 = .ok (.iconst 1, 1) := by decide +kernel
theorem dX7_letter_44 : decode cX7_letter 44 = .ok (.iadd, 1) := by decide +kernel
theorem dX7_letter_45 : decode cX7_letter 45 = .ok (.putfield 54, 3) := by decide +kernel
theorem dX7_letter_48 : decode cX7_letter 48 = .ok (.aload_n 0, 1) := by decide +kernel
theorem dX7_letter_49 : decode cX7_letter 49 = .ok (.getfield 54, 3) := by decide +kernel
theorem dX7_letter_52 : decode cX7_letter 52 = .ok (.ireturn, 1) := by decide +kernel
theorem dX7_blank_0 : decode cX7_blank 0 = .ok (.aload_n 0, 1) := by decide +kernel
theorem dX7_blank_1 : decode cX7_blank 1 = .ok (.getfield 54, 3) := by decide +kernel
theorem dX7_blank_4 : decode cX7_blank 4 = .ok (.istore_n 1, 1) := by decide +kernel
theorem dX7_blank_5 : decode cX7_blank 5 = .ok (.aload_n 0, 1) := by decide +kernel
theorem dX7_blank_6 : decode cX7_blank 6 = .ok (.iconst 0, 1) := by decide +kernel
theorem dX7_blank_7 : decode cX7_blank 7 = .ok (.putfield 54, 3) := by decide +kernel
theorem dX7_blank_10 : decode cX7_blank 10 = .ok (.iload_n 1, 1) := by decide +kernel
theorem dX7_blank_11 : decode cX7_blank 11 = .ok (.ireturn, 1) := by decide +kernel
theorem dX7_letsNext_0 : decode cX7_letsNext 0 = .ok (.aload_n 0, 1) := by decide +kernel
theorem dX7_letsNext_1 : decode cX7_letsNext 1 = .ok (.getfield 38, 3) := by decide +kernel
theorem dX7_letsNext_4 : decode cX7_letsNext 4 = .ok (.aload_n 0, 1) := by decide +kernel
theorem dX7_letsNext_5 : decode cX7_letsNext 5 = .ok (.getfield 58, 3) := by decide +kernel
theorem dX7_letsNext_8 : decode cX7_letsNext 8 = .ok (.iload_n 1, 1) := by decide +kernel
theorem dX7_letsNext_9 : decode cX7_letsNext 9 = .ok (.iastore, 1) := by decide +kernel
theorem dX7_letsNext_10 : decode cX7_letsNext 10 = .ok (.aload_n 0, 1) := by decide +kernel
theorem dX7_letsNext_11 : decode cX7_letsNext 11 = .ok (.dup, 1) := by decide +kernel
theorem dX7_letsNext_12 : decode cX7_letsNext 12 = .ok (.getfield 58, 3) := by decide +kernel
theorem dX7_letsNext_15 : decode cX7_letsNext 15 = .ok (.iconst 1, 1) := by decide +kernel
theorem dX7_letsNext_16 : decode cX7_letsNext 16 = .ok (.iadd, 1) := by decide +kernel
theorem dX7_letsNext_17 : decode cX7_letsNext 17 = .ok (.putfield 58, 3) := by decide +kernel
theorem dX7_letsNext_20 : decode cX7_letsNext 20 = .ok (.aload_n 0, 1) := by decide +kernel
theorem dX7_letsNext_21 : decode cX7_letsNext 21 = .ok (.iconst 0, 1) := by decide +kernel
theorem dX7_letsNext_22 : decode cX7_letsNext 22 = .ok (.putfield 61, 3) := by decide +kernel
theorem dX7_letsNext_25 : decode cX7_letsNext 25 = .ok (.iconst 1, 1) := by decide +kernel
theorem dX7_letsNext_26 : decode cX7_letsNext 26 = .ok (.ireturn, 1) := by decide +kernel
theorem dX7_takesPlace_0 : decode cX7_takesPlace 0 = .ok (.iload_n 1, 1) := by decide +kernel
theorem dX7_takesPlace_1 : decode cX7_takesPlace 1 = .ok (.bipush 61, 2) := by decide +kernel
theorem dX7_takesPlace_3 : decode cX7_takesPlace 3 = .ok (.if_icmp .ne 18, 3) := by decide +kernel
theorem dX7_takesPlace_6 : decode cX7_takesPlace 6 = .ok (.aload_n 0, 1) := by decide +kernel
theorem dX7_takesPlace_7 : decode cX7_takesPlace 7 = .ok (.getfield 58, 3) := by decide +kernel
theorem dX7_takesPlace_10 : decode cX7_takesPlace 10 = .ok (.ifCond .le 11, 3) := by decide +kernel
theorem dX7_takesPlace_13 : decode cX7_takesPlace 13 = .ok (.aload_n 0, 1) := by decide +kernel
theorem dX7_takesPlace_14 : decode cX7_takesPlace 14 = .ok (.bipush 6, 2) := by decide +kernel
theorem dX7_takesPlace_16 : decode cX7_takesPlace 16 = .ok (.putfield 61, 3) := by decide +kernel
theorem dX7_takesPlace_19 : decode cX7_takesPlace 19 = .ok (.iconst 1, 1) := by decide +kernel
theorem dX7_takesPlace_20 : decode cX7_takesPlace 20 = .ok (.ireturn, 1) := by decide +kernel
theorem dX7_takesPlace_21 : decode cX7_takesPlace 21 = .ok (.iload_n 1, 1) := by decide +kernel
theorem dX7_takesPlace_22 : decode cX7_takesPlace 22 = .ok (.bipush 46, 2) := by decide +kernel
theorem dX7_takesPlace_24 : decode cX7_takesPlace 24 = .ok (.if_icmp .ne 22, 3) := by decide +kernel
theorem dX7_takesPlace_27 : decode cX7_takesPlace 27 = .ok (.aload_n 0, 1) := by decide +kernel
theorem dX7_takesPlace_28 : decode cX7_takesPlace 28 = .ok (.getfield 58, 3) := by decide +kernel
theorem dX7_takesPlace_31 : decode cX7_takesPlace 31 = .ok (.ifCond .le 15, 3) := by decide +kernel
theorem dX7_takesPlace_34 : decode cX7_takesPlace 34 = .ok (.aload_n 0, 1) := by decide +kernel
theorem dX7_takesPlace_35 : decode cX7_takesPlace 35 = .ok (.iconst 1, 1) := by decide +kernel
theorem dX7_takesPlace_36 : decode cX7_takesPlace 36 = .ok (.putfield 64, 3) := by decide +kernel
theorem dX7_takesPlace_39 : decode cX7_takesPlace 39 = .ok (.aload_n 0, 1) := by decide +kernel
theorem dX7_takesPlace_40 : decode cX7_takesPlace 40 = .ok (.iconst 5, 1) := by decide +kernel
theorem dX7_takesPlace_41 : decode cX7_takesPlace 41 = .ok (.putfield 61, 3) := by decide +kernel
theorem dX7_takesPlace_44 : decode cX7_takesPlace 44 = .ok (.iconst 1, 1) := by decide +kernel
theorem dX7_takesPlace_45 : decode cX7_takesPlace 45 = .ok (.ireturn, 1) := by decide +kernel
theorem dX7_takesPlace_46 : decode cX7_takesPlace 46 = .ok (.aload_n 0, 1) := by decide +kernel
theorem dX7_takesPlace_47 : decode cX7_takesPlace 47 = .ok (.getfield 58, 3) := by decide +kernel
theorem dX7_takesPlace_50 : decode cX7_takesPlace 50 = .ok (.bipush 8, 2) := by decide +kernel
theorem dX7_takesPlace_52 : decode cX7_takesPlace 52 = .ok (.if_icmp .ne 5, 3) := by decide +kernel
theorem dX7_takesPlace_55 : decode cX7_takesPlace 55 = .ok (.iconst 0, 1) := by decide +kernel
theorem dX7_takesPlace_56 : decode cX7_takesPlace 56 = .ok (.ireturn, 1) := by decide +kernel
theorem dX7_takesPlace_57 : decode cX7_takesPlace 57 = .ok (.iload_n 1, 1) := by decide +kernel
theorem dX7_takesPlace_58 : decode cX7_takesPlace 58 = .ok (.bipush 91, 2) := by decide +kernel
theorem dX7_takesPlace_60 : decode cX7_takesPlace 60 = .ok (.if_icmp .ne 10, 3) := by decide +kernel
theorem dX7_takesPlace_63 : decode cX7_takesPlace 63 = .ok (.aload_n 0, 1) := by decide +kernel
theorem dX7_takesPlace_64 : decode cX7_takesPlace 64 = .ok (.iconst 1, 1) := by decide +kernel
theorem dX7_takesPlace_65 : decode cX7_takesPlace 65 = .ok (.putfield 61, 3) := by decide +kernel
theorem dX7_takesPlace_68 : decode cX7_takesPlace 68 = .ok (.iconst 1, 1) := by decide +kernel
theorem dX7_takesPlace_69 : decode cX7_takesPlace 69 = .ok (.ireturn, 1) := by decide +kernel
theorem dX7_takesPlace_70 : decode cX7_takesPlace 70 = .ok (.iload_n 1, 1) := by decide +kernel
theorem dX7_takesPlace_71 : decode cX7_takesPlace 71 = .ok (.bipush 48, 2) := by decide +kernel
theorem dX7_takesPlace_73 : decode cX7_takesPlace 73 = .ok (.bipush 57, 2) := by decide +kernel
theorem dX7_takesPlace_75 : decode cX7_takesPlace 75 = .ok (.invokestatic 50, 3) := by decide +kernel
theorem dX7_takesPlace_78 : decode cX7_takesPlace 78 = .ok (.ifCond .ne 15, 3) := by decide +kernel
theorem dX7_takesPlace_81 : decode cX7_takesPlace 81 = .ok (.iload_n 1, 1) := by decide +kernel
theorem dX7_takesPlace_82 : decode cX7_takesPlace 82 = .ok (.bipush 78, 2) := by decide +kernel
theorem dX7_takesPlace_84 : decode cX7_takesPlace 84 = .ok (.if_icmp .eq 9, 3) := by decide +kernel
theorem dX7_takesPlace_87 : decode cX7_takesPlace 87 = .ok (.iload_n 1, 1) := by decide +kernel
theorem dX7_takesPlace_88 : decode cX7_takesPlace 88 = .ok (.bipush 88, 2) := by decide +kernel
theorem dX7_takesPlace_90 : decode cX7_takesPlace 90 = .ok (.if_icmp .ne 7, 3) := by decide +kernel
theorem dX7_takesPlace_93 : decode cX7_takesPlace 93 = .ok (.iconst 1, 1) := by decide +kernel
theorem dX7_takesPlace_94 : decode cX7_takesPlace 94 = .ok (.goto 4, 3) := by decide +kernel
theorem dX7_takesPlace_97 : decode cX7_takesPlace 97 = .ok (.iconst 0, 1) := by decide +kernel
theorem dX7_takesPlace_98 : decode cX7_takesPlace 98 = .ok (.istore_n 2, 1) := by decide +kernel
theorem dX7_takesPlace_99 : decode cX7_takesPlace 99 = .ok (.iload_n 2, 1) := by decide +kernel
theorem dX7_takesPlace_100 : decode cX7_takesPlace 100 = .ok (.ifCond .eq 44, 3) := by decide +kernel
theorem dX7_takesPlace_103 : decode cX7_takesPlace 103 = .ok (.aload_n 0, 1) := by decide +kernel
theorem dX7_takesPlace_104 : decode cX7_takesPlace 104 = .ok (.iload_n 1, 1) := by decide +kernel
theorem dX7_takesPlace_105 : decode cX7_takesPlace 105 = .ok (.bipush 78, 2) := by decide +kernel
theorem dX7_takesPlace_107 : decode cX7_takesPlace 107 = .ok (.if_icmp .ne 9, 3) := by decide +kernel
theorem dX7_takesPlace_110 : decode cX7_takesPlace 110 = .ok (.sipush 1020, 3) := by decide +kernel
theorem dX7_takesPlace_113 : decode cX7_takesPlace 113 = .ok (.goto 21, 3) := by decide +kernel
theorem dX7_takesPlace_116 : decode cX7_takesPlace 116 = .ok (.iload_n 1, 1) := by decide +kernel
theorem dX7_takesPlace_117 : decode cX7_takesPlace 117 = .ok (.bipush 88, 2) := by decide +kernel
theorem dX7_takesPlace_119 : decode cX7_takesPlace 119 = .ok (.if_icmp .ne 9, 3) := by decide +kernel
theorem dX7_takesPlace_122 : decode cX7_takesPlace 122 = .ok (.sipush 1023, 3) := by decide +kernel
theorem dX7_takesPlace_125 : decode cX7_takesPlace 125 = .ok (.goto 9, 3) := by decide +kernel
