theorem dX7_takesPlace_128 : decode cX7_takesPlace 128 = .ok (.iconst 1, 1) := by decide +kernel
theorem dX7_takesPlace_129 : decode cX7_takesPlace 129 = .ok (.iload_n 1, 1) := by decide +kernel
theorem dX7_takesPlace_130 : decode cX7_takesPlace 130 = .ok (.bipush 48, 2) := by decide +kernel
theorem dX7_takesPlace_132 : decode cX7_takesPlace 132 = .ok (.isub, 1) := by decide +kernel
theorem dX7_takesPlace_133 : decode cX7_takesPlace 133 = .ok (.ishl, 1) := by decide +kernel
theorem dX7_takesPlace_134 : decode cX7_takesPlace 134 = .ok (.invokevirtual 68, 3) := by decide +kernel
theorem dX7_takesPlace_137 : decode cX7_takesPlace 137 = .ok (.ifCond .eq 7, 3) := by decide +kernel
theorem dX7_takesPlace_140 : decode cX7_takesPlace 140 = .ok (.iconst 1, 1) := by decide +kernel
theorem dX7_takesPlace_141 : decode cX7_takesPlace 141 = .ok (.goto 4, 3) := by decide +kernel
theorem dX7_takesPlace_144 : decode cX7_takesPlace 144 = .ok (.iconst 0, 1) := by decide +kernel
theorem dX7_takesPlace_145 : decode cX7_takesPlace 145 = .ok (.ireturn, 1) := by decide +kernel
theorem dX7_takesSpan_0 : decode cX7_takesSpan 0 = .ok (.iload_n 1, 1) := by decide +kernel
theorem dX7_takesSpan_1 : decode cX7_takesSpan 1 = .ok (.bipush 48, 2) := by decide +kernel
theorem dX7_takesSpan_3 : decode cX7_takesSpan 3 = .ok (.isub, 1) := by decide +kernel
theorem dX7_takesSpan_4 : decode cX7_takesSpan 4 = .ok (.istore_n 2, 1) := by decide +kernel
theorem dX7_takesSpan_5 : decode cX7_takesSpan 5 = .ok (.aload_n 0, 1) := by decide +kernel
theorem dX7_takesSpan_6 : decode cX7_takesSpan 6 = .ok (.getfield 61, 3) := by decide +kernel
theorem dX7_takesSpan_9 : decode cX7_takesSpan 9 = .ok (.iconst 1, 1) := by decide +kernel
theorem dX7_takesSpan_10 : decode cX7_takesSpan 10 = .ok (.if_icmp .ne 13, 3) := by decide +kernel
theorem dX7_takesSpan_13 : decode cX7_takesSpan 13 = .ok (.iload_n 2, 1) := by decide +kernel
theorem dX7_takesSpan_14 : decode cX7_takesSpan 14 = .ok (.iconst 0, 1) := by decide +kernel
theorem dX7_takesSpan_15 : decode cX7_takesSpan 15 = .ok (.bipush 8, 2) := by decide +kernel
theorem dX7_takesSpan_17 : decode cX7_takesSpan 17 = .ok (.invokestatic 50, 3) := by decide +kernel
theorem dX7_takesSpan_20 : decode cX7_takesSpan 20 = .ok (.goto 59, 3) := by decide +kernel
theorem dX7_takesSpan_23 : decode cX7_takesSpan 23 = .ok (.aload_n 0, 1) := by decide +kernel
theorem dX7_takesSpan_24 : decode cX7_takesSpan 24 = .ok (.getfield 61, 3) := by decide +kernel
theorem dX7_takesSpan_27 : decode cX7_takesSpan 27 = .ok (.iconst 2, 1) := by decide +kernel
theorem dX7_takesSpan_28 : decode cX7_takesSpan 28 = .ok (.if_icmp .ne 17, 3) := by decide +kernel
theorem dX7_takesSpan_31 : decode cX7_takesSpan 31 = .ok (.iload_n 1, 1) := by decide +kernel
theorem dX7_takesSpan_32 : decode cX7_takesSpan 32 = .ok (.bipush 45, 2) := by decide +kernel
theorem dX7_takesSpan_34 : decode cX7_takesSpan 34 = .ok (.if_icmp .ne 7, 3) := by decide +kernel
theorem dX7_takesSpan_37 : decode cX7_takesSpan 37 = .ok (.iconst 1, 1) := by decide +kernel
theorem dX7_takesSpan_38 : decode cX7_takesSpan 38 = .ok (.goto 41, 3) := by decide +kernel
theorem dX7_takesSpan_41 : decode cX7_takesSpan 41 = .ok (.iconst 0, 1) := by decide +kernel
theorem dX7_takesSpan_42 : decode cX7_takesSpan 42 = .ok (.goto 37, 3) := by decide +kernel
theorem dX7_takesSpan_45 : decode cX7_takesSpan 45 = .ok (.aload_n 0, 1) := by decide +kernel
theorem dX7_takesSpan_46 : decode cX7_takesSpan 46 = .ok (.getfield 61, 3) := by decide +kernel
theorem dX7_takesSpan_49 : decode cX7_takesSpan 49 = .ok (.iconst 3, 1) := by decide +kernel
theorem dX7_takesSpan_50 : decode cX7_takesSpan 50 = .ok (.if_icmp .ne 18, 3) := by decide +kernel
theorem dX7_takesSpan_53 : decode cX7_takesSpan 53 = .ok (.iload_n 2, 1) := by decide +kernel
theorem dX7_takesSpan_54 : decode cX7_takesSpan 54 = .ok (.aload_n 0, 1) := by decide +kernel
theorem dX7_takesSpan_55 : decode cX7_takesSpan 55 = .ok (.getfield 72, 3) := by decide +kernel
theorem dX7_takesSpan_58 : decode cX7_takesSpan 58 = .ok (.iconst 1, 1) := by decide +kernel
theorem dX7_takesSpan_59 : decode cX7_takesSpan 59 = .ok (.iadd, 1) := by decide +kernel
theorem dX7_takesSpan_60 : decode cX7_takesSpan 60 = .ok (.bipush 9, 2) := by decide +kernel
theorem dX7_takesSpan_62 : decode cX7_takesSpan 62 = .ok (.invokestatic 50, 3) := by decide +kernel
theorem dX7_takesSpan_65 : decode cX7_takesSpan 65 = .ok (.goto 14, 3) := by decide +kernel
theorem dX7_takesSpan_68 : decode cX7_takesSpan 68 = .ok (.iload_n 1, 1) := by decide +kernel
theorem dX7_takesSpan_69 : decode cX7_takesSpan 69 = .ok (.bipush 93, 2) := by decide +kernel
theorem dX7_takesSpan_71 : decode cX7_takesSpan 71 = .ok (.if_icmp .ne 7, 3) := by decide +kernel
theorem dX7_takesSpan_74 : decode cX7_takesSpan 74 = .ok (.iconst 1, 1) := by decide +kernel
theorem dX7_takesSpan_75 : decode cX7_takesSpan 75 = .ok (.goto 4, 3) := by decide +kernel
theorem dX7_takesSpan_78 : decode cX7_takesSpan 78 = .ok (.iconst 0, 1) := by decide +kernel
theorem dX7_takesSpan_79 : decode cX7_takesSpan 79 = .ok (.istore_n 3, 1) := by decide +kernel
theorem dX7_takesSpan_80 : decode cX7_takesSpan 80 = .ok (.iload_n 3, 1) := by decide +kernel
theorem dX7_takesSpan_81 : decode cX7_takesSpan 81 = .ok (.ifCond .eq 31, 3) := by decide +kernel
theorem dX7_takesSpan_84 : decode cX7_takesSpan 84 = .ok (.aload_n 0, 1) := by decide +kernel
theorem dX7_takesSpan_85 : decode cX7_takesSpan 85 = .ok (.getfield 61, 3) := by decide +kernel
theorem dX7_takesSpan_88 : decode cX7_takesSpan 88 = .ok (.iconst 4, 1) := by decide +kernel
theorem dX7_takesSpan_89 : decode cX7_takesSpan 89 = .ok (.if_icmp .ne 23, 3) := by decide +kernel
theorem dX7_takesSpan_92 : decode cX7_takesSpan 92 = .ok (.aload_n 0, 1) := by decide +kernel
theorem dX7_takesSpan_93 : decode cX7_takesSpan 93 = .ok (.iconst 1, 1) := by decide +kernel
theorem dX7_takesSpan_94 : decode cX7_takesSpan 94 = .ok (.aload_n 0, 1) := by decide +kernel
theorem dX7_takesSpan_95 : decode cX7_takesSpan 95 = .ok (.getfield 75, 3) := by decide +kernel
theorem dX7_takesSpan_98 : decode cX7_takesSpan 98 = .ok (.iconst 1, 1) := by decide +kernel
theorem dX7_takesSpan_99 : decode cX7_takesSpan 99 = .ok (.iadd, 1) := by decide +kernel
theorem dX7_takesSpan_100 : decode cX7_takesSpan 100 = .ok (.ishl, 1) := by decide +kernel
theorem dX7_takesSpan_101 : decode cX7_takesSpan 101 = .ok (.iconst 1, 1) := by decide +kernel
theorem dX7_takesSpan_102 : decode cX7_takesSpan 102 = .ok (.aload_n 0, 1) := by decide +kernel
theorem dX7_takesSpan_103 : decode cX7_takesSpan 103 = .ok (.getfield 72, 3) := by decide +kernel
theorem dX7_takesSpan_106 : decode cX7_takesSpan 106 = .ok (.ishl, 1) := by decide +kernel
theorem dX7_takesSpan_107 : decode cX7_takesSpan 107 = .ok (.isub, 1) := by decide +kernel
theorem dX7_takesSpan_108 : decode cX7_takesSpan 108 = .ok (.invokevirtual 68, 3) := by decide +kernel
theorem dX7_takesSpan_111 : decode cX7_takesSpan 111 = .ok (.ireturn, 1) := by decide +kernel
theorem dX7_takesSpan_112 : decode cX7_takesSpan 112 = .ok (.aload_n 0, 1) := by decide +kernel
theorem dX7_takesSpan_113 : decode cX7_takesSpan 113 = .ok (.aload_n 0, 1) := by decide +kernel
theorem dX7_takesSpan_114 : decode cX7_takesSpan 114 = .ok (.getfield 61, 3) := by decide +kernel
theorem dX7_takesSpan_117 : decode cX7_takesSpan 117 = .ok (.iconst 1, 1) := by decide +kernel
theorem dX7_takesSpan_118 : decode cX7_takesSpan 118 = .ok (.if_icmp .ne 7, 3) := by decide +kernel
theorem dX7_takesSpan_121 : decode cX7_takesSpan 121 = .ok (.iload_n 2, 1) := by decide +kernel
theorem dX7_takesSpan_122 : decode cX7_takesSpan 122 = .ok (.goto 7, 3) := by decide +kernel
theorem dX7_takesSpan_125 : decode cX7_takesSpan 125 = .ok (.aload_n 0, 1) := by decide +kernel
theorem dX7_takesSpan_126 : decode cX7_takesSpan 126 = .ok (.getfield 72, 3) := by decide +kernel
theorem dX7_takesSpan_129 : decode cX7_takesSpan 129 = .ok (.putfield 72, 3) := by decide +kernel
theorem dX7_takesSpan_132 : decode cX7_takesSpan 132 = .ok (.aload_n 0, 1) := by decide +kernel
theorem dX7_takesSpan_133 : decode cX7_takesSpan 133 = .ok (.aload_n 0, 1) := by decide +kernel
theorem dX7_takesSpan_134 : decode cX7_takesSpan 134 = .ok (.getfield 61, 3) := by decide +kernel
theorem dX7_takesSpan_137 : decode cX7_takesSpan 137 = .ok (.iconst 3, 1) := by decide +kernel
theorem dX7_takesSpan_138 : decode cX7_takesSpan 138 = .ok (.if_icmp .ne 7, 3) := by decide +kernel
theorem dX7_takesSpan_141 : decode cX7_takesSpan 141 = .ok (.iload_n 2, 1) := by decide +kernel
theorem dX7_takesSpan_142 : decode cX7_takesSpan 142 = .ok (.goto 7, 3) := by decide +kernel
theorem dX7_takesSpan_145 : decode cX7_takesSpan 145 = .ok (.aload_n 0, 1) := by decide +kernel
theorem dX7_takesSpan_146 : decode cX7_takesSpan 146 = .ok (.getfield 75, 3) := by decide +kernel
theorem dX7_takesSpan_149 : decode cX7_takesSpan 149 = .ok (.putfield 75, 3) := by decide +kernel
theorem dX7_takesSpan_152 : decode cX7_takesSpan 152 = .ok (.aload_n 0, 1) := by decide +kernel
theorem dX7_takesSpan_153 : decode cX7_takesSpan 153 = .ok (.dup, 1) := by decide +kernel
theorem dX7_takesSpan_154 : decode cX7_takesSpan 154 = .ok (.getfield 61, 3) := by decide +kernel
theorem dX7_takesSpan_157 : decode cX7_takesSpan 157 = .ok (.iload_n 3, 1) := by decide +kernel
theorem dX7_takesSpan_158 : decode cX7_takesSpan 158 = .ok (.ifCond .eq 7, 3) := by decide +kernel
theorem dX7_takesSpan_161 : decode cX7_takesSpan 161 = .ok (.iconst 1, 1) := by decide +kernel
theorem dX7_takesSpan_162 : decode cX7_takesSpan 162 = .ok (.goto 4, 3) := by decide +kernel
theorem dX7_takesSpan_165 : decode cX7_takesSpan 165 = .ok (.iconst 0, 1) := by decide +kernel
theorem dX7_takesSpan_166 : decode cX7_takesSpan 166 = .ok (.iadd, 1) := by decide +kernel
theorem dX7_takesSpan_167 : decode cX7_takesSpan 167 = .ok (.putfield 61, 3) := by decide +kernel
theorem dX7_takesSpan_170 : decode cX7_takesSpan 170 = .ok (.iload_n 3, 1) := by decide +kernel
theorem dX7_takesSpan_171 : decode cX7_takesSpan 171 = .ok (.ireturn, 1) := by decide +kernel
theorem dX7_takesWay_0 : decode cX7_takesWay 0 = .ok (.aload_n 0, 1) := by decide +kernel
theorem dX7_takesWay_1 : decode cX7_takesWay 1 = .ok (.iload_n 1, 1) := by decide +kernel
theorem dX7_takesWay_2 : decode cX7_takesWay 2 = .ok (.bipush 97, 2) := by decide +kernel
theorem dX7_takesWay_4 : decode cX7_takesWay 4 = .ok (.bipush 104, 2) := by decide +kernel
theorem dX7_takesWay_6 : decode cX7_takesWay 6 = .ok (.invokestatic 50, 3) := by decide +kernel
theorem dX7_takesWay_9 : decode cX7_takesWay 9 = .ok (.ifCond .eq 10, 3) := by decide +kernel
theorem dX7_takesWay_12 : decode cX7_takesWay 12 = .ok (.iload_n 1, 1) := by decide +kernel
theorem dX7_takesWay_13 : decode cX7_takesWay 13 = .ok (.bipush 97, 2) := by decide +kernel
theorem dX7_takesWay_15 : decode cX7_takesWay 15 = .ok (.isub, 1) := by decide +kernel
theorem dX7_takesWay_16 : decode cX7_takesWay 16 = .ok (.goto 37, 3) := by decide +kernel
theorem dX7_takesWay_19 : decode cX7_takesWay 19 = .ok (.iload_n 1, 1) := by decide +kernel
theorem dX7_takesWay_20 : decode cX7_takesWay 20 = .ok (.bipush 45, 2) := by decide +kernel
theorem dX7_takesWay_22 : decode cX7_takesWay 22 = .ok (.if_icmp .ne 8, 3) := by decide +kernel
theorem dX7_takesWay_25 : decode cX7_takesWay 25 = .ok (.bipush 8, 2) := by decide +kernel
theorem dX7_takesWay_27 : decode cX7_takesWay 27 = .ok (.goto 26, 3) := by decide +kernel
theorem dX7_takesWay_30 : decode cX7_takesWay 30 = .ok (.iload_n 1, 1) := by decide +kernel
theorem dX7_takesWay_31 : decode cX7_takesWay 31 = .ok (.bipush 33, 2) := by decide +kernel
theorem dX7_takesWay_33 : decode cX7_takesWay 33 = .ok (.if_icmp .ne 8, 3) := by decide +kernel
theorem dX7_takesWay_36 : decode cX7_takesWay 36 = .ok (.bipush 9, 2) := by decide +kernel
theorem dX7_takesWay_38 : decode cX7_takesWay 38 = .ok (.goto 15, 3) := by decide +kernel
theorem dX7_takesWay_41 : decode cX7_takesWay 41 = .ok (.iload_n 1, 1) := by decide +kernel
theorem dX7_takesWay_42 : decode cX7_takesWay 42 = .ok (.bipush 42, 2) := by decide +kernel
theorem dX7_takesWay_44 : decode cX7_takesWay 44 = .ok (.if_icmp .ne 8, 3) := by decide +kernel
theorem dX7_takesWay_47 : decode cX7_takesWay 47 = .ok (.bipush 10, 2) := by decide +kernel
theorem dX7_takesWay_49 : decode cX7_takesWay 49 = .ok (.goto 4, 3) := by decide +kernel
theorem dX7_takesWay_52 : decode cX7_takesWay 52 = .ok (.iconst (-1), 1) := by decide +kernel
theorem dX7_takesWay_53 : decode cX7_takesWay 53 = .ok (.putfield 78, 3) := by decide +kernel
theorem dX7_takesWay_56 : decode cX7_takesWay 56 = .ok (.aload_n 0, 1) := by decide +kernel
theorem dX7_takesWay_57 : decode cX7_takesWay 57 = .ok (.bipush 7, 2) := by decide +kernel
theorem dX7_takesWay_59 : decode cX7_takesWay 59 = .ok (.putfield 61, 3) := by decide +kernel
theorem dX7_takesWay_62 : decode cX7_takesWay 62 = .ok (.aload_n 0, 1) := by decide +kernel
theorem dX7_takesWay_63 : decode cX7_takesWay 63 = .ok (.getfield 78, 3) := by decide +kernel
theorem dX7_takesWay_66 : decode cX7_takesWay 66 = .ok (.iconst (-1), 1) := by decide +kernel
theorem dX7_takesWay_67 : decode cX7_takesWay 67 = .ok (.if_icmp .eq 7, 3) := by decide +kernel
theorem dX7_takesWay_70 : decode cX7_takesWay 70 = .ok (.iconst 1, 1) := by decide +kernel
theorem dX7_takesWay_71 : decode cX7_takesWay 71 = .ok (.goto 4, 3) := by decide +kernel
theorem dX7_takesWay_74 : decode cX7_takesWay 74 = .ok (.iconst 0, 1) := by decide +kernel
theorem dX7_takesWay_75 : decode cX7_takesWay 75 = .ok (.ireturn, 1) := by decide +kernel
theorem dX7_takesDrop_0 : decode cX7_takesDrop 0 = .ok (.aload_n 0, 1) := by decide +kernel
theorem dX7_takesDrop_1 : decode cX7_takesDrop 1 = .ok (.iload_n 1, 1) := by decide +kernel
theorem dX7_takesDrop_2 : decode cX7_takesDrop 2 = .ok (.putfield 75, 3) := by decide +kernel
theorem dX7_takesDrop_5 : decode cX7_takesDrop 5 = .ok (.aload_n 0, 1) := by decide +kernel
theorem dX7_takesDrop_6 : decode cX7_takesDrop 6 = .ok (.bipush 9, 2) := by decide +kernel
theorem dX7_takesDrop_8 : decode cX7_takesDrop 8 = .ok (.putfield 61, 3) := by decide +kernel
theorem dX7_takesDrop_11 : decode cX7_takesDrop 11 = .ok (.iload_n 1, 1) := by decide +kernel
theorem dX7_takesDrop_12 : decode cX7_takesDrop 12 = .ok (.iconst 0, 1) := by decide +kernel
theorem dX7_takesDrop_13 : decode cX7_takesDrop 13 = .ok (.aload_n 0, 1) := by decide +kernel
theorem dX7_takesDrop_14 : decode cX7_takesDrop 14 = .ok (.getfield 58, 3) := by decide +kernel
theorem dX7_takesDrop_17 : decode cX7_takesDrop 17 = .ok (.invokestatic 50, 3) := by decide +kernel
theorem dX7_takesDrop_20 : decode cX7_takesDrop 20 = .ok (.ireturn, 1) := by decide +kernel
theorem dX7_takesAhead_0 : decode cX7_takesAhead 0 = .ok (.iload_n 1, 1) := by decide +kernel
theorem dX7_takesAhead_1 : decode cX7_takesAhead 1 = .ok (.iconst 0, 1) := by decide +kernel
theorem dX7_takesAhead_2 : decode cX7_takesAhead 2 = .ok (.bipush 9, 2) := by decide +kernel
theorem dX7_takesAhead_4 : decode cX7_takesAhead 4 = .ok (.invokestatic 50, 3) := by decide +kernel
theorem dX7_takesAhead_7 : decode cX7_takesAhead 7 = .ok (.ifCond .eq 15, 3) := by decide +kernel
theorem dX7_takesAhead_10 : decode cX7_takesAhead 10 = .ok (.aload_n 0, 1) := by decide +kernel
theorem dX7_takesAhead_11 : decode cX7_takesAhead 11 = .ok (.getfield 81, 3) := by decide +kernel
theorem dX7_takesAhead_14 : decode cX7_takesAhead 14 = .ok (.iconst 4, 1) := by decide +kernel
theorem dX7_takesAhead_15 : decode cX7_takesAhead 15 = .ok (.if_icmp .ge 7, 3) := by decide +kernel
theorem dX7_takesAhead_18 : decode cX7_takesAhead 18 = .ok (.iconst 1, 1) := by decide +kernel
theorem dX7_takesAhead_19 : decode cX7_takesAhead 19 = .ok (.goto 4, 3) := by decide +kernel
theorem dX7_takesAhead_22 : decode cX7_takesAhead 22 = .ok (.iconst 0, 1) := by decide +kernel
theorem dX7_takesAhead_23 : decode cX7_takesAhead 23 = .ok (.istore_n 2, 1) := by decide +kernel
theorem dX7_takesAhead_24 : decode cX7_takesAhead 24 = .ok (.iload_n 2, 1) := by decide +kernel
theorem dX7_takesAhead_25 : decode cX7_takesAhead 25 = .ok (.ifCond .eq 23, 3) := by decide +kernel
theorem dX7_takesAhead_28 : decode cX7_takesAhead 28 = .ok (.aload_n 0, 1) := by decide +kernel
theorem dX7_takesAhead_29 : decode cX7_takesAhead 29 = .ok (.getfield 41, 3) := by decide +kernel
theorem dX7_takesAhead_32 : decode cX7_takesAhead 32 = .ok (.aload_n 0, 1) := by decide +kernel
theorem dX7_takesAhead_33 : decode cX7_takesAhead 33 = .ok (.getfield 81, 3) := by decide +kernel
theorem dX7_takesAhead_36 : decode cX7_takesAhead 36 = .ok (.iload_n 1, 1) := by decide +kernel
theorem dX7_takesAhead_37 : decode cX7_takesAhead 37 = .ok (.iastore, 1) := by decide +kernel
theorem dX7_takesAhead_38 : decode cX7_takesAhead 38 = .ok (.aload_n 0, 1) := by decide +kernel
theorem dX7_takesAhead_39 : decode cX7_takesAhead 39 = .ok (.dup, 1) := by decide +kernel
theorem dX7_takesAhead_40 : decode cX7_takesAhead 40 = .ok (.getfield 81, 3) := by decide +kernel
theorem dX7_takesAhead_43 : decode cX7_takesAhead 43 = .ok (.iconst 1, 1) := by decide +kernel
theorem dX7_takesAhead_44 : decode cX7_takesAhead 44 = .ok (.iadd, 1) := by decide +kernel
theorem dX7_takesAhead_45 : decode cX7_takesAhead 45 = .ok (.putfield 81, 3) := by decide +kernel
theorem dX7_takesAhead_48 : decode cX7_takesAhead 48 = .ok (.iload_n 2, 1) := by decide +kernel
theorem dX7_takesAhead_49 : decode cX7_takesAhead 49 = .ok (.ireturn, 1) := by decide +kernel
theorem dX7_takes_0 : decode cX7_takes 0 = .ok (.aload_n 0, 1) := by decide +kernel
theorem dX7_takes_1 : decode cX7_takes 1 = .ok (.getfield 61, 3) := by decide +kernel
theorem dX7_takes_4 : decode cX7_takes 4 = .ok (.ifCond .ne 9, 3) := by decide +kernel
theorem dX7_takes_7 : decode cX7_takes 7 = .ok (.aload_n 0, 1) := by decide +kernel
theorem dX7_takes_8 : decode cX7_takes 8 = .ok (.iload_n 1, 1) := by decide +kernel
theorem dX7_takes_9 : decode cX7_takes 9 = .ok (.invokevirtual 84, 3) := by decide +kernel
theorem dX7_takes_12 : decode cX7_takes 12 = .ok (.ireturn, 1) := by decide +kernel
theorem dX7_takes_13 : decode cX7_takes 13 = .ok (.aload_n 0, 1) := by decide +kernel
theorem dX7_takes_14 : decode cX7_takes 14 = .ok (.getfield 61, 3) := by decide +kernel
theorem dX7_takes_17 : decode cX7_takes 17 = .ok (.iconst 5, 1) := by decide +kernel
theorem dX7_takes_18 : decode cX7_takes 18 = .ok (.if_icmp .ge 9, 3) := by decide +kernel
theorem dX7_takes_21 : decode cX7_takes 21 = .ok (.aload_n 0, 1) := by decide +kernel
theorem dX7_takes_22 : decode cX7_takes 22 = .ok (.iload_n 1, 1) := by decide +kernel
theorem dX7_takes_23 : decode cX7_takes 23 = .ok (.invokevirtual 87, 3) := by decide +kernel
theorem dX7_takes_26 : decode cX7_takes 26 = .ok (.ireturn, 1) := by decide +kernel
theorem dX7_takes_27 : decode cX7_takes 27 = .ok (.aload_n 0, 1) := by decide +kernel
theorem dX7_takes_28 : decode cX7_takes 28 = .ok (.getfield 61, 3) := by decide +kernel
theorem dX7_takes_31 : decode cX7_takes 31 = .ok (.tableswitch 80 5 8 #[29, 47, 53, 71], 29) := by decide +kernel
theorem dX7_takes_60 : decode cX7_takes 60 = .ok (.aload_n 0, 1) := by decide +kernel
theorem dX7_takes_61 : decode cX7_takes 61 = .ok (.bipush 6, 2) := by decide +kernel
theorem dX7_takes_63 : decode cX7_takes 63 = .ok (.putfield 61, 3) := by decide +kernel
theorem dX7_takes_66 : decode cX7_takes 66 = .ok (.iload_n 1, 1) := by decide +kernel
theorem dX7_takes_67 : decode cX7_takes 67 = .ok (.bipush 61, 2) := by decide +kernel
theorem dX7_takes_69 : decode cX7_takes 69 = .ok (.if_icmp .ne 7, 3) := by decide +kernel
theorem dX7_takes_72 : decode cX7_takes 72 = .ok (.iconst 1, 1) := by decide +kernel
theorem dX7_takes_73 : decode cX7_takes 73 = .ok (.goto 4, 3) := by decide +kernel
theorem dX7_takes_76 : decode cX7_takes 76 = .ok (.iconst 0, 1) := by decide +kernel
theorem dX7_takes_77 : decode cX7_takes 77 = .ok (.ireturn, 1) := by decide +kernel
theorem dX7_takes_78 : decode cX7_takes 78 = .ok (.aload_n 0, 1) := by decide +kernel
theorem dX7_takes_79 : decode cX7_takes 79 = .ok (.iload_n 1, 1) := by decide +kernel
theorem dX7_takes_80 : decode cX7_takes 80 = .ok (.invokevirtual 90, 3) := by decide +kernel
theorem dX7_takes_83 : decode cX7_takes 83 = .ok (.ireturn, 1) := by decide +kernel
theorem dX7_takes_84 : decode cX7_takes 84 = .ok (.aload_n 0, 1) := by decide +kernel
theorem dX7_takes_85 : decode cX7_takes 85 = .ok (.bipush 8, 2) := by decide +kernel
theorem dX7_takes_87 : decode cX7_takes 87 = .ok (.putfield 61, 3) := by decide +kernel
theorem dX7_takes_90 : decode cX7_takes 90 = .ok (.iload_n 1, 1) := by decide +kernel
theorem dX7_takes_91 : decode cX7_takes 91 = .ok (.bipush 58, 2) := by decide +kernel
theorem dX7_takes_93 : decode cX7_takes 93 = .ok (.if_icmp .ne 7, 3) := by decide +kernel
theorem dX7_takes_96 : decode cX7_takes 96 = .ok (.iconst 1, 1) := by decide +kernel
theorem dX7_takes_97 : decode cX7_takes 97 = .ok (.goto 4, 3) := by decide +kernel
theorem dX7_takes_100 : decode cX7_takes 100 = .ok (.iconst 0, 1) := by decide +kernel
theorem dX7_takes_101 : decode cX7_takes 101 = .ok (.ireturn, 1) := by decide +kernel
theorem dX7_takes_102 : decode cX7_takes 102 = .ok (.aload_n 0, 1) := by decide +kernel
theorem dX7_takes_103 : decode cX7_takes 103 = .ok (.iload_n 1, 1) := by decide +kernel
theorem dX7_takes_104 : decode cX7_takes 104 = .ok (.bipush 48, 2) := by decide +kernel
theorem dX7_takes_106 : decode cX7_takes 106 = .ok (.isub, 1) := by decide +kernel
theorem dX7_takes_107 : decode cX7_takes 107 = .ok (.invokevirtual 93, 3) := by decide +kernel
theorem dX7_takes_110 : decode cX7_takes 110 = .ok (.ireturn, 1) := by decide +kernel
theorem dX7_takes_111 : decode cX7_takes 111 = .ok (.aload_n 0, 1) := by decide +kernel
theorem dX7_takes_112 : decode cX7_takes 112 = .ok (.iload_n 1, 1) := by decide +kernel
theorem dX7_takes_113 : decode cX7_takes 113 = .ok (.bipush 48, 2) := by decide +kernel
theorem dX7_takes_115 : decode cX7_takes 115 = .ok (.isub, 1) := by decide +kernel
theorem dX7_takes_116 : decode cX7_takes 116 = .ok (.invokevirtual 96, 3) := by decide +kernel
theorem dX7_takes_119 : decode cX7_takes 119 = .ok (.ireturn, 1) := by decide +kernel
theorem dX7_goAlong_0 : decode cX7_goAlong 0 = .ok (.aload_n 0, 1) := by decide +kernel
theorem dX7_goAlong_1 : decode cX7_goAlong 1 = .ok (.iconst 0, 1) := by decide +kernel
theorem dX7_goAlong_2 : decode cX7_goAlong 2 = .ok (.putfield 61, 3) := by decide +kernel
theorem dX7_goAlong_5 : decode cX7_goAlong 5 = .ok (.aload_n 0, 1) := by decide +kernel
theorem dX7_goAlong_6 : decode cX7_goAlong 6 = .ok (.iconst 0, 1) := by decide +kernel
theorem dX7_goAlong_7 : decode cX7_goAlong 7 = .ok (.putfield 58, 3) := by decide +kernel
theorem dX7_goAlong_10 : decode cX7_goAlong 10 = .ok (.aload_n 0, 1) := by decide +kernel
theorem dX7_goAlong_11 : decode cX7_goAlong 11 = .ok (.iconst 0, 1) := by decide +kernel
theorem dX7_goAlong_12 : decode cX7_goAlong 12 = .ok (.putfield 64, 3) := by decide +kernel
theorem dX7_goAlong_15 : decode cX7_goAlong 15 = .ok (.aload_n 0, 1) := by decide +kernel
theorem dX7_goAlong_16 : decode cX7_goAlong 16 = .ok (.iconst 0, 1) := by decide +kernel
theorem dX7_goAlong_17 : decode cX7_goAlong 17 = .ok (.putfield 81, 3) := by decide +kernel
theorem dX7_goAlong_20 : decode cX7_goAlong 20 = .ok (.iconst 0, 1) := by decide +kernel
theorem dX7_goAlong_21 : decode cX7_goAlong 21 = .ok (.istore_n 1, 1) := by decide +kernel
theorem dX7_goAlong_22 : decode cX7_goAlong 22 = .ok (.iload_n 1, 1) := by decide +kernel
theorem dX7_goAlong_23 : decode cX7_goAlong 23 = .ok (.aload_n 0, 1) := by decide +kernel
theorem dX7_goAlong_24 : decode cX7_goAlong 24 = .ok (.getfield 54, 3) := by decide +kernel
theorem dX7_goAlong_27 : decode cX7_goAlong 27 = .ok (.if_icmp .ge 22, 3) := by decide +kernel
theorem dX7_goAlong_30 : decode cX7_goAlong 30 = .ok (.aload_n 0, 1) := by decide +kernel
theorem dX7_goAlong_31 : decode cX7_goAlong 31 = .ok (.aload_n 0, 1) := by decide +kernel
theorem dX7_goAlong_32 : decode cX7_goAlong 32 = .ok (.getfield 7, 3) := by decide +kernel
theorem dX7_goAlong_35 : decode cX7_goAlong 35 = .ok (.iload_n 1, 1) := by decide +kernel
theorem dX7_goAlong_36 : decode cX7_goAlong 36 = .ok (.iaload, 1) := by decide +kernel
theorem dX7_goAlong_37 : decode cX7_goAlong 37 = .ok (.invokevirtual 99, 3) := by decide +kernel
theorem dX7_goAlong_40 : decode cX7_goAlong 40 = .ok (.ifCond .eq 9, 3) := by decide +kernel
theorem dX7_goAlong_43 : decode cX7_goAlong 43 = .ok (.iinc 1 1, 3) := by decide +kernel
theorem dX7_goAlong_46 : decode cX7_goAlong 46 = .ok (.goto (-24), 3) := by decide +kernel
theorem dX7_goAlong_49 : decode cX7_goAlong 49 = .ok (.iload_n 1, 1) := by decide +kernel
theorem dX7_goAlong_50 : decode cX7_goAlong 50 = .ok (.ireturn, 1) := by decide +kernel
theorem dX7_fault_0 : decode cX7_fault 0 = .ok (.aload_n 0, 1) := by decide +kernel
theorem dX7_fault_1 : decode cX7_fault 1 = .ok (.invokevirtual 102, 3) := by decide +kernel
theorem dX7_fault_4 : decode cX7_fault 4 = .ok (.ireturn, 1) := by decide +kernel
theorem dX7_keepPattern_0 : decode cX7_keepPattern 0 = .ok (.aload_n 0, 1) := by decide +kernel
theorem dX7_keepPattern_1 : decode cX7_keepPattern 1 = .ok (.getfield 13, 3) := by decide +kernel
theorem dX7_keepPattern_4 : decode cX7_keepPattern 4 = .ok (.iload_n 1, 1) := by decide +kernel
theorem dX7_keepPattern_5 : decode cX7_keepPattern 5 = .ok (.aload_n 0, 1) := by decide +kernel
theorem dX7_keepPattern_6 : decode cX7_keepPattern 6 = .ok (.getfield 58, 3) := by decide +kernel
theorem dX7_keepPattern_9 : decode cX7_keepPattern 9 = .ok (.iastore, 1) := by decide +kernel
theorem dX7_keepPattern_10 : decode cX7_keepPattern 10 = .ok (.aload_n 0, 1) := by decide +kernel
theorem dX7_keepPattern_11 : decode cX7_keepPattern 11 = .ok (.getfield 16, 3) := by decide +kernel
theorem dX7_keepPattern_14 : decode cX7_keepPattern 14 = .ok (.iload_n 1, 1) := by decide +kernel
theorem dX7_keepPattern_15 : decode cX7_keepPattern 15 = .ok (.aload_n 0, 1) := by decide +kernel
theorem dX7_keepPattern_16 : decode cX7_keepPattern 16 = .ok (.getfield 64, 3) := by decide +kernel
theorem dX7_keepPattern_19 : decode cX7_keepPattern 19 = .ok (.bastore, 1) := by decide +kernel
theorem dX7_keepPattern_20 : decode cX7_keepPattern 20 = .ok (.aload_n 0, 1) := by decide +kernel
theorem dX7_keepPattern_21 : decode cX7_keepPattern 21 = .ok (.getfield 23, 3) := by decide +kernel
theorem dX7_keepPattern_24 : decode cX7_keepPattern 24 = .ok (.iload_n 1, 1) := by decide +kernel
theorem dX7_keepPattern_25 : decode cX7_keepPattern 25 = .ok (.aload_n 0, 1) := by decide +kernel
theorem dX7_keepPattern_26 : decode cX7_keepPattern 26 = .ok (.getfield 78, 3) := by decide +kernel
theorem dX7_keepPattern_29 : decode cX7_keepPattern 29 = .ok (.iastore, 1) := by decide +kernel
theorem dX7_keepPattern_30 : decode cX7_keepPattern 30 = .ok (.aload_n 0, 1) := by decide +kernel
theorem dX7_keepPattern_31 : decode cX7_keepPattern 31 = .ok (.getfield 26, 3) := by decide +kernel
theorem dX7_keepPattern_34 : decode cX7_keepPattern 34 = .ok (.iload_n 1, 1) := by decide +kernel
theorem dX7_keepPattern_35 : decode cX7_keepPattern 35 = .ok (.aload_n 0, 1) := by decide +kernel
theorem dX7_keepPattern_36 : decode cX7_keepPattern 36 = .ok (.getfield 75, 3) := by decide +kernel
theorem dX7_keepPattern_39 : decode cX7_keepPattern 39 = .ok (.iastore, 1) := by decide +kernel
theorem dX7_keepPattern_40 : decode cX7_keepPattern 40 = .ok (.aload_n 0, 1) := by decide +kernel
theorem dX7_keepPattern_41 : decode cX7_keepPattern 41 = .ok (.getfield 29, 3) := by decide +kernel
theorem dX7_keepPattern_44 : decode cX7_keepPattern 44 = .ok (.iload_n 1, 1) := by decide +kernel
theorem dX7_keepPattern_45 : decode cX7_keepPattern 45 = .ok (.aload_n 0, 1) := by decide +kernel
theorem dX7_keepPattern_46 : decode cX7_keepPattern 46 = .ok (.getfield 81, 3) := by decide +kernel
theorem dX7_keepPattern_49 : decode cX7_keepPattern 49 = .ok (.iastore, 1) := by decide +kernel
theorem dX7_keepPattern_50 : decode cX7_keepPattern 50 = .ok (.iconst 0, 1) := by decide +kernel
theorem dX7_keepPattern_51 : decode cX7_keepPattern 51 = .ok (.istore_n 2, 1) := by decide +kernel
theorem dX7_keepPattern_52 : decode cX7_keepPattern 52 = .ok (.iload_n 2, 1) := by decide +kernel
theorem dX7_keepPattern_53 : decode cX7_keepPattern 53 = .ok (.aload_n 0, 1) := by decide +kernel
theorem dX7_keepPattern_54 : decode cX7_keepPattern 54 = .ok (.getfield 58, 3) := by decide +kernel
theorem dX7_keepPattern_57 : decode cX7_keepPattern 57 = .ok (.if_icmp .ge 26, 3) := by decide +kernel
theorem dX7_keepPattern_60 : decode cX7_keepPattern 60 = .ok (.aload_n 0, 1) := by decide +kernel
theorem dX7_keepPattern_61 : decode cX7_keepPattern 61 = .ok (.getfield 20, 3) := by decide +kernel
theorem dX7_keepPattern_64 : decode cX7_keepPattern 64 = .ok (.bipush 8, 2) := by decide +kernel
theorem dX7_keepPattern_66 : decode cX7_keepPattern 66 = .ok (.iload_n 1, 1) := by decide +kernel
theorem dX7_keepPattern_67 : decode cX7_keepPattern 67 = .ok (.imul, 1) := by decide +kernel
theorem dX7_keepPattern_68 : decode cX7_keepPattern 68 = .ok (.iload_n 2, 1) := by decide +kernel
theorem dX7_keepPattern_69 : decode cX7_keepPattern 69 = .ok (.iadd, 1) := by decide +kernel
theorem dX7_keepPattern_70 : decode cX7_keepPattern 70 = .ok (.aload_n 0, 1) := by decide +kernel
theorem dX7_keepPattern_71 : decode cX7_keepPattern 71 = .ok (.getfield 38, 3) := by decide +kernel
theorem dX7_keepPattern_74 : decode cX7_keepPattern 74 = .ok (.iload_n 2, 1) := by decide +kernel
theorem dX7_keepPattern_75 : decode cX7_keepPattern 75 = .ok (.iaload, 1) := by decide +kernel
theorem dX7_keepPattern_76 : decode cX7_keepPattern 76 = .ok (.iastore, 1) := by decide +kernel
theorem dX7_keepPattern_77 : decode cX7_keepPattern 77 = .ok (.iinc 2 1, 3) := by decide +kernel
theorem dX7_keepPattern_80 : decode cX7_keepPattern 80 = .ok (.goto (-28), 3) := by decide +kernel
theorem dX7_keepPattern_83 : decode cX7_keepPattern 83 = .ok (.iconst 0, 1) := by decide +kernel
theorem dX7_keepPattern_84 : decode cX7_keepPattern 84 = .ok (.istore_n 2, 1) := by decide +kernel
theorem dX7_keepPattern_85 : decode cX7_keepPattern 85 = .ok (.iload_n 2, 1) := by decide +kernel
theorem dX7_keepPattern_86 : decode cX7_keepPattern 86 = .ok (.aload_n 0, 1) := by decide +kernel
theorem dX7_keepPattern_87 : decode cX7_keepPattern 87 = .ok (.getfield 81, 3) := by decide +kernel
theorem dX7_keepPattern_90 : decode cX7_keepPattern 90 = .ok (.if_icmp .ge 25, 3) := by decide +kernel
theorem dX7_keepPattern_93 : decode cX7_keepPattern 93 = .ok (.aload_n 0, 1) := by decide +kernel
theorem dX7_keepPattern_94 : decode cX7_keepPattern 94 = .ok (.getfield 32, 3) := by decide +kernel
theorem dX7_keepPattern_97 : decode cX7_keepPattern 97 = .ok (.iconst 4, 1) := by decide +kernel
theorem dX7_keepPattern_98 : decode cX7_keepPattern 98 = .ok (.iload_n 1, 1) := by decide +kernel
theorem dX7_keepPattern_99 : decode cX7_keepPattern 99 = .ok (.imul, 1) := by decide +kernel
theorem dX7_keepPattern_100 : decode cX7_keepPattern 100 = .ok (.iload_n 2, 1) := by decide +kernel
theorem dX7_keepPattern_101 : decode cX7_keepPattern 101 = .ok (.iadd, 1) := by decide +kernel
theorem dX7_keepPattern_102 : decode cX7_keepPattern 102 = .ok (.aload_n 0, 1) := by decide +kernel
theorem dX7_keepPattern_103 : decode cX7_keepPattern 103 = .ok (.getfield 41, 3) := by decide +kernel
theorem dX7_keepPattern_106 : decode cX7_keepPattern 106 = .ok (.iload_n 2, 1) := by decide +kernel
theorem dX7_keepPattern_107 : decode cX7_keepPattern 107 = .ok (.iaload, 1) := by decide +kernel
theorem dX7_keepPattern_108 : decode cX7_keepPattern 108 = .ok (.iastore, 1) := by decide +kernel
theorem dX7_keepPattern_109 : decode cX7_keepPattern 109 = .ok (.iinc 2 1, 3) := by decide +kernel
theorem dX7_keepPattern_112 : decode cX7_keepPattern 112 = .ok (.goto (-27), 3) := by decide +kernel
theorem dX7_keepPattern_115 : decode cX7_keepPattern 115 = .ok (.return_, 1) := by decide +kernel
theorem dX7_add_0 : decode cX7_add 0 = .ok (.aload_n 0, 1) := by decide +kernel
theorem dX7_add_1 : decode cX7_add 1 = .ok (.invokevirtual 102, 3) := by decide +kernel
theorem dX7_add_4 : decode cX7_add 4 = .ok (.aload_n 0, 1) := by decide +kernel
theorem dX7_add_5 : decode cX7_add 5 = .ok (.getfield 54, 3) := by decide +kernel
theorem dX7_add_8 : decode cX7_add 8 = .ok (.if_icmp .lt 19, 3) := by decide +kernel
theorem dX7_add_11 : decode cX7_add 11 = .ok (.aload_n 0, 1) := by decide +kernel
theorem dX7_add_12 : decode cX7_add 12 = .ok (.getfield 61, 3) := by decide +kernel
theorem dX7_add_15 : decode cX7_add 15 = .ok (.bipush 9, 2) := by decide +kernel
theorem dX7_add_17 : decode cX7_add 17 = .ok (.if_icmp .ne 10, 3) := by decide +kernel
theorem dX7_add_20 : decode cX7_add 20 = .ok (.aload_n 0, 1) := by decide +kernel
theorem dX7_add_21 : decode cX7_add 21 = .ok (.getfield 106, 3) := by decide +kernel
theorem dX7_add_24 : decode cX7_add 24 = .ok (.ifCond .eq 7, 3) := by decide +kernel
theorem dX7_add_27 : decode cX7_add 27 = .ok (.sipush (-1003), 3) := by decide +kernel
theorem dX7_add_30 : decode cX7_add 30 = .ok (.ireturn, 1) := by decide +kernel
theorem dX7_add_31 : decode cX7_add 31 = .ok (.aload_n 0, 1) := by decide +kernel
theorem dX7_add_32 : decode cX7_add 32 = .ok (.getfield 109, 3) := by decide +kernel
theorem dX7_add_35 : decode cX7_add 35 = .ok (.bipush 10, 2) := by decide +kernel
theorem dX7_add_37 : decode cX7_add 37 = .ok (.if_icmp .ne 7, 3) := by decide +kernel
theorem dX7_add_40 : decode cX7_add 40 = .ok (.sipush (-1004), 3) := by decide +kernel
theorem dX7_add_43 : decode cX7_add 43 = .ok (.ireturn, 1) := by decide +kernel
theorem dX7_add_44 : decode cX7_add 44 = .ok (.aload_n 0, 1) := by decide +kernel
theorem dX7_add_45 : decode cX7_add 45 = .ok (.aload_n 0, 1) := by decide +kernel
theorem dX7_add_46 : decode cX7_add 46 = .ok (.getfield 109, 3) := by decide +kernel
theorem dX7_add_49 : decode cX7_add 49 = .ok (.invokevirtual 112, 3) := by decide +kernel
theorem dX7_add_52 : decode cX7_add 52 = .ok (.aload_n 0, 1) := by decide +kernel
theorem dX7_add_53 : decode cX7_add 53 = .ok (.dup, 1) := by decide +kernel
theorem dX7_add_54 : decode cX7_add 54 = .ok (.getfield 109, 3) := by decide +kernel
theorem dX7_add_57 : decode cX7_add 57 = .ok (.iconst 1, 1) := by decide +kernel
theorem dX7_add_58 : decode cX7_add 58 = .ok (.iadd, 1) := by decide +kernel
theorem dX7_add_59 : decode cX7_add 59 = .ok (.putfield 109, 3) := by decide +kernel
theorem dX7_add_62 : decode cX7_add 62 = .ok (.aload_n 0, 1) := by decide +kernel
theorem dX7_add_63 : decode cX7_add 63 = .ok (.iconst 0, 1) := by decide +kernel
theorem dX7_add_64 : decode cX7_add 64 = .ok (.putfield 54, 3) := by decide +kernel
theorem dX7_add_67 : decode cX7_add 67 = .ok (.aload_n 0, 1) := by decide +kernel
theorem dX7_add_68 : decode cX7_add 68 = .ok (.getfield 109, 3) := by decide +kernel
theorem dX7_add_71 : decode cX7_add 71 = .ok (.iconst 1, 1) := by decide +kernel
theorem dX7_add_72 : decode cX7_add 72 = .ok (.isub, 1) := by decide +kernel
theorem dX7_add_73 : decode cX7_add 73 = .ok (.ireturn, 1) := by decide +kernel
theorem dX7_isPattern_0 : decode cX7_isPattern 0 = .ok (.iload_n 1, 1) := by decide +kernel
theorem dX7_isPattern_1 : decode cX7_isPattern 1 = .ok (.iconst 0, 1) := by decide +kernel
theorem dX7_isPattern_2 : decode cX7_isPattern 2 = .ok (.aload_n 0, 1) := by decide +kernel
theorem dX7_isPattern_3 : decode cX7_isPattern 3 = .ok (.getfield 109, 3) := by decide +kernel
theorem dX7_isPattern_6 : decode cX7_isPattern 6 = .ok (.iconst 1, 1) := by decide +kernel
theorem dX7_isPattern_7 : decode cX7_isPattern 7 = .ok (.isub, 1) := by decide +kernel
theorem dX7_isPattern_8 : decode cX7_isPattern 8 = .ok (.invokestatic 50, 3) := by decide +kernel
theorem dX7_isPattern_11 : decode cX7_isPattern 11 = .ok (.ireturn, 1) := by decide +kernel
theorem dX7_copy_0 : decode cX7_copy 0 = .ok (.aload_n 0, 1) := by decide +kernel
theorem dX7_copy_1 : decode cX7_copy 1 = .ok (.getfield 13, 3) := by decide +kernel
theorem dX7_copy_4 : decode cX7_copy 4 = .ok (.iload_n 2, 1) := by decide +kernel
theorem dX7_copy_5 : decode cX7_copy 5 = .ok (.aload_n 0, 1) := by decide +kernel
theorem dX7_copy_6 : decode cX7_copy 6 = .ok (.getfield 13, 3) := by decide +kernel
theorem dX7_copy_9 : decode cX7_copy 9 = .ok (.iload_n 1, 1) := by decide +kernel
theorem dX7_copy_10 : decode cX7_copy 10 = .ok (.iaload, 1) := by decide +kernel
theorem dX7_copy_11 : decode cX7_copy 11 = .ok (.iastore, 1) := by decide +kernel
theorem dX7_copy_12 : decode cX7_copy 12 = .ok (.aload_n 0, 1) := by decide +kernel
theorem dX7_copy_13 : decode cX7_copy 13 = .ok (.getfield 16, 3) := by decide +kernel
theorem dX7_copy_16 : decode cX7_copy 16 = .ok (.iload_n 2, 1) := by decide +kernel
theorem dX7_copy_17 : decode cX7_copy 17 = .ok (.aload_n 0, 1) := by decide +kernel
theorem dX7_copy_18 : decode cX7_copy 18 = .ok (.getfield 16, 3) := by decide +kernel
theorem dX7_copy_21 : decode cX7_copy 21 = .ok (.iload_n 1, 1) := by decide +kernel
theorem dX7_copy_22 : decode cX7_copy 22 = .ok (.baload, 1) := by decide +kernel
theorem dX7_copy_23 : decode cX7_copy 23 = .ok (.bastore, 1) := by decide +kernel
theorem dX7_copy_24 : decode cX7_copy 24 = .ok (.aload_n 0, 1) := by decide +kernel
theorem dX7_copy_25 : decode cX7_copy 25 = .ok (.getfield 23, 3) := by decide +kernel
theorem dX7_copy_28 : decode cX7_copy 28 = .ok (.iload_n 2, 1) := by decide +kernel
theorem dX7_copy_29 : decode cX7_copy 29 = .ok (.aload_n 0, 1) := by decide +kernel
theorem dX7_copy_30 : decode cX7_copy 30 = .ok (.getfield 23, 3) := by decide +kernel
theorem dX7_copy_33 : decode cX7_copy 33 = .ok (.iload_n 1, 1) := by decide +kernel
theorem dX7_copy_34 : decode cX7_copy 34 = .ok (.iaload, 1) := by decide +kernel
theorem dX7_copy_35 : decode cX7_copy 35 = .ok (.iastore, 1) := by decide +kernel
theorem dX7_copy_36 : decode cX7_copy 36 = .ok (.aload_n 0, 1) := by decide +kernel
theorem dX7_copy_37 : decode cX7_copy 37 = .ok (.getfield 26, 3) := by decide +kernel
theorem dX7_copy_40 : decode cX7_copy 40 = .ok (.iload_n 2, 1) := by decide +kernel
theorem dX7_copy_41 : decode cX7_copy 41 = .ok (.aload_n 0, 1) := by decide +kernel
theorem dX7_copy_42 : decode cX7_copy 42 = .ok (.getfield 26, 3) := by decide +kernel
theorem dX7_copy_45 : decode cX7_copy 45 = .ok (.iload_n 1, 1) := by decide +kernel
theorem dX7_copy_46 : decode cX7_copy 46 = .ok (.iaload, 1) := by decide +kernel
theorem dX7_copy_47 : decode cX7_copy 47 = .ok (.iastore, 1) := by decide +kernel
theorem dX7_copy_48 : decode cX7_copy 48 = .ok (.aload_n 0, 1) := by decide +kernel
theorem dX7_copy_49 : decode cX7_copy 49 = .ok (.getfield 29, 3) := by decide +kernel
theorem dX7_copy_52 : decode cX7_copy 52 = .ok (.iload_n 2, 1) := by decide +kernel
theorem dX7_copy_53 : decode cX7_copy 53 = .ok (.aload_n 0, 1) := by decide +kernel
theorem dX7_copy_54 : decode cX7_copy 54 = .ok (.getfield 29, 3) := by decide +kernel
theorem dX7_copy_57 : decode cX7_copy 57 = .ok (.iload_n 1, 1) := by decide +kernel
theorem dX7_copy_58 : decode cX7_copy 58 = .ok (.iaload, 1) := by decide +kernel
theorem dX7_copy_59 : decode cX7_copy 59 = .ok (.iastore, 1) := by decide +kernel
theorem dX7_copy_60 : decode cX7_copy 60 = .ok (.iconst 0, 1) := by decide +kernel
theorem dX7_copy_61 : decode cX7_copy 61 = .ok (.istore_n 3, 1) := by decide +kernel
theorem dX7_copy_62 : decode cX7_copy 62 = .ok (.iload_n 3, 1) := by decide +kernel
theorem dX7_copy_63 : decode cX7_copy 63 = .ok (.bipush 8, 2) := by decide +kernel
theorem dX7_copy_65 : decode cX7_copy 65 = .ok (.if_icmp .ge 31, 3) := by decide +kernel
theorem dX7_copy_68 : decode cX7_copy 68 = .ok (.aload_n 0, 1) := by decide +kernel
theorem dX7_copy_69 : decode cX7_copy 69 = .ok (.getfield 20, 3) := by decide +kernel
theorem dX7_copy_72 : decode cX7_copy 72 = .ok (.bipush 8, 2) := by decide +kernel
theorem dX7_copy_74 : decode cX7_copy 74 = .ok (.iload_n 2, 1) := by decide +kernel
theorem dX7_copy_75 : decode cX7_copy 75 = .ok (.imul, 1) := by decide +kernel
theorem dX7_copy_76 : decode cX7_copy 76 = .ok (.iload_n 3, 1) := by decide +kernel
theorem dX7_copy_77 : decode cX7_copy 77 = .ok (.iadd, 1) := by decide +kernel
theorem dX7_copy_78 : decode cX7_copy 78 = .ok (.aload_n 0, 1) := by decide +kernel
theorem dX7_copy_79 : decode cX7_copy 79 = .ok (.getfield 20, 3) := by decide +kernel
theorem dX7_copy_82 : decode cX7_copy 82 = .ok (.bipush 8, 2) := by decide +kernel
theorem dX7_copy_84 : decode cX7_copy 84 = .ok (.iload_n 1, 1) := by decide +kernel
theorem dX7_copy_85 : decode cX7_copy 85 = .ok (.imul, 1) := by decide +kernel
theorem dX7_copy_86 : decode cX7_copy 86 = .ok (.iload_n 3, 1) := by decide +kernel
theorem dX7_copy_87 : decode cX7_copy 87 = .ok (.iadd, 1) := by decide +kernel
theorem dX7_copy_88 : decode cX7_copy 88 = .ok (.iaload, 1) := by decide +kernel
theorem dX7_copy_89 : decode cX7_copy 89 = .ok (.iastore, 1) := by decide +kernel
theorem dX7_copy_90 : decode cX7_copy 90 = .ok (.iinc 3 1, 3) := by decide +kernel
theorem dX7_copy_93 : decode cX7_copy 93 = .ok (.goto (-31), 3) := by decide +kernel
theorem dX7_copy_96 : decode cX7_copy 96 = .ok (.iconst 0, 1) := by decide +kernel
theorem dX7_copy_97 : decode cX7_copy 97 = .ok (.istore_n 3, 1) := by decide +kernel
theorem dX7_copy_98 : decode cX7_copy 98 = .ok (.iload_n 3, 1) := by decide +kernel
theorem dX7_copy_99 : decode cX7_copy 99 = .ok (.iconst 4, 1) := by decide +kernel
theorem dX7_copy_100 : decode cX7_copy 100 = .ok (.if_icmp .ge 29, 3) := by decide +kernel
theorem dX7_copy_103 : decode cX7_copy 103 = .ok (.aload_n 0, 1) := by decide +kernel
theorem dX7_copy_104 : decode cX7_copy 104 = .ok (.getfield 32, 3) := by decide +kernel
theorem dX7_copy_107 : decode cX7_copy 107 = .ok (.iconst 4, 1) := by decide +kernel
theorem dX7_copy_108 : decode cX7_copy 108 = .ok (.iload_n 2, 1) := by decide +kernel
theorem dX7_copy_109 : decode cX7_copy 109 = .ok (.imul, 1) := by decide +kernel
theorem dX7_copy_110 : decode cX7_copy 110 = .ok (.iload_n 3, 1) := by decide +kernel
theorem dX7_copy_111 : decode cX7_copy 111 = .ok (.iadd, 1) := by decide +kernel
theorem dX7_copy_112 : decode cX7_copy 112 = .ok (.aload_n 0, 1) := by decide +kernel
theorem dX7_copy_113 : decode cX7_copy 113 = .ok (.getfield 32, 3) := by decide +kernel
theorem dX7_copy_116 : decode cX7_copy 116 = .ok (.iconst 4, 1) := by decide +kernel
theorem dX7_copy_117 : decode cX7_copy 117 = .ok (.iload_n 1, 1) := by decide +kernel
theorem dX7_copy_118 : decode cX7_copy 118 = .ok (.imul, 1) := by decide +kernel
theorem dX7_copy_119 : decode cX7_copy 119 = .ok (.iload_n 3, 1) := by decide +kernel
theorem dX7_copy_120 : decode cX7_copy 120 = .ok (.iadd, 1) := by decide +kernel
theorem dX7_copy_121 : decode cX7_copy 121 = .ok (.iaload, 1) := by decide +kernel
theorem dX7_copy_122 : decode cX7_copy 122 = .ok (.iastore, 1) := by decide +kernel
theorem dX7_copy_123 : decode cX7_copy 123 = .ok (.iinc 3 1, 3) := by decide +kernel
theorem dX7_copy_126 : decode cX7_copy 126 = .ok (.goto (-28), 3) := by decide +kernel
theorem dX7_copy_129 : decode cX7_copy 129 = .ok (.return_, 1) := by decide +kernel
theorem dX7_drop_0 : decode cX7_drop 0 = .ok (.aload_n 0, 1) := by decide +kernel
theorem dX7_drop_1 : decode cX7_drop 1 = .ok (.iload_n 1, 1) := by decide +kernel
theorem dX7_drop_2 : decode cX7_drop 2 = .ok (.invokevirtual 116, 3) := by decide +kernel
theorem dX7_drop_5 : decode cX7_drop 5 = .ok (.ifCond .ne 7, 3) := by decide +kernel
theorem dX7_drop_8 : decode cX7_drop 8 = .ok (.sipush (-1001), 3) := by decide +kernel
theorem dX7_drop_11 : decode cX7_drop 11 = .ok (.ireturn, 1) := by decide +kernel
theorem dX7_drop_12 : decode cX7_drop 12 = .ok (.aload_n 0, 1) := by decide +kernel
theorem dX7_drop_13 : decode cX7_drop 13 = .ok (.getfield 106, 3) := by decide +kernel
theorem dX7_drop_16 : decode cX7_drop 16 = .ok (.ifCond .eq 7, 3) := by decide +kernel
theorem dX7_drop_19 : decode cX7_drop 19 = .ok (.sipush (-1003), 3) := by decide +kernel
theorem dX7_drop_22 : decode cX7_drop 22 = .ok (.ireturn, 1) := by decide +kernel
theorem dX7_drop_23 : decode cX7_drop 23 = .ok (.aload_n 0, 1) := by decide +kernel
theorem dX7_drop_24 : decode cX7_drop 24 = .ok (.dup, 1) := by decide +kernel
theorem dX7_drop_25 : decode cX7_drop 25 = .ok (.getfield 109, 3) := by decide +kernel
theorem dX7_drop_28 : decode cX7_drop 28 = .ok (.iconst 1, 1) := by decide +kernel
theorem dX7_drop_29 : decode cX7_drop 29 = .ok (.isub, 1) := by decide +kernel
theorem dX7_drop_30 : decode cX7_drop 30 = .ok (.putfield 109, 3) := by decide +kernel
theorem dX7_drop_33 : decode cX7_drop 33 = .ok (.iload_n 1, 1) := by decide +kernel
theorem dX7_drop_34 : decode cX7_drop 34 = .ok (.istore_n 2, 1) := by decide +kernel
theorem dX7_drop_35 : decode cX7_drop 35 = .ok (.iload_n 2, 1) := by decide +kernel
theorem dX7_drop_36 : decode cX7_drop 36 = .ok (.aload_n 0, 1) := by decide +kernel
theorem dX7_drop_37 : decode cX7_drop 37 = .ok (.getfield 109, 3) := by decide +kernel
theorem dX7_drop_40 : decode cX7_drop 40 = .ok (.if_icmp .ge 17, 3) := by decide +kernel
theorem dX7_drop_43 : decode cX7_drop 43 = .ok (.aload_n 0, 1) := by decide +kernel
theorem dX7_drop_44 : decode cX7_drop 44 = .ok (.iload_n 2, 1) := by decide +kernel
theorem dX7_drop_45 : decode cX7_drop 45 = .ok (.iconst 1, 1) := by decide +kernel
theorem dX7_drop_46 : decode cX7_drop 46 = .ok (.iadd, 1) := by decide +kernel
theorem dX7_drop_47 : decode cX7_drop 47 = .ok (.iload_n 2, 1) := by decide +kernel
theorem dX7_drop_48 : decode cX7_drop 48 = .ok (.invokevirtual 119, 3) := by decide +kernel
theorem dX7_drop_51 : decode cX7_drop 51 = .ok (.iinc 2 1, 3) := by decide +kernel
theorem dX7_drop_54 : decode cX7_drop 54 = .ok (.goto (-19), 3) := by decide +kernel
theorem dX7_drop_57 : decode cX7_drop 57 = .ok (.aload_n 0, 1) := by decide +kernel
theorem dX7_drop_58 : decode cX7_drop 58 = .ok (.getfield 109, 3) := by decide +kernel
theorem dX7_drop_61 : decode cX7_drop 61 = .ok (.ireturn, 1) := by decide +kernel
theorem dX7_letsOf_0 : decode cX7_letsOf 0 = .ok (.iload_n 2, 1) := by decide +kernel
theorem dX7_letsOf_1 : decode cX7_letsOf 1 = .ok (.aload_n 0, 1) := by decide +kernel
theorem dX7_letsOf_2 : decode cX7_letsOf 2 = .ok (.getfield 13, 3) := by decide +kernel
theorem dX7_letsOf_5 : decode cX7_letsOf 5 = .ok (.iload_n 1, 1) := by decide +kernel
theorem dX7_letsOf_6 : decode cX7_letsOf 6 = .ok (.iaload, 1) := by decide +kernel
theorem dX7_letsOf_7 : decode cX7_letsOf 7 = .ok (.if_icmp .ge 17, 3) := by decide +kernel
theorem dX7_letsOf_10 : decode cX7_letsOf 10 = .ok (.aload_n 0, 1) := by decide +kernel
theorem dX7_letsOf_11 : decode cX7_letsOf 11 = .ok (.getfield 20, 3) := by decide +kernel
theorem dX7_letsOf_14 : decode cX7_letsOf 14 = .ok (.bipush 8, 2) := by decide +kernel
theorem dX7_letsOf_16 : decode cX7_letsOf 16 = .ok (.iload_n 1, 1) := by decide +kernel
theorem dX7_letsOf_17 : decode cX7_letsOf 17 = .ok (.imul, 1) := by decide +kernel
theorem dX7_letsOf_18 : decode cX7_letsOf 18 = .ok (.iload_n 2, 1) := by decide +kernel
theorem dX7_letsOf_19 : decode cX7_letsOf 19 = .ok (.iadd, 1) := by decide +kernel
theorem dX7_letsOf_20 : decode cX7_letsOf 20 = .ok (.iaload, 1) := by decide +kernel
theorem dX7_letsOf_21 : decode cX7_letsOf 21 = .ok (.goto 19, 3) := by decide +kernel
theorem dX7_letsOf_24 : decode cX7_letsOf 24 = .ok (.aload_n 0, 1) := by decide +kernel
theorem dX7_letsOf_25 : decode cX7_letsOf 25 = .ok (.getfield 16, 3) := by decide +kernel
theorem dX7_letsOf_28 : decode cX7_letsOf 28 = .ok (.iload_n 1, 1) := by decide +kernel
theorem dX7_letsOf_29 : decode cX7_letsOf 29 = .ok (.baload, 1) := by decide +kernel
theorem dX7_letsOf_30 : decode cX7_letsOf 30 = .ok (.ifCond .eq 9, 3) := by decide +kernel
theorem dX7_letsOf_33 : decode cX7_letsOf 33 = .ok (.sipush 1023, 3) := by decide +kernel
theorem dX7_letsOf_36 : decode cX7_letsOf 36 = .ok (.goto 4, 3) := by decide +kernel
theorem dX7_letsOf_39 : decode cX7_letsOf 39 = .ok (.iconst 0, 1) := by decide +kernel
theorem dX7_letsOf_40 : decode cX7_letsOf 40 = .ok (.ireturn, 1) := by decide +kernel
theorem dX7_aheadNumber_0 : decode cX7_aheadNumber 0 = .ok (.iconst 0, 1) := by decide +kernel
theorem dX7_aheadNumber_1 : decode cX7_aheadNumber 1 = .ok (.istore_n 2, 1) := by decide +kernel
theorem dX7_aheadNumber_2 : decode cX7_aheadNumber 2 = .ok (.iconst 0, 1) := by decide +kernel
theorem dX7_aheadNumber_3 : decode cX7_aheadNumber 3 = .ok (.istore_n 3, 1) := by decide +kernel
theorem dX7_aheadNumber_4 : decode cX7_aheadNumber 4 = .ok (.iload_n 3, 1) := by decide +kernel
theorem dX7_aheadNumber_5 : decode cX7_aheadNumber 5 = .ok (.aload_n 0, 1) := by decide +kernel
theorem dX7_aheadNumber_6 : decode cX7_aheadNumber 6 = .ok (.getfield 29, 3) := by decide +kernel
theorem dX7_aheadNumber_9 : decode cX7_aheadNumber 9 = .ok (.iload_n 1, 1) := by decide +kernel
theorem dX7_aheadNumber_10 : decode cX7_aheadNumber 10 = .ok (.iaload, 1) := by decide +kernel
theorem dX7_aheadNumber_11 : decode cX7_aheadNumber 11 = .ok (.if_icmp .ge 25, 3) := by decide +kernel
theorem dX7_aheadNumber_14 : decode cX7_aheadNumber 14 = .ok (.bipush 10, 2) := by decide +kernel
theorem dX7_aheadNumber_16 : decode cX7_aheadNumber 16 = .ok (.iload_n 2, 1) := by decide +kernel
theorem dX7_aheadNumber_17 : decode cX7_aheadNumber 17 = .ok (.imul, 1) := by decide +kernel
theorem dX7_aheadNumber_18 : decode cX7_aheadNumber 18 = .ok (.aload_n 0, 1) := by decide +kernel
theorem dX7_aheadNumber_19 : decode cX7_aheadNumber 19 = .ok (.getfield 32, 3) := by decide +kernel
theorem dX7_aheadNumber_22 : decode cX7_aheadNumber 22 = .ok (.iconst 4, 1) := by decide +kernel
theorem dX7_aheadNumber_23 : decode cX7_aheadNumber 23 = .ok (.iload_n 1, 1) := by decide +kernel
theorem dX7_aheadNumber_24 : decode cX7_aheadNumber 24 = .ok (.imul, 1) := by decide +kernel
theorem dX7_aheadNumber_25 : decode cX7_aheadNumber 25 = .ok (.iload_n 3, 1) := by decide +kernel
theorem dX7_aheadNumber_26 : decode cX7_aheadNumber 26 = .ok (.iadd, 1) := by decide +kernel
theorem dX7_aheadNumber_27 : decode cX7_aheadNumber 27 = .ok (.iaload, 1) := by decide +kernel
theorem dX7_aheadNumber_28 : decode cX7_aheadNumber 28 = .ok (.iadd, 1) := by decide +kernel
theorem dX7_aheadNumber_29 : decode cX7_aheadNumber 29 = .ok (.istore_n 2, 1) := by decide +kernel
theorem dX7_aheadNumber_30 : decode cX7_aheadNumber 30 = .ok (.iinc 3 1, 3) := by decide +kernel
theorem dX7_aheadNumber_33 : decode cX7_aheadNumber 33 = .ok (.goto (-29), 3) := by decide +kernel
theorem dX7_aheadNumber_36 : decode cX7_aheadNumber 36 = .ok (.iload_n 2, 1) := by decide +kernel
theorem dX7_aheadNumber_37 : decode cX7_aheadNumber 37 = .ok (.ireturn, 1) := by decide +kernel
theorem dX7_patternNow_0 : decode cX7_patternNow 0 = .ok (.iload_n 2, 1) := by decide +kernel
theorem dX7_patternNow_1 : decode cX7_patternNow 1 = .ok (.tableswitch 78 0 4 #[35, 42, 57, 64, 71], 35) := by decide +kernel
theorem dX7_patternNow_36 : decode cX7_patternNow 36 = .ok (.aload_n 0, 1) := by decide +kernel
theorem dX7_patternNow_37 : decode cX7_patternNow 37 = .ok (.getfield 13, 3) := by decide +kernel
theorem dX7_patternNow_40 : decode cX7_patternNow 40 = .ok (.iload_n 1, 1) := by decide +kernel
theorem dX7_patternNow_41 : decode cX7_patternNow 41 = .ok (.iaload, 1) := by decide +kernel
theorem dX7_patternNow_42 : decode cX7_patternNow 42 = .ok (.ireturn, 1) := by decide +kernel
theorem dX7_patternNow_43 : decode cX7_patternNow 43 = .ok (.aload_n 0, 1) := by decide +kernel
theorem dX7_patternNow_44 : decode cX7_patternNow 44 = .ok (.getfield 16, 3) := by decide +kernel
theorem dX7_patternNow_47 : decode cX7_patternNow 47 = .ok (.iload_n 1, 1) := by decide +kernel
theorem dX7_patternNow_48 : decode cX7_patternNow 48 = .ok (.baload, 1) := by decide +kernel
theorem dX7_patternNow_49 : decode cX7_patternNow 49 = .ok (.ifCond .eq 7, 3) := by decide +kernel
theorem dX7_patternNow_52 : decode cX7_patternNow 52 = .ok (.iconst 1, 1) := by decide +kernel
theorem dX7_patternNow_53 : decode cX7_patternNow 53 = .ok (.goto 4, 3) := by decide +kernel
theorem dX7_patternNow_56 : decode cX7_patternNow 56 = .ok (.iconst 0, 1) := by decide +kernel
theorem dX7_patternNow_57 : decode cX7_patternNow 57 = .ok (.ireturn, 1) := by decide +kernel
theorem dX7_patternNow_58 : decode cX7_patternNow 58 = .ok (.aload_n 0, 1) := by decide +kernel
theorem dX7_patternNow_59 : decode cX7_patternNow 59 = .ok (.getfield 23, 3) := by decide +kernel
theorem dX7_patternNow_62 : decode cX7_patternNow 62 = .ok (.iload_n 1, 1) := by decide +kernel
theorem dX7_patternNow_63 : decode cX7_patternNow 63 = .ok (.iaload, 1) := by decide +kernel
theorem dX7_patternNow_64 : decode cX7_patternNow 64 = .ok (.ireturn, 1) := by decide +kernel
theorem dX7_patternNow_65 : decode cX7_patternNow 65 = .ok (.aload_n 0, 1) := by decide +kernel
theorem dX7_patternNow_66 : decode cX7_patternNow 66 = .ok (.getfield 26, 3) := by decide +kernel
theorem dX7_patternNow_69 : decode cX7_patternNow 69 = .ok (.iload_n 1, 1) := by decide +kernel
theorem dX7_patternNow_70 : decode cX7_patternNow 70 = .ok (.iaload, 1) := by decide +kernel
theorem dX7_patternNow_71 : decode cX7_patternNow 71 = .ok (.ireturn, 1) := by decide +kernel
theorem dX7_patternNow_72 : decode cX7_patternNow 72 = .ok (.aload_n 0, 1) := by decide +kernel
theorem dX7_patternNow_73 : decode cX7_patternNow 73 = .ok (.getfield 29, 3) := by decide +kernel
theorem dX7_patternNow_76 : decode cX7_patternNow 76 = .ok (.iload_n 1, 1) := by decide +kernel
theorem dX7_patternNow_77 : decode cX7_patternNow 77 = .ok (.iaload, 1) := by decide +kernel
theorem dX7_patternNow_78 : decode cX7_patternNow 78 = .ok (.ireturn, 1) := by decide +kernel
theorem dX7_patternNow_79 : decode cX7_patternNow 79 = .ok (.aload_n 0, 1) := by decide +kernel
theorem dX7_patternNow_80 : decode cX7_patternNow 80 = .ok (.iload_n 1, 1) := by decide +kernel
theorem dX7_patternNow_81 : decode cX7_patternNow 81 = .ok (.invokevirtual 123, 3) := by decide +kernel
theorem dX7_patternNow_84 : decode cX7_patternNow 84 = .ok (.ireturn, 1) := by decide +kernel
theorem dX7_pattern_0 : decode cX7_pattern 0 = .ok (.aload_n 0, 1) := by decide +kernel
theorem dX7_pattern_1 : decode cX7_pattern 1 = .ok (.iload_n 1, 1) := by decide +kernel
theorem dX7_pattern_2 : decode cX7_pattern 2 = .ok (.invokevirtual 116, 3) := by decide +kernel
theorem dX7_pattern_5 : decode cX7_pattern 5 = .ok (.ifCond .ne 7, 3) := by decide +kernel
theorem dX7_pattern_8 : decode cX7_pattern 8 = .ok (.sipush (-1001), 3) := by decide +kernel
theorem dX7_pattern_11 : decode cX7_pattern 11 = .ok (.ireturn, 1) := by decide +kernel
theorem dX7_pattern_12 : decode cX7_pattern 12 = .ok (.iload_n 2, 1) := by decide +kernel
theorem dX7_pattern_13 : decode cX7_pattern 13 = .ok (.iconst 0, 1) := by decide +kernel
theorem dX7_pattern_14 : decode cX7_pattern 14 = .ok (.iconst 5, 1) := by decide +kernel
theorem dX7_pattern_15 : decode cX7_pattern 15 = .ok (.invokestatic 50, 3) := by decide +kernel
theorem dX7_pattern_18 : decode cX7_pattern 18 = .ok (.ifCond .eq 12, 3) := by decide +kernel
theorem dX7_pattern_21 : decode cX7_pattern 21 = .ok (.aload_n 0, 1) := by decide +kernel
theorem dX7_pattern_22 : decode cX7_pattern 22 = .ok (.iload_n 1, 1) := by decide +kernel
theorem dX7_pattern_23 : decode cX7_pattern 23 = .ok (.iload_n 2, 1) := by decide +kernel
theorem dX7_pattern_24 : decode cX7_pattern 24 = .ok (.invokevirtual 127, 3) := by decide +kernel
theorem dX7_pattern_27 : decode cX7_pattern 27 = .ok (.goto 6, 3) := by decide +kernel
theorem dX7_pattern_30 : decode cX7_pattern 30 = .ok (.sipush (-1002), 3) := by decide +kernel
theorem dX7_pattern_33 : decode cX7_pattern 33 = .ok (.ireturn, 1) := by decide +kernel
theorem dX7_lets_0 : decode cX7_lets 0 = .ok (.aload_n 0, 1) := by decide +kernel
theorem dX7_lets_1 : decode cX7_lets 1 = .ok (.iload_n 1, 1) := by decide +kernel
theorem dX7_lets_2 : decode cX7_lets 2 = .ok (.invokevirtual 116, 3) := by decide +kernel
theorem dX7_lets_5 : decode cX7_lets 5 = .ok (.ifCond .ne 7, 3) := by decide +kernel
theorem dX7_lets_8 : decode cX7_lets 8 = .ok (.sipush (-1001), 3) := by decide +kernel
theorem dX7_lets_11 : decode cX7_lets 11 = .ok (.ireturn, 1) := by decide +kernel
theorem dX7_lets_12 : decode cX7_lets 12 = .ok (.iload_n 2, 1) := by decide +kernel
theorem dX7_lets_13 : decode cX7_lets 13 = .ok (.iconst 0, 1) := by decide +kernel
theorem dX7_lets_14 : decode cX7_lets 14 = .ok (.bipush 9, 2) := by decide +kernel
theorem dX7_lets_16 : decode cX7_lets 16 = .ok (.invokestatic 50, 3) := by decide +kernel
theorem dX7_lets_19 : decode cX7_lets 19 = .ok (.ifCond .eq 12, 3) := by decide +kernel
theorem dX7_lets_22 : decode cX7_lets 22 = .ok (.aload_n 0, 1) := by decide +kernel
theorem dX7_lets_23 : decode cX7_lets 23 = .ok (.iload_n 1, 1) := by decide +kernel
theorem dX7_lets_24 : decode cX7_lets 24 = .ok (.iload_n 2, 1) := by decide +kernel
theorem dX7_lets_25 : decode cX7_lets 25 = .ok (.invokevirtual 131, 3) := by decide +kernel
theorem dX7_lets_28 : decode cX7_lets 28 = .ok (.goto 6, 3) := by decide +kernel
theorem dX7_lets_31 : decode cX7_lets 31 = .ok (.sipush (-1002), 3) := by decide +kernel
theorem dX7_lets_34 : decode cX7_lets 34 = .ok (.ireturn, 1) := by decide +kernel
theorem dX7_wide_0 : decode cX7_wide 0 = .ok (.iload_n 2, 1) := by decide +kernel
theorem dX7_wide_1 : decode cX7_wide 1 = .ok (.aload_n 0, 1) := by decide +kernel
theorem dX7_wide_2 : decode cX7_wide 2 = .ok (.getfield 13, 3) := by decide +kernel
theorem dX7_wide_5 : decode cX7_wide 5 = .ok (.iload_n 1, 1) := by decide +kernel
theorem dX7_wide_6 : decode cX7_wide 6 = .ok (.iaload, 1) := by decide +kernel
theorem dX7_wide_7 : decode cX7_wide 7 = .ok (.if_icmp .ge 20, 3) := by decide +kernel
theorem dX7_wide_10 : decode cX7_wide 10 = .ok (.aload_n 0, 1) := by decide +kernel
theorem dX7_wide_11 : decode cX7_wide 11 = .ok (.getfield 20, 3) := by decide +kernel
theorem dX7_wide_14 : decode cX7_wide 14 = .ok (.bipush 8, 2) := by decide +kernel
theorem dX7_wide_16 : decode cX7_wide 16 = .ok (.iload_n 1, 1) := by decide +kernel
theorem dX7_wide_17 : decode cX7_wide 17 = .ok (.imul, 1) := by decide +kernel
theorem dX7_wide_18 : decode cX7_wide 18 = .ok (.iload_n 2, 1) := by decide +kernel
theorem dX7_wide_19 : decode cX7_wide 19 = .ok (.iadd, 1) := by decide +kernel
theorem dX7_wide_20 : decode cX7_wide 20 = .ok (.iaload, 1) := by decide +kernel
theorem dX7_wide_21 : decode cX7_wide 21 = .ok (.invokestatic 134, 3) := by decide +kernel
theorem dX7_wide_24 : decode cX7_wide 24 = .ok (.goto 18, 3) := by decide +kernel
theorem dX7_wide_27 : decode cX7_wide 27 = .ok (.aload_n 0, 1) := by decide +kernel
theorem dX7_wide_28 : decode cX7_wide 28 = .ok (.getfield 16, 3) := by decide +kernel
theorem dX7_wide_31 : decode cX7_wide 31 = .ok (.iload_n 1, 1) := by decide +kernel
theorem dX7_wide_32 : decode cX7_wide 32 = .ok (.baload, 1) := by decide +kernel
theorem dX7_wide_33 : decode cX7_wide 33 = .ok (.ifCond .eq 8, 3) := by decide +kernel
theorem dX7_wide_36 : decode cX7_wide 36 = .ok (.bipush 11, 2) := by decide +kernel
theorem dX7_wide_38 : decode cX7_wide 38 = .ok (.goto 4, 3) := by decide +kernel
theorem dX7_wide_41 : decode cX7_wide 41 = .ok (.iconst 0, 1) := by decide +kernel
theorem dX7_wide_42 : decode cX7_wide 42 = .ok (.ireturn, 1) := by decide +kernel
theorem dX7_compare_0 : decode cX7_compare 0 = .ok (.iconst 0, 1) := by decide +kernel
theorem dX7_compare_1 : decode cX7_compare 1 = .ok (.istore_n 3, 1) := by decide +kernel
theorem dX7_compare_2 : decode cX7_compare 2 = .ok (.iconst 0, 1) := by decide +kernel
theorem dX7_compare_3 : decode cX7_compare 3 = .ok (.istore 4, 2) := by decide +kernel
theorem dX7_compare_5 : decode cX7_compare 5 = .ok (.iload 4, 2) := by decide +kernel
theorem dX7_compare_7 : decode cX7_compare 7 = .ok (.bipush 10, 2) := by decide +kernel
theorem dX7_compare_9 : decode cX7_compare 9 = .ok (.if_icmp .ge 29, 3) := by decide +kernel
theorem dX7_compare_12 : decode cX7_compare 12 = .ok (.iload_n 3, 1) := by decide +kernel
theorem dX7_compare_13 : decode cX7_compare 13 = .ok (.ifCond .ne 25, 3) := by decide +kernel
theorem dX7_compare_16 : decode cX7_compare 16 = .ok (.aload_n 0, 1) := by decide +kernel
theorem dX7_compare_17 : decode cX7_compare 17 = .ok (.iload_n 1, 1) := by decide +kernel
theorem dX7_compare_18 : decode cX7_compare 18 = .ok (.iload 4, 2) := by decide +kernel
theorem dX7_compare_20 : decode cX7_compare 20 = .ok (.invokevirtual 137, 3) := by decide +kernel
theorem dX7_compare_23 : decode cX7_compare 23 = .ok (.aload_n 0, 1) := by decide +kernel
theorem dX7_compare_24 : decode cX7_compare 24 = .ok (.iload_n 2, 1) := by decide +kernel
theorem dX7_compare_25 : decode cX7_compare 25 = .ok (.iload 4, 2) := by decide +kernel
theorem dX7_compare_27 : decode cX7_compare 27 = .ok (.invokevirtual 137, 3) := by decide +kernel
theorem dX7_compare_30 : decode cX7_compare 30 = .ok (.isub, 1) := by decide +kernel
theorem dX7_compare_31 : decode cX7_compare 31 = .ok (.istore_n 3, 1) := by decide +kernel
theorem dX7_compare_32 : decode cX7_compare 32 = .ok (.iinc 4 1, 3) := by decide +kernel
theorem dX7_compare_35 : decode cX7_compare 35 = .ok (.goto (-30), 3) := by decide +kernel
theorem dX7_compare_38 : decode cX7_compare 38 = .ok (.iload_n 3, 1) := by decide +kernel
theorem dX7_compare_39 : decode cX7_compare 39 = .ok (.ireturn, 1) := by decide +kernel
theorem dX7_narrower_0 : decode cX7_narrower 0 = .ok (.aload_n 0, 1) := by decide +kernel
theorem dX7_narrower_1 : decode cX7_narrower 1 = .ok (.iload_n 1, 1) := by decide +kernel
theorem dX7_narrower_2 : decode cX7_narrower 2 = .ok (.invokevirtual 116, 3) := by decide +kernel
theorem dX7_narrower_5 : decode cX7_narrower 5 = .ok (.ifCond .eq 11, 3) := by decide +kernel
theorem dX7_narrower_8 : decode cX7_narrower 8 = .ok (.aload_n 0, 1) := by decide +kernel
theorem dX7_narrower_9 : decode cX7_narrower 9 = .ok (.iload_n 2, 1) := by decide +kernel
theorem dX7_narrower_10 : decode cX7_narrower 10 = .ok (.invokevirtual 116, 3) := by decide +kernel
theorem dX7_narrower_13 : decode cX7_narrower 13 = .ok (.ifCond .ne 7, 3) := by decide +kernel
theorem dX7_narrower_16 : decode cX7_narrower 16 = .ok (.sipush (-1001), 3) := by decide +kernel
theorem dX7_narrower_19 : decode cX7_narrower 19 = .ok (.ireturn, 1) := by decide +kernel
theorem dX7_narrower_20 : decode cX7_narrower 20 = .ok (.aload_n 0, 1) := by decide +kernel
theorem dX7_narrower_21 : decode cX7_narrower 21 = .ok (.iload_n 1, 1) := by decide +kernel
theorem dX7_narrower_22 : decode cX7_narrower 22 = .ok (.iload_n 2, 1) := by decide +kernel
theorem dX7_narrower_23 : decode cX7_narrower 23 = .ok (.invokevirtual 140, 3) := by decide +kernel
theorem dX7_narrower_26 : decode cX7_narrower 26 = .ok (.istore_n 3, 1) := by decide +kernel
theorem dX7_narrower_27 : decode cX7_narrower 27 = .ok (.iload_n 3, 1) := by decide +kernel
theorem dX7_narrower_28 : decode cX7_narrower 28 = .ok (.ifCond .ge 7, 3) := by decide +kernel
theorem dX7_narrower_31 : decode cX7_narrower 31 = .ok (.iconst 0, 1) := by decide +kernel
theorem dX7_narrower_32 : decode cX7_narrower 32 = .ok (.goto 12, 3) := by decide +kernel
theorem dX7_narrower_35 : decode cX7_narrower 35 = .ok (.iload_n 3, 1) := by decide +kernel
theorem dX7_narrower_36 : decode cX7_narrower 36 = .ok (.ifCond .le 7, 3) := by decide +kernel
theorem dX7_narrower_39 : decode cX7_narrower 39 = .ok (.iconst 1, 1) := by decide +kernel
theorem dX7_narrower_40 : decode cX7_narrower 40 = .ok (.goto 4, 3) := by decide +kernel
theorem dX7_narrower_43 : decode cX7_narrower 43 = .ok (.iconst 2, 1) := by decide +kernel
theorem dX7_narrower_44 : decode cX7_narrower 44 = .ok (.ireturn, 1) := by decide +kernel
theorem dX7_areLike_0 : decode cX7_areLike 0 = .ok (.aload_n 0, 1) := by decide +kernel
theorem dX7_areLike_1 : decode cX7_areLike 1 = .ok (.getfield 23, 3) := by decide +kernel
theorem dX7_areLike_4 : decode cX7_areLike 4 = .ok (.iload_n 1, 1) := by decide +kernel
theorem dX7_areLike_5 : decode cX7_areLike 5 = .ok (.iaload, 1) := by decide +kernel
theorem dX7_areLike_6 : decode cX7_areLike 6 = .ok (.aload_n 0, 1) := by decide +kernel
theorem dX7_areLike_7 : decode cX7_areLike 7 = .ok (.getfield 23, 3) := by decide +kernel
theorem dX7_areLike_10 : decode cX7_areLike 10 = .ok (.iload_n 2, 1) := by decide +kernel
theorem dX7_areLike_11 : decode cX7_areLike 11 = .ok (.iaload, 1) := by decide +kernel
theorem dX7_areLike_12 : decode cX7_areLike 12 = .ok (.if_icmp .ne 37, 3) := by decide +kernel
theorem dX7_areLike_15 : decode cX7_areLike 15 = .ok (.aload_n 0, 1) := by decide +kernel
theorem dX7_areLike_16 : decode cX7_areLike 16 = .ok (.getfield 26, 3) := by decide +kernel
theorem dX7_areLike_19 : decode cX7_areLike 19 = .ok (.iload_n 1, 1) := by decide +kernel
theorem dX7_areLike_20 : decode cX7_areLike 20 = .ok (.iaload, 1) := by decide +kernel
theorem dX7_areLike_21 : decode cX7_areLike 21 = .ok (.aload_n 0, 1) := by decide +kernel
theorem dX7_areLike_22 : decode cX7_areLike 22 = .ok (.getfield 26, 3) := by decide +kernel
theorem dX7_areLike_25 : decode cX7_areLike 25 = .ok (.iload_n 2, 1) := by decide +kernel
theorem dX7_areLike_26 : decode cX7_areLike 26 = .ok (.iaload, 1) := by decide +kernel
theorem dX7_areLike_27 : decode cX7_areLike 27 = .ok (.if_icmp .ne 22, 3) := by decide +kernel
theorem dX7_areLike_30 : decode cX7_areLike 30 = .ok (.aload_n 0, 1) := by decide +kernel
theorem dX7_areLike_31 : decode cX7_areLike 31 = .ok (.getfield 29, 3) := by decide +kernel
theorem dX7_areLike_34 : decode cX7_areLike 34 = .ok (.iload_n 1, 1) := by decide +kernel
theorem dX7_areLike_35 : decode cX7_areLike 35 = .ok (.iaload, 1) := by decide +kernel
theorem dX7_areLike_36 : decode cX7_areLike 36 = .ok (.aload_n 0, 1) := by decide +kernel
theorem dX7_areLike_37 : decode cX7_areLike 37 = .ok (.getfield 29, 3) := by decide +kernel
theorem dX7_areLike_40 : decode cX7_areLike 40 = .ok (.iload_n 2, 1) := by decide +kernel
theorem dX7_areLike_41 : decode cX7_areLike 41 = .ok (.iaload, 1) := by decide +kernel
theorem dX7_areLike_42 : decode cX7_areLike 42 = .ok (.if_icmp .ne 7, 3) := by decide +kernel
theorem dX7_areLike_45 : decode cX7_areLike 45 = .ok (.iconst 1, 1) := by decide +kernel
theorem dX7_areLike_46 : decode cX7_areLike 46 = .ok (.goto 4, 3) := by decide +kernel
theorem dX7_areLike_49 : decode cX7_areLike 49 = .ok (.iconst 0, 1) := by decide +kernel
theorem dX7_areLike_50 : decode cX7_areLike 50 = .ok (.istore_n 3, 1) := by decide +kernel
theorem dX7_areLike_51 : decode cX7_areLike 51 = .ok (.iload_n 3, 1) := by decide +kernel
theorem dX7_areLike_52 : decode cX7_areLike 52 = .ok (.ifCond .eq 20, 3) := by decide +kernel
theorem dX7_areLike_55 : decode cX7_areLike 55 = .ok (.aload_n 0, 1) := by decide +kernel
theorem dX7_areLike_56 : decode cX7_areLike 56 = .ok (.iload_n 1, 1) := by decide +kernel
theorem dX7_areLike_57 : decode cX7_areLike 57 = .ok (.invokevirtual 123, 3) := by decide +kernel
theorem dX7_areLike_60 : decode cX7_areLike 60 = .ok (.aload_n 0, 1) := by decide +kernel
theorem dX7_areLike_61 : decode cX7_areLike 61 = .ok (.iload_n 2, 1) := by decide +kernel
theorem dX7_areLike_62 : decode cX7_areLike 62 = .ok (.invokevirtual 123, 3) := by decide +kernel
theorem dX7_areLike_65 : decode cX7_areLike 65 = .ok (.if_icmp .ne 7, 3) := by decide +kernel
theorem dX7_areLike_68 : decode cX7_areLike 68 = .ok (.iconst 1, 1) := by decide +kernel
theorem dX7_areLike_69 : decode cX7_areLike 69 = .ok (.goto 4, 3) := by decide +kernel
theorem dX7_areLike_72 : decode cX7_areLike 72 = .ok (.iconst 0, 1) := by decide +kernel
theorem dX7_areLike_73 : decode cX7_areLike 73 = .ok (.ireturn, 1) := by decide +kernel
theorem dX7_isClash_0 : decode cX7_isClash 0 = .ok (.aload_n 0, 1) := by decide +kernel
theorem dX7_isClash_1 : decode cX7_isClash 1 = .ok (.iload_n 1, 1) := by decide +kernel
theorem dX7_isClash_2 : decode cX7_isClash 2 = .ok (.iload_n 2, 1) := by decide +kernel
theorem dX7_isClash_3 : decode cX7_isClash 3 = .ok (.invokevirtual 140, 3) := by decide +kernel
theorem dX7_isClash_6 : decode cX7_isClash 6 = .ok (.ifCond .ne 16, 3) := by decide +kernel
theorem dX7_isClash_9 : decode cX7_isClash 9 = .ok (.aload_n 0, 1) := by decide +kernel
theorem dX7_isClash_10 : decode cX7_isClash 10 = .ok (.iload_n 1, 1) := by decide +kernel
theorem dX7_isClash_11 : decode cX7_isClash 11 = .ok (.iload_n 2, 1) := by decide +kernel
theorem dX7_isClash_12 : decode cX7_isClash 12 = .ok (.invokevirtual 143, 3) := by decide +kernel
theorem dX7_isClash_15 : decode cX7_isClash 15 = .ok (.ifCond .ne 7, 3) := by decide +kernel
theorem dX7_isClash_18 : decode cX7_isClash 18 = .ok (.iconst 1, 1) := by decide +kernel
theorem dX7_isClash_19 : decode cX7_isClash 19 = .ok (.goto 4, 3) := by decide +kernel
theorem dX7_isClash_22 : decode cX7_isClash 22 = .ok (.iconst 0, 1) := by decide +kernel
theorem dX7_isClash_23 : decode cX7_isClash 23 = .ok (.istore_n 3, 1) := by decide +kernel
theorem dX7_isClash_24 : decode cX7_isClash 24 = .ok (.iconst 0, 1) := by decide +kernel
theorem dX7_isClash_25 : decode cX7_isClash 25 = .ok (.istore 4, 2) := by decide +kernel
theorem dX7_isClash_27 : decode cX7_isClash 27 = .ok (.iload 4, 2) := by decide +kernel
theorem dX7_isClash_29 : decode cX7_isClash 29 = .ok (.aload_n 0, 1) := by decide +kernel
theorem dX7_isClash_30 : decode cX7_isClash 30 = .ok (.getfield 13, 3) := by decide +kernel
theorem dX7_isClash_33 : decode cX7_isClash 33 = .ok (.iload_n 1, 1) := by decide +kernel
theorem dX7_isClash_34 : decode cX7_isClash 34 = .ok (.iaload, 1) := by decide +kernel
theorem dX7_isClash_35 : decode cX7_isClash 35 = .ok (.if_icmp .ge 37, 3) := by decide +kernel
theorem dX7_isClash_38 : decode cX7_isClash 38 = .ok (.iload_n 3, 1) := by decide +kernel
theorem dX7_isClash_39 : decode cX7_isClash 39 = .ok (.ifCond .eq 33, 3) := by decide +kernel
theorem dX7_isClash_42 : decode cX7_isClash 42 = .ok (.aload_n 0, 1) := by decide +kernel
theorem dX7_isClash_43 : decode cX7_isClash 43 = .ok (.iload_n 1, 1) := by decide +kernel
theorem dX7_isClash_44 : decode cX7_isClash 44 = .ok (.iload 4, 2) := by decide +kernel
theorem dX7_isClash_46 : decode cX7_isClash 46 = .ok (.invokevirtual 131, 3) := by decide +kernel
theorem dX7_isClash_49 : decode cX7_isClash 49 = .ok (.aload_n 0, 1) := by decide +kernel
theorem dX7_isClash_50 : decode cX7_isClash 50 = .ok (.iload_n 2, 1) := by decide +kernel
theorem dX7_isClash_51 : decode cX7_isClash 51 = .ok (.iload 4, 2) := by decide +kernel
theorem dX7_isClash_53 : decode cX7_isClash 53 = .ok (.invokevirtual 131, 3) := by decide +kernel
theorem dX7_isClash_56 : decode cX7_isClash 56 = .ok (.iand, 1) := by decide +kernel
theorem dX7_isClash_57 : decode cX7_isClash 57 = .ok (.ifCond .eq 7, 3) := by decide +kernel
theorem dX7_isClash_60 : decode cX7_isClash 60 = .ok (.iconst 1, 1) := by decide +kernel
theorem dX7_isClash_61 : decode cX7_isClash 61 = .ok (.goto 4, 3) := by decide +kernel
theorem dX7_isClash_64 : decode cX7_isClash 64 = .ok (.iconst 0, 1) := by decide +kernel
theorem dX7_isClash_65 : decode cX7_isClash 65 = .ok (.istore_n 3, 1) := by decide +kernel
theorem dX7_isClash_66 : decode cX7_isClash 66 = .ok (.iinc 4 1, 3) := by decide +kernel
theorem dX7_isClash_69 : decode cX7_isClash 69 = .ok (.goto (-42), 3) := by decide +kernel
theorem dX7_isClash_72 : decode cX7_isClash 72 = .ok (.iload_n 3, 1) := by decide +kernel
theorem dX7_isClash_73 : decode cX7_isClash 73 = .ok (.ireturn, 1) := by decide +kernel
theorem dX7_clashAt_0 : decode cX7_clashAt 0 = .ok (.iload_n 1, 1) := by decide +kernel
theorem dX7_clashAt_1 : decode cX7_clashAt 1 = .ok (.istore_n 2, 1) := by decide +kernel
theorem dX7_clashAt_2 : decode cX7_clashAt 2 = .ok (.iconst 0, 1) := by decide +kernel
theorem dX7_clashAt_3 : decode cX7_clashAt 3 = .ok (.istore_n 3, 1) := by decide +kernel
theorem dX7_clashAt_4 : decode cX7_clashAt 4 = .ok (.iload_n 3, 1) := by decide +kernel
theorem dX7_clashAt_5 : decode cX7_clashAt 5 = .ok (.aload_n 0, 1) := by decide +kernel
theorem dX7_clashAt_6 : decode cX7_clashAt 6 = .ok (.getfield 109, 3) := by decide +kernel
theorem dX7_clashAt_9 : decode cX7_clashAt 9 = .ok (.if_icmp .ge 58, 3) := by decide +kernel
theorem dX7_clashAt_12 : decode cX7_clashAt 12 = .ok (.iload_n 2, 1) := by decide +kernel
theorem dX7_clashAt_13 : decode cX7_clashAt 13 = .ok (.ifCond .lt 54, 3) := by decide +kernel
theorem dX7_clashAt_16 : decode cX7_clashAt 16 = .ok (.iload_n 3, 1) := by decide +kernel
theorem dX7_clashAt_17 : decode cX7_clashAt 17 = .ok (.iconst 1, 1) := by decide +kernel
theorem dX7_clashAt_18 : decode cX7_clashAt 18 = .ok (.iadd, 1) := by decide +kernel
theorem dX7_clashAt_19 : decode cX7_clashAt 19 = .ok (.istore 4, 2) := by decide +kernel
theorem dX7_clashAt_21 : decode cX7_clashAt 21 = .ok (.iload 4, 2) := by decide +kernel
theorem dX7_clashAt_23 : decode cX7_clashAt 23 = .ok (.aload_n 0, 1) := by decide +kernel
theorem dX7_clashAt_24 : decode cX7_clashAt 24 = .ok (.getfield 109, 3) := by decide +kernel
theorem dX7_clashAt_27 : decode cX7_clashAt 27 = .ok (.if_icmp .ge 34, 3) := by decide +kernel
theorem dX7_clashAt_30 : decode cX7_clashAt 30 = .ok (.aload_n 0, 1) := by decide +kernel
theorem dX7_clashAt_31 : decode cX7_clashAt 31 = .ok (.iload_n 3, 1) := by decide +kernel
theorem dX7_clashAt_32 : decode cX7_clashAt 32 = .ok (.iload 4, 2) := by decide +kernel
theorem dX7_clashAt_34 : decode cX7_clashAt 34 = .ok (.invokevirtual 147, 3) := by decide +kernel
theorem dX7_clashAt_37 : decode cX7_clashAt 37 = .ok (.ifCond .eq 18, 3) := by decide +kernel
theorem dX7_clashAt_40 : decode cX7_clashAt 40 = .ok (.iload_n 2, 1) := by decide +kernel
theorem dX7_clashAt_41 : decode cX7_clashAt 41 = .ok (.ifCond .ne 11, 3) := by decide +kernel
theorem dX7_clashAt_44 : decode cX7_clashAt 44 = .ok (.bipush 16, 2) := by decide +kernel
theorem dX7_clashAt_46 : decode cX7_clashAt 46 = .ok (.iload_n 3, 1) := by decide +kernel
theorem dX7_clashAt_47 : decode cX7_clashAt 47 = .ok (.imul, 1) := by decide +kernel
theorem dX7_clashAt_48 : decode cX7_clashAt 48 = .ok (.iload 4, 2) := by decide +kernel
theorem dX7_clashAt_50 : decode cX7_clashAt 50 = .ok (.iadd, 1) := by decide +kernel
theorem dX7_clashAt_51 : decode cX7_clashAt 51 = .ok (.ireturn, 1) := by decide +kernel
theorem dX7_clashAt_52 : decode cX7_clashAt 52 = .ok (.iinc 2 (-1), 3) := by decide +kernel
theorem dX7_clashAt_55 : decode cX7_clashAt 55 = .ok (.iinc 4 1, 3) := by decide +kernel
theorem dX7_clashAt_58 : decode cX7_clashAt 58 = .ok (.goto (-37), 3) := by decide +kernel
theorem dX7_clashAt_61 : decode cX7_clashAt 61 = .ok (.iinc 3 1, 3) := by decide +kernel
theorem dX7_clashAt_64 : decode cX7_clashAt 64 = .ok (.goto (-60), 3) := by decide +kernel
theorem dX7_clashAt_67 : decode cX7_clashAt 67 = .ok (.iconst (-1), 1) := by decide +kernel
theorem dX7_clashAt_68 : decode cX7_clashAt 68 = .ok (.ireturn, 1) := by decide +kernel
theorem dX7_clash_0 : decode cX7_clash 0 = .ok (.aload_n 0, 1) := by decide +kernel
theorem dX7_clash_1 : decode cX7_clash 1 = .ok (.iload_n 1, 1) := by decide +kernel
theorem dX7_clash_2 : decode cX7_clash 2 = .ok (.invokevirtual 150, 3) := by decide +kernel
theorem dX7_clash_5 : decode cX7_clash 5 = .ok (.istore_n 2, 1) := by decide +kernel
theorem dX7_clash_6 : decode cX7_clash 6 = .ok (.iload_n 2, 1) := by decide +kernel
theorem dX7_clash_7 : decode cX7_clash 7 = .ok (.iconst (-1), 1) := by decide +kernel
theorem dX7_clash_8 : decode cX7_clash 8 = .ok (.if_icmp .ne 9, 3) := by decide +kernel
theorem dX7_clash_11 : decode cX7_clash 11 = .ok (.sipush (-1001), 3) := by decide +kernel
theorem dX7_clash_14 : decode cX7_clash 14 = .ok (.goto 4, 3) := by decide +kernel
theorem dX7_clash_17 : decode cX7_clash 17 = .ok (.iload_n 2, 1) := by decide +kernel
theorem dX7_clash_18 : decode cX7_clash 18 = .ok (.ireturn, 1) := by decide +kernel
theorem dX7_clashes_0 : decode cX7_clashes 0 = .ok (.iconst 0, 1) := by decide +kernel
theorem dX7_clashes_1 : decode cX7_clashes 1 = .ok (.istore_n 1, 1) := by decide +kernel
theorem dX7_clashes_2 : decode cX7_clashes 2 = .ok (.iconst 0, 1) := by decide +kernel
theorem dX7_clashes_3 : decode cX7_clashes 3 = .ok (.istore_n 2, 1) := by decide +kernel
theorem dX7_clashes_4 : decode cX7_clashes 4 = .ok (.iload_n 2, 1) := by decide +kernel
theorem dX7_clashes_5 : decode cX7_clashes 5 = .ok (.aload_n 0, 1) := by decide +kernel
theorem dX7_clashes_6 : decode cX7_clashes 6 = .ok (.getfield 109, 3) := by decide +kernel
theorem dX7_clashes_9 : decode cX7_clashes 9 = .ok (.if_icmp .ge 44, 3) := by decide +kernel
theorem dX7_clashes_12 : decode cX7_clashes 12 = .ok (.iload_n 2, 1) := by decide +kernel
theorem dX7_clashes_13 : decode cX7_clashes 13 = .ok (.iconst 1, 1) := by decide +kernel
theorem dX7_clashes_14 : decode cX7_clashes 14 = .ok (.iadd, 1) := by decide +kernel
theorem dX7_clashes_15 : decode cX7_clashes 15 = .ok (.istore_n 3, 1) := by decide +kernel
theorem dX7_clashes_16 : decode cX7_clashes 16 = .ok (.iload_n 3, 1) := by decide +kernel
theorem dX7_clashes_17 : decode cX7_clashes 17 = .ok (.aload_n 0, 1) := by decide +kernel
theorem dX7_clashes_18 : decode cX7_clashes 18 = .ok (.getfield 109, 3) := by decide +kernel
theorem dX7_clashes_21 : decode cX7_clashes 21 = .ok (.if_icmp .ge 26, 3) := by decide +kernel
theorem dX7_clashes_24 : decode cX7_clashes 24 = .ok (.iload_n 1, 1) := by decide +kernel
theorem dX7_clashes_25 : decode cX7_clashes 25 = .ok (.aload_n 0, 1) := by decide +kernel
theorem dX7_clashes_26 : decode cX7_clashes 26 = .ok (.iload_n 2, 1) := by decide +kernel
theorem dX7_clashes_27 : decode cX7_clashes 27 = .ok (.iload_n 3, 1) := by decide +kernel
theorem dX7_clashes_28 : decode cX7_clashes 28 = .ok (.invokevirtual 147, 3) := by decide +kernel
theorem dX7_clashes_31 : decode cX7_clashes 31 = .ok (.ifCond .eq 7, 3) := by decide +kernel
theorem dX7_clashes_34 : decode cX7_clashes 34 = .ok (.iconst 1, 1) := by decide +kernel
theorem dX7_clashes_35 : decode cX7_clashes 35 = .ok (.goto 4, 3) := by decide +kernel
theorem dX7_clashes_38 : decode cX7_clashes 38 = .ok (.iconst 0, 1) := by decide +kernel
theorem dX7_clashes_39 : decode cX7_clashes 39 = .ok (.iadd, 1) := by decide +kernel
theorem dX7_clashes_40 : decode cX7_clashes 40 = .ok (.istore_n 1, 1) := by decide +kernel
theorem dX7_clashes_41 : decode cX7_clashes 41 = .ok (.iinc 3 1, 3) := by decide +kernel
theorem dX7_clashes_44 : decode cX7_clashes 44 = .ok (.goto (-28), 3) := by decide +kernel
theorem dX7_clashes_47 : decode cX7_clashes 47 = .ok (.iinc 2 1, 3) := by decide +kernel
theorem dX7_clashes_50 : decode cX7_clashes 50 = .ok (.goto (-46), 3) := by decide +kernel
theorem dX7_clashes_53 : decode cX7_clashes 53 = .ok (.iload_n 1, 1) := by decide +kernel
theorem dX7_clashes_54 : decode cX7_clashes 54 = .ok (.ireturn, 1) := by decide +kernel
theorem dX7_begins_0 : decode cX7_begins 0 = .ok (.iconst 1, 1) := by decide +kernel
theorem dX7_begins_1 : decode cX7_begins 1 = .ok (.istore_n 3, 1) := by decide +kernel
theorem dX7_begins_2 : decode cX7_begins 2 = .ok (.iconst 0, 1) := by decide +kernel
theorem dX7_begins_3 : decode cX7_begins 3 = .ok (.istore 4, 2) := by decide +kernel
theorem dX7_begins_5 : decode cX7_begins 5 = .ok (.iload 4, 2) := by decide +kernel
theorem dX7_begins_7 : decode cX7_begins 7 = .ok (.iload_n 2, 1) := by decide +kernel
theorem dX7_begins_8 : decode cX7_begins 8 = .ok (.if_icmp .ge 40, 3) := by decide +kernel
theorem dX7_begins_11 : decode cX7_begins 11 = .ok (.iload_n 3, 1) := by decide +kernel
theorem dX7_begins_12 : decode cX7_begins 12 = .ok (.ifCond .eq 28, 3) := by decide +kernel
theorem dX7_begins_15 : decode cX7_begins 15 = .ok (.aload_n 0, 1) := by decide +kernel
theorem dX7_begins_16 : decode cX7_begins 16 = .ok (.iload_n 1, 1) := by decide +kernel
theorem dX7_begins_17 : decode cX7_begins 17 = .ok (.iload 4, 2) := by decide +kernel
theorem dX7_begins_19 : decode cX7_begins 19 = .ok (.invokevirtual 131, 3) := by decide +kernel
theorem dX7_begins_22 : decode cX7_begins 22 = .ok (.aload_n 0, 1) := by decide +kernel
theorem dX7_begins_23 : decode cX7_begins 23 = .ok (.getfield 44, 3) := by decide +kernel
theorem dX7_begins_26 : decode cX7_begins 26 = .ok (.iload 4, 2) := by decide +kernel
theorem dX7_begins_28 : decode cX7_begins 28 = .ok (.iaload, 1) := by decide +kernel
theorem dX7_begins_29 : decode cX7_begins 29 = .ok (.ishr, 1) := by decide +kernel
theorem dX7_begins_30 : decode cX7_begins 30 = .ok (.iconst 1, 1) := by decide +kernel
theorem dX7_begins_31 : decode cX7_begins 31 = .ok (.iand, 1) := by decide +kernel
theorem dX7_begins_32 : decode cX7_begins 32 = .ok (.iconst 1, 1) := by decide +kernel
theorem dX7_begins_33 : decode cX7_begins 33 = .ok (.if_icmp .ne 7, 3) := by decide +kernel
theorem dX7_begins_36 : decode cX7_begins 36 = .ok (.iconst 1, 1) := by decide +kernel
theorem dX7_begins_37 : decode cX7_begins 37 = .ok (.goto 4, 3) := by decide +kernel
theorem dX7_begins_40 : decode cX7_begins 40 = .ok (.iconst 0, 1) := by decide +kernel
theorem dX7_begins_41 : decode cX7_begins 41 = .ok (.istore_n 3, 1) := by decide +kernel
theorem dX7_begins_42 : decode cX7_begins 42 = .ok (.iinc 4 1, 3) := by decide +kernel
theorem dX7_begins_45 : decode cX7_begins 45 = .ok (.goto (-40), 3) := by decide +kernel
theorem dX7_begins_48 : decode cX7_begins 48 = .ok (.iload_n 3, 1) := by decide +kernel
theorem dX7_begins_49 : decode cX7_begins 49 = .ok (.ireturn, 1) := by decide +kernel
theorem dX7_fits_0 : decode cX7_fits 0 = .ok (.aload_n 0, 1) := by decide +kernel
theorem dX7_fits_1 : decode cX7_fits 1 = .ok (.getfield 16, 3) := by decide +kernel
theorem dX7_fits_4 : decode cX7_fits 4 = .ok (.iload_n 1, 1) := by decide +kernel
theorem dX7_fits_5 : decode cX7_fits 5 = .ok (.baload, 1) := by decide +kernel
theorem dX7_fits_6 : decode cX7_fits 6 = .ok (.ifCond .eq 16, 3) := by decide +kernel
theorem dX7_fits_9 : decode cX7_fits 9 = .ok (.iload_n 2, 1) := by decide +kernel
theorem dX7_fits_10 : decode cX7_fits 10 = .ok (.aload_n 0, 1) := by decide +kernel
theorem dX7_fits_11 : decode cX7_fits 11 = .ok (.getfield 13, 3) := by decide +kernel
theorem dX7_fits_14 : decode cX7_fits 14 = .ok (.iload_n 1, 1) := by decide +kernel
theorem dX7_fits_15 : decode cX7_fits 15 = .ok (.iaload, 1) := by decide +kernel
theorem dX7_fits_16 : decode cX7_fits 16 = .ok (.if_icmp .lt 29, 3) := by decide +kernel
theorem dX7_fits_19 : decode cX7_fits 19 = .ok (.goto 13, 3) := by decide +kernel
theorem dX7_fits_22 : decode cX7_fits 22 = .ok (.iload_n 2, 1) := by decide +kernel
theorem dX7_fits_23 : decode cX7_fits 23 = .ok (.aload_n 0, 1) := by decide +kernel
theorem dX7_fits_24 : decode cX7_fits 24 = .ok (.getfield 13, 3) := by decide +kernel
theorem dX7_fits_27 : decode cX7_fits 27 = .ok (.iload_n 1, 1) := by decide +kernel
theorem dX7_fits_28 : decode cX7_fits 28 = .ok (.iaload, 1) := by decide +kernel
theorem dX7_fits_29 : decode cX7_fits 29 = .ok (.if_icmp .ne 16, 3) := by decide +kernel
theorem dX7_fits_32 : decode cX7_fits 32 = .ok (.aload_n 0, 1) := by decide +kernel
theorem dX7_fits_33 : decode cX7_fits 33 = .ok (.iload_n 1, 1) := by decide +kernel
theorem dX7_fits_34 : decode cX7_fits 34 = .ok (.iload_n 2, 1) := by decide +kernel
theorem dX7_fits_35 : decode cX7_fits 35 = .ok (.invokevirtual 153, 3) := by decide +kernel
theorem dX7_fits_38 : decode cX7_fits 38 = .ok (.ifCond .eq 7, 3) := by decide +kernel
theorem dX7_fits_41 : decode cX7_fits 41 = .ok (.iconst 1, 1) := by decide +kernel
theorem dX7_fits_42 : decode cX7_fits 42 = .ok (.goto 4, 3) := by decide +kernel
theorem dX7_fits_45 : decode cX7_fits 45 = .ok (.iconst 0, 1) := by decide +kernel
theorem dX7_fits_46 : decode cX7_fits 46 = .ok (.ireturn, 1) := by decide +kernel
theorem dX7_leads_0 : decode cX7_leads 0 = .ok (.aload_n 0, 1) := by decide +kernel
theorem dX7_leads_1 : decode cX7_leads 1 = .ok (.getfield 16, 3) := by decide +kernel
theorem dX7_leads_4 : decode cX7_leads 4 = .ok (.iload_n 1, 1) := by decide +kernel
theorem dX7_leads_5 : decode cX7_leads 5 = .ok (.baload, 1) := by decide +kernel
theorem dX7_leads_6 : decode cX7_leads 6 = .ok (.ifCond .eq 12, 3) := by decide +kernel
theorem dX7_leads_9 : decode cX7_leads 9 = .ok (.iload_n 2, 1) := by decide +kernel
theorem dX7_leads_10 : decode cX7_leads 10 = .ok (.bipush 10, 2) := by decide +kernel
theorem dX7_leads_12 : decode cX7_leads 12 = .ok (.if_icmp .ge 29, 3) := by decide +kernel
theorem dX7_leads_15 : decode cX7_leads 15 = .ok (.goto 13, 3) := by decide +kernel
theorem dX7_leads_18 : decode cX7_leads 18 = .ok (.iload_n 2, 1) := by decide +kernel
theorem dX7_leads_19 : decode cX7_leads 19 = .ok (.aload_n 0, 1) := by decide +kernel
theorem dX7_leads_20 : decode cX7_leads 20 = .ok (.getfield 13, 3) := by decide +kernel
theorem dX7_leads_23 : decode cX7_leads 23 = .ok (.iload_n 1, 1) := by decide +kernel
theorem dX7_leads_24 : decode cX7_leads 24 = .ok (.iaload, 1) := by decide +kernel
theorem dX7_leads_25 : decode cX7_leads 25 = .ok (.if_icmp .ge 16, 3) := by decide +kernel
theorem dX7_leads_28 : decode cX7_leads 28 = .ok (.aload_n 0, 1) := by decide +kernel
theorem dX7_leads_29 : decode cX7_leads 29 = .ok (.iload_n 1, 1) := by decide +kernel
theorem dX7_leads_30 : decode cX7_leads 30 = .ok (.iload_n 2, 1) := by decide +kernel
theorem dX7_leads_31 : decode cX7_leads 31 = .ok (.invokevirtual 153, 3) := by decide +kernel
theorem dX7_leads_34 : decode cX7_leads 34 = .ok (.ifCond .eq 7, 3) := by decide +kernel
theorem dX7_leads_37 : decode cX7_leads 37 = .ok (.iconst 1, 1) := by decide +kernel
theorem dX7_leads_38 : decode cX7_leads 38 = .ok (.goto 4, 3) := by decide +kernel
theorem dX7_leads_41 : decode cX7_leads 41 = .ok (.iconst 0, 1) := by decide +kernel
theorem dX7_leads_42 : decode cX7_leads 42 = .ok (.ireturn, 1) := by decide +kernel
theorem dX7_fitting_0 : decode cX7_fitting 0 = .ok (.iconst 0, 1) := by decide +kernel
theorem dX7_fitting_1 : decode cX7_fitting 1 = .ok (.istore_n 2, 1) := by decide +kernel
theorem dX7_fitting_2 : decode cX7_fitting 2 = .ok (.iconst 0, 1) := by decide +kernel
theorem dX7_fitting_3 : decode cX7_fitting 3 = .ok (.istore_n 3, 1) := by decide +kernel
theorem dX7_fitting_4 : decode cX7_fitting 4 = .ok (.iload_n 3, 1) := by decide +kernel
theorem dX7_fitting_5 : decode cX7_fitting 5 = .ok (.aload_n 0, 1) := by decide +kernel
theorem dX7_fitting_6 : decode cX7_fitting 6 = .ok (.getfield 109, 3) := by decide +kernel
theorem dX7_fitting_9 : decode cX7_fitting 9 = .ok (.if_icmp .ge 28, 3) := by decide +kernel
theorem dX7_fitting_12 : decode cX7_fitting 12 = .ok (.iload_n 2, 1) := by decide +kernel
theorem dX7_fitting_13 : decode cX7_fitting 13 = .ok (.aload_n 0, 1) := by decide +kernel
theorem dX7_fitting_14 : decode cX7_fitting 14 = .ok (.iload_n 3, 1) := by decide +kernel
theorem dX7_fitting_15 : decode cX7_fitting 15 = .ok (.iload_n 1, 1) := by decide +kernel
theorem dX7_fitting_16 : decode cX7_fitting 16 = .ok (.invokevirtual 156, 3) := by decide +kernel
theorem dX7_fitting_19 : decode cX7_fitting 19 = .ok (.ifCond .eq 9, 3) := by decide +kernel
theorem dX7_fitting_22 : decode cX7_fitting 22 = .ok (.iconst 1, 1) := by decide +kernel
theorem dX7_fitting_23 : decode cX7_fitting 23 = .ok (.iload_n 3, 1) := by decide +kernel
theorem dX7_fitting_24 : decode cX7_fitting 24 = .ok (.ishl, 1) := by decide +kernel
theorem dX7_fitting_25 : decode cX7_fitting 25 = .ok (.goto 4, 3) := by decide +kernel
theorem dX7_fitting_28 : decode cX7_fitting 28 = .ok (.iconst 0, 1) := by decide +kernel
theorem dX7_fitting_29 : decode cX7_fitting 29 = .ok (.ior, 1) := by decide +kernel
theorem dX7_fitting_30 : decode cX7_fitting 30 = .ok (.istore_n 2, 1) := by decide +kernel
theorem dX7_fitting_31 : decode cX7_fitting 31 = .ok (.iinc 3 1, 3) := by decide +kernel
theorem dX7_fitting_34 : decode cX7_fitting 34 = .ok (.goto (-30), 3) := by decide +kernel
theorem dX7_fitting_37 : decode cX7_fitting 37 = .ok (.iload_n 2, 1) := by decide +kernel
theorem dX7_fitting_38 : decode cX7_fitting 38 = .ok (.ireturn, 1) := by decide +kernel
theorem dX7_leading_0 : decode cX7_leading 0 = .ok (.iconst 0, 1) := by decide +kernel
theorem dX7_leading_1 : decode cX7_leading 1 = .ok (.istore_n 2, 1) := by decide +kernel
theorem dX7_leading_2 : decode cX7_leading 2 = .ok (.iconst 0, 1) := by decide +kernel
theorem dX7_leading_3 : decode cX7_leading 3 = .ok (.istore_n 3, 1) := by decide +kernel
theorem dX7_leading_4 : decode cX7_leading 4 = .ok (.iload_n 3, 1) := by decide +kernel
theorem dX7_leading_5 : decode cX7_leading 5 = .ok (.aload_n 0, 1) := by decide +kernel
theorem dX7_leading_6 : decode cX7_leading 6 = .ok (.getfield 109, 3) := by decide +kernel
theorem dX7_leading_9 : decode cX7_leading 9 = .ok (.if_icmp .ge 28, 3) := by decide +kernel
theorem dX7_leading_12 : decode cX7_leading 12 = .ok (.iload_n 2, 1) := by decide +kernel
theorem dX7_leading_13 : decode cX7_leading 13 = .ok (.aload_n 0, 1) := by decide +kernel
theorem dX7_leading_14 : decode cX7_leading 14 = .ok (.iload_n 3, 1) := by decide +kernel
theorem dX7_leading_15 : decode cX7_leading 15 = .ok (.iload_n 1, 1) := by decide +kernel
theorem dX7_leading_16 : decode cX7_leading 16 = .ok (.invokevirtual 159, 3) := by decide +kernel
theorem dX7_leading_19 : decode cX7_leading 19 = .ok (.ifCond .eq 9, 3) := by decide +kernel
theorem dX7_leading_22 : decode cX7_leading 22 = .ok (.iconst 1, 1) := by decide +kernel
theorem dX7_leading_23 : decode cX7_leading 23 = .ok (.iload_n 3, 1) := by decide +kernel
theorem dX7_leading_24 : decode cX7_leading 24 = .ok (.ishl, 1) := by decide +kernel
theorem dX7_leading_25 : decode cX7_leading 25 = .ok (.goto 4, 3) := by decide +kernel
theorem dX7_leading_28 : decode cX7_leading 28 = .ok (.iconst 0, 1) := by decide +kernel
theorem dX7_leading_29 : decode cX7_leading 29 = .ok (.ior, 1) := by decide +kernel
theorem dX7_leading_30 : decode cX7_leading 30 = .ok (.istore_n 2, 1) := by decide +kernel
theorem dX7_leading_31 : decode cX7_leading 31 = .ok (.iinc 3 1, 3) := by decide +kernel
theorem dX7_leading_34 : decode cX7_leading 34 = .ok (.goto (-30), 3) := by decide +kernel
theorem dX7_leading_37 : decode cX7_leading 37 = .ok (.iload_n 2, 1) := by decide +kernel
theorem dX7_leading_38 : decode cX7_leading 38 = .ok (.ireturn, 1) := by decide +kernel
theorem dX7_winner_0 : decode cX7_winner 0 = .ok (.iconst (-1), 1) := by decide +kernel
theorem dX7_winner_1 : decode cX7_winner 1 = .ok (.istore_n 2, 1) := by decide +kernel
theorem dX7_winner_2 : decode cX7_winner 2 = .ok (.iconst 0, 1) := by decide +kernel
theorem dX7_winner_3 : decode cX7_winner 3 = .ok (.istore_n 3, 1) := by decide +kernel
theorem dX7_winner_4 : decode cX7_winner 4 = .ok (.iload_n 3, 1) := by decide +kernel
theorem dX7_winner_5 : decode cX7_winner 5 = .ok (.aload_n 0, 1) := by decide +kernel
theorem dX7_winner_6 : decode cX7_winner 6 = .ok (.getfield 109, 3) := by decide +kernel
theorem dX7_winner_9 : decode cX7_winner 9 = .ok (.if_icmp .ge 50, 3) := by decide +kernel
theorem dX7_winner_12 : decode cX7_winner 12 = .ok (.iload_n 1, 1) := by decide +kernel
theorem dX7_winner_13 : decode cX7_winner 13 = .ok (.iload_n 3, 1) := by decide +kernel
theorem dX7_winner_14 : decode cX7_winner 14 = .ok (.ishr, 1) := by decide +kernel
theorem dX7_winner_15 : decode cX7_winner 15 = .ok (.iconst 1, 1) := by decide +kernel
theorem dX7_winner_16 : decode cX7_winner 16 = .ok (.iand, 1) := by decide +kernel
theorem dX7_winner_17 : decode cX7_winner 17 = .ok (.iconst 1, 1) := by decide +kernel
theorem dX7_winner_18 : decode cX7_winner 18 = .ok (.if_icmp .ne 7, 3) := by decide +kernel
theorem dX7_winner_21 : decode cX7_winner 21 = .ok (.iconst 1, 1) := by decide +kernel
theorem dX7_winner_22 : decode cX7_winner 22 = .ok (.goto 4, 3) := by decide +kernel
theorem dX7_winner_25 : decode cX7_winner 25 = .ok (.iconst 0, 1) := by decide +kernel
theorem dX7_winner_26 : decode cX7_winner 26 = .ok (.istore 4, 2) := by decide +kernel
theorem dX7_winner_28 : decode cX7_winner 28 = .ok (.iload 4, 2) := by decide +kernel
theorem dX7_winner_30 : decode cX7_winner 30 = .ok (.ifCond .eq 21, 3) := by decide +kernel
theorem dX7_winner_33 : decode cX7_winner 33 = .ok (.iload_n 2, 1) := by decide +kernel
theorem dX7_winner_34 : decode cX7_winner 34 = .ok (.iconst (-1), 1) := by decide +kernel
theorem dX7_winner_35 : decode cX7_winner 35 = .ok (.if_icmp .eq 12, 3) := by decide +kernel
theorem dX7_winner_38 : decode cX7_winner 38 = .ok (.aload_n 0, 1) := by decide +kernel
theorem dX7_winner_39 : decode cX7_winner 39 = .ok (.iload_n 3, 1) := by decide +kernel
theorem dX7_winner_40 : decode cX7_winner 40 = .ok (.iload_n 2, 1) := by decide +kernel
theorem dX7_winner_41 : decode cX7_winner 41 = .ok (.invokevirtual 140, 3) := by decide +kernel
theorem dX7_winner_44 : decode cX7_winner 44 = .ok (.ifCond .ge 7, 3) := by decide +kernel
theorem dX7_winner_47 : decode cX7_winner 47 = .ok (.iload_n 3, 1) := by decide +kernel
theorem dX7_winner_48 : decode cX7_winner 48 = .ok (.goto 4, 3) := by decide +kernel
theorem dX7_winner_51 : decode cX7_winner 51 = .ok (.iload_n 2, 1) := by decide +kernel
theorem dX7_winner_52 : decode cX7_winner 52 = .ok (.istore_n 2, 1) := by decide +kernel
theorem dX7_winner_53 : decode cX7_winner 53 = .ok (.iinc 3 1, 3) := by decide +kernel
theorem dX7_winner_56 : decode cX7_winner 56 = .ok (.goto (-52), 3) := by decide +kernel
theorem dX7_winner_59 : decode cX7_winner 59 = .ok (.iload_n 2, 1) := by decide +kernel
theorem dX7_winner_60 : decode cX7_winner 60 = .ok (.ireturn, 1) := by decide +kernel
theorem dX7_rewrite_0 : decode cX7_rewrite 0 = .ok (.aload_n 0, 1) := by decide +kernel
theorem dX7_rewrite_1 : decode cX7_rewrite 1 = .ok (.getfield 29, 3) := by decide +kernel
theorem dX7_rewrite_4 : decode cX7_rewrite 4 = .ok (.iload_n 1, 1) := by decide +kernel
theorem dX7_rewrite_5 : decode cX7_rewrite 5 = .ok (.iaload, 1) := by decide +kernel
theorem dX7_rewrite_6 : decode cX7_rewrite 6 = .ok (.istore_n 2, 1) := by decide +kernel
theorem dX7_rewrite_7 : decode cX7_rewrite 7 = .ok (.iload_n 2, 1) := by decide +kernel
theorem dX7_rewrite_8 : decode cX7_rewrite 8 = .ok (.aload_n 0, 1) := by decide +kernel
theorem dX7_rewrite_9 : decode cX7_rewrite 9 = .ok (.getfield 26, 3) := by decide +kernel
theorem dX7_rewrite_12 : decode cX7_rewrite 12 = .ok (.iload_n 1, 1) := by decide +kernel
theorem dX7_rewrite_13 : decode cX7_rewrite 13 = .ok (.iaload, 1) := by decide +kernel
theorem dX7_rewrite_14 : decode cX7_rewrite 14 = .ok (.isub, 1) := by decide +kernel
theorem dX7_rewrite_15 : decode cX7_rewrite 15 = .ok (.istore_n 3, 1) := by decide +kernel
theorem dX7_rewrite_16 : decode cX7_rewrite 16 = .ok (.aload_n 0, 1) := by decide +kernel
theorem dX7_rewrite_17 : decode cX7_rewrite 17 = .ok (.getfield 162, 3) := by decide +kernel
theorem dX7_rewrite_20 : decode cX7_rewrite 20 = .ok (.iload_n 3, 1) := by decide +kernel
theorem dX7_rewrite_21 : decode cX7_rewrite 21 = .ok (.iadd, 1) := by decide +kernel
theorem dX7_rewrite_22 : decode cX7_rewrite 22 = .ok (.istore 4, 2) := by decide +kernel
theorem dX7_rewrite_24 : decode cX7_rewrite 24 = .ok (.iconst 0, 1) := by decide +kernel
theorem dX7_rewrite_25 : decode cX7_rewrite 25 = .ok (.istore 5, 2) := by decide +kernel
theorem dX7_rewrite_27 : decode cX7_rewrite 27 = .ok (.iload 5, 2) := by decide +kernel
theorem dX7_rewrite_29 : decode cX7_rewrite 29 = .ok (.iload 4, 2) := by decide +kernel
theorem dX7_rewrite_31 : decode cX7_rewrite 31 = .ok (.iload_n 2, 1) := by decide +kernel
theorem dX7_rewrite_32 : decode cX7_rewrite 32 = .ok (.isub, 1) := by decide +kernel
theorem dX7_rewrite_33 : decode cX7_rewrite 33 = .ok (.if_icmp .ge 45, 3) := by decide +kernel
theorem dX7_rewrite_36 : decode cX7_rewrite 36 = .ok (.iload_n 3, 1) := by decide +kernel
theorem dX7_rewrite_37 : decode cX7_rewrite 37 = .ok (.ifCond .le 13, 3) := by decide +kernel
theorem dX7_rewrite_40 : decode cX7_rewrite 40 = .ok (.iload 4, 2) := by decide +kernel
theorem dX7_rewrite_42 : decode cX7_rewrite 42 = .ok (.iconst 1, 1) := by decide +kernel
theorem dX7_rewrite_43 : decode cX7_rewrite 43 = .ok (.isub, 1) := by decide +kernel
theorem dX7_rewrite_44 : decode cX7_rewrite 44 = .ok (.iload 5, 2) := by decide +kernel
theorem dX7_rewrite_46 : decode cX7_rewrite 46 = .ok (.isub, 1) := by decide +kernel
theorem dX7_rewrite_47 : decode cX7_rewrite 47 = .ok (.goto 7, 3) := by decide +kernel
theorem dX7_rewrite_50 : decode cX7_rewrite 50 = .ok (.iload_n 2, 1) := by decide +kernel
theorem dX7_rewrite_51 : decode cX7_rewrite 51 = .ok (.iload 5, 2) := by decide +kernel
theorem dX7_rewrite_53 : decode cX7_rewrite 53 = .ok (.iadd, 1) := by decide +kernel
theorem dX7_rewrite_54 : decode cX7_rewrite 54 = .ok (.istore 6, 2) := by decide +kernel
theorem dX7_rewrite_56 : decode cX7_rewrite 56 = .ok (.aload_n 0, 1) := by decide +kernel
theorem dX7_rewrite_57 : decode cX7_rewrite 57 = .ok (.getfield 44, 3) := by decide +kernel
theorem dX7_rewrite_60 : decode cX7_rewrite 60 = .ok (.iload 6, 2) := by decide +kernel
theorem dX7_rewrite_62 : decode cX7_rewrite 62 = .ok (.aload_n 0, 1) := by decide +kernel
theorem dX7_rewrite_63 : decode cX7_rewrite 63 = .ok (.getfield 44, 3) := by decide +kernel
theorem dX7_rewrite_66 : decode cX7_rewrite 66 = .ok (.iload 6, 2) := by decide +kernel
theorem dX7_rewrite_68 : decode cX7_rewrite 68 = .ok (.iload_n 3, 1) := by decide +kernel
theorem dX7_rewrite_69 : decode cX7_rewrite 69 = .ok (.isub, 1) := by decide +kernel
theorem dX7_rewrite_70 : decode cX7_rewrite 70 = .ok (.iaload, 1) := by decide +kernel
theorem dX7_rewrite_71 : decode cX7_rewrite 71 = .ok (.iastore, 1) := by decide +kernel
theorem dX7_rewrite_72 : decode cX7_rewrite 72 = .ok (.iinc 5 1, 3) := by decide +kernel
theorem dX7_rewrite_75 : decode cX7_rewrite 75 = .ok (.goto (-48), 3) := by decide +kernel
theorem dX7_rewrite_78 : decode cX7_rewrite 78 = .ok (.iconst 0, 1) := by decide +kernel
theorem dX7_rewrite_79 : decode cX7_rewrite 79 = .ok (.istore 5, 2) := by decide +kernel
theorem dX7_rewrite_81 : decode cX7_rewrite 81 = .ok (.iload 5, 2) := by decide +kernel
theorem dX7_rewrite_83 : decode cX7_rewrite 83 = .ok (.iload_n 2, 1) := by decide +kernel
theorem dX7_rewrite_84 : decode cX7_rewrite 84 = .ok (.if_icmp .ge 27, 3) := by decide +kernel
theorem dX7_rewrite_87 : decode cX7_rewrite 87 = .ok (.aload_n 0, 1) := by decide +kernel
theorem dX7_rewrite_88 : decode cX7_rewrite 88 = .ok (.getfield 44, 3) := by decide +kernel
theorem dX7_rewrite_91 : decode cX7_rewrite 91 = .ok (.iload 5, 2) := by decide +kernel
theorem dX7_rewrite_93 : decode cX7_rewrite 93 = .ok (.aload_n 0, 1) := by decide +kernel
theorem dX7_rewrite_94 : decode cX7_rewrite 94 = .ok (.getfield 32, 3) := by decide +kernel
theorem dX7_rewrite_97 : decode cX7_rewrite 97 = .ok (.iconst 4, 1) := by decide +kernel
theorem dX7_rewrite_98 : decode cX7_rewrite 98 = .ok (.iload_n 1, 1) := by decide +kernel
theorem dX7_rewrite_99 : decode cX7_rewrite 99 = .ok (.imul, 1) := by decide +kernel
theorem dX7_rewrite_100 : decode cX7_rewrite 100 = .ok (.iload 5, 2) := by decide +kernel
theorem dX7_rewrite_102 : decode cX7_rewrite 102 = .ok (.iadd, 1) := by decide +kernel
theorem dX7_rewrite_103 : decode cX7_rewrite 103 = .ok (.iaload, 1) := by decide +kernel
theorem dX7_rewrite_104 : decode cX7_rewrite 104 = .ok (.iastore, 1) := by decide +kernel
theorem dX7_rewrite_105 : decode cX7_rewrite 105 = .ok (.iinc 5 1, 3) := by decide +kernel
theorem dX7_rewrite_108 : decode cX7_rewrite 108 = .ok (.goto (-27), 3) := by decide +kernel
theorem dX7_rewrite_111 : decode cX7_rewrite 111 = .ok (.aload_n 0, 1) := by decide +kernel
theorem dX7_rewrite_112 : decode cX7_rewrite 112 = .ok (.iload 4, 2) := by decide +kernel
theorem dX7_rewrite_114 : decode cX7_rewrite 114 = .ok (.putfield 162, 3) := by decide +kernel
theorem dX7_rewrite_117 : decode cX7_rewrite 117 = .ok (.return_, 1) := by decide +kernel
theorem dX7_read_0 : decode cX7_read 0 = .ok (.aload_n 0, 1) := by decide +kernel
theorem dX7_read_1 : decode cX7_read 1 = .ok (.iconst 0, 1) := by decide +kernel
theorem dX7_read_2 : decode cX7_read 2 = .ok (.putfield 165, 3) := by decide +kernel
theorem dX7_read_5 : decode cX7_read 5 = .ok (.iconst 1, 1) := by decide +kernel
theorem dX7_read_6 : decode cX7_read 6 = .ok (.istore_n 1, 1) := by decide +kernel
theorem dX7_read_7 : decode cX7_read 7 = .ok (.iload_n 1, 1) := by decide +kernel
theorem dX7_read_8 : decode cX7_read 8 = .ok (.ifCond .eq 93, 3) := by decide +kernel
theorem dX7_read_11 : decode cX7_read 11 = .ok (.aload_n 0, 1) := by decide +kernel
theorem dX7_read_12 : decode cX7_read 12 = .ok (.getfield 165, 3) := by decide +kernel
theorem dX7_read_15 : decode cX7_read 15 = .ok (.bipush 6, 2) := by decide +kernel
theorem dX7_read_17 : decode cX7_read 17 = .ok (.if_icmp .ge 84, 3) := by decide +kernel
theorem dX7_read_20 : decode cX7_read 20 = .ok (.aload_n 0, 1) := by decide +kernel
theorem dX7_read_21 : decode cX7_read 21 = .ok (.dup, 1) := by decide +kernel
theorem dX7_read_22 : decode cX7_read 22 = .ok (.getfield 165, 3) := by decide +kernel
theorem dX7_read_25 : decode cX7_read 25 = .ok (.iconst 1, 1) := by decide +kernel
theorem dX7_read_26 : decode cX7_read 26 = .ok (.iadd, 1) := by decide +kernel
theorem dX7_read_27 : decode cX7_read 27 = .ok (.putfield 165, 3) := by decide +kernel
theorem dX7_read_30 : decode cX7_read 30 = .ok (.aload_n 0, 1) := by decide +kernel
theorem dX7_read_31 : decode cX7_read 31 = .ok (.aload_n 0, 1) := by decide +kernel
theorem dX7_read_32 : decode cX7_read 32 = .ok (.aload_n 0, 1) := by decide +kernel
theorem dX7_read_33 : decode cX7_read 33 = .ok (.getfield 162, 3) := by decide +kernel
theorem dX7_read_36 : decode cX7_read 36 = .ok (.invokevirtual 168, 3) := by decide +kernel
theorem dX7_read_39 : decode cX7_read 39 = .ok (.invokevirtual 171, 3) := by decide +kernel
theorem dX7_read_42 : decode cX7_read 42 = .ok (.istore_n 2, 1) := by decide +kernel
theorem dX7_read_43 : decode cX7_read 43 = .ok (.iload_n 2, 1) := by decide +kernel
theorem dX7_read_44 : decode cX7_read 44 = .ok (.iconst (-1), 1) := by decide +kernel
theorem dX7_read_45 : decode cX7_read 45 = .ok (.if_icmp .ne 5, 3) := by decide +kernel
theorem dX7_read_48 : decode cX7_read 48 = .ok (.iconst (-1), 1) := by decide +kernel
theorem dX7_read_49 : decode cX7_read 49 = .ok (.ireturn, 1) := by decide +kernel
theorem dX7_read_50 : decode cX7_read 50 = .ok (.aload_n 0, 1) := by decide +kernel
theorem dX7_read_51 : decode cX7_read 51 = .ok (.iload_n 2, 1) := by decide +kernel
theorem dX7_read_52 : decode cX7_read 52 = .ok (.invokevirtual 174, 3) := by decide +kernel
theorem dX7_read_55 : decode cX7_read 55 = .ok (.aload_n 0, 1) := by decide +kernel
theorem dX7_read_56 : decode cX7_read 56 = .ok (.getfield 162, 3) := by decide +kernel
theorem dX7_read_59 : decode cX7_read 59 = .ok (.iconst 1, 1) := by decide +kernel
theorem dX7_read_60 : decode cX7_read 60 = .ok (.bipush 10, 2) := by decide +kernel
theorem dX7_read_62 : decode cX7_read 62 = .ok (.invokestatic 50, 3) := by decide +kernel
theorem dX7_read_65 : decode cX7_read 65 = .ok (.ifCond .ne 5, 3) := by decide +kernel
theorem dX7_read_68 : decode cX7_read 68 = .ok (.iconst (-1), 1) := by decide +kernel
theorem dX7_read_69 : decode cX7_read 69 = .ok (.ireturn, 1) := by decide +kernel
theorem dX7_read_70 : decode cX7_read 70 = .ok (.aload_n 0, 1) := by decide +kernel
theorem dX7_read_71 : decode cX7_read 71 = .ok (.getfield 23, 3) := by decide +kernel
theorem dX7_read_74 : decode cX7_read 74 = .ok (.iload_n 2, 1) := by decide +kernel
theorem dX7_read_75 : decode cX7_read 75 = .ok (.iaload, 1) := by decide +kernel
theorem dX7_read_76 : decode cX7_read 76 = .ok (.bipush 10, 2) := by decide +kernel
theorem dX7_read_78 : decode cX7_read 78 = .ok (.if_icmp .ne 7, 3) := by decide +kernel
theorem dX7_read_81 : decode cX7_read 81 = .ok (.iconst 1, 1) := by decide +kernel
theorem dX7_read_82 : decode cX7_read 82 = .ok (.goto 4, 3) := by decide +kernel
theorem dX7_read_85 : decode cX7_read 85 = .ok (.iconst 0, 1) := by decide +kernel
theorem dX7_read_86 : decode cX7_read 86 = .ok (.istore_n 1, 1) := by decide +kernel
theorem dX7_read_87 : decode cX7_read 87 = .ok (.iload_n 1, 1) := by decide +kernel
theorem dX7_read_88 : decode cX7_read 88 = .ok (.ifCond .ne 10, 3) := by decide +kernel
theorem dX7_read_91 : decode cX7_read 91 = .ok (.aload_n 0, 1) := by decide +kernel
theorem dX7_read_92 : decode cX7_read 92 = .ok (.getfield 23, 3) := by decide +kernel
theorem dX7_read_95 : decode cX7_read 95 = .ok (.iload_n 2, 1) := by decide +kernel
theorem dX7_read_96 : decode cX7_read 96 = .ok (.iaload, 1) := by decide +kernel
theorem dX7_read_97 : decode cX7_read 97 = .ok (.ireturn, 1) := by decide +kernel
theorem dX7_read_98 : decode cX7_read 98 = .ok (.goto (-91), 3) := by decide +kernel
theorem dX7_read_101 : decode cX7_read 101 = .ok (.iconst (-1), 1) := by decide +kernel
theorem dX7_read_102 : decode cX7_read 102 = .ok (.ireturn, 1) := by decide +kernel
theorem dX7_isRow_0 : decode cX7_isRow 0 = .ok (.aload_n 0, 1) := by decide +kernel
theorem dX7_isRow_1 : decode cX7_isRow 1 = .ok (.getfield 54, 3) := by decide +kernel
theorem dX7_isRow_4 : decode cX7_isRow 4 = .ok (.iconst 1, 1) := by decide +kernel
theorem dX7_isRow_5 : decode cX7_isRow 5 = .ok (.bipush 10, 2) := by decide +kernel
theorem dX7_isRow_7 : decode cX7_isRow 7 = .ok (.invokestatic 50, 3) := by decide +kernel
theorem dX7_isRow_10 : decode cX7_isRow 10 = .ok (.istore_n 1, 1) := by decide +kernel
theorem dX7_isRow_11 : decode cX7_isRow 11 = .ok (.iconst 0, 1) := by decide +kernel
theorem dX7_isRow_12 : decode cX7_isRow 12 = .ok (.istore_n 2, 1) := by decide +kernel
theorem dX7_isRow_13 : decode cX7_isRow 13 = .ok (.iload_n 2, 1) := by decide +kernel
theorem dX7_isRow_14 : decode cX7_isRow 14 = .ok (.aload_n 0, 1) := by decide +kernel
theorem dX7_isRow_15 : decode cX7_isRow 15 = .ok (.getfield 54, 3) := by decide +kernel
theorem dX7_isRow_18 : decode cX7_isRow 18 = .ok (.if_icmp .ge 35, 3) := by decide +kernel
theorem dX7_isRow_21 : decode cX7_isRow 21 = .ok (.iload_n 1, 1) := by decide +kernel
theorem dX7_isRow_22 : decode cX7_isRow 22 = .ok (.ifCond .eq 23, 3) := by decide +kernel
theorem dX7_isRow_25 : decode cX7_isRow 25 = .ok (.aload_n 0, 1) := by decide +kernel
theorem dX7_isRow_26 : decode cX7_isRow 26 = .ok (.getfield 7, 3) := by decide +kernel
theorem dX7_isRow_29 : decode cX7_isRow 29 = .ok (.iload_n 2, 1) := by decide +kernel
theorem dX7_isRow_30 : decode cX7_isRow 30 = .ok (.iaload, 1) := by decide +kernel
theorem dX7_isRow_31 : decode cX7_isRow 31 = .ok (.bipush 48, 2) := by decide +kernel
theorem dX7_isRow_33 : decode cX7_isRow 33 = .ok (.bipush 57, 2) := by decide +kernel
theorem dX7_isRow_35 : decode cX7_isRow 35 = .ok (.invokestatic 50, 3) := by decide +kernel
theorem dX7_isRow_38 : decode cX7_isRow 38 = .ok (.ifCond .eq 7, 3) := by decide +kernel
theorem dX7_isRow_41 : decode cX7_isRow 41 = .ok (.iconst 1, 1) := by decide +kernel
theorem dX7_isRow_42 : decode cX7_isRow 42 = .ok (.goto 4, 3) := by decide +kernel
theorem dX7_isRow_45 : decode cX7_isRow 45 = .ok (.iconst 0, 1) := by decide +kernel
theorem dX7_isRow_46 : decode cX7_isRow 46 = .ok (.istore_n 1, 1) := by decide +kernel
theorem dX7_isRow_47 : decode cX7_isRow 47 = .ok (.iinc 2 1, 3) := by decide +kernel
theorem dX7_isRow_50 : decode cX7_isRow 50 = .ok (.goto (-37), 3) := by decide +kernel
theorem dX7_isRow_53 : decode cX7_isRow 53 = .ok (.iload_n 1, 1) := by decide +kernel
theorem dX7_isRow_54 : decode cX7_isRow 54 = .ok (.ireturn, 1) := by decide +kernel
theorem dX7_rowNow_0 : decode cX7_rowNow 0 = .ok (.aload_n 0, 1) := by decide +kernel
theorem dX7_rowNow_1 : decode cX7_rowNow 1 = .ok (.aload_n 0, 1) := by decide +kernel
theorem dX7_rowNow_2 : decode cX7_rowNow 2 = .ok (.getfield 54, 3) := by decide +kernel
theorem dX7_rowNow_5 : decode cX7_rowNow 5 = .ok (.putfield 162, 3) := by decide +kernel
theorem dX7_rowNow_8 : decode cX7_rowNow 8 = .ok (.iconst 0, 1) := by decide +kernel
theorem dX7_rowNow_9 : decode cX7_rowNow 9 = .ok (.istore_n 2, 1) := by decide +kernel
theorem dX7_rowNow_10 : decode cX7_rowNow 10 = .ok (.iload_n 2, 1) := by decide +kernel
theorem dX7_rowNow_11 : decode cX7_rowNow 11 = .ok (.aload_n 0, 1) := by decide +kernel
theorem dX7_rowNow_12 : decode cX7_rowNow 12 = .ok (.getfield 162, 3) := by decide +kernel
theorem dX7_rowNow_15 : decode cX7_rowNow 15 = .ok (.if_icmp .ge 24, 3) := by decide +kernel
theorem dX7_rowNow_18 : decode cX7_rowNow 18 = .ok (.aload_n 0, 1) := by decide +kernel
theorem dX7_rowNow_19 : decode cX7_rowNow 19 = .ok (.getfield 44, 3) := by decide +kernel
theorem dX7_rowNow_22 : decode cX7_rowNow 22 = .ok (.iload_n 2, 1) := by decide +kernel
theorem dX7_rowNow_23 : decode cX7_rowNow 23 = .ok (.aload_n 0, 1) := by decide +kernel
theorem dX7_rowNow_24 : decode cX7_rowNow 24 = .ok (.getfield 7, 3) := by decide +kernel
theorem dX7_rowNow_27 : decode cX7_rowNow 27 = .ok (.iload_n 2, 1) := by decide +kernel
theorem dX7_rowNow_28 : decode cX7_rowNow 28 = .ok (.iaload, 1) := by decide +kernel
theorem dX7_rowNow_29 : decode cX7_rowNow 29 = .ok (.bipush 48, 2) := by decide +kernel
theorem dX7_rowNow_31 : decode cX7_rowNow 31 = .ok (.isub, 1) := by decide +kernel
theorem dX7_rowNow_32 : decode cX7_rowNow 32 = .ok (.iastore, 1) := by decide +kernel
theorem dX7_rowNow_33 : decode cX7_rowNow 33 = .ok (.iinc 2 1, 3) := by decide +kernel
theorem dX7_rowNow_36 : decode cX7_rowNow 36 = .ok (.goto (-26), 3) := by decide +kernel
theorem dX7_rowNow_39 : decode cX7_rowNow 39 = .ok (.iload_n 1, 1) := by decide +kernel
theorem dX7_rowNow_40 : decode cX7_rowNow 40 = .ok (.iconst 3, 1) := by decide +kernel
theorem dX7_rowNow_41 : decode cX7_rowNow 41 = .ok (.if_icmp .ge 47, 3) := by decide +kernel
theorem dX7_rowNow_44 : decode cX7_rowNow 44 = .ok (.iload_n 1, 1) := by decide +kernel
theorem dX7_rowNow_45 : decode cX7_rowNow 45 = .ok (.ifCond .ne 18, 3) := by decide +kernel
theorem dX7_rowNow_48 : decode cX7_rowNow 48 = .ok (.aload_n 0, 1) := by decide +kernel
theorem dX7_rowNow_49 : decode cX7_rowNow 49 = .ok (.aload_n 0, 1) := by decide +kernel
theorem dX7_rowNow_50 : decode cX7_rowNow 50 = .ok (.aload_n 0, 1) := by decide +kernel
theorem dX7_rowNow_51 : decode cX7_rowNow 51 = .ok (.getfield 162, 3) := by decide +kernel
theorem dX7_rowNow_54 : decode cX7_rowNow 54 = .ok (.invokevirtual 168, 3) := by decide +kernel
theorem dX7_rowNow_57 : decode cX7_rowNow 57 = .ok (.invokevirtual 171, 3) := by decide +kernel
theorem dX7_rowNow_60 : decode cX7_rowNow 60 = .ok (.goto 27, 3) := by decide +kernel
theorem dX7_rowNow_63 : decode cX7_rowNow 63 = .ok (.iload_n 1, 1) := by decide +kernel
theorem dX7_rowNow_64 : decode cX7_rowNow 64 = .ok (.iconst 1, 1) := by decide +kernel
theorem dX7_rowNow_65 : decode cX7_rowNow 65 = .ok (.if_icmp .ne 14, 3) := by decide +kernel
theorem dX7_rowNow_68 : decode cX7_rowNow 68 = .ok (.aload_n 0, 1) := by decide +kernel
theorem dX7_rowNow_69 : decode cX7_rowNow 69 = .ok (.aload_n 0, 1) := by decide +kernel
theorem dX7_rowNow_70 : decode cX7_rowNow 70 = .ok (.getfield 162, 3) := by decide +kernel
theorem dX7_rowNow_73 : decode cX7_rowNow 73 = .ok (.invokevirtual 168, 3) := by decide +kernel
theorem dX7_rowNow_76 : decode cX7_rowNow 76 = .ok (.goto 11, 3) := by decide +kernel
theorem dX7_rowNow_79 : decode cX7_rowNow 79 = .ok (.aload_n 0, 1) := by decide +kernel
theorem dX7_rowNow_80 : decode cX7_rowNow 80 = .ok (.aload_n 0, 1) := by decide +kernel
theorem dX7_rowNow_81 : decode cX7_rowNow 81 = .ok (.getfield 162, 3) := by decide +kernel
theorem dX7_rowNow_84 : decode cX7_rowNow 84 = .ok (.invokevirtual 177, 3) := by decide +kernel
theorem dX7_rowNow_87 : decode cX7_rowNow 87 = .ok (.ireturn, 1) := by decide +kernel
theorem dX7_rowNow_88 : decode cX7_rowNow 88 = .ok (.aload_n 0, 1) := by decide +kernel
theorem dX7_rowNow_89 : decode cX7_rowNow 89 = .ok (.invokevirtual 180, 3) := by decide +kernel
theorem dX7_rowNow_92 : decode cX7_rowNow 92 = .ok (.istore_n 2, 1) := by decide +kernel
theorem dX7_rowNow_93 : decode cX7_rowNow 93 = .ok (.iload_n 1, 1) := by decide +kernel
theorem dX7_rowNow_94 : decode cX7_rowNow 94 = .ok (.iconst 5, 1) := by decide +kernel
theorem dX7_rowNow_95 : decode cX7_rowNow 95 = .ok (.if_icmp .ge 17, 3) := by decide +kernel
theorem dX7_rowNow_98 : decode cX7_rowNow 98 = .ok (.iload_n 1, 1) := by decide +kernel
theorem dX7_rowNow_99 : decode cX7_rowNow 99 = .ok (.iconst 3, 1) := by decide +kernel
theorem dX7_rowNow_100 : decode cX7_rowNow 100 = .ok (.if_icmp .ne 7, 3) := by decide +kernel
theorem dX7_rowNow_103 : decode cX7_rowNow 103 = .ok (.iload_n 2, 1) := by decide +kernel
theorem dX7_rowNow_104 : decode cX7_rowNow 104 = .ok (.goto 7, 3) := by decide +kernel
theorem dX7_rowNow_107 : decode cX7_rowNow 107 = .ok (.aload_n 0, 1) := by decide +kernel
theorem dX7_rowNow_108 : decode cX7_rowNow 108 = .ok (.getfield 165, 3) := by decide +kernel
theorem dX7_rowNow_111 : decode cX7_rowNow 111 = .ok (.ireturn, 1) := by decide +kernel
theorem dX7_rowNow_112 : decode cX7_rowNow 112 = .ok (.iload_n 2, 1) := by decide +kernel
theorem dX7_rowNow_113 : decode cX7_rowNow 113 = .ok (.iconst (-1), 1) := by decide +kernel
theorem dX7_rowNow_114 : decode cX7_rowNow 114 = .ok (.if_icmp .ne 7, 3) := by decide +kernel
theorem dX7_rowNow_117 : decode cX7_rowNow 117 = .ok (.iconst 0, 1) := by decide +kernel
theorem dX7_rowNow_118 : decode cX7_rowNow 118 = .ok (.goto 7, 3) := by decide +kernel
theorem dX7_rowNow_121 : decode cX7_rowNow 121 = .ok (.aload_n 0, 1) := by decide +kernel
theorem dX7_rowNow_122 : decode cX7_rowNow 122 = .ok (.getfield 162, 3) := by decide +kernel
theorem dX7_rowNow_125 : decode cX7_rowNow 125 = .ok (.istore_n 3, 1) := by decide +kernel
theorem dX7_rowNow_126 : decode cX7_rowNow 126 = .ok (.iload_n 1, 1) := by decide +kernel
theorem dX7_rowNow_127 : decode cX7_rowNow 127 = .ok (.iconst 5, 1) := by decide +kernel
theorem dX7_rowNow_128 : decode cX7_rowNow 128 = .ok (.if_icmp .ne 7, 3) := by decide +kernel
theorem dX7_rowNow_131 : decode cX7_rowNow 131 = .ok (.iload_n 3, 1) := by decide +kernel
theorem dX7_rowNow_132 : decode cX7_rowNow 132 = .ok (.goto 24, 3) := by decide +kernel
theorem dX7_rowNow_135 : decode cX7_rowNow 135 = .ok (.iload_n 1, 1) := by decide +kernel
theorem dX7_rowNow_136 : decode cX7_rowNow 136 = .ok (.bipush 10, 2) := by decide +kernel
theorem dX7_rowNow_138 : decode cX7_rowNow 138 = .ok (.isub, 1) := by decide +kernel
theorem dX7_rowNow_139 : decode cX7_rowNow 139 = .ok (.iload_n 3, 1) := by decide +kernel
theorem dX7_rowNow_140 : decode cX7_rowNow 140 = .ok (.if_icmp .ge 15, 3) := by decide +kernel
theorem dX7_rowNow_143 : decode cX7_rowNow 143 = .ok (.aload_n 0, 1) := by decide +kernel
theorem dX7_rowNow_144 : decode cX7_rowNow 144 = .ok (.getfield 44, 3) := by decide +kernel
theorem dX7_rowNow_147 : decode cX7_rowNow 147 = .ok (.iload_n 1, 1) := by decide +kernel
theorem dX7_rowNow_148 : decode cX7_rowNow 148 = .ok (.bipush 10, 2) := by decide +kernel
theorem dX7_rowNow_150 : decode cX7_rowNow 150 = .ok (.isub, 1) := by decide +kernel
theorem dX7_rowNow_151 : decode cX7_rowNow 151 = .ok (.iaload, 1) := by decide +kernel
theorem dX7_rowNow_152 : decode cX7_rowNow 152 = .ok (.goto 4, 3) := by decide +kernel
theorem dX7_rowNow_155 : decode cX7_rowNow 155 = .ok (.iconst (-1), 1) := by decide +kernel
theorem dX7_rowNow_156 : decode cX7_rowNow 156 = .ok (.ireturn, 1) := by decide +kernel
theorem dX7_row_0 : decode cX7_row 0 = .ok (.iload_n 1, 1) := by decide +kernel
theorem dX7_row_1 : decode cX7_row 1 = .ok (.iconst 0, 1) := by decide +kernel
theorem dX7_row_2 : decode cX7_row 2 = .ok (.iconst 5, 1) := by decide +kernel
theorem dX7_row_3 : decode cX7_row 3 = .ok (.invokestatic 50, 3) := by decide +kernel
theorem dX7_row_6 : decode cX7_row 6 = .ok (.ifCond .ne 18, 3) := by decide +kernel
theorem dX7_row_9 : decode cX7_row 9 = .ok (.iload_n 1, 1) := by decide +kernel
theorem dX7_row_10 : decode cX7_row 10 = .ok (.bipush 10, 2) := by decide +kernel
theorem dX7_row_12 : decode cX7_row 12 = .ok (.bipush 19, 2) := by decide +kernel
theorem dX7_row_14 : decode cX7_row 14 = .ok (.invokestatic 50, 3) := by decide +kernel
theorem dX7_row_17 : decode cX7_row 17 = .ok (.ifCond .ne 7, 3) := by decide +kernel
theorem dX7_row_20 : decode cX7_row 20 = .ok (.sipush (-1002), 3) := by decide +kernel
