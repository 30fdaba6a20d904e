theorem d_Asker_init_0 : decode (ib f_Asker_init) 0 = .ok (.aload_n 0, 1) := by decide +kernel
theorem d_Asker_init_1 : decode (ib f_Asker_init) 1 = .ok (.invokespecial 3, 3) := by decide +kernel
theorem d_Asker_init_4 : decode (ib f_Asker_init) 4 = .ok (.aload_n 0, 1) := by decide +kernel
theorem d_Asker_init_5 : decode (ib f_Asker_init) 5 = .ok (.bipush 60, 2) := by decide +kernel
theorem d_Asker_init_7 : decode (ib f_Asker_init) 7 = .ok (.newarray .int, 2) := by decide +kernel
theorem d_Asker_init_9 : decode (ib f_Asker_init) 9 = .ok (.putfield 9, 3) := by decide +kernel
theorem d_Asker_init_12 : decode (ib f_Asker_init) 12 = .ok (.aload_n 0, 1) := by decide +kernel
theorem d_Asker_init_13 : decode (ib f_Asker_init) 13 = .ok (.bipush 60, 2) := by decide +kernel
theorem d_Asker_init_15 : decode (ib f_Asker_init) 15 = .ok (.newarray .int, 2) := by decide +kernel
theorem d_Asker_init_17 : decode (ib f_Asker_init) 17 = .ok (.putfield 15, 3) := by decide +kernel
theorem d_Asker_init_20 : decode (ib f_Asker_init) 20 = .ok (.aload_n 0, 1) := by decide +kernel
theorem d_Asker_init_21 : decode (ib f_Asker_init) 21 = .ok (.bipush 60, 2) := by decide +kernel
theorem d_Asker_init_23 : decode (ib f_Asker_init) 23 = .ok (.newarray .int, 2) := by decide +kernel
theorem d_Asker_init_25 : decode (ib f_Asker_init) 25 = .ok (.putfield 18, 3) := by decide +kernel
theorem d_Asker_init_28 : decode (ib f_Asker_init) 28 = .ok (.aload_n 0, 1) := by decide +kernel
theorem d_Asker_init_29 : decode (ib f_Asker_init) 29 = .ok (.bipush 9, 2) := by decide +kernel
theorem d_Asker_init_31 : decode (ib f_Asker_init) 31 = .ok (.newarray .int, 2) := by decide +kernel
theorem d_Asker_init_33 : decode (ib f_Asker_init) 33 = .ok (.putfield 21, 3) := by decide +kernel
theorem d_Asker_init_36 : decode (ib f_Asker_init) 36 = .ok (.aload_n 0, 1) := by decide +kernel
theorem d_Asker_init_37 : decode (ib f_Asker_init) 37 = .ok (.sipush 181, 3) := by decide +kernel
theorem d_Asker_init_40 : decode (ib f_Asker_init) 40 = .ok (.newarray .int, 2) := by decide +kernel
theorem d_Asker_init_42 : decode (ib f_Asker_init) 42 = .ok (.putfield 24, 3) := by decide +kernel
theorem d_Asker_init_45 : decode (ib f_Asker_init) 45 = .ok (.aload_n 0, 1) := by decide +kernel
theorem d_Asker_init_46 : decode (ib f_Asker_init) 46 = .ok (.bipush 31, 2) := by decide +kernel
theorem d_Asker_init_48 : decode (ib f_Asker_init) 48 = .ok (.newarray .int, 2) := by decide +kernel
theorem d_Asker_init_50 : decode (ib f_Asker_init) 50 = .ok (.putfield 27, 3) := by decide +kernel
theorem d_Asker_init_53 : decode (ib f_Asker_init) 53 = .ok (.aload_n 0, 1) := by decide +kernel
theorem d_Asker_init_54 : decode (ib f_Asker_init) 54 = .ok (.iconst 0, 1) := by decide +kernel
theorem d_Asker_init_55 : decode (ib f_Asker_init) 55 = .ok (.putfield 30, 3) := by decide +kernel
theorem d_Asker_init_58 : decode (ib f_Asker_init) 58 = .ok (.return_, 1) := by decide +kernel
theorem d_Asker_heap_0 : decode (ib f_Asker_heap) 0 = .ok (.iconst 0, 1) := by decide +kernel
theorem d_Asker_heap_1 : decode (ib f_Asker_heap) 1 = .ok (.istore_n 3, 1) := by decide +kernel
theorem d_Asker_heap_2 : decode (ib f_Asker_heap) 2 = .ok (.iconst 0, 1) := by decide +kernel
theorem d_Asker_heap_3 : decode (ib f_Asker_heap) 3 = .ok (.istore 4, 2) := by decide +kernel
theorem d_Asker_heap_5 : decode (ib f_Asker_heap) 5 = .ok (.iconst (-1), 1) := by decide +kernel
theorem d_Asker_heap_6 : decode (ib f_Asker_heap) 6 = .ok (.istore 5, 2) := by decide +kernel
theorem d_Asker_heap_8 : decode (ib f_Asker_heap) 8 = .ok (.aload_n 0, 1) := by decide +kernel
theorem d_Asker_heap_9 : decode (ib f_Asker_heap) 9 = .ok (.getfield 9, 3) := by decide +kernel
theorem d_Asker_heap_12 : decode (ib f_Asker_heap) 12 = .ok (.iconst 0, 1) := by decide +kernel
theorem d_Asker_heap_13 : decode (ib f_Asker_heap) 13 = .ok (.invokestatic 34, 3) := by decide +kernel
theorem d_Asker_heap_16 : decode (ib f_Asker_heap) 16 = .ok (.iconst 0, 1) := by decide +kernel
theorem d_Asker_heap_17 : decode (ib f_Asker_heap) 17 = .ok (.istore 6, 2) := by decide +kernel
theorem d_Asker_heap_19 : decode (ib f_Asker_heap) 19 = .ok (.iload 6, 2) := by decide +kernel
theorem d_Asker_heap_21 : decode (ib f_Asker_heap) 21 = .ok (.bipush 60, 2) := by decide +kernel
theorem d_Asker_heap_23 : decode (ib f_Asker_heap) 23 = .ok (.if_icmp .ge 138, 3) := by decide +kernel
theorem d_Asker_heap_26 : decode (ib f_Asker_heap) 26 = .ok (.aload_n 0, 1) := by decide +kernel
theorem d_Asker_heap_27 : decode (ib f_Asker_heap) 27 = .ok (.iconst 0, 1) := by decide +kernel
theorem d_Asker_heap_28 : decode (ib f_Asker_heap) 28 = .ok (.putfield 30, 3) := by decide +kernel
theorem d_Asker_heap_31 : decode (ib f_Asker_heap) 31 = .ok (.aload_n 0, 1) := by decide +kernel
theorem d_Asker_heap_32 : decode (ib f_Asker_heap) 32 = .ok (.aload_n 1, 1) := by decide +kernel
theorem d_Asker_heap_33 : decode (ib f_Asker_heap) 33 = .ok (.iload 6, 2) := by decide +kernel
theorem d_Asker_heap_35 : decode (ib f_Asker_heap) 35 = .ok (.invokevirtual 40, 3) := by decide +kernel
theorem d_Asker_heap_38 : decode (ib f_Asker_heap) 38 = .ok (.iconst 0, 1) := by decide +kernel
theorem d_Asker_heap_39 : decode (ib f_Asker_heap) 39 = .ok (.istore 7, 2) := by decide +kernel
theorem d_Asker_heap_41 : decode (ib f_Asker_heap) 41 = .ok (.iload 7, 2) := by decide +kernel
theorem d_Asker_heap_43 : decode (ib f_Asker_heap) 43 = .ok (.aload_n 0, 1) := by decide +kernel
theorem d_Asker_heap_44 : decode (ib f_Asker_heap) 44 = .ok (.getfield 30, 3) := by decide +kernel
theorem d_Asker_heap_47 : decode (ib f_Asker_heap) 47 = .ok (.if_icmp .ge 74, 3) := by decide +kernel
theorem d_Asker_heap_50 : decode (ib f_Asker_heap) 50 = .ok (.iload 7, 2) := by decide +kernel
theorem d_Asker_heap_52 : decode (ib f_Asker_heap) 52 = .ok (.bipush 60, 2) := by decide +kernel
theorem d_Asker_heap_54 : decode (ib f_Asker_heap) 54 = .ok (.if_icmp .ge 67, 3) := by decide +kernel
theorem d_Asker_heap_57 : decode (ib f_Asker_heap) 57 = .ok (.aload_n 0, 1) := by decide +kernel
theorem d_Asker_heap_58 : decode (ib f_Asker_heap) 58 = .ok (.aload_n 1, 1) := by decide +kernel
theorem d_Asker_heap_59 : decode (ib f_Asker_heap) 59 = .ok (.aload_n 0, 1) := by decide +kernel
theorem d_Asker_heap_60 : decode (ib f_Asker_heap) 60 = .ok (.getfield 15, 3) := by decide +kernel
theorem d_Asker_heap_63 : decode (ib f_Asker_heap) 63 = .ok (.iload 7, 2) := by decide +kernel
theorem d_Asker_heap_65 : decode (ib f_Asker_heap) 65 = .ok (.iaload, 1) := by decide +kernel
theorem d_Asker_heap_66 : decode (ib f_Asker_heap) 66 = .ok (.iconst 1, 1) := by decide +kernel
theorem d_Asker_heap_67 : decode (ib f_Asker_heap) 67 = .ok (.isub, 1) := by decide +kernel
theorem d_Asker_heap_68 : decode (ib f_Asker_heap) 68 = .ok (.invokevirtual 40, 3) := by decide +kernel
theorem d_Asker_heap_71 : decode (ib f_Asker_heap) 71 = .ok (.aload_n 0, 1) := by decide +kernel
theorem d_Asker_heap_72 : decode (ib f_Asker_heap) 72 = .ok (.aload_n 1, 1) := by decide +kernel
theorem d_Asker_heap_73 : decode (ib f_Asker_heap) 73 = .ok (.aload_n 0, 1) := by decide +kernel
theorem d_Asker_heap_74 : decode (ib f_Asker_heap) 74 = .ok (.getfield 15, 3) := by decide +kernel
theorem d_Asker_heap_77 : decode (ib f_Asker_heap) 77 = .ok (.iload 7, 2) := by decide +kernel
theorem d_Asker_heap_79 : decode (ib f_Asker_heap) 79 = .ok (.iaload, 1) := by decide +kernel
theorem d_Asker_heap_80 : decode (ib f_Asker_heap) 80 = .ok (.iconst 1, 1) := by decide +kernel
theorem d_Asker_heap_81 : decode (ib f_Asker_heap) 81 = .ok (.iadd, 1) := by decide +kernel
theorem d_Asker_heap_82 : decode (ib f_Asker_heap) 82 = .ok (.invokevirtual 40, 3) := by decide +kernel
theorem d_Asker_heap_85 : decode (ib f_Asker_heap) 85 = .ok (.aload_n 0, 1) := by decide +kernel
theorem d_Asker_heap_86 : decode (ib f_Asker_heap) 86 = .ok (.aload_n 1, 1) := by decide +kernel
theorem d_Asker_heap_87 : decode (ib f_Asker_heap) 87 = .ok (.aload_n 0, 1) := by decide +kernel
theorem d_Asker_heap_88 : decode (ib f_Asker_heap) 88 = .ok (.getfield 15, 3) := by decide +kernel
theorem d_Asker_heap_91 : decode (ib f_Asker_heap) 91 = .ok (.iload 7, 2) := by decide +kernel
theorem d_Asker_heap_93 : decode (ib f_Asker_heap) 93 = .ok (.iaload, 1) := by decide +kernel
theorem d_Asker_heap_94 : decode (ib f_Asker_heap) 94 = .ok (.bipush 10, 2) := by decide +kernel
theorem d_Asker_heap_96 : decode (ib f_Asker_heap) 96 = .ok (.isub, 1) := by decide +kernel
theorem d_Asker_heap_97 : decode (ib f_Asker_heap) 97 = .ok (.invokevirtual 40, 3) := by decide +kernel
theorem d_Asker_heap_100 : decode (ib f_Asker_heap) 100 = .ok (.aload_n 0, 1) := by decide +kernel
theorem d_Asker_heap_101 : decode (ib f_Asker_heap) 101 = .ok (.aload_n 1, 1) := by decide +kernel
theorem d_Asker_heap_102 : decode (ib f_Asker_heap) 102 = .ok (.aload_n 0, 1) := by decide +kernel
theorem d_Asker_heap_103 : decode (ib f_Asker_heap) 103 = .ok (.getfield 15, 3) := by decide +kernel
theorem d_Asker_heap_106 : decode (ib f_Asker_heap) 106 = .ok (.iload 7, 2) := by decide +kernel
theorem d_Asker_heap_108 : decode (ib f_Asker_heap) 108 = .ok (.iaload, 1) := by decide +kernel
theorem d_Asker_heap_109 : decode (ib f_Asker_heap) 109 = .ok (.bipush 10, 2) := by decide +kernel
theorem d_Asker_heap_111 : decode (ib f_Asker_heap) 111 = .ok (.iadd, 1) := by decide +kernel
theorem d_Asker_heap_112 : decode (ib f_Asker_heap) 112 = .ok (.invokevirtual 40, 3) := by decide +kernel
theorem d_Asker_heap_115 : decode (ib f_Asker_heap) 115 = .ok (.iinc 7 1, 3) := by decide +kernel
theorem d_Asker_heap_118 : decode (ib f_Asker_heap) 118 = .ok (.goto (-77), 3) := by decide +kernel
theorem d_Asker_heap_121 : decode (ib f_Asker_heap) 121 = .ok (.iload_n 3, 1) := by decide +kernel
theorem d_Asker_heap_122 : decode (ib f_Asker_heap) 122 = .ok (.aload_n 0, 1) := by decide +kernel
theorem d_Asker_heap_123 : decode (ib f_Asker_heap) 123 = .ok (.getfield 30, 3) := by decide +kernel
theorem d_Asker_heap_126 : decode (ib f_Asker_heap) 126 = .ok (.ifCond .le 7, 3) := by decide +kernel
theorem d_Asker_heap_129 : decode (ib f_Asker_heap) 129 = .ok (.iconst 1, 1) := by decide +kernel
theorem d_Asker_heap_130 : decode (ib f_Asker_heap) 130 = .ok (.goto 4, 3) := by decide +kernel
theorem d_Asker_heap_133 : decode (ib f_Asker_heap) 133 = .ok (.iconst 0, 1) := by decide +kernel
theorem d_Asker_heap_134 : decode (ib f_Asker_heap) 134 = .ok (.iadd, 1) := by decide +kernel
theorem d_Asker_heap_135 : decode (ib f_Asker_heap) 135 = .ok (.istore_n 3, 1) := by decide +kernel
theorem d_Asker_heap_136 : decode (ib f_Asker_heap) 136 = .ok (.aload_n 0, 1) := by decide +kernel
theorem d_Asker_heap_137 : decode (ib f_Asker_heap) 137 = .ok (.getfield 30, 3) := by decide +kernel
theorem d_Asker_heap_140 : decode (ib f_Asker_heap) 140 = .ok (.iload 4, 2) := by decide +kernel
theorem d_Asker_heap_142 : decode (ib f_Asker_heap) 142 = .ok (.if_icmp .le 13, 3) := by decide +kernel
theorem d_Asker_heap_145 : decode (ib f_Asker_heap) 145 = .ok (.aload_n 0, 1) := by decide +kernel
theorem d_Asker_heap_146 : decode (ib f_Asker_heap) 146 = .ok (.getfield 30, 3) := by decide +kernel
theorem d_Asker_heap_149 : decode (ib f_Asker_heap) 149 = .ok (.istore 4, 2) := by decide +kernel
theorem d_Asker_heap_151 : decode (ib f_Asker_heap) 151 = .ok (.iload 6, 2) := by decide +kernel
theorem d_Asker_heap_153 : decode (ib f_Asker_heap) 153 = .ok (.istore 5, 2) := by decide +kernel
theorem d_Asker_heap_155 : decode (ib f_Asker_heap) 155 = .ok (.iinc 6 1, 3) := by decide +kernel
theorem d_Asker_heap_158 : decode (ib f_Asker_heap) 158 = .ok (.goto (-139), 3) := by decide +kernel
theorem d_Asker_heap_161 : decode (ib f_Asker_heap) 161 = .ok (.iload_n 2, 1) := by decide +kernel
theorem d_Asker_heap_162 : decode (ib f_Asker_heap) 162 = .ok (.ifCond .ne 7, 3) := by decide +kernel
theorem d_Asker_heap_165 : decode (ib f_Asker_heap) 165 = .ok (.iload_n 3, 1) := by decide +kernel
theorem d_Asker_heap_166 : decode (ib f_Asker_heap) 166 = .ok (.goto 15, 3) := by decide +kernel
theorem d_Asker_heap_169 : decode (ib f_Asker_heap) 169 = .ok (.iload_n 2, 1) := by decide +kernel
theorem d_Asker_heap_170 : decode (ib f_Asker_heap) 170 = .ok (.iconst 1, 1) := by decide +kernel
theorem d_Asker_heap_171 : decode (ib f_Asker_heap) 171 = .ok (.if_icmp .ne 8, 3) := by decide +kernel
theorem d_Asker_heap_174 : decode (ib f_Asker_heap) 174 = .ok (.iload 4, 2) := by decide +kernel
theorem d_Asker_heap_176 : decode (ib f_Asker_heap) 176 = .ok (.goto 5, 3) := by decide +kernel
theorem d_Asker_heap_179 : decode (ib f_Asker_heap) 179 = .ok (.iload 5, 2) := by decide +kernel
theorem d_Asker_heap_181 : decode (ib f_Asker_heap) 181 = .ok (.ireturn, 1) := by decide +kernel
theorem d_Asker_reach_0 : decode (ib f_Asker_reach) 0 = .ok (.aload_n 1, 1) := by decide +kernel
theorem d_Asker_reach_1 : decode (ib f_Asker_reach) 1 = .ok (.iload_n 2, 1) := by decide +kernel
theorem d_Asker_reach_2 : decode (ib f_Asker_reach) 2 = .ok (.invokevirtual 44, 3) := by decide +kernel
theorem d_Asker_reach_5 : decode (ib f_Asker_reach) 5 = .ok (.ifCond .eq 48, 3) := by decide +kernel
theorem d_Asker_reach_8 : decode (ib f_Asker_reach) 8 = .ok (.aload_n 0, 1) := by decide +kernel
theorem d_Asker_reach_9 : decode (ib f_Asker_reach) 9 = .ok (.getfield 9, 3) := by decide +kernel
theorem d_Asker_reach_12 : decode (ib f_Asker_reach) 12 = .ok (.iload_n 2, 1) := by decide +kernel
theorem d_Asker_reach_13 : decode (ib f_Asker_reach) 13 = .ok (.iaload, 1) := by decide +kernel
theorem d_Asker_reach_14 : decode (ib f_Asker_reach) 14 = .ok (.ifCond .ne 39, 3) := by decide +kernel
theorem d_Asker_reach_17 : decode (ib f_Asker_reach) 17 = .ok (.aload_n 0, 1) := by decide +kernel
theorem d_Asker_reach_18 : decode (ib f_Asker_reach) 18 = .ok (.getfield 30, 3) := by decide +kernel
theorem d_Asker_reach_21 : decode (ib f_Asker_reach) 21 = .ok (.bipush 60, 2) := by decide +kernel
theorem d_Asker_reach_23 : decode (ib f_Asker_reach) 23 = .ok (.if_icmp .ge 30, 3) := by decide +kernel
theorem d_Asker_reach_26 : decode (ib f_Asker_reach) 26 = .ok (.aload_n 0, 1) := by decide +kernel
theorem d_Asker_reach_27 : decode (ib f_Asker_reach) 27 = .ok (.getfield 9, 3) := by decide +kernel
theorem d_Asker_reach_30 : decode (ib f_Asker_reach) 30 = .ok (.iload_n 2, 1) := by decide +kernel
theorem d_Asker_reach_31 : decode (ib f_Asker_reach) 31 = .ok (.iconst 1, 1) := by decide +kernel
theorem d_Asker_reach_32 : decode (ib f_Asker_reach) 32 = .ok (.iastore, 1) := by decide +kernel
theorem d_Asker_reach_33 : decode (ib f_Asker_reach) 33 = .ok (.aload_n 0, 1) := by decide +kernel
theorem d_Asker_reach_34 : decode (ib f_Asker_reach) 34 = .ok (.getfield 15, 3) := by decide +kernel
theorem d_Asker_reach_37 : decode (ib f_Asker_reach) 37 = .ok (.aload_n 0, 1) := by decide +kernel
theorem d_Asker_reach_38 : decode (ib f_Asker_reach) 38 = .ok (.getfield 30, 3) := by decide +kernel
theorem d_Asker_reach_41 : decode (ib f_Asker_reach) 41 = .ok (.iload_n 2, 1) := by decide +kernel
theorem d_Asker_reach_42 : decode (ib f_Asker_reach) 42 = .ok (.iastore, 1) := by decide +kernel
theorem d_Asker_reach_43 : decode (ib f_Asker_reach) 43 = .ok (.aload_n 0, 1) := by decide +kernel
theorem d_Asker_reach_44 : decode (ib f_Asker_reach) 44 = .ok (.dup, 1) := by decide +kernel
theorem d_Asker_reach_45 : decode (ib f_Asker_reach) 45 = .ok (.getfield 30, 3) := by decide +kernel
theorem d_Asker_reach_48 : decode (ib f_Asker_reach) 48 = .ok (.iconst 1, 1) := by decide +kernel
theorem d_Asker_reach_49 : decode (ib f_Asker_reach) 49 = .ok (.iadd, 1) := by decide +kernel
theorem d_Asker_reach_50 : decode (ib f_Asker_reach) 50 = .ok (.putfield 30, 3) := by decide +kernel
theorem d_Asker_reach_53 : decode (ib f_Asker_reach) 53 = .ok (.return_, 1) := by decide +kernel
theorem d_Asker_ways_0 : decode (ib f_Asker_ways) 0 = .ok (.aload_n 0, 1) := by decide +kernel
theorem d_Asker_ways_1 : decode (ib f_Asker_ways) 1 = .ok (.getfield 21, 3) := by decide +kernel
theorem d_Asker_ways_4 : decode (ib f_Asker_ways) 4 = .ok (.iconst 0, 1) := by decide +kernel
theorem d_Asker_ways_5 : decode (ib f_Asker_ways) 5 = .ok (.invokestatic 34, 3) := by decide +kernel
theorem d_Asker_ways_8 : decode (ib f_Asker_ways) 8 = .ok (.aload_n 0, 1) := by decide +kernel
theorem d_Asker_ways_9 : decode (ib f_Asker_ways) 9 = .ok (.getfield 21, 3) := by decide +kernel
theorem d_Asker_ways_12 : decode (ib f_Asker_ways) 12 = .ok (.iconst 0, 1) := by decide +kernel
theorem d_Asker_ways_13 : decode (ib f_Asker_ways) 13 = .ok (.iconst 1, 1) := by decide +kernel
theorem d_Asker_ways_14 : decode (ib f_Asker_ways) 14 = .ok (.iastore, 1) := by decide +kernel
theorem d_Asker_ways_15 : decode (ib f_Asker_ways) 15 = .ok (.iconst 0, 1) := by decide +kernel
theorem d_Asker_ways_16 : decode (ib f_Asker_ways) 16 = .ok (.istore 4, 2) := by decide +kernel
theorem d_Asker_ways_18 : decode (ib f_Asker_ways) 18 = .ok (.iload 4, 2) := by decide +kernel
theorem d_Asker_ways_20 : decode (ib f_Asker_ways) 20 = .ok (.bipush 60, 2) := by decide +kernel
theorem d_Asker_ways_22 : decode (ib f_Asker_ways) 22 = .ok (.if_icmp .ge 85, 3) := by decide +kernel
theorem d_Asker_ways_25 : decode (ib f_Asker_ways) 25 = .ok (.aload_n 1, 1) := by decide +kernel
theorem d_Asker_ways_26 : decode (ib f_Asker_ways) 26 = .ok (.iload 4, 2) := by decide +kernel
theorem d_Asker_ways_28 : decode (ib f_Asker_ways) 28 = .ok (.invokevirtual 50, 3) := by decide +kernel
theorem d_Asker_ways_31 : decode (ib f_Asker_ways) 31 = .ok (.astore 5, 2) := by decide +kernel
theorem d_Asker_ways_33 : decode (ib f_Asker_ways) 33 = .ok (.aload_n 2, 1) := by decide +kernel
theorem d_Asker_ways_34 : decode (ib f_Asker_ways) 34 = .ok (.getfield 54, 3) := by decide +kernel
theorem d_Asker_ways_37 : decode (ib f_Asker_ways) 37 = .ok (.iconst 1, 1) := by decide +kernel
theorem d_Asker_ways_38 : decode (ib f_Asker_ways) 38 = .ok (.isub, 1) := by decide +kernel
theorem d_Asker_ways_39 : decode (ib f_Asker_ways) 39 = .ok (.istore 6, 2) := by decide +kernel
theorem d_Asker_ways_41 : decode (ib f_Asker_ways) 41 = .ok (.iload 6, 2) := by decide +kernel
theorem d_Asker_ways_43 : decode (ib f_Asker_ways) 43 = .ok (.ifCond .lt 58, 3) := by decide +kernel
theorem d_Asker_ways_46 : decode (ib f_Asker_ways) 46 = .ok (.aload 5, 2) := by decide +kernel
theorem d_Asker_ways_48 : decode (ib f_Asker_ways) 48 = .ok (.ifnull 53, 3) := by decide +kernel
theorem d_Asker_ways_51 : decode (ib f_Asker_ways) 51 = .ok (.aload_n 2, 1) := by decide +kernel
theorem d_Asker_ways_52 : decode (ib f_Asker_ways) 52 = .ok (.iload 6, 2) := by decide +kernel
theorem d_Asker_ways_54 : decode (ib f_Asker_ways) 54 = .ok (.iconst 0, 1) := by decide +kernel
theorem d_Asker_ways_55 : decode (ib f_Asker_ways) 55 = .ok (.invokevirtual 59, 3) := by decide +kernel
theorem d_Asker_ways_58 : decode (ib f_Asker_ways) 58 = .ok (.aload 5, 2) := by decide +kernel
theorem d_Asker_ways_60 : decode (ib f_Asker_ways) 60 = .ok (.getfield 63, 3) := by decide +kernel
theorem d_Asker_ways_63 : decode (ib f_Asker_ways) 63 = .ok (.if_icmp .ne 32, 3) := by decide +kernel
theorem d_Asker_ways_66 : decode (ib f_Asker_ways) 66 = .ok (.aload_n 0, 1) := by decide +kernel
theorem d_Asker_ways_67 : decode (ib f_Asker_ways) 67 = .ok (.getfield 21, 3) := by decide +kernel
theorem d_Asker_ways_70 : decode (ib f_Asker_ways) 70 = .ok (.iload 6, 2) := by decide +kernel
theorem d_Asker_ways_72 : decode (ib f_Asker_ways) 72 = .ok (.iconst 1, 1) := by decide +kernel
theorem d_Asker_ways_73 : decode (ib f_Asker_ways) 73 = .ok (.iadd, 1) := by decide +kernel
theorem d_Asker_ways_74 : decode (ib f_Asker_ways) 74 = .ok (.aload_n 0, 1) := by decide +kernel
theorem d_Asker_ways_75 : decode (ib f_Asker_ways) 75 = .ok (.getfield 21, 3) := by decide +kernel
theorem d_Asker_ways_78 : decode (ib f_Asker_ways) 78 = .ok (.iload 6, 2) := by decide +kernel
theorem d_Asker_ways_80 : decode (ib f_Asker_ways) 80 = .ok (.iconst 1, 1) := by decide +kernel
theorem d_Asker_ways_81 : decode (ib f_Asker_ways) 81 = .ok (.iadd, 1) := by decide +kernel
theorem d_Asker_ways_82 : decode (ib f_Asker_ways) 82 = .ok (.iaload, 1) := by decide +kernel
theorem d_Asker_ways_83 : decode (ib f_Asker_ways) 83 = .ok (.aload_n 0, 1) := by decide +kernel
theorem d_Asker_ways_84 : decode (ib f_Asker_ways) 84 = .ok (.getfield 21, 3) := by decide +kernel
theorem d_Asker_ways_87 : decode (ib f_Asker_ways) 87 = .ok (.iload 6, 2) := by decide +kernel
theorem d_Asker_ways_89 : decode (ib f_Asker_ways) 89 = .ok (.iaload, 1) := by decide +kernel
theorem d_Asker_ways_90 : decode (ib f_Asker_ways) 90 = .ok (.iadd, 1) := by decide +kernel
theorem d_Asker_ways_91 : decode (ib f_Asker_ways) 91 = .ok (.ldc 68, 2) := by decide +kernel
theorem d_Asker_ways_93 : decode (ib f_Asker_ways) 93 = .ok (.irem, 1) := by decide +kernel
theorem d_Asker_ways_94 : decode (ib f_Asker_ways) 94 = .ok (.iastore, 1) := by decide +kernel
theorem d_Asker_ways_95 : decode (ib f_Asker_ways) 95 = .ok (.iinc 6 (-1), 3) := by decide +kernel
theorem d_Asker_ways_98 : decode (ib f_Asker_ways) 98 = .ok (.goto (-57), 3) := by decide +kernel
theorem d_Asker_ways_101 : decode (ib f_Asker_ways) 101 = .ok (.iinc 4 1, 3) := by decide +kernel
theorem d_Asker_ways_104 : decode (ib f_Asker_ways) 104 = .ok (.goto (-86), 3) := by decide +kernel
theorem d_Asker_ways_107 : decode (ib f_Asker_ways) 107 = .ok (.iload_n 3, 1) := by decide +kernel
theorem d_Asker_ways_108 : decode (ib f_Asker_ways) 108 = .ok (.ifCond .eq 15, 3) := by decide +kernel
theorem d_Asker_ways_111 : decode (ib f_Asker_ways) 111 = .ok (.aload_n 0, 1) := by decide +kernel
theorem d_Asker_ways_112 : decode (ib f_Asker_ways) 112 = .ok (.getfield 21, 3) := by decide +kernel
theorem d_Asker_ways_115 : decode (ib f_Asker_ways) 115 = .ok (.aload_n 2, 1) := by decide +kernel
theorem d_Asker_ways_116 : decode (ib f_Asker_ways) 116 = .ok (.getfield 54, 3) := by decide +kernel
theorem d_Asker_ways_119 : decode (ib f_Asker_ways) 119 = .ok (.iaload, 1) := by decide +kernel
theorem d_Asker_ways_120 : decode (ib f_Asker_ways) 120 = .ok (.goto 16, 3) := by decide +kernel
theorem d_Asker_ways_123 : decode (ib f_Asker_ways) 123 = .ok (.aload_n 0, 1) := by decide +kernel
theorem d_Asker_ways_124 : decode (ib f_Asker_ways) 124 = .ok (.getfield 21, 3) := by decide +kernel
theorem d_Asker_ways_127 : decode (ib f_Asker_ways) 127 = .ok (.aload_n 2, 1) := by decide +kernel
theorem d_Asker_ways_128 : decode (ib f_Asker_ways) 128 = .ok (.getfield 54, 3) := by decide +kernel
theorem d_Asker_ways_131 : decode (ib f_Asker_ways) 131 = .ok (.iaload, 1) := by decide +kernel
theorem d_Asker_ways_132 : decode (ib f_Asker_ways) 132 = .ok (.iconst 1, 1) := by decide +kernel
theorem d_Asker_ways_133 : decode (ib f_Asker_ways) 133 = .ok (.invokestatic 69, 3) := by decide +kernel
theorem d_Asker_ways_136 : decode (ib f_Asker_ways) 136 = .ok (.ireturn, 1) := by decide +kernel
theorem d_Asker_longest_0 : decode (ib f_Asker_longest) 0 = .ok (.iconst 0, 1) := by decide +kernel
theorem d_Asker_longest_1 : decode (ib f_Asker_longest) 1 = .ok (.istore_n 2, 1) := by decide +kernel
theorem d_Asker_longest_2 : decode (ib f_Asker_longest) 2 = .ok (.iconst 0, 1) := by decide +kernel
theorem d_Asker_longest_3 : decode (ib f_Asker_longest) 3 = .ok (.istore_n 3, 1) := by decide +kernel
theorem d_Asker_longest_4 : decode (ib f_Asker_longest) 4 = .ok (.iload_n 3, 1) := by decide +kernel
theorem d_Asker_longest_5 : decode (ib f_Asker_longest) 5 = .ok (.bipush 60, 2) := by decide +kernel
theorem d_Asker_longest_7 : decode (ib f_Asker_longest) 7 = .ok (.if_icmp .ge 55, 3) := by decide +kernel
theorem d_Asker_longest_10 : decode (ib f_Asker_longest) 10 = .ok (.aload_n 1, 1) := by decide +kernel
theorem d_Asker_longest_11 : decode (ib f_Asker_longest) 11 = .ok (.iload_n 3, 1) := by decide +kernel
theorem d_Asker_longest_12 : decode (ib f_Asker_longest) 12 = .ok (.invokevirtual 50, 3) := by decide +kernel
theorem d_Asker_longest_15 : decode (ib f_Asker_longest) 15 = .ok (.astore 4, 2) := by decide +kernel
theorem d_Asker_longest_17 : decode (ib f_Asker_longest) 17 = .ok (.aload_n 0, 1) := by decide +kernel
theorem d_Asker_longest_18 : decode (ib f_Asker_longest) 18 = .ok (.getfield 18, 3) := by decide +kernel
theorem d_Asker_longest_21 : decode (ib f_Asker_longest) 21 = .ok (.iload_n 3, 1) := by decide +kernel
theorem d_Asker_longest_22 : decode (ib f_Asker_longest) 22 = .ok (.aload 4, 2) := by decide +kernel
theorem d_Asker_longest_24 : decode (ib f_Asker_longest) 24 = .ok (.ifnonnull 7, 3) := by decide +kernel
theorem d_Asker_longest_27 : decode (ib f_Asker_longest) 27 = .ok (.iconst 0, 1) := by decide +kernel
theorem d_Asker_longest_28 : decode (ib f_Asker_longest) 28 = .ok (.goto 16, 3) := by decide +kernel
theorem d_Asker_longest_31 : decode (ib f_Asker_longest) 31 = .ok (.iconst 1, 1) := by decide +kernel
theorem d_Asker_longest_32 : decode (ib f_Asker_longest) 32 = .ok (.aload_n 0, 1) := by decide +kernel
theorem d_Asker_longest_33 : decode (ib f_Asker_longest) 33 = .ok (.aload_n 1, 1) := by decide +kernel
theorem d_Asker_longest_34 : decode (ib f_Asker_longest) 34 = .ok (.iload_n 3, 1) := by decide +kernel
theorem d_Asker_longest_35 : decode (ib f_Asker_longest) 35 = .ok (.aload 4, 2) := by decide +kernel
theorem d_Asker_longest_37 : decode (ib f_Asker_longest) 37 = .ok (.getfield 74, 3) := by decide +kernel
theorem d_Asker_longest_40 : decode (ib f_Asker_longest) 40 = .ok (.invokevirtual 77, 3) := by decide +kernel
theorem d_Asker_longest_43 : decode (ib f_Asker_longest) 43 = .ok (.iadd, 1) := by decide +kernel
theorem d_Asker_longest_44 : decode (ib f_Asker_longest) 44 = .ok (.iastore, 1) := by decide +kernel
theorem d_Asker_longest_45 : decode (ib f_Asker_longest) 45 = .ok (.iload_n 2, 1) := by decide +kernel
theorem d_Asker_longest_46 : decode (ib f_Asker_longest) 46 = .ok (.aload_n 0, 1) := by decide +kernel
theorem d_Asker_longest_47 : decode (ib f_Asker_longest) 47 = .ok (.getfield 18, 3) := by decide +kernel
theorem d_Asker_longest_50 : decode (ib f_Asker_longest) 50 = .ok (.iload_n 3, 1) := by decide +kernel
theorem d_Asker_longest_51 : decode (ib f_Asker_longest) 51 = .ok (.iaload, 1) := by decide +kernel
theorem d_Asker_longest_52 : decode (ib f_Asker_longest) 52 = .ok (.invokestatic 81, 3) := by decide +kernel
theorem d_Asker_longest_55 : decode (ib f_Asker_longest) 55 = .ok (.istore_n 2, 1) := by decide +kernel
theorem d_Asker_longest_56 : decode (ib f_Asker_longest) 56 = .ok (.iinc 3 1, 3) := by decide +kernel
theorem d_Asker_longest_59 : decode (ib f_Asker_longest) 59 = .ok (.goto (-55), 3) := by decide +kernel
theorem d_Asker_longest_62 : decode (ib f_Asker_longest) 62 = .ok (.iload_n 2, 1) := by decide +kernel
theorem d_Asker_longest_63 : decode (ib f_Asker_longest) 63 = .ok (.ireturn, 1) := by decide +kernel
theorem d_Asker_longestBelow_0 : decode (ib f_Asker_longestBelow) 0 = .ok (.iconst 0, 1) := by decide +kernel
theorem d_Asker_longestBelow_1 : decode (ib f_Asker_longestBelow) 1 = .ok (.istore 4, 2) := by decide +kernel
theorem d_Asker_longestBelow_3 : decode (ib f_Asker_longestBelow) 3 = .ok (.iconst 0, 1) := by decide +kernel
theorem d_Asker_longestBelow_4 : decode (ib f_Asker_longestBelow) 4 = .ok (.istore 5, 2) := by decide +kernel
theorem d_Asker_longestBelow_6 : decode (ib f_Asker_longestBelow) 6 = .ok (.iload 5, 2) := by decide +kernel
theorem d_Asker_longestBelow_8 : decode (ib f_Asker_longestBelow) 8 = .ok (.iload_n 2, 1) := by decide +kernel
theorem d_Asker_longestBelow_9 : decode (ib f_Asker_longestBelow) 9 = .ok (.if_icmp .ge 56, 3) := by decide +kernel
theorem d_Asker_longestBelow_12 : decode (ib f_Asker_longestBelow) 12 = .ok (.aload_n 0, 1) := by decide +kernel
theorem d_Asker_longestBelow_13 : decode (ib f_Asker_longestBelow) 13 = .ok (.getfield 18, 3) := by decide +kernel
theorem d_Asker_longestBelow_16 : decode (ib f_Asker_longestBelow) 16 = .ok (.iload 5, 2) := by decide +kernel
theorem d_Asker_longestBelow_18 : decode (ib f_Asker_longestBelow) 18 = .ok (.iaload, 1) := by decide +kernel
theorem d_Asker_longestBelow_19 : decode (ib f_Asker_longestBelow) 19 = .ok (.iload 4, 2) := by decide +kernel
theorem d_Asker_longestBelow_21 : decode (ib f_Asker_longestBelow) 21 = .ok (.if_icmp .le 12, 3) := by decide +kernel
theorem d_Asker_longestBelow_24 : decode (ib f_Asker_longestBelow) 24 = .ok (.aload_n 1, 1) := by decide +kernel
theorem d_Asker_longestBelow_25 : decode (ib f_Asker_longestBelow) 25 = .ok (.iload 5, 2) := by decide +kernel
theorem d_Asker_longestBelow_27 : decode (ib f_Asker_longestBelow) 27 = .ok (.invokevirtual 50, 3) := by decide +kernel
theorem d_Asker_longestBelow_30 : decode (ib f_Asker_longestBelow) 30 = .ok (.goto 4, 3) := by decide +kernel
theorem d_Asker_longestBelow_33 : decode (ib f_Asker_longestBelow) 33 = .ok (.aconst_null, 1) := by decide +kernel
theorem d_Asker_longestBelow_34 : decode (ib f_Asker_longestBelow) 34 = .ok (.astore 6, 2) := by decide +kernel
theorem d_Asker_longestBelow_36 : decode (ib f_Asker_longestBelow) 36 = .ok (.aload 6, 2) := by decide +kernel
theorem d_Asker_longestBelow_38 : decode (ib f_Asker_longestBelow) 38 = .ok (.ifnull 21, 3) := by decide +kernel
theorem d_Asker_longestBelow_41 : decode (ib f_Asker_longestBelow) 41 = .ok (.aload 6, 2) := by decide +kernel
theorem d_Asker_longestBelow_43 : decode (ib f_Asker_longestBelow) 43 = .ok (.getfield 74, 3) := by decide +kernel
theorem d_Asker_longestBelow_46 : decode (ib f_Asker_longestBelow) 46 = .ok (.iload_n 3, 1) := by decide +kernel
theorem d_Asker_longestBelow_47 : decode (ib f_Asker_longestBelow) 47 = .ok (.if_icmp .ge 12, 3) := by decide +kernel
theorem d_Asker_longestBelow_50 : decode (ib f_Asker_longestBelow) 50 = .ok (.aload_n 0, 1) := by decide +kernel
theorem d_Asker_longestBelow_51 : decode (ib f_Asker_longestBelow) 51 = .ok (.getfield 18, 3) := by decide +kernel
theorem d_Asker_longestBelow_54 : decode (ib f_Asker_longestBelow) 54 = .ok (.iload 5, 2) := by decide +kernel
theorem d_Asker_longestBelow_56 : decode (ib f_Asker_longestBelow) 56 = .ok (.iaload, 1) := by decide +kernel
theorem d_Asker_longestBelow_57 : decode (ib f_Asker_longestBelow) 57 = .ok (.istore 4, 2) := by decide +kernel
theorem d_Asker_longestBelow_59 : decode (ib f_Asker_longestBelow) 59 = .ok (.iinc 5 1, 3) := by decide +kernel
theorem d_Asker_longestBelow_62 : decode (ib f_Asker_longestBelow) 62 = .ok (.goto (-56), 3) := by decide +kernel
theorem d_Asker_longestBelow_65 : decode (ib f_Asker_longestBelow) 65 = .ok (.iload 4, 2) := by decide +kernel
theorem d_Asker_longestBelow_67 : decode (ib f_Asker_longestBelow) 67 = .ok (.ireturn, 1) := by decide +kernel
theorem d_Asker_lean_0 : decode (ib f_Asker_lean) 0 = .ok (.iconst 0, 1) := by decide +kernel
theorem d_Asker_lean_1 : decode (ib f_Asker_lean) 1 = .ok (.istore_n 3, 1) := by decide +kernel
theorem d_Asker_lean_2 : decode (ib f_Asker_lean) 2 = .ok (.iload_n 2, 1) := by decide +kernel
theorem d_Asker_lean_3 : decode (ib f_Asker_lean) 3 = .ok (.iconst 1, 1) := by decide +kernel
theorem d_Asker_lean_4 : decode (ib f_Asker_lean) 4 = .ok (.isub, 1) := by decide +kernel
theorem d_Asker_lean_5 : decode (ib f_Asker_lean) 5 = .ok (.istore 4, 2) := by decide +kernel
theorem d_Asker_lean_7 : decode (ib f_Asker_lean) 7 = .ok (.iload 4, 2) := by decide +kernel
theorem d_Asker_lean_9 : decode (ib f_Asker_lean) 9 = .ok (.ifCond .lt 27, 3) := by decide +kernel
theorem d_Asker_lean_12 : decode (ib f_Asker_lean) 12 = .ok (.aload_n 1, 1) := by decide +kernel
theorem d_Asker_lean_13 : decode (ib f_Asker_lean) 13 = .ok (.iload 4, 2) := by decide +kernel
theorem d_Asker_lean_15 : decode (ib f_Asker_lean) 15 = .ok (.invokevirtual 44, 3) := by decide +kernel
theorem d_Asker_lean_18 : decode (ib f_Asker_lean) 18 = .ok (.ifCond .eq 18, 3) := by decide +kernel
theorem d_Asker_lean_21 : decode (ib f_Asker_lean) 21 = .ok (.iload_n 3, 1) := by decide +kernel
theorem d_Asker_lean_22 : decode (ib f_Asker_lean) 22 = .ok (.aload_n 1, 1) := by decide +kernel
theorem d_Asker_lean_23 : decode (ib f_Asker_lean) 23 = .ok (.iload 4, 2) := by decide +kernel
theorem d_Asker_lean_25 : decode (ib f_Asker_lean) 25 = .ok (.invokestatic 84, 3) := by decide +kernel
theorem d_Asker_lean_28 : decode (ib f_Asker_lean) 28 = .ok (.iadd, 1) := by decide +kernel
theorem d_Asker_lean_29 : decode (ib f_Asker_lean) 29 = .ok (.istore_n 3, 1) := by decide +kernel
theorem d_Asker_lean_30 : decode (ib f_Asker_lean) 30 = .ok (.iinc 4 (-1), 3) := by decide +kernel
theorem d_Asker_lean_33 : decode (ib f_Asker_lean) 33 = .ok (.goto (-26), 3) := by decide +kernel
theorem d_Asker_lean_36 : decode (ib f_Asker_lean) 36 = .ok (.iload_n 2, 1) := by decide +kernel
theorem d_Asker_lean_37 : decode (ib f_Asker_lean) 37 = .ok (.iconst 1, 1) := by decide +kernel
theorem d_Asker_lean_38 : decode (ib f_Asker_lean) 38 = .ok (.iadd, 1) := by decide +kernel
theorem d_Asker_lean_39 : decode (ib f_Asker_lean) 39 = .ok (.istore 4, 2) := by decide +kernel
theorem d_Asker_lean_41 : decode (ib f_Asker_lean) 41 = .ok (.iload 4, 2) := by decide +kernel
theorem d_Asker_lean_43 : decode (ib f_Asker_lean) 43 = .ok (.bipush 60, 2) := by decide +kernel
theorem d_Asker_lean_45 : decode (ib f_Asker_lean) 45 = .ok (.if_icmp .ge 27, 3) := by decide +kernel
theorem d_Asker_lean_48 : decode (ib f_Asker_lean) 48 = .ok (.aload_n 1, 1) := by decide +kernel
theorem d_Asker_lean_49 : decode (ib f_Asker_lean) 49 = .ok (.iload 4, 2) := by decide +kernel
theorem d_Asker_lean_51 : decode (ib f_Asker_lean) 51 = .ok (.invokevirtual 44, 3) := by decide +kernel
theorem d_Asker_lean_54 : decode (ib f_Asker_lean) 54 = .ok (.ifCond .eq 18, 3) := by decide +kernel
theorem d_Asker_lean_57 : decode (ib f_Asker_lean) 57 = .ok (.iload_n 3, 1) := by decide +kernel
theorem d_Asker_lean_58 : decode (ib f_Asker_lean) 58 = .ok (.aload_n 1, 1) := by decide +kernel
theorem d_Asker_lean_59 : decode (ib f_Asker_lean) 59 = .ok (.iload 4, 2) := by decide +kernel
theorem d_Asker_lean_61 : decode (ib f_Asker_lean) 61 = .ok (.invokestatic 84, 3) := by decide +kernel
theorem d_Asker_lean_64 : decode (ib f_Asker_lean) 64 = .ok (.isub, 1) := by decide +kernel
theorem d_Asker_lean_65 : decode (ib f_Asker_lean) 65 = .ok (.istore_n 3, 1) := by decide +kernel
theorem d_Asker_lean_66 : decode (ib f_Asker_lean) 66 = .ok (.iinc 4 1, 3) := by decide +kernel
theorem d_Asker_lean_69 : decode (ib f_Asker_lean) 69 = .ok (.goto (-28), 3) := by decide +kernel
theorem d_Asker_lean_72 : decode (ib f_Asker_lean) 72 = .ok (.iload_n 3, 1) := by decide +kernel
theorem d_Asker_lean_73 : decode (ib f_Asker_lean) 73 = .ok (.ireturn, 1) := by decide +kernel
theorem d_Asker_sizeAt_0 : decode (ib f_Asker_sizeAt) 0 = .ok (.aload_n 0, 1) := by decide +kernel
theorem d_Asker_sizeAt_1 : decode (ib f_Asker_sizeAt) 1 = .ok (.iload_n 1, 1) := by decide +kernel
theorem d_Asker_sizeAt_2 : decode (ib f_Asker_sizeAt) 2 = .ok (.invokevirtual 50, 3) := by decide +kernel
theorem d_Asker_sizeAt_5 : decode (ib f_Asker_sizeAt) 5 = .ok (.astore_n 2, 1) := by decide +kernel
theorem d_Asker_sizeAt_6 : decode (ib f_Asker_sizeAt) 6 = .ok (.aload_n 2, 1) := by decide +kernel
theorem d_Asker_sizeAt_7 : decode (ib f_Asker_sizeAt) 7 = .ok (.ifnonnull 7, 3) := by decide +kernel
theorem d_Asker_sizeAt_10 : decode (ib f_Asker_sizeAt) 10 = .ok (.iconst 0, 1) := by decide +kernel
theorem d_Asker_sizeAt_11 : decode (ib f_Asker_sizeAt) 11 = .ok (.goto 7, 3) := by decide +kernel
theorem d_Asker_sizeAt_14 : decode (ib f_Asker_sizeAt) 14 = .ok (.aload_n 2, 1) := by decide +kernel
theorem d_Asker_sizeAt_15 : decode (ib f_Asker_sizeAt) 15 = .ok (.getfield 88, 3) := by decide +kernel
theorem d_Asker_sizeAt_18 : decode (ib f_Asker_sizeAt) 18 = .ok (.ireturn, 1) := by decide +kernel
theorem d_Asker_balance_0 : decode (ib f_Asker_balance) 0 = .ok (.aload_n 0, 1) := by decide +kernel
theorem d_Asker_balance_1 : decode (ib f_Asker_balance) 1 = .ok (.aload_n 1, 1) := by decide +kernel
theorem d_Asker_balance_2 : decode (ib f_Asker_balance) 2 = .ok (.invokevirtual 89, 3) := by decide +kernel
theorem d_Asker_balance_5 : decode (ib f_Asker_balance) 5 = .ok (.istore_n 3, 1) := by decide +kernel
theorem d_Asker_balance_6 : decode (ib f_Asker_balance) 6 = .ok (.sipush 1000, 3) := by decide +kernel
theorem d_Asker_balance_9 : decode (ib f_Asker_balance) 9 = .ok (.istore 4, 2) := by decide +kernel
theorem d_Asker_balance_11 : decode (ib f_Asker_balance) 11 = .ok (.iconst 0, 1) := by decide +kernel
theorem d_Asker_balance_12 : decode (ib f_Asker_balance) 12 = .ok (.istore 5, 2) := by decide +kernel
theorem d_Asker_balance_14 : decode (ib f_Asker_balance) 14 = .ok (.iconst 0, 1) := by decide +kernel
theorem d_Asker_balance_15 : decode (ib f_Asker_balance) 15 = .ok (.istore 6, 2) := by decide +kernel
theorem d_Asker_balance_17 : decode (ib f_Asker_balance) 17 = .ok (.iload 6, 2) := by decide +kernel
theorem d_Asker_balance_19 : decode (ib f_Asker_balance) 19 = .ok (.iload_n 3, 1) := by decide +kernel
theorem d_Asker_balance_20 : decode (ib f_Asker_balance) 20 = .ok (.if_icmp .gt 88, 3) := by decide +kernel
theorem d_Asker_balance_23 : decode (ib f_Asker_balance) 23 = .ok (.iload_n 3, 1) := by decide +kernel
theorem d_Asker_balance_24 : decode (ib f_Asker_balance) 24 = .ok (.ifCond .le 84, 3) := by decide +kernel
theorem d_Asker_balance_27 : decode (ib f_Asker_balance) 27 = .ok (.iload_n 3, 1) := by decide +kernel
theorem d_Asker_balance_28 : decode (ib f_Asker_balance) 28 = .ok (.iconst 2, 1) := by decide +kernel
theorem d_Asker_balance_29 : decode (ib f_Asker_balance) 29 = .ok (.iload 6, 2) := by decide +kernel
theorem d_Asker_balance_31 : decode (ib f_Asker_balance) 31 = .ok (.imul, 1) := by decide +kernel
theorem d_Asker_balance_32 : decode (ib f_Asker_balance) 32 = .ok (.isub, 1) := by decide +kernel
theorem d_Asker_balance_33 : decode (ib f_Asker_balance) 33 = .ok (.invokestatic 93, 3) := by decide +kernel
theorem d_Asker_balance_36 : decode (ib f_Asker_balance) 36 = .ok (.istore 7, 2) := by decide +kernel
theorem d_Asker_balance_38 : decode (ib f_Asker_balance) 38 = .ok (.iload 7, 2) := by decide +kernel
theorem d_Asker_balance_40 : decode (ib f_Asker_balance) 40 = .ok (.iload 4, 2) := by decide +kernel
theorem d_Asker_balance_42 : decode (ib f_Asker_balance) 42 = .ok (.if_icmp .lt 22, 3) := by decide +kernel
theorem d_Asker_balance_45 : decode (ib f_Asker_balance) 45 = .ok (.iload 7, 2) := by decide +kernel
theorem d_Asker_balance_47 : decode (ib f_Asker_balance) 47 = .ok (.iload 4, 2) := by decide +kernel
theorem d_Asker_balance_49 : decode (ib f_Asker_balance) 49 = .ok (.if_icmp .ne 19, 3) := by decide +kernel
theorem d_Asker_balance_52 : decode (ib f_Asker_balance) 52 = .ok (.aload_n 0, 1) := by decide +kernel
theorem d_Asker_balance_53 : decode (ib f_Asker_balance) 53 = .ok (.getfield 24, 3) := by decide +kernel
theorem d_Asker_balance_56 : decode (ib f_Asker_balance) 56 = .ok (.iload 6, 2) := by decide +kernel
theorem d_Asker_balance_58 : decode (ib f_Asker_balance) 58 = .ok (.iaload, 1) := by decide +kernel
theorem d_Asker_balance_59 : decode (ib f_Asker_balance) 59 = .ok (.iload 5, 2) := by decide +kernel
theorem d_Asker_balance_61 : decode (ib f_Asker_balance) 61 = .ok (.if_icmp .ge 7, 3) := by decide +kernel
theorem d_Asker_balance_64 : decode (ib f_Asker_balance) 64 = .ok (.iconst 1, 1) := by decide +kernel
theorem d_Asker_balance_65 : decode (ib f_Asker_balance) 65 = .ok (.goto 4, 3) := by decide +kernel
theorem d_Asker_balance_68 : decode (ib f_Asker_balance) 68 = .ok (.iconst 0, 1) := by decide +kernel
theorem d_Asker_balance_69 : decode (ib f_Asker_balance) 69 = .ok (.istore 8, 2) := by decide +kernel
theorem d_Asker_balance_71 : decode (ib f_Asker_balance) 71 = .ok (.aload_n 0, 1) := by decide +kernel
theorem d_Asker_balance_72 : decode (ib f_Asker_balance) 72 = .ok (.getfield 24, 3) := by decide +kernel
theorem d_Asker_balance_75 : decode (ib f_Asker_balance) 75 = .ok (.iload 6, 2) := by decide +kernel
theorem d_Asker_balance_77 : decode (ib f_Asker_balance) 77 = .ok (.iaload, 1) := by decide +kernel
theorem d_Asker_balance_78 : decode (ib f_Asker_balance) 78 = .ok (.sipush 1000, 3) := by decide +kernel
theorem d_Asker_balance_81 : decode (ib f_Asker_balance) 81 = .ok (.if_icmp .ge 21, 3) := by decide +kernel
theorem d_Asker_balance_84 : decode (ib f_Asker_balance) 84 = .ok (.iload 8, 2) := by decide +kernel
theorem d_Asker_balance_86 : decode (ib f_Asker_balance) 86 = .ok (.ifCond .eq 16, 3) := by decide +kernel
theorem d_Asker_balance_89 : decode (ib f_Asker_balance) 89 = .ok (.iload 7, 2) := by decide +kernel
theorem d_Asker_balance_91 : decode (ib f_Asker_balance) 91 = .ok (.istore 4, 2) := by decide +kernel
theorem d_Asker_balance_93 : decode (ib f_Asker_balance) 93 = .ok (.aload_n 0, 1) := by decide +kernel
theorem d_Asker_balance_94 : decode (ib f_Asker_balance) 94 = .ok (.getfield 24, 3) := by decide +kernel
theorem d_Asker_balance_97 : decode (ib f_Asker_balance) 97 = .ok (.iload 6, 2) := by decide +kernel
theorem d_Asker_balance_99 : decode (ib f_Asker_balance) 99 = .ok (.iaload, 1) := by decide +kernel
theorem d_Asker_balance_100 : decode (ib f_Asker_balance) 100 = .ok (.istore 5, 2) := by decide +kernel
theorem d_Asker_balance_102 : decode (ib f_Asker_balance) 102 = .ok (.iinc 6 1, 3) := by decide +kernel
theorem d_Asker_balance_105 : decode (ib f_Asker_balance) 105 = .ok (.goto (-88), 3) := by decide +kernel
theorem d_Asker_balance_108 : decode (ib f_Asker_balance) 108 = .ok (.iload_n 3, 1) := by decide +kernel
theorem d_Asker_balance_109 : decode (ib f_Asker_balance) 109 = .ok (.ifCond .ne 5, 3) := by decide +kernel
theorem d_Asker_balance_112 : decode (ib f_Asker_balance) 112 = .ok (.iconst 0, 1) := by decide +kernel
theorem d_Asker_balance_113 : decode (ib f_Asker_balance) 113 = .ok (.ireturn, 1) := by decide +kernel
theorem d_Asker_balance_114 : decode (ib f_Asker_balance) 114 = .ok (.iload_n 2, 1) := by decide +kernel
theorem d_Asker_balance_115 : decode (ib f_Asker_balance) 115 = .ok (.ifCond .ne 8, 3) := by decide +kernel
theorem d_Asker_balance_118 : decode (ib f_Asker_balance) 118 = .ok (.iload 4, 2) := by decide +kernel
theorem d_Asker_balance_120 : decode (ib f_Asker_balance) 120 = .ok (.goto 5, 3) := by decide +kernel
theorem d_Asker_balance_123 : decode (ib f_Asker_balance) 123 = .ok (.iload 5, 2) := by decide +kernel
theorem d_Asker_balance_125 : decode (ib f_Asker_balance) 125 = .ok (.ireturn, 1) := by decide +kernel
theorem d_Asker_weighWasps_0 : decode (ib f_Asker_weighWasps) 0 = .ok (.iconst 0, 1) := by decide +kernel
theorem d_Asker_weighWasps_1 : decode (ib f_Asker_weighWasps) 1 = .ok (.istore_n 2, 1) := by decide +kernel
theorem d_Asker_weighWasps_2 : decode (ib f_Asker_weighWasps) 2 = .ok (.aload_n 0, 1) := by decide +kernel
theorem d_Asker_weighWasps_3 : decode (ib f_Asker_weighWasps) 3 = .ok (.getfield 24, 3) := by decide +kernel
theorem d_Asker_weighWasps_6 : decode (ib f_Asker_weighWasps) 6 = .ok (.sipush 1000, 3) := by decide +kernel
theorem d_Asker_weighWasps_9 : decode (ib f_Asker_weighWasps) 9 = .ok (.invokestatic 34, 3) := by decide +kernel
theorem d_Asker_weighWasps_12 : decode (ib f_Asker_weighWasps) 12 = .ok (.iconst 0, 1) := by decide +kernel
theorem d_Asker_weighWasps_13 : decode (ib f_Asker_weighWasps) 13 = .ok (.istore_n 3, 1) := by decide +kernel
theorem d_Asker_weighWasps_14 : decode (ib f_Asker_weighWasps) 14 = .ok (.iload_n 3, 1) := by decide +kernel
theorem d_Asker_weighWasps_15 : decode (ib f_Asker_weighWasps) 15 = .ok (.bipush 60, 2) := by decide +kernel
theorem d_Asker_weighWasps_17 : decode (ib f_Asker_weighWasps) 17 = .ok (.if_icmp .ge 116, 3) := by decide +kernel
theorem d_Asker_weighWasps_20 : decode (ib f_Asker_weighWasps) 20 = .ok (.aload_n 1, 1) := by decide +kernel
theorem d_Asker_weighWasps_21 : decode (ib f_Asker_weighWasps) 21 = .ok (.iload_n 3, 1) := by decide +kernel
theorem d_Asker_weighWasps_22 : decode (ib f_Asker_weighWasps) 22 = .ok (.invokevirtual 50, 3) := by decide +kernel
theorem d_Asker_weighWasps_25 : decode (ib f_Asker_weighWasps) 25 = .ok (.astore 4, 2) := by decide +kernel
theorem d_Asker_weighWasps_27 : decode (ib f_Asker_weighWasps) 27 = .ok (.aload 4, 2) := by decide +kernel
theorem d_Asker_weighWasps_29 : decode (ib f_Asker_weighWasps) 29 = .ok (.ifnull 98, 3) := by decide +kernel
theorem d_Asker_weighWasps_32 : decode (ib f_Asker_weighWasps) 32 = .ok (.aload 4, 2) := by decide +kernel
theorem d_Asker_weighWasps_34 : decode (ib f_Asker_weighWasps) 34 = .ok (.getfield 63, 3) := by decide +kernel
theorem d_Asker_weighWasps_37 : decode (ib f_Asker_weighWasps) 37 = .ok (.iconst 4, 1) := by decide +kernel
theorem d_Asker_weighWasps_38 : decode (ib f_Asker_weighWasps) 38 = .ok (.if_icmp .eq 6, 3) := by decide +kernel
theorem d_Asker_weighWasps_41 : decode (ib f_Asker_weighWasps) 41 = .ok (.goto 86, 3) := by decide +kernel
theorem d_Asker_weighWasps_44 : decode (ib f_Asker_weighWasps) 44 = .ok (.iload_n 2, 1) := by decide +kernel
theorem d_Asker_weighWasps_45 : decode (ib f_Asker_weighWasps) 45 = .ok (.istore 5, 2) := by decide +kernel
theorem d_Asker_weighWasps_47 : decode (ib f_Asker_weighWasps) 47 = .ok (.iload 5, 2) := by decide +kernel
theorem d_Asker_weighWasps_49 : decode (ib f_Asker_weighWasps) 49 = .ok (.ifCond .lt 55, 3) := by decide +kernel
theorem d_Asker_weighWasps_52 : decode (ib f_Asker_weighWasps) 52 = .ok (.iload 5, 2) := by decide +kernel
theorem d_Asker_weighWasps_54 : decode (ib f_Asker_weighWasps) 54 = .ok (.aload 4, 2) := by decide +kernel
theorem d_Asker_weighWasps_56 : decode (ib f_Asker_weighWasps) 56 = .ok (.getfield 88, 3) := by decide +kernel
theorem d_Asker_weighWasps_59 : decode (ib f_Asker_weighWasps) 59 = .ok (.iadd, 1) := by decide +kernel
theorem d_Asker_weighWasps_60 : decode (ib f_Asker_weighWasps) 60 = .ok (.istore 6, 2) := by decide +kernel
theorem d_Asker_weighWasps_62 : decode (ib f_Asker_weighWasps) 62 = .ok (.iload 6, 2) := by decide +kernel
theorem d_Asker_weighWasps_64 : decode (ib f_Asker_weighWasps) 64 = .ok (.aload_n 0, 1) := by decide +kernel
theorem d_Asker_weighWasps_65 : decode (ib f_Asker_weighWasps) 65 = .ok (.getfield 24, 3) := by decide +kernel
theorem d_Asker_weighWasps_68 : decode (ib f_Asker_weighWasps) 68 = .ok (.arraylength, 1) := by decide +kernel
theorem d_Asker_weighWasps_69 : decode (ib f_Asker_weighWasps) 69 = .ok (.if_icmp .ge 29, 3) := by decide +kernel
theorem d_Asker_weighWasps_72 : decode (ib f_Asker_weighWasps) 72 = .ok (.aload_n 0, 1) := by decide +kernel
theorem d_Asker_weighWasps_73 : decode (ib f_Asker_weighWasps) 73 = .ok (.getfield 24, 3) := by decide +kernel
theorem d_Asker_weighWasps_76 : decode (ib f_Asker_weighWasps) 76 = .ok (.iload 6, 2) := by decide +kernel
theorem d_Asker_weighWasps_78 : decode (ib f_Asker_weighWasps) 78 = .ok (.aload_n 0, 1) := by decide +kernel
theorem d_Asker_weighWasps_79 : decode (ib f_Asker_weighWasps) 79 = .ok (.getfield 24, 3) := by decide +kernel
theorem d_Asker_weighWasps_82 : decode (ib f_Asker_weighWasps) 82 = .ok (.iload 6, 2) := by decide +kernel
theorem d_Asker_weighWasps_84 : decode (ib f_Asker_weighWasps) 84 = .ok (.iaload, 1) := by decide +kernel
theorem d_Asker_weighWasps_85 : decode (ib f_Asker_weighWasps) 85 = .ok (.aload_n 0, 1) := by decide +kernel
theorem d_Asker_weighWasps_86 : decode (ib f_Asker_weighWasps) 86 = .ok (.getfield 24, 3) := by decide +kernel
theorem d_Asker_weighWasps_89 : decode (ib f_Asker_weighWasps) 89 = .ok (.iload 5, 2) := by decide +kernel
theorem d_Asker_weighWasps_91 : decode (ib f_Asker_weighWasps) 91 = .ok (.iaload, 1) := by decide +kernel
theorem d_Asker_weighWasps_92 : decode (ib f_Asker_weighWasps) 92 = .ok (.iconst 1, 1) := by decide +kernel
theorem d_Asker_weighWasps_93 : decode (ib f_Asker_weighWasps) 93 = .ok (.iadd, 1) := by decide +kernel
theorem d_Asker_weighWasps_94 : decode (ib f_Asker_weighWasps) 94 = .ok (.invokestatic 69, 3) := by decide +kernel
theorem d_Asker_weighWasps_97 : decode (ib f_Asker_weighWasps) 97 = .ok (.iastore, 1) := by decide +kernel
theorem d_Asker_weighWasps_98 : decode (ib f_Asker_weighWasps) 98 = .ok (.iinc 5 (-1), 3) := by decide +kernel
theorem d_Asker_weighWasps_101 : decode (ib f_Asker_weighWasps) 101 = .ok (.goto (-54), 3) := by decide +kernel
theorem d_Asker_weighWasps_104 : decode (ib f_Asker_weighWasps) 104 = .ok (.iload_n 2, 1) := by decide +kernel
theorem d_Asker_weighWasps_105 : decode (ib f_Asker_weighWasps) 105 = .ok (.ifCond .ne 14, 3) := by decide +kernel
theorem d_Asker_weighWasps_108 : decode (ib f_Asker_weighWasps) 108 = .ok (.aload_n 0, 1) := by decide +kernel
theorem d_Asker_weighWasps_109 : decode (ib f_Asker_weighWasps) 109 = .ok (.getfield 24, 3) := by decide +kernel
theorem d_Asker_weighWasps_112 : decode (ib f_Asker_weighWasps) 112 = .ok (.aload 4, 2) := by decide +kernel
theorem d_Asker_weighWasps_114 : decode (ib f_Asker_weighWasps) 114 = .ok (.getfield 88, 3) := by decide +kernel
theorem d_Asker_weighWasps_117 : decode (ib f_Asker_weighWasps) 117 = .ok (.iconst 1, 1) := by decide +kernel
theorem d_Asker_weighWasps_118 : decode (ib f_Asker_weighWasps) 118 = .ok (.iastore, 1) := by decide +kernel
theorem d_Asker_weighWasps_119 : decode (ib f_Asker_weighWasps) 119 = .ok (.iload_n 2, 1) := by decide +kernel
theorem d_Asker_weighWasps_120 : decode (ib f_Asker_weighWasps) 120 = .ok (.aload 4, 2) := by decide +kernel
theorem d_Asker_weighWasps_122 : decode (ib f_Asker_weighWasps) 122 = .ok (.getfield 88, 3) := by decide +kernel
theorem d_Asker_weighWasps_125 : decode (ib f_Asker_weighWasps) 125 = .ok (.iadd, 1) := by decide +kernel
theorem d_Asker_weighWasps_126 : decode (ib f_Asker_weighWasps) 126 = .ok (.istore_n 2, 1) := by decide +kernel
theorem d_Asker_weighWasps_127 : decode (ib f_Asker_weighWasps) 127 = .ok (.iinc 3 1, 3) := by decide +kernel
theorem d_Asker_weighWasps_130 : decode (ib f_Asker_weighWasps) 130 = .ok (.goto (-116), 3) := by decide +kernel
theorem d_Asker_weighWasps_133 : decode (ib f_Asker_weighWasps) 133 = .ok (.iload_n 2, 1) := by decide +kernel
theorem d_Asker_weighWasps_134 : decode (ib f_Asker_weighWasps) 134 = .ok (.ireturn, 1) := by decide +kernel
theorem d_Asker_fingers_0 : decode (ib f_Asker_fingers) 0 = .ok (.aload_n 0, 1) := by decide +kernel
theorem d_Asker_fingers_1 : decode (ib f_Asker_fingers) 1 = .ok (.getfield 27, 3) := by decide +kernel
theorem d_Asker_fingers_4 : decode (ib f_Asker_fingers) 4 = .ok (.iconst 0, 1) := by decide +kernel
theorem d_Asker_fingers_5 : decode (ib f_Asker_fingers) 5 = .ok (.invokestatic 34, 3) := by decide +kernel
theorem d_Asker_fingers_8 : decode (ib f_Asker_fingers) 8 = .ok (.aload_n 0, 1) := by decide +kernel
theorem d_Asker_fingers_9 : decode (ib f_Asker_fingers) 9 = .ok (.getfield 27, 3) := by decide +kernel
theorem d_Asker_fingers_12 : decode (ib f_Asker_fingers) 12 = .ok (.iconst 0, 1) := by decide +kernel
theorem d_Asker_fingers_13 : decode (ib f_Asker_fingers) 13 = .ok (.iconst 1, 1) := by decide +kernel
theorem d_Asker_fingers_14 : decode (ib f_Asker_fingers) 14 = .ok (.iastore, 1) := by decide +kernel
theorem d_Asker_fingers_15 : decode (ib f_Asker_fingers) 15 = .ok (.iconst 0, 1) := by decide +kernel
theorem d_Asker_fingers_16 : decode (ib f_Asker_fingers) 16 = .ok (.istore 4, 2) := by decide +kernel
theorem d_Asker_fingers_18 : decode (ib f_Asker_fingers) 18 = .ok (.iload 4, 2) := by decide +kernel
theorem d_Asker_fingers_20 : decode (ib f_Asker_fingers) 20 = .ok (.iload_n 2, 1) := by decide +kernel
theorem d_Asker_fingers_21 : decode (ib f_Asker_fingers) 21 = .ok (.if_icmp .ge 85, 3) := by decide +kernel
theorem d_Asker_fingers_24 : decode (ib f_Asker_fingers) 24 = .ok (.iload_n 1, 1) := by decide +kernel
theorem d_Asker_fingers_25 : decode (ib f_Asker_fingers) 25 = .ok (.aload_n 0, 1) := by decide +kernel
theorem d_Asker_fingers_26 : decode (ib f_Asker_fingers) 26 = .ok (.getfield 27, 3) := by decide +kernel
theorem d_Asker_fingers_29 : decode (ib f_Asker_fingers) 29 = .ok (.arraylength, 1) := by decide +kernel
theorem d_Asker_fingers_30 : decode (ib f_Asker_fingers) 30 = .ok (.iconst 1, 1) := by decide +kernel
theorem d_Asker_fingers_31 : decode (ib f_Asker_fingers) 31 = .ok (.isub, 1) := by decide +kernel
theorem d_Asker_fingers_32 : decode (ib f_Asker_fingers) 32 = .ok (.invokestatic 69, 3) := by decide +kernel
theorem d_Asker_fingers_35 : decode (ib f_Asker_fingers) 35 = .ok (.istore 5, 2) := by decide +kernel
theorem d_Asker_fingers_37 : decode (ib f_Asker_fingers) 37 = .ok (.iload 5, 2) := by decide +kernel
theorem d_Asker_fingers_39 : decode (ib f_Asker_fingers) 39 = .ok (.ifCond .lt 61, 3) := by decide +kernel
theorem d_Asker_fingers_42 : decode (ib f_Asker_fingers) 42 = .ok (.iconst 0, 1) := by decide +kernel
theorem d_Asker_fingers_43 : decode (ib f_Asker_fingers) 43 = .ok (.istore 6, 2) := by decide +kernel
theorem d_Asker_fingers_45 : decode (ib f_Asker_fingers) 45 = .ok (.iload_n 3, 1) := by decide +kernel
theorem d_Asker_fingers_46 : decode (ib f_Asker_fingers) 46 = .ok (.istore 7, 2) := by decide +kernel
theorem d_Asker_fingers_48 : decode (ib f_Asker_fingers) 48 = .ok (.iload 7, 2) := by decide +kernel
theorem d_Asker_fingers_50 : decode (ib f_Asker_fingers) 50 = .ok (.iconst 5, 1) := by decide +kernel
theorem d_Asker_fingers_51 : decode (ib f_Asker_fingers) 51 = .ok (.if_icmp .gt 34, 3) := by decide +kernel
theorem d_Asker_fingers_54 : decode (ib f_Asker_fingers) 54 = .ok (.iload 7, 2) := by decide +kernel
theorem d_Asker_fingers_56 : decode (ib f_Asker_fingers) 56 = .ok (.iload 5, 2) := by decide +kernel
theorem d_Asker_fingers_58 : decode (ib f_Asker_fingers) 58 = .ok (.if_icmp .gt 27, 3) := by decide +kernel
theorem d_Asker_fingers_61 : decode (ib f_Asker_fingers) 61 = .ok (.iload 6, 2) := by decide +kernel
theorem d_Asker_fingers_63 : decode (ib f_Asker_fingers) 63 = .ok (.aload_n 0, 1) := by decide +kernel
theorem d_Asker_fingers_64 : decode (ib f_Asker_fingers) 64 = .ok (.getfield 27, 3) := by decide +kernel
theorem d_Asker_fingers_67 : decode (ib f_Asker_fingers) 67 = .ok (.iload 5, 2) := by decide +kernel
theorem d_Asker_fingers_69 : decode (ib f_Asker_fingers) 69 = .ok (.iload 7, 2) := by decide +kernel
theorem d_Asker_fingers_71 : decode (ib f_Asker_fingers) 71 = .ok (.isub, 1) := by decide +kernel
theorem d_Asker_fingers_72 : decode (ib f_Asker_fingers) 72 = .ok (.iaload, 1) := by decide +kernel
theorem d_Asker_fingers_73 : decode (ib f_Asker_fingers) 73 = .ok (.iadd, 1) := by decide +kernel
theorem d_Asker_fingers_74 : decode (ib f_Asker_fingers) 74 = .ok (.ldc 68, 2) := by decide +kernel
theorem d_Asker_fingers_76 : decode (ib f_Asker_fingers) 76 = .ok (.irem, 1) := by decide +kernel
theorem d_Asker_fingers_77 : decode (ib f_Asker_fingers) 77 = .ok (.istore 6, 2) := by decide +kernel
theorem d_Asker_fingers_79 : decode (ib f_Asker_fingers) 79 = .ok (.iinc 7 1, 3) := by decide +kernel
theorem d_Asker_fingers_82 : decode (ib f_Asker_fingers) 82 = .ok (.goto (-34), 3) := by decide +kernel
theorem d_Asker_fingers_85 : decode (ib f_Asker_fingers) 85 = .ok (.aload_n 0, 1) := by decide +kernel
theorem d_Asker_fingers_86 : decode (ib f_Asker_fingers) 86 = .ok (.getfield 27, 3) := by decide +kernel
theorem d_Asker_fingers_89 : decode (ib f_Asker_fingers) 89 = .ok (.iload 5, 2) := by decide +kernel
theorem d_Asker_fingers_91 : decode (ib f_Asker_fingers) 91 = .ok (.iload 6, 2) := by decide +kernel
theorem d_Asker_fingers_93 : decode (ib f_Asker_fingers) 93 = .ok (.iastore, 1) := by decide +kernel
theorem d_Asker_fingers_94 : decode (ib f_Asker_fingers) 94 = .ok (.iinc 5 (-1), 3) := by decide +kernel
theorem d_Asker_fingers_97 : decode (ib f_Asker_fingers) 97 = .ok (.goto (-60), 3) := by decide +kernel
theorem d_Asker_fingers_100 : decode (ib f_Asker_fingers) 100 = .ok (.iinc 4 1, 3) := by decide +kernel
theorem d_Asker_fingers_103 : decode (ib f_Asker_fingers) 103 = .ok (.goto (-85), 3) := by decide +kernel
theorem d_Asker_fingers_106 : decode (ib f_Asker_fingers) 106 = .ok (.iload_n 1, 1) := by decide +kernel
theorem d_Asker_fingers_107 : decode (ib f_Asker_fingers) 107 = .ok (.aload_n 0, 1) := by decide +kernel
theorem d_Asker_fingers_108 : decode (ib f_Asker_fingers) 108 = .ok (.getfield 27, 3) := by decide +kernel
theorem d_Asker_fingers_111 : decode (ib f_Asker_fingers) 111 = .ok (.arraylength, 1) := by decide +kernel
theorem d_Asker_fingers_112 : decode (ib f_Asker_fingers) 112 = .ok (.if_icmp .ge 12, 3) := by decide +kernel
theorem d_Asker_fingers_115 : decode (ib f_Asker_fingers) 115 = .ok (.aload_n 0, 1) := by decide +kernel
theorem d_Asker_fingers_116 : decode (ib f_Asker_fingers) 116 = .ok (.getfield 27, 3) := by decide +kernel
theorem d_Asker_fingers_119 : decode (ib f_Asker_fingers) 119 = .ok (.iload_n 1, 1) := by decide +kernel
theorem d_Asker_fingers_120 : decode (ib f_Asker_fingers) 120 = .ok (.iaload, 1) := by decide +kernel
theorem d_Asker_fingers_121 : decode (ib f_Asker_fingers) 121 = .ok (.goto 4, 3) := by decide +kernel
theorem d_Asker_fingers_124 : decode (ib f_Asker_fingers) 124 = .ok (.iconst 0, 1) := by decide +kernel
theorem d_Asker_fingers_125 : decode (ib f_Asker_fingers) 125 = .ok (.ireturn, 1) := by decide +kernel
theorem d_Asker_bestTake_0 : decode (ib f_Asker_bestTake) 0 = .ok (.iconst 0, 1) := by decide +kernel
theorem d_Asker_bestTake_1 : decode (ib f_Asker_bestTake) 1 = .ok (.istore_n 3, 1) := by decide +kernel
theorem d_Asker_bestTake_2 : decode (ib f_Asker_bestTake) 2 = .ok (.iconst 0, 1) := by decide +kernel
theorem d_Asker_bestTake_3 : decode (ib f_Asker_bestTake) 3 = .ok (.istore 4, 2) := by decide +kernel
theorem d_Asker_bestTake_5 : decode (ib f_Asker_bestTake) 5 = .ok (.iload 4, 2) := by decide +kernel
theorem d_Asker_bestTake_7 : decode (ib f_Asker_bestTake) 7 = .ok (.aload_n 1, 1) := by decide +kernel
theorem d_Asker_bestTake_8 : decode (ib f_Asker_bestTake) 8 = .ok (.getfield 97, 3) := by decide +kernel
theorem d_Asker_bestTake_11 : decode (ib f_Asker_bestTake) 11 = .ok (.if_icmp .ge 25, 3) := by decide +kernel
theorem d_Asker_bestTake_14 : decode (ib f_Asker_bestTake) 14 = .ok (.iload_n 3, 1) := by decide +kernel
theorem d_Asker_bestTake_15 : decode (ib f_Asker_bestTake) 15 = .ok (.aload_n 1, 1) := by decide +kernel
theorem d_Asker_bestTake_16 : decode (ib f_Asker_bestTake) 16 = .ok (.getfield 100, 3) := by decide +kernel
theorem d_Asker_bestTake_19 : decode (ib f_Asker_bestTake) 19 = .ok (.iload 4, 2) := by decide +kernel
theorem d_Asker_bestTake_21 : decode (ib f_Asker_bestTake) 21 = .ok (.aaload, 1) := by decide +kernel
theorem d_Asker_bestTake_22 : decode (ib f_Asker_bestTake) 22 = .ok (.getfield 88, 3) := by decide +kernel
theorem d_Asker_bestTake_25 : decode (ib f_Asker_bestTake) 25 = .ok (.invokestatic 104, 3) := by decide +kernel
theorem d_Asker_bestTake_28 : decode (ib f_Asker_bestTake) 28 = .ok (.ixor, 1) := by decide +kernel
theorem d_Asker_bestTake_29 : decode (ib f_Asker_bestTake) 29 = .ok (.istore_n 3, 1) := by decide +kernel
theorem d_Asker_bestTake_30 : decode (ib f_Asker_bestTake) 30 = .ok (.iinc 4 1, 3) := by decide +kernel
theorem d_Asker_bestTake_33 : decode (ib f_Asker_bestTake) 33 = .ok (.goto (-28), 3) := by decide +kernel
theorem d_Asker_bestTake_36 : decode (ib f_Asker_bestTake) 36 = .ok (.iconst 0, 1) := by decide +kernel
theorem d_Asker_bestTake_37 : decode (ib f_Asker_bestTake) 37 = .ok (.istore 4, 2) := by decide +kernel
theorem d_Asker_bestTake_39 : decode (ib f_Asker_bestTake) 39 = .ok (.iload 4, 2) := by decide +kernel
theorem d_Asker_bestTake_41 : decode (ib f_Asker_bestTake) 41 = .ok (.bipush 60, 2) := by decide +kernel
theorem d_Asker_bestTake_43 : decode (ib f_Asker_bestTake) 43 = .ok (.if_icmp .ge 58, 3) := by decide +kernel
theorem d_Asker_bestTake_46 : decode (ib f_Asker_bestTake) 46 = .ok (.aload_n 1, 1) := by decide +kernel
theorem d_Asker_bestTake_47 : decode (ib f_Asker_bestTake) 47 = .ok (.iload 4, 2) := by decide +kernel
theorem d_Asker_bestTake_49 : decode (ib f_Asker_bestTake) 49 = .ok (.invokevirtual 50, 3) := by decide +kernel
theorem d_Asker_bestTake_52 : decode (ib f_Asker_bestTake) 52 = .ok (.astore 5, 2) := by decide +kernel
theorem d_Asker_bestTake_54 : decode (ib f_Asker_bestTake) 54 = .ok (.aload 5, 2) := by decide +kernel
theorem d_Asker_bestTake_56 : decode (ib f_Asker_bestTake) 56 = .ok (.ifnonnull 7, 3) := by decide +kernel
theorem d_Asker_bestTake_59 : decode (ib f_Asker_bestTake) 59 = .ok (.iconst (-1), 1) := by decide +kernel
theorem d_Asker_bestTake_60 : decode (ib f_Asker_bestTake) 60 = .ok (.goto 12, 3) := by decide +kernel
theorem d_Asker_bestTake_63 : decode (ib f_Asker_bestTake) 63 = .ok (.aload 5, 2) := by decide +kernel
theorem d_Asker_bestTake_65 : decode (ib f_Asker_bestTake) 65 = .ok (.getfield 88, 3) := by decide +kernel
theorem d_Asker_bestTake_68 : decode (ib f_Asker_bestTake) 68 = .ok (.iload_n 3, 1) := by decide +kernel
theorem d_Asker_bestTake_69 : decode (ib f_Asker_bestTake) 69 = .ok (.invokestatic 107, 3) := by decide +kernel
theorem d_Asker_bestTake_72 : decode (ib f_Asker_bestTake) 72 = .ok (.istore 6, 2) := by decide +kernel
theorem d_Asker_bestTake_74 : decode (ib f_Asker_bestTake) 74 = .ok (.iload 6, 2) := by decide +kernel
theorem d_Asker_bestTake_76 : decode (ib f_Asker_bestTake) 76 = .ok (.iconst (-1), 1) := by decide +kernel
theorem d_Asker_bestTake_77 : decode (ib f_Asker_bestTake) 77 = .ok (.if_icmp .eq 18, 3) := by decide +kernel
theorem d_Asker_bestTake_80 : decode (ib f_Asker_bestTake) 80 = .ok (.iload_n 2, 1) := by decide +kernel
theorem d_Asker_bestTake_81 : decode (ib f_Asker_bestTake) 81 = .ok (.ifCond .ne 11, 3) := by decide +kernel
theorem d_Asker_bestTake_84 : decode (ib f_Asker_bestTake) 84 = .ok (.aload 5, 2) := by decide +kernel
theorem d_Asker_bestTake_86 : decode (ib f_Asker_bestTake) 86 = .ok (.getfield 110, 3) := by decide +kernel
theorem d_Asker_bestTake_89 : decode (ib f_Asker_bestTake) 89 = .ok (.goto 5, 3) := by decide +kernel
theorem d_Asker_bestTake_92 : decode (ib f_Asker_bestTake) 92 = .ok (.iload 6, 2) := by decide +kernel
theorem d_Asker_bestTake_94 : decode (ib f_Asker_bestTake) 94 = .ok (.ireturn, 1) := by decide +kernel
theorem d_Asker_bestTake_95 : decode (ib f_Asker_bestTake) 95 = .ok (.iinc 4 1, 3) := by decide +kernel
theorem d_Asker_bestTake_98 : decode (ib f_Asker_bestTake) 98 = .ok (.goto (-59), 3) := by decide +kernel
theorem d_Asker_bestTake_101 : decode (ib f_Asker_bestTake) 101 = .ok (.iconst (-1), 1) := by decide +kernel
theorem d_Asker_bestTake_102 : decode (ib f_Asker_bestTake) 102 = .ok (.ireturn, 1) := by decide +kernel
theorem d_Asker_takeFrom_0 : decode (ib f_Asker_takeFrom) 0 = .ok (.iload_n 1, 1) := by decide +kernel
theorem d_Asker_takeFrom_1 : decode (ib f_Asker_takeFrom) 1 = .ok (.iload_n 0, 1) := by decide +kernel
theorem d_Asker_takeFrom_2 : decode (ib f_Asker_takeFrom) 2 = .ok (.invokestatic 104, 3) := by decide +kernel
theorem d_Asker_takeFrom_5 : decode (ib f_Asker_takeFrom) 5 = .ok (.ixor, 1) := by decide +kernel
theorem d_Asker_takeFrom_6 : decode (ib f_Asker_takeFrom) 6 = .ok (.istore_n 2, 1) := by decide +kernel
theorem d_Asker_takeFrom_7 : decode (ib f_Asker_takeFrom) 7 = .ok (.iload_n 2, 1) := by decide +kernel
theorem d_Asker_takeFrom_8 : decode (ib f_Asker_takeFrom) 8 = .ok (.iload_n 0, 1) := by decide +kernel
theorem d_Asker_takeFrom_9 : decode (ib f_Asker_takeFrom) 9 = .ok (.iconst 1, 1) := by decide +kernel
theorem d_Asker_takeFrom_10 : decode (ib f_Asker_takeFrom) 10 = .ok (.isub, 1) := by decide +kernel
theorem d_Asker_takeFrom_11 : decode (ib f_Asker_takeFrom) 11 = .ok (.invokestatic 104, 3) := by decide +kernel
theorem d_Asker_takeFrom_14 : decode (ib f_Asker_takeFrom) 14 = .ok (.if_icmp .ne 5, 3) := by decide +kernel
theorem d_Asker_takeFrom_17 : decode (ib f_Asker_takeFrom) 17 = .ok (.iconst 1, 1) := by decide +kernel
theorem d_Asker_takeFrom_18 : decode (ib f_Asker_takeFrom) 18 = .ok (.ireturn, 1) := by decide +kernel
theorem d_Asker_takeFrom_19 : decode (ib f_Asker_takeFrom) 19 = .ok (.iload_n 0, 1) := by decide +kernel
theorem d_Asker_takeFrom_20 : decode (ib f_Asker_takeFrom) 20 = .ok (.iconst 3, 1) := by decide +kernel
theorem d_Asker_takeFrom_21 : decode (ib f_Asker_takeFrom) 21 = .ok (.if_icmp .gt 15, 3) := by decide +kernel
theorem d_Asker_takeFrom_24 : decode (ib f_Asker_takeFrom) 24 = .ok (.iload_n 2, 1) := by decide +kernel
theorem d_Asker_takeFrom_25 : decode (ib f_Asker_takeFrom) 25 = .ok (.iconst 0, 1) := by decide +kernel
theorem d_Asker_takeFrom_26 : decode (ib f_Asker_takeFrom) 26 = .ok (.invokestatic 104, 3) := by decide +kernel
theorem d_Asker_takeFrom_29 : decode (ib f_Asker_takeFrom) 29 = .ok (.if_icmp .ne 7, 3) := by decide +kernel
theorem d_Asker_takeFrom_32 : decode (ib f_Asker_takeFrom) 32 = .ok (.iload_n 0, 1) := by decide +kernel
theorem d_Asker_takeFrom_33 : decode (ib f_Asker_takeFrom) 33 = .ok (.goto 4, 3) := by decide +kernel
theorem d_Asker_takeFrom_36 : decode (ib f_Asker_takeFrom) 36 = .ok (.iconst (-1), 1) := by decide +kernel
theorem d_Asker_takeFrom_37 : decode (ib f_Asker_takeFrom) 37 = .ok (.ireturn, 1) := by decide +kernel
theorem d_Asker_worth_0 : decode (ib f_Asker_worth) 0 = .ok (.iload_n 0, 1) := by decide +kernel
theorem d_Asker_worth_1 : decode (ib f_Asker_worth) 1 = .ok (.ifCond .lt 19, 3) := by decide +kernel
theorem d_Asker_worth_4 : decode (ib f_Asker_worth) 4 = .ok (.iload_n 0, 1) := by decide +kernel
theorem d_Asker_worth_5 : decode (ib f_Asker_worth) 5 = .ok (.getstatic 113, 3) := by decide +kernel
theorem d_Asker_worth_8 : decode (ib f_Asker_worth) 8 = .ok (.arraylength, 1) := by decide +kernel
theorem d_Asker_worth_9 : decode (ib f_Asker_worth) 9 = .ok (.if_icmp .ge 11, 3) := by decide +kernel
theorem d_Asker_worth_12 : decode (ib f_Asker_worth) 12 = .ok (.getstatic 113, 3) := by decide +kernel
theorem d_Asker_worth_15 : decode (ib f_Asker_worth) 15 = .ok (.iload_n 0, 1) := by decide +kernel
theorem d_Asker_worth_16 : decode (ib f_Asker_worth) 16 = .ok (.iaload, 1) := by decide +kernel
theorem d_Asker_worth_17 : decode (ib f_Asker_worth) 17 = .ok (.goto 4, 3) := by decide +kernel
theorem d_Asker_worth_20 : decode (ib f_Asker_worth) 20 = .ok (.iconst 0, 1) := by decide +kernel
theorem d_Asker_worth_21 : decode (ib f_Asker_worth) 21 = .ok (.ireturn, 1) := by decide +kernel
theorem d_Dates_dayNumber_0 : decode (ib f_Dates_dayNumber) 0 = .ok (.iload_n 0, 1) := by decide +kernel
theorem d_Dates_dayNumber_1 : decode (ib f_Dates_dayNumber) 1 = .ok (.sipush 10000, 3) := by decide +kernel
theorem d_Dates_dayNumber_4 : decode (ib f_Dates_dayNumber) 4 = .ok (.idiv, 1) := by decide +kernel
theorem d_Dates_dayNumber_5 : decode (ib f_Dates_dayNumber) 5 = .ok (.istore_n 1, 1) := by decide +kernel
theorem d_Dates_dayNumber_6 : decode (ib f_Dates_dayNumber) 6 = .ok (.iload_n 0, 1) := by decide +kernel
theorem d_Dates_dayNumber_7 : decode (ib f_Dates_dayNumber) 7 = .ok (.bipush 100, 2) := by decide +kernel
theorem d_Dates_dayNumber_9 : decode (ib f_Dates_dayNumber) 9 = .ok (.idiv, 1) := by decide +kernel
theorem d_Dates_dayNumber_10 : decode (ib f_Dates_dayNumber) 10 = .ok (.bipush 100, 2) := by decide +kernel
theorem d_Dates_dayNumber_12 : decode (ib f_Dates_dayNumber) 12 = .ok (.irem, 1) := by decide +kernel
theorem d_Dates_dayNumber_13 : decode (ib f_Dates_dayNumber) 13 = .ok (.istore_n 2, 1) := by decide +kernel
theorem d_Dates_dayNumber_14 : decode (ib f_Dates_dayNumber) 14 = .ok (.iload_n 0, 1) := by decide +kernel
theorem d_Dates_dayNumber_15 : decode (ib f_Dates_dayNumber) 15 = .ok (.bipush 100, 2) := by decide +kernel
theorem d_Dates_dayNumber_17 : decode (ib f_Dates_dayNumber) 17 = .ok (.irem, 1) := by decide +kernel
theorem d_Dates_dayNumber_18 : decode (ib f_Dates_dayNumber) 18 = .ok (.istore_n 3, 1) := by decide +kernel
theorem d_Dates_dayNumber_19 : decode (ib f_Dates_dayNumber) 19 = .ok (.iload_n 1, 1) := by decide +kernel
theorem d_Dates_dayNumber_20 : decode (ib f_Dates_dayNumber) 20 = .ok (.sipush 1700, 3) := by decide +kernel
theorem d_Dates_dayNumber_23 : decode (ib f_Dates_dayNumber) 23 = .ok (.sipush 2099, 3) := by decide +kernel
theorem d_Dates_dayNumber_26 : decode (ib f_Dates_dayNumber) 26 = .ok (.invokestatic 9, 3) := by decide +kernel
theorem d_Dates_dayNumber_29 : decode (ib f_Dates_dayNumber) 29 = .ok (.ifCond .eq 26, 3) := by decide +kernel
theorem d_Dates_dayNumber_32 : decode (ib f_Dates_dayNumber) 32 = .ok (.iload_n 2, 1) := by decide +kernel
theorem d_Dates_dayNumber_33 : decode (ib f_Dates_dayNumber) 33 = .ok (.iconst 1, 1) := by decide +kernel
theorem d_Dates_dayNumber_34 : decode (ib f_Dates_dayNumber) 34 = .ok (.bipush 12, 2) := by decide +kernel
theorem d_Dates_dayNumber_36 : decode (ib f_Dates_dayNumber) 36 = .ok (.invokestatic 9, 3) := by decide +kernel
theorem d_Dates_dayNumber_39 : decode (ib f_Dates_dayNumber) 39 = .ok (.ifCond .eq 16, 3) := by decide +kernel
theorem d_Dates_dayNumber_42 : decode (ib f_Dates_dayNumber) 42 = .ok (.iload_n 3, 1) := by decide +kernel
theorem d_Dates_dayNumber_43 : decode (ib f_Dates_dayNumber) 43 = .ok (.iconst 1, 1) := by decide +kernel
theorem d_Dates_dayNumber_44 : decode (ib f_Dates_dayNumber) 44 = .ok (.iload_n 1, 1) := by decide +kernel
theorem d_Dates_dayNumber_45 : decode (ib f_Dates_dayNumber) 45 = .ok (.iload_n 2, 1) := by decide +kernel
theorem d_Dates_dayNumber_46 : decode (ib f_Dates_dayNumber) 46 = .ok (.invokestatic 13, 3) := by decide +kernel
theorem d_Dates_dayNumber_49 : decode (ib f_Dates_dayNumber) 49 = .ok (.invokestatic 9, 3) := by decide +kernel
theorem d_Dates_dayNumber_52 : decode (ib f_Dates_dayNumber) 52 = .ok (.ifCond .ne 5, 3) := by decide +kernel
theorem d_Dates_dayNumber_55 : decode (ib f_Dates_dayNumber) 55 = .ok (.iconst (-1), 1) := by decide +kernel
theorem d_Dates_dayNumber_56 : decode (ib f_Dates_dayNumber) 56 = .ok (.ireturn, 1) := by decide +kernel
theorem d_Dates_dayNumber_57 : decode (ib f_Dates_dayNumber) 57 = .ok (.iload_n 1, 1) := by decide +kernel
theorem d_Dates_dayNumber_58 : decode (ib f_Dates_dayNumber) 58 = .ok (.iconst 1, 1) := by decide +kernel
theorem d_Dates_dayNumber_59 : decode (ib f_Dates_dayNumber) 59 = .ok (.isub, 1) := by decide +kernel
theorem d_Dates_dayNumber_60 : decode (ib f_Dates_dayNumber) 60 = .ok (.istore 4, 2) := by decide +kernel
theorem d_Dates_dayNumber_62 : decode (ib f_Dates_dayNumber) 62 = .ok (.sipush 365, 3) := by decide +kernel
theorem d_Dates_dayNumber_65 : decode (ib f_Dates_dayNumber) 65 = .ok (.iload 4, 2) := by decide +kernel
theorem d_Dates_dayNumber_67 : decode (ib f_Dates_dayNumber) 67 = .ok (.imul, 1) := by decide +kernel
theorem d_Dates_dayNumber_68 : decode (ib f_Dates_dayNumber) 68 = .ok (.iload 4, 2) := by decide +kernel
theorem d_Dates_dayNumber_70 : decode (ib f_Dates_dayNumber) 70 = .ok (.iconst 4, 1) := by decide +kernel
theorem d_Dates_dayNumber_71 : decode (ib f_Dates_dayNumber) 71 = .ok (.idiv, 1) := by decide +kernel
theorem d_Dates_dayNumber_72 : decode (ib f_Dates_dayNumber) 72 = .ok (.iadd, 1) := by decide +kernel
theorem d_Dates_dayNumber_73 : decode (ib f_Dates_dayNumber) 73 = .ok (.iload 4, 2) := by decide +kernel
theorem d_Dates_dayNumber_75 : decode (ib f_Dates_dayNumber) 75 = .ok (.bipush 100, 2) := by decide +kernel
theorem d_Dates_dayNumber_77 : decode (ib f_Dates_dayNumber) 77 = .ok (.idiv, 1) := by decide +kernel
theorem d_Dates_dayNumber_78 : decode (ib f_Dates_dayNumber) 78 = .ok (.isub, 1) := by decide +kernel
theorem d_Dates_dayNumber_79 : decode (ib f_Dates_dayNumber) 79 = .ok (.iload 4, 2) := by decide +kernel
theorem d_Dates_dayNumber_81 : decode (ib f_Dates_dayNumber) 81 = .ok (.sipush 400, 3) := by decide +kernel
theorem d_Dates_dayNumber_84 : decode (ib f_Dates_dayNumber) 84 = .ok (.idiv, 1) := by decide +kernel
theorem d_Dates_dayNumber_85 : decode (ib f_Dates_dayNumber) 85 = .ok (.iadd, 1) := by decide +kernel
theorem d_Dates_dayNumber_86 : decode (ib f_Dates_dayNumber) 86 = .ok (.iload_n 3, 1) := by decide +kernel
theorem d_Dates_dayNumber_87 : decode (ib f_Dates_dayNumber) 87 = .ok (.iadd, 1) := by decide +kernel
theorem d_Dates_dayNumber_88 : decode (ib f_Dates_dayNumber) 88 = .ok (.istore 5, 2) := by decide +kernel
theorem d_Dates_dayNumber_90 : decode (ib f_Dates_dayNumber) 90 = .ok (.iconst 1, 1) := by decide +kernel
theorem d_Dates_dayNumber_91 : decode (ib f_Dates_dayNumber) 91 = .ok (.istore 6, 2) := by decide +kernel
theorem d_Dates_dayNumber_93 : decode (ib f_Dates_dayNumber) 93 = .ok (.iload 6, 2) := by decide +kernel
theorem d_Dates_dayNumber_95 : decode (ib f_Dates_dayNumber) 95 = .ok (.iload_n 2, 1) := by decide +kernel
theorem d_Dates_dayNumber_96 : decode (ib f_Dates_dayNumber) 96 = .ok (.if_icmp .ge 20, 3) := by decide +kernel
theorem d_Dates_dayNumber_99 : decode (ib f_Dates_dayNumber) 99 = .ok (.iload 5, 2) := by decide +kernel
theorem d_Dates_dayNumber_101 : decode (ib f_Dates_dayNumber) 101 = .ok (.iload_n 1, 1) := by decide +kernel
theorem d_Dates_dayNumber_102 : decode (ib f_Dates_dayNumber) 102 = .ok (.iload 6, 2) := by decide +kernel
theorem d_Dates_dayNumber_104 : decode (ib f_Dates_dayNumber) 104 = .ok (.invokestatic 13, 3) := by decide +kernel
theorem d_Dates_dayNumber_107 : decode (ib f_Dates_dayNumber) 107 = .ok (.iadd, 1) := by decide +kernel
theorem d_Dates_dayNumber_108 : decode (ib f_Dates_dayNumber) 108 = .ok (.istore 5, 2) := by decide +kernel
theorem d_Dates_dayNumber_110 : decode (ib f_Dates_dayNumber) 110 = .ok (.iinc 6 1, 3) := by decide +kernel
theorem d_Dates_dayNumber_113 : decode (ib f_Dates_dayNumber) 113 = .ok (.goto (-20), 3) := by decide +kernel
theorem d_Dates_dayNumber_116 : decode (ib f_Dates_dayNumber) 116 = .ok (.iload 5, 2) := by decide +kernel
theorem d_Dates_dayNumber_118 : decode (ib f_Dates_dayNumber) 118 = .ok (.ireturn, 1) := by decide +kernel
theorem d_Dates_monthDays_0 : decode (ib f_Dates_monthDays) 0 = .ok (.iload_n 0, 1) := by decide +kernel
theorem d_Dates_monthDays_1 : decode (ib f_Dates_monthDays) 1 = .ok (.iconst 4, 1) := by decide +kernel
theorem d_Dates_monthDays_2 : decode (ib f_Dates_monthDays) 2 = .ok (.irem, 1) := by decide +kernel
theorem d_Dates_monthDays_3 : decode (ib f_Dates_monthDays) 3 = .ok (.ifCond .ne 22, 3) := by decide +kernel
theorem d_Dates_monthDays_6 : decode (ib f_Dates_monthDays) 6 = .ok (.iload_n 0, 1) := by decide +kernel
theorem d_Dates_monthDays_7 : decode (ib f_Dates_monthDays) 7 = .ok (.bipush 100, 2) := by decide +kernel
theorem d_Dates_monthDays_9 : decode (ib f_Dates_monthDays) 9 = .ok (.irem, 1) := by decide +kernel
theorem d_Dates_monthDays_10 : decode (ib f_Dates_monthDays) 10 = .ok (.ifCond .ne 11, 3) := by decide +kernel
theorem d_Dates_monthDays_13 : decode (ib f_Dates_monthDays) 13 = .ok (.iload_n 0, 1) := by decide +kernel
theorem d_Dates_monthDays_14 : decode (ib f_Dates_monthDays) 14 = .ok (.sipush 400, 3) := by decide +kernel
theorem d_Dates_monthDays_17 : decode (ib f_Dates_monthDays) 17 = .ok (.irem, 1) := by decide +kernel
theorem d_Dates_monthDays_18 : decode (ib f_Dates_monthDays) 18 = .ok (.ifCond .ne 7, 3) := by decide +kernel
theorem d_Dates_monthDays_21 : decode (ib f_Dates_monthDays) 21 = .ok (.iconst 1, 1) := by decide +kernel
theorem d_Dates_monthDays_22 : decode (ib f_Dates_monthDays) 22 = .ok (.goto 4, 3) := by decide +kernel
theorem d_Dates_monthDays_25 : decode (ib f_Dates_monthDays) 25 = .ok (.iconst 0, 1) := by decide +kernel
theorem d_Dates_monthDays_26 : decode (ib f_Dates_monthDays) 26 = .ok (.istore_n 2, 1) := by decide +kernel
theorem d_Dates_monthDays_27 : decode (ib f_Dates_monthDays) 27 = .ok (.iload_n 1, 1) := by decide +kernel
theorem d_Dates_monthDays_28 : decode (ib f_Dates_monthDays) 28 = .ok (.iconst 2, 1) := by decide +kernel
theorem d_Dates_monthDays_29 : decode (ib f_Dates_monthDays) 29 = .ok (.if_icmp .ne 12, 3) := by decide +kernel
theorem d_Dates_monthDays_32 : decode (ib f_Dates_monthDays) 32 = .ok (.iload_n 2, 1) := by decide +kernel
theorem d_Dates_monthDays_33 : decode (ib f_Dates_monthDays) 33 = .ok (.ifCond .eq 8, 3) := by decide +kernel
theorem d_Dates_monthDays_36 : decode (ib f_Dates_monthDays) 36 = .ok (.bipush 29, 2) := by decide +kernel
theorem d_Dates_monthDays_38 : decode (ib f_Dates_monthDays) 38 = .ok (.goto 25, 3) := by decide +kernel
theorem d_Dates_monthDays_41 : decode (ib f_Dates_monthDays) 41 = .ok (.iload_n 1, 1) := by decide +kernel
theorem d_Dates_monthDays_42 : decode (ib f_Dates_monthDays) 42 = .ok (.iconst 1, 1) := by decide +kernel
theorem d_Dates_monthDays_43 : decode (ib f_Dates_monthDays) 43 = .ok (.if_icmp .lt 19, 3) := by decide +kernel
theorem d_Dates_monthDays_46 : decode (ib f_Dates_monthDays) 46 = .ok (.iload_n 1, 1) := by decide +kernel
theorem d_Dates_monthDays_47 : decode (ib f_Dates_monthDays) 47 = .ok (.bipush 12, 2) := by decide +kernel
theorem d_Dates_monthDays_49 : decode (ib f_Dates_monthDays) 49 = .ok (.if_icmp .gt 13, 3) := by decide +kernel
theorem d_Dates_monthDays_52 : decode (ib f_Dates_monthDays) 52 = .ok (.getstatic 19, 3) := by decide +kernel
theorem d_Dates_monthDays_55 : decode (ib f_Dates_monthDays) 55 = .ok (.iload_n 1, 1) := by decide +kernel
theorem d_Dates_monthDays_56 : decode (ib f_Dates_monthDays) 56 = .ok (.iconst 1, 1) := by decide +kernel
theorem d_Dates_monthDays_57 : decode (ib f_Dates_monthDays) 57 = .ok (.isub, 1) := by decide +kernel
theorem d_Dates_monthDays_58 : decode (ib f_Dates_monthDays) 58 = .ok (.iaload, 1) := by decide +kernel
theorem d_Dates_monthDays_59 : decode (ib f_Dates_monthDays) 59 = .ok (.goto 4, 3) := by decide +kernel
theorem d_Dates_monthDays_62 : decode (ib f_Dates_monthDays) 62 = .ok (.iconst 0, 1) := by decide +kernel
theorem d_Dates_monthDays_63 : decode (ib f_Dates_monthDays) 63 = .ok (.ireturn, 1) := by decide +kernel
theorem d_Law_init_0 : decode (ib f_Law_init) 0 = .ok (.aload_n 0, 1) := by decide +kernel
theorem d_Law_init_1 : decode (ib f_Law_init) 1 = .ok (.invokespecial 3, 3) := by decide +kernel
theorem d_Law_init_4 : decode (ib f_Law_init) 4 = .ok (.aload_n 0, 1) := by decide +kernel
theorem d_Law_init_5 : decode (ib f_Law_init) 5 = .ok (.new 9, 3) := by decide +kernel
theorem d_Law_init_8 : decode (ib f_Law_init) 8 = .ok (.dup, 1) := by decide +kernel
theorem d_Law_init_9 : decode (ib f_Law_init) 9 = .ok (.iconst 5, 1) := by decide +kernel
theorem d_Law_init_10 : decode (ib f_Law_init) 10 = .ok (.bipush 16, 2) := by decide +kernel
theorem d_Law_init_12 : decode (ib f_Law_init) 12 = .ok (.invokespecial 11, 3) := by decide +kernel
theorem d_Law_init_15 : decode (ib f_Law_init) 15 = .ok (.putfield 14, 3) := by decide +kernel
theorem d_Law_init_18 : decode (ib f_Law_init) 18 = .ok (.aload_n 0, 1) := by decide +kernel
theorem d_Law_init_19 : decode (ib f_Law_init) 19 = .ok (.sipush 400, 3) := by decide +kernel
theorem d_Law_init_22 : decode (ib f_Law_init) 22 = .ok (.newarray .int, 2) := by decide +kernel
theorem d_Law_init_24 : decode (ib f_Law_init) 24 = .ok (.putfield 20, 3) := by decide +kernel
theorem d_Law_init_27 : decode (ib f_Law_init) 27 = .ok (.aload_n 0, 1) := by decide +kernel
theorem d_Law_init_28 : decode (ib f_Law_init) 28 = .ok (.iconst 0, 1) := by decide +kernel
theorem d_Law_init_29 : decode (ib f_Law_init) 29 = .ok (.putfield 24, 3) := by decide +kernel
theorem d_Law_init_32 : decode (ib f_Law_init) 32 = .ok (.aload_n 0, 1) := by decide +kernel
theorem d_Law_init_33 : decode (ib f_Law_init) 33 = .ok (.bipush 64, 2) := by decide +kernel
theorem d_Law_init_35 : decode (ib f_Law_init) 35 = .ok (.newarray .int, 2) := by decide +kernel
theorem d_Law_init_37 : decode (ib f_Law_init) 37 = .ok (.putfield 28, 3) := by decide +kernel
theorem d_Law_init_40 : decode (ib f_Law_init) 40 = .ok (.return_, 1) := by decide +kernel
theorem d_Law_take_0 : decode (ib f_Law_take) 0 = .ok (.aload_n 0, 1) := by decide +kernel
theorem d_Law_take_1 : decode (ib f_Law_take) 1 = .ok (.getfield 14, 3) := by decide +kernel
theorem d_Law_take_4 : decode (ib f_Law_take) 4 = .ok (.aload_n 1, 1) := by decide +kernel
theorem d_Law_take_5 : decode (ib f_Law_take) 5 = .ok (.invokevirtual 31, 3) := by decide +kernel
theorem d_Law_take_8 : decode (ib f_Law_take) 8 = .ok (.aload_n 0, 1) := by decide +kernel
theorem d_Law_take_9 : decode (ib f_Law_take) 9 = .ok (.iload_n 3, 1) := by decide +kernel
theorem d_Law_take_10 : decode (ib f_Law_take) 10 = .ok (.aload_n 2, 1) := by decide +kernel
theorem d_Law_take_11 : decode (ib f_Law_take) 11 = .ok (.arraylength, 1) := by decide +kernel
theorem d_Law_take_12 : decode (ib f_Law_take) 12 = .ok (.invokestatic 35, 3) := by decide +kernel
theorem d_Law_take_15 : decode (ib f_Law_take) 15 = .ok (.sipush 400, 3) := by decide +kernel
theorem d_Law_take_18 : decode (ib f_Law_take) 18 = .ok (.invokestatic 35, 3) := by decide +kernel
theorem d_Law_take_21 : decode (ib f_Law_take) 21 = .ok (.putfield 24, 3) := by decide +kernel
theorem d_Law_take_24 : decode (ib f_Law_take) 24 = .ok (.aload_n 2, 1) := by decide +kernel
theorem d_Law_take_25 : decode (ib f_Law_take) 25 = .ok (.iconst 0, 1) := by decide +kernel
theorem d_Law_take_26 : decode (ib f_Law_take) 26 = .ok (.aload_n 0, 1) := by decide +kernel
theorem d_Law_take_27 : decode (ib f_Law_take) 27 = .ok (.getfield 20, 3) := by decide +kernel
theorem d_Law_take_30 : decode (ib f_Law_take) 30 = .ok (.iconst 0, 1) := by decide +kernel
theorem d_Law_take_31 : decode (ib f_Law_take) 31 = .ok (.aload_n 0, 1) := by decide +kernel
theorem d_Law_take_32 : decode (ib f_Law_take) 32 = .ok (.getfield 24, 3) := by decide +kernel
theorem d_Law_take_35 : decode (ib f_Law_take) 35 = .ok (.invokestatic 41, 3) := by decide +kernel
theorem d_Law_take_38 : decode (ib f_Law_take) 38 = .ok (.return_, 1) := by decide +kernel
theorem d_Law_tells_0 : decode (ib f_Law_tells) 0 = .ok (.aload_n 0, 1) := by decide +kernel
theorem d_Law_tells_1 : decode (ib f_Law_tells) 1 = .ok (.iload_n 1, 1) := by decide +kernel
theorem d_Law_tells_2 : decode (ib f_Law_tells) 2 = .ok (.aload_n 2, 1) := by decide +kernel
theorem d_Law_tells_3 : decode (ib f_Law_tells) 3 = .ok (.aload_n 3, 1) := by decide +kernel
theorem d_Law_tells_4 : decode (ib f_Law_tells) 4 = .ok (.invokevirtual 47, 3) := by decide +kernel
theorem d_Law_tells_7 : decode (ib f_Law_tells) 7 = .ok (.istore 4, 2) := by decide +kernel
theorem d_Law_tells_9 : decode (ib f_Law_tells) 9 = .ok (.iconst 0, 1) := by decide +kernel
theorem d_Law_tells_10 : decode (ib f_Law_tells) 10 = .ok (.istore 5, 2) := by decide +kernel
theorem d_Law_tells_12 : decode (ib f_Law_tells) 12 = .ok (.iload 5, 2) := by decide +kernel
theorem d_Law_tells_14 : decode (ib f_Law_tells) 14 = .ok (.aload_n 0, 1) := by decide +kernel
theorem d_Law_tells_15 : decode (ib f_Law_tells) 15 = .ok (.getfield 14, 3) := by decide +kernel
theorem d_Law_tells_18 : decode (ib f_Law_tells) 18 = .ok (.getfield 51, 3) := by decide +kernel
theorem d_Law_tells_21 : decode (ib f_Law_tells) 21 = .ok (.if_icmp .ge 102, 3) := by decide +kernel
theorem d_Law_tells_24 : decode (ib f_Law_tells) 24 = .ok (.aload_n 0, 1) := by decide +kernel
theorem d_Law_tells_25 : decode (ib f_Law_tells) 25 = .ok (.getfield 14, 3) := by decide +kernel
theorem d_Law_tells_28 : decode (ib f_Law_tells) 28 = .ok (.iload 5, 2) := by decide +kernel
theorem d_Law_tells_30 : decode (ib f_Law_tells) 30 = .ok (.iconst 2, 1) := by decide +kernel
theorem d_Law_tells_31 : decode (ib f_Law_tells) 31 = .ok (.invokevirtual 54, 3) := by decide +kernel
theorem d_Law_tells_34 : decode (ib f_Law_tells) 34 = .ok (.istore 6, 2) := by decide +kernel
theorem d_Law_tells_36 : decode (ib f_Law_tells) 36 = .ok (.aload_n 0, 1) := by decide +kernel
theorem d_Law_tells_37 : decode (ib f_Law_tells) 37 = .ok (.getfield 14, 3) := by decide +kernel
theorem d_Law_tells_40 : decode (ib f_Law_tells) 40 = .ok (.iload 5, 2) := by decide +kernel
theorem d_Law_tells_42 : decode (ib f_Law_tells) 42 = .ok (.iconst 3, 1) := by decide +kernel
theorem d_Law_tells_43 : decode (ib f_Law_tells) 43 = .ok (.invokevirtual 54, 3) := by decide +kernel
theorem d_Law_tells_46 : decode (ib f_Law_tells) 46 = .ok (.istore 7, 2) := by decide +kernel
theorem d_Law_tells_48 : decode (ib f_Law_tells) 48 = .ok (.aload_n 0, 1) := by decide +kernel
theorem d_Law_tells_49 : decode (ib f_Law_tells) 49 = .ok (.getfield 14, 3) := by decide +kernel
theorem d_Law_tells_52 : decode (ib f_Law_tells) 52 = .ok (.iload 5, 2) := by decide +kernel
theorem d_Law_tells_54 : decode (ib f_Law_tells) 54 = .ok (.iconst 0, 1) := by decide +kernel
theorem d_Law_tells_55 : decode (ib f_Law_tells) 55 = .ok (.invokevirtual 54, 3) := by decide +kernel
theorem d_Law_tells_58 : decode (ib f_Law_tells) 58 = .ok (.iload_n 1, 1) := by decide +kernel
theorem d_Law_tells_59 : decode (ib f_Law_tells) 59 = .ok (.if_icmp .ne 7, 3) := by decide +kernel
theorem d_Law_tells_62 : decode (ib f_Law_tells) 62 = .ok (.iconst 1, 1) := by decide +kernel
theorem d_Law_tells_63 : decode (ib f_Law_tells) 63 = .ok (.goto 4, 3) := by decide +kernel
theorem d_Law_tells_66 : decode (ib f_Law_tells) 66 = .ok (.iconst 0, 1) := by decide +kernel
theorem d_Law_tells_67 : decode (ib f_Law_tells) 67 = .ok (.istore 8, 2) := by decide +kernel
theorem d_Law_tells_69 : decode (ib f_Law_tells) 69 = .ok (.iload 8, 2) := by decide +kernel
theorem d_Law_tells_71 : decode (ib f_Law_tells) 71 = .ok (.ifCond .eq 46, 3) := by decide +kernel
theorem d_Law_tells_74 : decode (ib f_Law_tells) 74 = .ok (.iload 6, 2) := by decide +kernel
theorem d_Law_tells_76 : decode (ib f_Law_tells) 76 = .ok (.iload 7, 2) := by decide +kernel
theorem d_Law_tells_78 : decode (ib f_Law_tells) 78 = .ok (.if_icmp .eq 16, 3) := by decide +kernel
theorem d_Law_tells_81 : decode (ib f_Law_tells) 81 = .ok (.aload_n 0, 1) := by decide +kernel
theorem d_Law_tells_82 : decode (ib f_Law_tells) 82 = .ok (.iload 6, 2) := by decide +kernel
theorem d_Law_tells_84 : decode (ib f_Law_tells) 84 = .ok (.iload 7, 2) := by decide +kernel
theorem d_Law_tells_86 : decode (ib f_Law_tells) 86 = .ok (.aload_n 2, 1) := by decide +kernel
theorem d_Law_tells_87 : decode (ib f_Law_tells) 87 = .ok (.aload_n 3, 1) := by decide +kernel
theorem d_Law_tells_88 : decode (ib f_Law_tells) 88 = .ok (.invokevirtual 57, 3) := by decide +kernel
theorem d_Law_tells_91 : decode (ib f_Law_tells) 91 = .ok (.ifCond .eq 26, 3) := by decide +kernel
theorem d_Law_tells_94 : decode (ib f_Law_tells) 94 = .ok (.aload_n 0, 1) := by decide +kernel
theorem d_Law_tells_95 : decode (ib f_Law_tells) 95 = .ok (.aload_n 0, 1) := by decide +kernel
theorem d_Law_tells_96 : decode (ib f_Law_tells) 96 = .ok (.getfield 14, 3) := by decide +kernel
theorem d_Law_tells_99 : decode (ib f_Law_tells) 99 = .ok (.iload 5, 2) := by decide +kernel
theorem d_Law_tells_101 : decode (ib f_Law_tells) 101 = .ok (.iconst 1, 1) := by decide +kernel
theorem d_Law_tells_102 : decode (ib f_Law_tells) 102 = .ok (.invokevirtual 54, 3) := by decide +kernel
theorem d_Law_tells_105 : decode (ib f_Law_tells) 105 = .ok (.iload 6, 2) := by decide +kernel
theorem d_Law_tells_107 : decode (ib f_Law_tells) 107 = .ok (.aload_n 2, 1) := by decide +kernel
theorem d_Law_tells_108 : decode (ib f_Law_tells) 108 = .ok (.aload_n 3, 1) := by decide +kernel
theorem d_Law_tells_109 : decode (ib f_Law_tells) 109 = .ok (.invokevirtual 57, 3) := by decide +kernel
theorem d_Law_tells_112 : decode (ib f_Law_tells) 112 = .ok (.istore 4, 2) := by decide +kernel
theorem d_Law_tells_114 : decode (ib f_Law_tells) 114 = .ok (.goto 9, 3) := by decide +kernel
theorem d_Law_tells_117 : decode (ib f_Law_tells) 117 = .ok (.iinc 5 1, 3) := by decide +kernel
theorem d_Law_tells_120 : decode (ib f_Law_tells) 120 = .ok (.goto (-108), 3) := by decide +kernel
theorem d_Law_tells_123 : decode (ib f_Law_tells) 123 = .ok (.iconst 0, 1) := by decide +kernel
theorem d_Law_tells_124 : decode (ib f_Law_tells) 124 = .ok (.iload 4, 2) := by decide +kernel
theorem d_Law_tells_126 : decode (ib f_Law_tells) 126 = .ok (.iload_n 1, 1) := by decide +kernel
theorem d_Law_tells_127 : decode (ib f_Law_tells) 127 = .ok (.iconst 2, 1) := by decide +kernel
theorem d_Law_tells_128 : decode (ib f_Law_tells) 128 = .ok (.if_icmp .ne 8, 3) := by decide +kernel
theorem d_Law_tells_131 : decode (ib f_Law_tells) 131 = .ok (.bipush 9, 2) := by decide +kernel
theorem d_Law_tells_133 : decode (ib f_Law_tells) 133 = .ok (.goto 6, 3) := by decide +kernel
theorem d_Law_tells_136 : decode (ib f_Law_tells) 136 = .ok (.sipush 1000, 3) := by decide +kernel
theorem d_Law_tells_139 : decode (ib f_Law_tells) 139 = .ok (.invokestatic 35, 3) := by decide +kernel
theorem d_Law_tells_142 : decode (ib f_Law_tells) 142 = .ok (.invokestatic 61, 3) := by decide +kernel
theorem d_Law_tells_145 : decode (ib f_Law_tells) 145 = .ok (.ireturn, 1) := by decide +kernel
theorem d_Law_usual_0 : decode (ib f_Law_usual) 0 = .ok (.iload_n 1, 1) := by decide +kernel
theorem d_Law_usual_1 : decode (ib f_Law_usual) 1 = .ok (.lookupswitch 76 #[(0, 27), (1, 48)], 27) := by decide +kernel
theorem d_Law_usual_28 : decode (ib f_Law_usual) 28 = .ok (.bipush 10, 2) := by decide +kernel
theorem d_Law_usual_30 : decode (ib f_Law_usual) 30 = .ok (.aload_n 2, 1) := by decide +kernel
theorem d_Law_usual_31 : decode (ib f_Law_usual) 31 = .ok (.getfield 64, 3) := by decide +kernel
theorem d_Law_usual_34 : decode (ib f_Law_usual) 34 = .ok (.aload_n 3, 1) := by decide +kernel
theorem d_Law_usual_35 : decode (ib f_Law_usual) 35 = .ok (.getfield 69, 3) := by decide +kernel
theorem d_Law_usual_38 : decode (ib f_Law_usual) 38 = .ok (.iaload, 1) := by decide +kernel
theorem d_Law_usual_39 : decode (ib f_Law_usual) 39 = .ok (.imul, 1) := by decide +kernel
theorem d_Law_usual_40 : decode (ib f_Law_usual) 40 = .ok (.bipush 50, 2) := by decide +kernel
theorem d_Law_usual_42 : decode (ib f_Law_usual) 42 = .ok (.aload_n 2, 1) := by decide +kernel
theorem d_Law_usual_43 : decode (ib f_Law_usual) 43 = .ok (.getfield 74, 3) := by decide +kernel
theorem d_Law_usual_46 : decode (ib f_Law_usual) 46 = .ok (.imul, 1) := by decide +kernel
theorem d_Law_usual_47 : decode (ib f_Law_usual) 47 = .ok (.isub, 1) := by decide +kernel
theorem d_Law_usual_48 : decode (ib f_Law_usual) 48 = .ok (.ireturn, 1) := by decide +kernel
theorem d_Law_usual_49 : decode (ib f_Law_usual) 49 = .ok (.bipush 20, 2) := by decide +kernel
theorem d_Law_usual_51 : decode (ib f_Law_usual) 51 = .ok (.aload_n 3, 1) := by decide +kernel
theorem d_Law_usual_52 : decode (ib f_Law_usual) 52 = .ok (.getfield 77, 3) := by decide +kernel
theorem d_Law_usual_55 : decode (ib f_Law_usual) 55 = .ok (.imul, 1) := by decide +kernel
theorem d_Law_usual_56 : decode (ib f_Law_usual) 56 = .ok (.bipush 10, 2) := by decide +kernel
theorem d_Law_usual_58 : decode (ib f_Law_usual) 58 = .ok (.aload_n 2, 1) := by decide +kernel
theorem d_Law_usual_59 : decode (ib f_Law_usual) 59 = .ok (.getfield 74, 3) := by decide +kernel
theorem d_Law_usual_62 : decode (ib f_Law_usual) 62 = .ok (.imul, 1) := by decide +kernel
theorem d_Law_usual_63 : decode (ib f_Law_usual) 63 = .ok (.iadd, 1) := by decide +kernel
theorem d_Law_usual_64 : decode (ib f_Law_usual) 64 = .ok (.iconst 2, 1) := by decide +kernel
theorem d_Law_usual_65 : decode (ib f_Law_usual) 65 = .ok (.aload_n 2, 1) := by decide +kernel
theorem d_Law_usual_66 : decode (ib f_Law_usual) 66 = .ok (.getfield 64, 3) := by decide +kernel
theorem d_Law_usual_69 : decode (ib f_Law_usual) 69 = .ok (.aload_n 3, 1) := by decide +kernel
theorem d_Law_usual_70 : decode (ib f_Law_usual) 70 = .ok (.getfield 69, 3) := by decide +kernel
theorem d_Law_usual_73 : decode (ib f_Law_usual) 73 = .ok (.iaload, 1) := by decide +kernel
theorem d_Law_usual_74 : decode (ib f_Law_usual) 74 = .ok (.imul, 1) := by decide +kernel
theorem d_Law_usual_75 : decode (ib f_Law_usual) 75 = .ok (.isub, 1) := by decide +kernel
theorem d_Law_usual_76 : decode (ib f_Law_usual) 76 = .ok (.ireturn, 1) := by decide +kernel
theorem d_Law_usual_77 : decode (ib f_Law_usual) 77 = .ok (.aload_n 2, 1) := by decide +kernel
theorem d_Law_usual_78 : decode (ib f_Law_usual) 78 = .ok (.getfield 80, 3) := by decide +kernel
theorem d_Law_usual_81 : decode (ib f_Law_usual) 81 = .ok (.iconst 4, 1) := by decide +kernel
theorem d_Law_usual_82 : decode (ib f_Law_usual) 82 = .ok (.idiv, 1) := by decide +kernel
theorem d_Law_usual_83 : decode (ib f_Law_usual) 83 = .ok (.ireturn, 1) := by decide +kernel
theorem d_Law_value_0 : decode (ib f_Law_value) 0 = .ok (.iconst 0, 1) := by decide +kernel
theorem d_Law_value_1 : decode (ib f_Law_value) 1 = .ok (.istore 5, 2) := by decide +kernel
theorem d_Law_value_3 : decode (ib f_Law_value) 3 = .ok (.iconst 0, 1) := by decide +kernel
theorem d_Law_value_4 : decode (ib f_Law_value) 4 = .ok (.iload_n 1, 1) := by decide +kernel
theorem d_Law_value_5 : decode (ib f_Law_value) 5 = .ok (.invokestatic 61, 3) := by decide +kernel
theorem d_Law_value_8 : decode (ib f_Law_value) 8 = .ok (.istore 6, 2) := by decide +kernel
theorem d_Law_value_10 : decode (ib f_Law_value) 10 = .ok (.iload 6, 2) := by decide +kernel
theorem d_Law_value_12 : decode (ib f_Law_value) 12 = .ok (.iload_n 2, 1) := by decide +kernel
theorem d_Law_value_13 : decode (ib f_Law_value) 13 = .ok (.if_icmp .ge 173, 3) := by decide +kernel
theorem d_Law_value_16 : decode (ib f_Law_value) 16 = .ok (.iload 6, 2) := by decide +kernel
theorem d_Law_value_18 : decode (ib f_Law_value) 18 = .ok (.aload_n 0, 1) := by decide +kernel
theorem d_Law_value_19 : decode (ib f_Law_value) 19 = .ok (.getfield 24, 3) := by decide +kernel
theorem d_Law_value_22 : decode (ib f_Law_value) 22 = .ok (.if_icmp .ge 164, 3) := by decide +kernel
theorem d_Law_value_25 : decode (ib f_Law_value) 25 = .ok (.aload_n 0, 1) := by decide +kernel
theorem d_Law_value_26 : decode (ib f_Law_value) 26 = .ok (.getfield 20, 3) := by decide +kernel
theorem d_Law_value_29 : decode (ib f_Law_value) 29 = .ok (.iload 6, 2) := by decide +kernel
theorem d_Law_value_31 : decode (ib f_Law_value) 31 = .ok (.iaload, 1) := by decide +kernel
theorem d_Law_value_32 : decode (ib f_Law_value) 32 = .ok (.istore 7, 2) := by decide +kernel
theorem d_Law_value_34 : decode (ib f_Law_value) 34 = .ok (.iload 7, 2) := by decide +kernel
theorem d_Law_value_36 : decode (ib f_Law_value) 36 = .ok (.sipush 11000, 3) := by decide +kernel
theorem d_Law_value_39 : decode (ib f_Law_value) 39 = .ok (.if_icmp .ge 50, 3) := by decide +kernel
theorem d_Law_value_42 : decode (ib f_Law_value) 42 = .ok (.iload 5, 2) := by decide +kernel
theorem d_Law_value_44 : decode (ib f_Law_value) 44 = .ok (.bipush 64, 2) := by decide +kernel
theorem d_Law_value_46 : decode (ib f_Law_value) 46 = .ok (.if_icmp .lt 5, 3) := by decide +kernel
theorem d_Law_value_49 : decode (ib f_Law_value) 49 = .ok (.iconst 0, 1) := by decide +kernel
theorem d_Law_value_50 : decode (ib f_Law_value) 50 = .ok (.ireturn, 1) := by decide +kernel
theorem d_Law_value_51 : decode (ib f_Law_value) 51 = .ok (.aload_n 0, 1) := by decide +kernel
theorem d_Law_value_52 : decode (ib f_Law_value) 52 = .ok (.getfield 28, 3) := by decide +kernel
theorem d_Law_value_55 : decode (ib f_Law_value) 55 = .ok (.iload 5, 2) := by decide +kernel
theorem d_Law_value_57 : decode (ib f_Law_value) 57 = .ok (.iload 7, 2) := by decide +kernel
theorem d_Law_value_59 : decode (ib f_Law_value) 59 = .ok (.sipush 10000, 3) := by decide +kernel
theorem d_Law_value_62 : decode (ib f_Law_value) 62 = .ok (.if_icmp .ge 8, 3) := by decide +kernel
theorem d_Law_value_65 : decode (ib f_Law_value) 65 = .ok (.iload 7, 2) := by decide +kernel
theorem d_Law_value_67 : decode (ib f_Law_value) 67 = .ok (.goto 15, 3) := by decide +kernel
theorem d_Law_value_70 : decode (ib f_Law_value) 70 = .ok (.iload 7, 2) := by decide +kernel
theorem d_Law_value_72 : decode (ib f_Law_value) 72 = .ok (.sipush 10000, 3) := by decide +kernel
theorem d_Law_value_75 : decode (ib f_Law_value) 75 = .ok (.isub, 1) := by decide +kernel
theorem d_Law_value_76 : decode (ib f_Law_value) 76 = .ok (.aload_n 3, 1) := by decide +kernel
theorem d_Law_value_77 : decode (ib f_Law_value) 77 = .ok (.aload 4, 2) := by decide +kernel
theorem d_Law_value_79 : decode (ib f_Law_value) 79 = .ok (.invokestatic 83, 3) := by decide +kernel
theorem d_Law_value_82 : decode (ib f_Law_value) 82 = .ok (.iastore, 1) := by decide +kernel
theorem d_Law_value_83 : decode (ib f_Law_value) 83 = .ok (.iinc 5 1, 3) := by decide +kernel
theorem d_Law_value_86 : decode (ib f_Law_value) 86 = .ok (.goto 94, 3) := by decide +kernel
theorem d_Law_value_89 : decode (ib f_Law_value) 89 = .ok (.iload 7, 2) := by decide +kernel
theorem d_Law_value_91 : decode (ib f_Law_value) 91 = .ok (.sipush 20000, 3) := by decide +kernel
theorem d_Law_value_94 : decode (ib f_Law_value) 94 = .ok (.if_icmp .ge 11, 3) := by decide +kernel
theorem d_Law_value_97 : decode (ib f_Law_value) 97 = .ok (.iload 7, 2) := by decide +kernel
theorem d_Law_value_99 : decode (ib f_Law_value) 99 = .ok (.sipush 11008, 3) := by decide +kernel
theorem d_Law_value_102 : decode (ib f_Law_value) 102 = .ok (.if_icmp .ne 37, 3) := by decide +kernel
theorem d_Law_value_105 : decode (ib f_Law_value) 105 = .ok (.iload 5, 2) := by decide +kernel
theorem d_Law_value_107 : decode (ib f_Law_value) 107 = .ok (.iconst 1, 1) := by decide +kernel
theorem d_Law_value_108 : decode (ib f_Law_value) 108 = .ok (.if_icmp .ge 5, 3) := by decide +kernel
theorem d_Law_value_111 : decode (ib f_Law_value) 111 = .ok (.iconst 0, 1) := by decide +kernel
theorem d_Law_value_112 : decode (ib f_Law_value) 112 = .ok (.ireturn, 1) := by decide +kernel
theorem d_Law_value_113 : decode (ib f_Law_value) 113 = .ok (.aload_n 0, 1) := by decide +kernel
theorem d_Law_value_114 : decode (ib f_Law_value) 114 = .ok (.getfield 28, 3) := by decide +kernel
theorem d_Law_value_117 : decode (ib f_Law_value) 117 = .ok (.iload 5, 2) := by decide +kernel
theorem d_Law_value_119 : decode (ib f_Law_value) 119 = .ok (.iconst 1, 1) := by decide +kernel
theorem d_Law_value_120 : decode (ib f_Law_value) 120 = .ok (.isub, 1) := by decide +kernel
theorem d_Law_value_121 : decode (ib f_Law_value) 121 = .ok (.iload 7, 2) := by decide +kernel
theorem d_Law_value_123 : decode (ib f_Law_value) 123 = .ok (.aload_n 0, 1) := by decide +kernel
theorem d_Law_value_124 : decode (ib f_Law_value) 124 = .ok (.getfield 28, 3) := by decide +kernel
theorem d_Law_value_127 : decode (ib f_Law_value) 127 = .ok (.iload 5, 2) := by decide +kernel
theorem d_Law_value_129 : decode (ib f_Law_value) 129 = .ok (.iconst 1, 1) := by decide +kernel
theorem d_Law_value_130 : decode (ib f_Law_value) 130 = .ok (.isub, 1) := by decide +kernel
theorem d_Law_value_131 : decode (ib f_Law_value) 131 = .ok (.iaload, 1) := by decide +kernel
theorem d_Law_value_132 : decode (ib f_Law_value) 132 = .ok (.invokestatic 86, 3) := by decide +kernel
theorem d_Law_value_135 : decode (ib f_Law_value) 135 = .ok (.iastore, 1) := by decide +kernel
theorem d_Law_value_136 : decode (ib f_Law_value) 136 = .ok (.goto 44, 3) := by decide +kernel
theorem d_Law_value_139 : decode (ib f_Law_value) 139 = .ok (.iload 5, 2) := by decide +kernel
theorem d_Law_value_141 : decode (ib f_Law_value) 141 = .ok (.iconst 2, 1) := by decide +kernel
theorem d_Law_value_142 : decode (ib f_Law_value) 142 = .ok (.if_icmp .ge 5, 3) := by decide +kernel
theorem d_Law_value_145 : decode (ib f_Law_value) 145 = .ok (.iconst 0, 1) := by decide +kernel
theorem d_Law_value_146 : decode (ib f_Law_value) 146 = .ok (.ireturn, 1) := by decide +kernel
theorem d_Law_value_147 : decode (ib f_Law_value) 147 = .ok (.iinc 5 (-1), 3) := by decide +kernel
theorem d_Law_value_150 : decode (ib f_Law_value) 150 = .ok (.aload_n 0, 1) := by decide +kernel
theorem d_Law_value_151 : decode (ib f_Law_value) 151 = .ok (.getfield 28, 3) := by decide +kernel
theorem d_Law_value_154 : decode (ib f_Law_value) 154 = .ok (.iload 5, 2) := by decide +kernel
theorem d_Law_value_156 : decode (ib f_Law_value) 156 = .ok (.iconst 1, 1) := by decide +kernel
theorem d_Law_value_157 : decode (ib f_Law_value) 157 = .ok (.isub, 1) := by decide +kernel
theorem d_Law_value_158 : decode (ib f_Law_value) 158 = .ok (.iload 7, 2) := by decide +kernel
theorem d_Law_value_160 : decode (ib f_Law_value) 160 = .ok (.aload_n 0, 1) := by decide +kernel
theorem d_Law_value_161 : decode (ib f_Law_value) 161 = .ok (.getfield 28, 3) := by decide +kernel
theorem d_Law_value_164 : decode (ib f_Law_value) 164 = .ok (.iload 5, 2) := by decide +kernel
theorem d_Law_value_166 : decode (ib f_Law_value) 166 = .ok (.iconst 1, 1) := by decide +kernel
theorem d_Law_value_167 : decode (ib f_Law_value) 167 = .ok (.isub, 1) := by decide +kernel
theorem d_Law_value_168 : decode (ib f_Law_value) 168 = .ok (.iaload, 1) := by decide +kernel
theorem d_Law_value_169 : decode (ib f_Law_value) 169 = .ok (.aload_n 0, 1) := by decide +kernel
theorem d_Law_value_170 : decode (ib f_Law_value) 170 = .ok (.getfield 28, 3) := by decide +kernel
theorem d_Law_value_173 : decode (ib f_Law_value) 173 = .ok (.iload 5, 2) := by decide +kernel
theorem d_Law_value_175 : decode (ib f_Law_value) 175 = .ok (.iaload, 1) := by decide +kernel
theorem d_Law_value_176 : decode (ib f_Law_value) 176 = .ok (.invokestatic 89, 3) := by decide +kernel
theorem d_Law_value_179 : decode (ib f_Law_value) 179 = .ok (.iastore, 1) := by decide +kernel
theorem d_Law_value_180 : decode (ib f_Law_value) 180 = .ok (.iinc 6 1, 3) := by decide +kernel
theorem d_Law_value_183 : decode (ib f_Law_value) 183 = .ok (.goto (-173), 3) := by decide +kernel
theorem d_Law_value_186 : decode (ib f_Law_value) 186 = .ok (.iload 5, 2) := by decide +kernel
theorem d_Law_value_188 : decode (ib f_Law_value) 188 = .ok (.iconst 1, 1) := by decide +kernel
theorem d_Law_value_189 : decode (ib f_Law_value) 189 = .ok (.if_icmp .ge 7, 3) := by decide +kernel
theorem d_Law_value_192 : decode (ib f_Law_value) 192 = .ok (.iconst 0, 1) := by decide +kernel
theorem d_Law_value_193 : decode (ib f_Law_value) 193 = .ok (.goto 9, 3) := by decide +kernel
theorem d_Law_value_196 : decode (ib f_Law_value) 196 = .ok (.aload_n 0, 1) := by decide +kernel
theorem d_Law_value_197 : decode (ib f_Law_value) 197 = .ok (.getfield 28, 3) := by decide +kernel
theorem d_Law_value_200 : decode (ib f_Law_value) 200 = .ok (.iconst 0, 1) := by decide +kernel
theorem d_Law_value_201 : decode (ib f_Law_value) 201 = .ok (.iaload, 1) := by decide +kernel
theorem d_Law_value_202 : decode (ib f_Law_value) 202 = .ok (.ireturn, 1) := by decide +kernel
theorem d_Law_changed_0 : decode (ib f_Law_changed) 0 = .ok (.iload_n 0, 1) := by decide +kernel
theorem d_Law_changed_1 : decode (ib f_Law_changed) 1 = .ok (.sipush 20000, 3) := by decide +kernel
theorem d_Law_changed_4 : decode (ib f_Law_changed) 4 = .ok (.if_icmp .le 11, 3) := by decide +kernel
theorem d_Law_changed_7 : decode (ib f_Law_changed) 7 = .ok (.iload_n 1, 1) := by decide +kernel
theorem d_Law_changed_8 : decode (ib f_Law_changed) 8 = .ok (.iload_n 0, 1) := by decide +kernel
theorem d_Law_changed_9 : decode (ib f_Law_changed) 9 = .ok (.sipush 20000, 3) := by decide +kernel
theorem d_Law_changed_12 : decode (ib f_Law_changed) 12 = .ok (.isub, 1) := by decide +kernel
theorem d_Law_changed_13 : decode (ib f_Law_changed) 13 = .ok (.idiv, 1) := by decide +kernel
theorem d_Law_changed_14 : decode (ib f_Law_changed) 14 = .ok (.ireturn, 1) := by decide +kernel
theorem d_Law_changed_15 : decode (ib f_Law_changed) 15 = .ok (.iload_n 1, 1) := by decide +kernel
theorem d_Law_changed_16 : decode (ib f_Law_changed) 16 = .ok (.ifCond .ne 7, 3) := by decide +kernel
theorem d_Law_changed_19 : decode (ib f_Law_changed) 19 = .ok (.iconst 1, 1) := by decide +kernel
theorem d_Law_changed_20 : decode (ib f_Law_changed) 20 = .ok (.goto 4, 3) := by decide +kernel
theorem d_Law_changed_23 : decode (ib f_Law_changed) 23 = .ok (.iconst 0, 1) := by decide +kernel
theorem d_Law_changed_24 : decode (ib f_Law_changed) 24 = .ok (.ireturn, 1) := by decide +kernel
theorem d_Law_joined_0 : decode (ib f_Law_joined) 0 = .ok (.iload_n 0, 1) := by decide +kernel
theorem d_Law_joined_1 : decode (ib f_Law_joined) 1 = .ok (.tableswitch 92 11000 11006 #[43, 47, 51, 55, 66, 77, 88], 43) := by decide +kernel
theorem d_Law_joined_44 : decode (ib f_Law_joined) 44 = .ok (.iload_n 1, 1) := by decide +kernel
theorem d_Law_joined_45 : decode (ib f_Law_joined) 45 = .ok (.iload_n 2, 1) := by decide +kernel
theorem d_Law_joined_46 : decode (ib f_Law_joined) 46 = .ok (.iadd, 1) := by decide +kernel
theorem d_Law_joined_47 : decode (ib f_Law_joined) 47 = .ok (.ireturn, 1) := by decide +kernel
theorem d_Law_joined_48 : decode (ib f_Law_joined) 48 = .ok (.iload_n 1, 1) := by decide +kernel
theorem d_Law_joined_49 : decode (ib f_Law_joined) 49 = .ok (.iload_n 2, 1) := by decide +kernel
theorem d_Law_joined_50 : decode (ib f_Law_joined) 50 = .ok (.isub, 1) := by decide +kernel
theorem d_Law_joined_51 : decode (ib f_Law_joined) 51 = .ok (.ireturn, 1) := by decide +kernel
theorem d_Law_joined_52 : decode (ib f_Law_joined) 52 = .ok (.iload_n 1, 1) := by decide +kernel
theorem d_Law_joined_53 : decode (ib f_Law_joined) 53 = .ok (.iload_n 2, 1) := by decide +kernel
theorem d_Law_joined_54 : decode (ib f_Law_joined) 54 = .ok (.imul, 1) := by decide +kernel
theorem d_Law_joined_55 : decode (ib f_Law_joined) 55 = .ok (.ireturn, 1) := by decide +kernel
theorem d_Law_joined_56 : decode (ib f_Law_joined) 56 = .ok (.iload_n 1, 1) := by decide +kernel
theorem d_Law_joined_57 : decode (ib f_Law_joined) 57 = .ok (.iload_n 2, 1) := by decide +kernel
theorem d_Law_joined_58 : decode (ib f_Law_joined) 58 = .ok (.if_icmp .ge 7, 3) := by decide +kernel
theorem d_Law_joined_61 : decode (ib f_Law_joined) 61 = .ok (.iconst 1, 1) := by decide +kernel
theorem d_Law_joined_62 : decode (ib f_Law_joined) 62 = .ok (.goto 4, 3) := by decide +kernel
theorem d_Law_joined_65 : decode (ib f_Law_joined) 65 = .ok (.iconst 0, 1) := by decide +kernel
theorem d_Law_joined_66 : decode (ib f_Law_joined) 66 = .ok (.ireturn, 1) := by decide +kernel
theorem d_Law_joined_67 : decode (ib f_Law_joined) 67 = .ok (.iload_n 1, 1) := by decide +kernel
theorem d_Law_joined_68 : decode (ib f_Law_joined) 68 = .ok (.iload_n 2, 1) := by decide +kernel
theorem d_Law_joined_69 : decode (ib f_Law_joined) 69 = .ok (.if_icmp .ne 7, 3) := by decide +kernel
theorem d_Law_joined_72 : decode (ib f_Law_joined) 72 = .ok (.iconst 1, 1) := by decide +kernel
theorem d_Law_joined_73 : decode (ib f_Law_joined) 73 = .ok (.goto 4, 3) := by decide +kernel
theorem d_Law_joined_76 : decode (ib f_Law_joined) 76 = .ok (.iconst 0, 1) := by decide +kernel
theorem d_Law_joined_77 : decode (ib f_Law_joined) 77 = .ok (.ireturn, 1) := by decide +kernel
theorem d_Law_joined_78 : decode (ib f_Law_joined) 78 = .ok (.iload_n 1, 1) := by decide +kernel
theorem d_Law_joined_79 : decode (ib f_Law_joined) 79 = .ok (.iload_n 2, 1) := by decide +kernel
theorem d_Law_joined_80 : decode (ib f_Law_joined) 80 = .ok (.if_icmp .le 7, 3) := by decide +kernel
theorem d_Law_joined_83 : decode (ib f_Law_joined) 83 = .ok (.iconst 1, 1) := by decide +kernel
theorem d_Law_joined_84 : decode (ib f_Law_joined) 84 = .ok (.goto 4, 3) := by decide +kernel
theorem d_Law_joined_87 : decode (ib f_Law_joined) 87 = .ok (.iconst 0, 1) := by decide +kernel
theorem d_Law_joined_88 : decode (ib f_Law_joined) 88 = .ok (.ireturn, 1) := by decide +kernel
theorem d_Law_joined_89 : decode (ib f_Law_joined) 89 = .ok (.iload_n 1, 1) := by decide +kernel
theorem d_Law_joined_90 : decode (ib f_Law_joined) 90 = .ok (.iload_n 2, 1) := by decide +kernel
theorem d_Law_joined_91 : decode (ib f_Law_joined) 91 = .ok (.iand, 1) := by decide +kernel
theorem d_Law_joined_92 : decode (ib f_Law_joined) 92 = .ok (.ireturn, 1) := by decide +kernel
theorem d_Law_joined_93 : decode (ib f_Law_joined) 93 = .ok (.iload_n 1, 1) := by decide +kernel
theorem d_Law_joined_94 : decode (ib f_Law_joined) 94 = .ok (.iload_n 2, 1) := by decide +kernel
theorem d_Law_joined_95 : decode (ib f_Law_joined) 95 = .ok (.ior, 1) := by decide +kernel
theorem d_Law_joined_96 : decode (ib f_Law_joined) 96 = .ok (.ireturn, 1) := by decide +kernel
theorem d_Law_variable_0 : decode (ib f_Law_variable) 0 = .ok (.iload_n 0, 1) := by decide +kernel
theorem d_Law_variable_1 : decode (ib f_Law_variable) 1 = .ok (.tableswitch 114 7 16 #[55, 60, 65, 70, 75, 85, 90, 95, 100, 105], 55) := by decide +kernel
theorem d_Law_variable_56 : decode (ib f_Law_variable) 56 = .ok (.aload_n 2, 1) := by decide +kernel
theorem d_Law_variable_57 : decode (ib f_Law_variable) 57 = .ok (.getfield 93, 3) := by decide +kernel
theorem d_Law_variable_60 : decode (ib f_Law_variable) 60 = .ok (.ireturn, 1) := by decide +kernel
theorem d_Law_variable_61 : decode (ib f_Law_variable) 61 = .ok (.aload_n 2, 1) := by decide +kernel
theorem d_Law_variable_62 : decode (ib f_Law_variable) 62 = .ok (.getfield 96, 3) := by decide +kernel
theorem d_Law_variable_65 : decode (ib f_Law_variable) 65 = .ok (.ireturn, 1) := by decide +kernel
theorem d_Law_variable_66 : decode (ib f_Law_variable) 66 = .ok (.aload_n 2, 1) := by decide +kernel
theorem d_Law_variable_67 : decode (ib f_Law_variable) 67 = .ok (.getfield 77, 3) := by decide +kernel
theorem d_Law_variable_70 : decode (ib f_Law_variable) 70 = .ok (.ireturn, 1) := by decide +kernel
theorem d_Law_variable_71 : decode (ib f_Law_variable) 71 = .ok (.aload_n 2, 1) := by decide +kernel
theorem d_Law_variable_72 : decode (ib f_Law_variable) 72 = .ok (.getfield 69, 3) := by decide +kernel
theorem d_Law_variable_75 : decode (ib f_Law_variable) 75 = .ok (.ireturn, 1) := by decide +kernel
theorem d_Law_variable_76 : decode (ib f_Law_variable) 76 = .ok (.aload_n 1, 1) := by decide +kernel
theorem d_Law_variable_77 : decode (ib f_Law_variable) 77 = .ok (.getfield 64, 3) := by decide +kernel
theorem d_Law_variable_80 : decode (ib f_Law_variable) 80 = .ok (.aload_n 2, 1) := by decide +kernel
theorem d_Law_variable_81 : decode (ib f_Law_variable) 81 = .ok (.getfield 69, 3) := by decide +kernel
theorem d_Law_variable_84 : decode (ib f_Law_variable) 84 = .ok (.iaload, 1) := by decide +kernel
theorem d_Law_variable_85 : decode (ib f_Law_variable) 85 = .ok (.ireturn, 1) := by decide +kernel
theorem d_Law_variable_86 : decode (ib f_Law_variable) 86 = .ok (.aload_n 2, 1) := by decide +kernel
theorem d_Law_variable_87 : decode (ib f_Law_variable) 87 = .ok (.getfield 97, 3) := by decide +kernel
theorem d_Law_variable_90 : decode (ib f_Law_variable) 90 = .ok (.ireturn, 1) := by decide +kernel
theorem d_Law_variable_91 : decode (ib f_Law_variable) 91 = .ok (.aload_n 2, 1) := by decide +kernel
theorem d_Law_variable_92 : decode (ib f_Law_variable) 92 = .ok (.getfield 100, 3) := by decide +kernel
theorem d_Law_variable_95 : decode (ib f_Law_variable) 95 = .ok (.ireturn, 1) := by decide +kernel
theorem d_Law_variable_96 : decode (ib f_Law_variable) 96 = .ok (.aload_n 1, 1) := by decide +kernel
theorem d_Law_variable_97 : decode (ib f_Law_variable) 97 = .ok (.getfield 74, 3) := by decide +kernel
theorem d_Law_variable_100 : decode (ib f_Law_variable) 100 = .ok (.ireturn, 1) := by decide +kernel
theorem d_Law_variable_101 : decode (ib f_Law_variable) 101 = .ok (.aload_n 1, 1) := by decide +kernel
theorem d_Law_variable_102 : decode (ib f_Law_variable) 102 = .ok (.getfield 80, 3) := by decide +kernel
theorem d_Law_variable_105 : decode (ib f_Law_variable) 105 = .ok (.ireturn, 1) := by decide +kernel
theorem d_Law_variable_106 : decode (ib f_Law_variable) 106 = .ok (.aload_n 1, 1) := by decide +kernel
theorem d_Law_variable_107 : decode (ib f_Law_variable) 107 = .ok (.aload_n 2, 1) := by decide +kernel
theorem d_Law_variable_108 : decode (ib f_Law_variable) 108 = .ok (.getfield 69, 3) := by decide +kernel
theorem d_Law_variable_111 : decode (ib f_Law_variable) 111 = .ok (.invokevirtual 103, 3) := by decide +kernel
theorem d_Law_variable_114 : decode (ib f_Law_variable) 114 = .ok (.ireturn, 1) := by decide +kernel
theorem d_Law_variable_115 : decode (ib f_Law_variable) 115 = .ok (.aload_n 1, 1) := by decide +kernel
theorem d_Law_variable_116 : decode (ib f_Law_variable) 116 = .ok (.getfield 107, 3) := by decide +kernel
theorem d_Law_variable_119 : decode (ib f_Law_variable) 119 = .ok (.ireturn, 1) := by decide +kernel
theorem d_Layers_init_0 : decode (ib f_Layers_init) 0 = .ok (.aload_n 0, 1) := by decide +kernel
theorem d_Layers_init_1 : decode (ib f_Layers_init) 1 = .ok (.invokespecial 3, 3) := by decide +kernel
theorem d_Layers_init_4 : decode (ib f_Layers_init) 4 = .ok (.aload_n 0, 1) := by decide +kernel
theorem d_Layers_init_5 : decode (ib f_Layers_init) 5 = .ok (.bipush 12, 2) := by decide +kernel
theorem d_Layers_init_7 : decode (ib f_Layers_init) 7 = .ok (.newarray .int, 2) := by decide +kernel
theorem d_Layers_init_9 : decode (ib f_Layers_init) 9 = .ok (.putfield 9, 3) := by decide +kernel
theorem d_Layers_init_12 : decode (ib f_Layers_init) 12 = .ok (.aload_n 0, 1) := by decide +kernel
theorem d_Layers_init_13 : decode (ib f_Layers_init) 13 = .ok (.bipush 12, 2) := by decide +kernel
theorem d_Layers_init_15 : decode (ib f_Layers_init) 15 = .ok (.newarray .int, 2) := by decide +kernel
theorem d_Layers_init_17 : decode (ib f_Layers_init) 17 = .ok (.putfield 15, 3) := by decide +kernel
theorem d_Layers_init_20 : decode (ib f_Layers_init) 20 = .ok (.return_, 1) := by decide +kernel
theorem d_Layers_learn_0 : decode (ib f_Layers_learn) 0 = .ok (.aload_n 0, 1) := by decide +kernel
theorem d_Layers_learn_1 : decode (ib f_Layers_learn) 1 = .ok (.getfield 9, 3) := by decide +kernel
theorem d_Layers_learn_4 : decode (ib f_Layers_learn) 4 = .ok (.iconst 0, 1) := by decide +kernel
theorem d_Layers_learn_5 : decode (ib f_Layers_learn) 5 = .ok (.invokestatic 18, 3) := by decide +kernel
theorem d_Layers_learn_8 : decode (ib f_Layers_learn) 8 = .ok (.iconst 0, 1) := by decide +kernel
theorem d_Layers_learn_9 : decode (ib f_Layers_learn) 9 = .ok (.istore_n 2, 1) := by decide +kernel
theorem d_Layers_learn_10 : decode (ib f_Layers_learn) 10 = .ok (.iload_n 2, 1) := by decide +kernel
theorem d_Layers_learn_11 : decode (ib f_Layers_learn) 11 = .ok (.aload_n 1, 1) := by decide +kernel
theorem d_Layers_learn_12 : decode (ib f_Layers_learn) 12 = .ok (.getfield 24, 3) := by decide +kernel
theorem d_Layers_learn_15 : decode (ib f_Layers_learn) 15 = .ok (.if_icmp .ge 43, 3) := by decide +kernel
theorem d_Layers_learn_18 : decode (ib f_Layers_learn) 18 = .ok (.aload_n 1, 1) := by decide +kernel
theorem d_Layers_learn_19 : decode (ib f_Layers_learn) 19 = .ok (.iload_n 2, 1) := by decide +kernel
theorem d_Layers_learn_20 : decode (ib f_Layers_learn) 20 = .ok (.iconst 0, 1) := by decide +kernel
theorem d_Layers_learn_21 : decode (ib f_Layers_learn) 21 = .ok (.invokevirtual 30, 3) := by decide +kernel
theorem d_Layers_learn_24 : decode (ib f_Layers_learn) 24 = .ok (.istore_n 3, 1) := by decide +kernel
theorem d_Layers_learn_25 : decode (ib f_Layers_learn) 25 = .ok (.iload_n 3, 1) := by decide +kernel
theorem d_Layers_learn_26 : decode (ib f_Layers_learn) 26 = .ok (.ifCond .lt 26, 3) := by decide +kernel
theorem d_Layers_learn_29 : decode (ib f_Layers_learn) 29 = .ok (.iload_n 3, 1) := by decide +kernel
theorem d_Layers_learn_30 : decode (ib f_Layers_learn) 30 = .ok (.bipush 12, 2) := by decide +kernel
theorem d_Layers_learn_32 : decode (ib f_Layers_learn) 32 = .ok (.if_icmp .ge 20, 3) := by decide +kernel
theorem d_Layers_learn_35 : decode (ib f_Layers_learn) 35 = .ok (.aload_n 0, 1) := by decide +kernel
theorem d_Layers_learn_36 : decode (ib f_Layers_learn) 36 = .ok (.getfield 9, 3) := by decide +kernel
theorem d_Layers_learn_39 : decode (ib f_Layers_learn) 39 = .ok (.iload_n 3, 1) := by decide +kernel
theorem d_Layers_learn_40 : decode (ib f_Layers_learn) 40 = .ok (.dup2, 1) := by decide +kernel
theorem d_Layers_learn_41 : decode (ib f_Layers_learn) 41 = .ok (.iaload, 1) := by decide +kernel
theorem d_Layers_learn_42 : decode (ib f_Layers_learn) 42 = .ok (.iconst 1, 1) := by decide +kernel
theorem d_Layers_learn_43 : decode (ib f_Layers_learn) 43 = .ok (.aload_n 1, 1) := by decide +kernel
theorem d_Layers_learn_44 : decode (ib f_Layers_learn) 44 = .ok (.iload_n 2, 1) := by decide +kernel
theorem d_Layers_learn_45 : decode (ib f_Layers_learn) 45 = .ok (.iconst 1, 1) := by decide +kernel
theorem d_Layers_learn_46 : decode (ib f_Layers_learn) 46 = .ok (.invokevirtual 30, 3) := by decide +kernel
theorem d_Layers_learn_49 : decode (ib f_Layers_learn) 49 = .ok (.ishl, 1) := by decide +kernel
theorem d_Layers_learn_50 : decode (ib f_Layers_learn) 50 = .ok (.ior, 1) := by decide +kernel
theorem d_Layers_learn_51 : decode (ib f_Layers_learn) 51 = .ok (.iastore, 1) := by decide +kernel
theorem d_Layers_learn_52 : decode (ib f_Layers_learn) 52 = .ok (.iinc 2 1, 3) := by decide +kernel
theorem d_Layers_learn_55 : decode (ib f_Layers_learn) 55 = .ok (.goto (-45), 3) := by decide +kernel
theorem d_Layers_learn_58 : decode (ib f_Layers_learn) 58 = .ok (.aload_n 0, 1) := by decide +kernel
theorem d_Layers_learn_59 : decode (ib f_Layers_learn) 59 = .ok (.getfield 9, 3) := by decide +kernel
theorem d_Layers_learn_62 : decode (ib f_Layers_learn) 62 = .ok (.iconst 0, 1) := by decide +kernel
theorem d_Layers_learn_63 : decode (ib f_Layers_learn) 63 = .ok (.aload_n 0, 1) := by decide +kernel
theorem d_Layers_learn_64 : decode (ib f_Layers_learn) 64 = .ok (.getfield 15, 3) := by decide +kernel
theorem d_Layers_learn_67 : decode (ib f_Layers_learn) 67 = .ok (.iconst 0, 1) := by decide +kernel
theorem d_Layers_learn_68 : decode (ib f_Layers_learn) 68 = .ok (.bipush 12, 2) := by decide +kernel
theorem d_Layers_learn_70 : decode (ib f_Layers_learn) 70 = .ok (.invokestatic 34, 3) := by decide +kernel
theorem d_Layers_learn_73 : decode (ib f_Layers_learn) 73 = .ok (.iconst 0, 1) := by decide +kernel
theorem d_Layers_learn_74 : decode (ib f_Layers_learn) 74 = .ok (.istore_n 2, 1) := by decide +kernel
theorem d_Layers_learn_75 : decode (ib f_Layers_learn) 75 = .ok (.iload_n 2, 1) := by decide +kernel
theorem d_Layers_learn_76 : decode (ib f_Layers_learn) 76 = .ok (.bipush 12, 2) := by decide +kernel
theorem d_Layers_learn_78 : decode (ib f_Layers_learn) 78 = .ok (.if_icmp .ge 56, 3) := by decide +kernel
theorem d_Layers_learn_81 : decode (ib f_Layers_learn) 81 = .ok (.iconst 0, 1) := by decide +kernel
theorem d_Layers_learn_82 : decode (ib f_Layers_learn) 82 = .ok (.istore_n 3, 1) := by decide +kernel
theorem d_Layers_learn_83 : decode (ib f_Layers_learn) 83 = .ok (.iload_n 3, 1) := by decide +kernel
theorem d_Layers_learn_84 : decode (ib f_Layers_learn) 84 = .ok (.bipush 12, 2) := by decide +kernel
theorem d_Layers_learn_86 : decode (ib f_Layers_learn) 86 = .ok (.if_icmp .ge 42, 3) := by decide +kernel
theorem d_Layers_learn_89 : decode (ib f_Layers_learn) 89 = .ok (.aload_n 0, 1) := by decide +kernel
theorem d_Layers_learn_90 : decode (ib f_Layers_learn) 90 = .ok (.getfield 15, 3) := by decide +kernel
theorem d_Layers_learn_93 : decode (ib f_Layers_learn) 93 = .ok (.iload_n 3, 1) := by decide +kernel
theorem d_Layers_learn_94 : decode (ib f_Layers_learn) 94 = .ok (.dup2, 1) := by decide +kernel
theorem d_Layers_learn_95 : decode (ib f_Layers_learn) 95 = .ok (.iaload, 1) := by decide +kernel
theorem d_Layers_learn_96 : decode (ib f_Layers_learn) 96 = .ok (.aload_n 0, 1) := by decide +kernel
theorem d_Layers_learn_97 : decode (ib f_Layers_learn) 97 = .ok (.getfield 15, 3) := by decide +kernel
theorem d_Layers_learn_100 : decode (ib f_Layers_learn) 100 = .ok (.iload_n 3, 1) := by decide +kernel
theorem d_Layers_learn_101 : decode (ib f_Layers_learn) 101 = .ok (.iaload, 1) := by decide +kernel
theorem d_Layers_learn_102 : decode (ib f_Layers_learn) 102 = .ok (.iload_n 2, 1) := by decide +kernel
theorem d_Layers_learn_103 : decode (ib f_Layers_learn) 103 = .ok (.ishr, 1) := by decide +kernel
theorem d_Layers_learn_104 : decode (ib f_Layers_learn) 104 = .ok (.iconst 1, 1) := by decide +kernel
theorem d_Layers_learn_105 : decode (ib f_Layers_learn) 105 = .ok (.iand, 1) := by decide +kernel
theorem d_Layers_learn_106 : decode (ib f_Layers_learn) 106 = .ok (.iconst 1, 1) := by decide +kernel
theorem d_Layers_learn_107 : decode (ib f_Layers_learn) 107 = .ok (.if_icmp .ne 12, 3) := by decide +kernel
theorem d_Layers_learn_110 : decode (ib f_Layers_learn) 110 = .ok (.aload_n 0, 1) := by decide +kernel
theorem d_Layers_learn_111 : decode (ib f_Layers_learn) 111 = .ok (.getfield 15, 3) := by decide +kernel
theorem d_Layers_learn_114 : decode (ib f_Layers_learn) 114 = .ok (.iload_n 2, 1) := by decide +kernel
theorem d_Layers_learn_115 : decode (ib f_Layers_learn) 115 = .ok (.iaload, 1) := by decide +kernel
theorem d_Layers_learn_116 : decode (ib f_Layers_learn) 116 = .ok (.goto 4, 3) := by decide +kernel
theorem d_Layers_learn_119 : decode (ib f_Layers_learn) 119 = .ok (.iconst 0, 1) := by decide +kernel
theorem d_Layers_learn_120 : decode (ib f_Layers_learn) 120 = .ok (.ior, 1) := by decide +kernel
theorem d_Layers_learn_121 : decode (ib f_Layers_learn) 121 = .ok (.iastore, 1) := by decide +kernel
theorem d_Layers_learn_122 : decode (ib f_Layers_learn) 122 = .ok (.iinc 3 1, 3) := by decide +kernel
theorem d_Layers_learn_125 : decode (ib f_Layers_learn) 125 = .ok (.goto (-42), 3) := by decide +kernel
theorem d_Layers_learn_128 : decode (ib f_Layers_learn) 128 = .ok (.iinc 2 1, 3) := by decide +kernel
theorem d_Layers_learn_131 : decode (ib f_Layers_learn) 131 = .ok (.goto (-56), 3) := by decide +kernel
theorem d_Layers_learn_134 : decode (ib f_Layers_learn) 134 = .ok (.return_, 1) := by decide +kernel
theorem d_Layers_firsts_0 : decode (ib f_Layers_firsts) 0 = .ok (.iconst 0, 1) := by decide +kernel
theorem d_Layers_firsts_1 : decode (ib f_Layers_firsts) 1 = .ok (.istore_n 1, 1) := by decide +kernel
theorem d_Layers_firsts_2 : decode (ib f_Layers_firsts) 2 = .ok (.iconst 0, 1) := by decide +kernel
theorem d_Layers_firsts_3 : decode (ib f_Layers_firsts) 3 = .ok (.istore_n 2, 1) := by decide +kernel
theorem d_Layers_firsts_4 : decode (ib f_Layers_firsts) 4 = .ok (.iload_n 2, 1) := by decide +kernel
theorem d_Layers_firsts_5 : decode (ib f_Layers_firsts) 5 = .ok (.bipush 12, 2) := by decide +kernel
theorem d_Layers_firsts_7 : decode (ib f_Layers_firsts) 7 = .ok (.if_icmp .ge 28, 3) := by decide +kernel
theorem d_Layers_firsts_10 : decode (ib f_Layers_firsts) 10 = .ok (.iload_n 1, 1) := by decide +kernel
theorem d_Layers_firsts_11 : decode (ib f_Layers_firsts) 11 = .ok (.aload_n 0, 1) := by decide +kernel
theorem d_Layers_firsts_12 : decode (ib f_Layers_firsts) 12 = .ok (.getfield 9, 3) := by decide +kernel
theorem d_Layers_firsts_15 : decode (ib f_Layers_firsts) 15 = .ok (.iload_n 2, 1) := by decide +kernel
theorem d_Layers_firsts_16 : decode (ib f_Layers_firsts) 16 = .ok (.iaload, 1) := by decide +kernel
theorem d_Layers_firsts_17 : decode (ib f_Layers_firsts) 17 = .ok (.ifCond .ne 9, 3) := by decide +kernel
theorem d_Layers_firsts_20 : decode (ib f_Layers_firsts) 20 = .ok (.iconst 1, 1) := by decide +kernel
theorem d_Layers_firsts_21 : decode (ib f_Layers_firsts) 21 = .ok (.iload_n 2, 1) := by decide +kernel
theorem d_Layers_firsts_22 : decode (ib f_Layers_firsts) 22 = .ok (.ishl, 1) := by decide +kernel
theorem d_Layers_firsts_23 : decode (ib f_Layers_firsts) 23 = .ok (.goto 4, 3) := by decide +kernel
theorem d_Layers_firsts_26 : decode (ib f_Layers_firsts) 26 = .ok (.iconst 0, 1) := by decide +kernel
theorem d_Layers_firsts_27 : decode (ib f_Layers_firsts) 27 = .ok (.ior, 1) := by decide +kernel
theorem d_Layers_firsts_28 : decode (ib f_Layers_firsts) 28 = .ok (.istore_n 1, 1) := by decide +kernel
theorem d_Layers_firsts_29 : decode (ib f_Layers_firsts) 29 = .ok (.iinc 2 1, 3) := by decide +kernel
theorem d_Layers_firsts_32 : decode (ib f_Layers_firsts) 32 = .ok (.goto (-28), 3) := by decide +kernel
theorem d_Layers_firsts_35 : decode (ib f_Layers_firsts) 35 = .ok (.iload_n 1, 1) := by decide +kernel
theorem d_Layers_firsts_36 : decode (ib f_Layers_firsts) 36 = .ok (.ireturn, 1) := by decide +kernel
theorem d_Layers_rounds_0 : decode (ib f_Layers_rounds) 0 = .ok (.iconst 0, 1) := by decide +kernel
theorem d_Layers_rounds_1 : decode (ib f_Layers_rounds) 1 = .ok (.istore_n 1, 1) := by decide +kernel
theorem d_Layers_rounds_2 : decode (ib f_Layers_rounds) 2 = .ok (.iconst 0, 1) := by decide +kernel
theorem d_Layers_rounds_3 : decode (ib f_Layers_rounds) 3 = .ok (.istore_n 2, 1) := by decide +kernel
theorem d_Layers_rounds_4 : decode (ib f_Layers_rounds) 4 = .ok (.iload_n 2, 1) := by decide +kernel
theorem d_Layers_rounds_5 : decode (ib f_Layers_rounds) 5 = .ok (.bipush 12, 2) := by decide +kernel
theorem d_Layers_rounds_7 : decode (ib f_Layers_rounds) 7 = .ok (.if_icmp .ge 22, 3) := by decide +kernel
theorem d_Layers_rounds_10 : decode (ib f_Layers_rounds) 10 = .ok (.iload_n 1, 1) := by decide +kernel
theorem d_Layers_rounds_11 : decode (ib f_Layers_rounds) 11 = .ok (.aload_n 0, 1) := by decide +kernel
theorem d_Layers_rounds_12 : decode (ib f_Layers_rounds) 12 = .ok (.getfield 15, 3) := by decide +kernel
theorem d_Layers_rounds_15 : decode (ib f_Layers_rounds) 15 = .ok (.iload_n 2, 1) := by decide +kernel
theorem d_Layers_rounds_16 : decode (ib f_Layers_rounds) 16 = .ok (.iaload, 1) := by decide +kernel
theorem d_Layers_rounds_17 : decode (ib f_Layers_rounds) 17 = .ok (.iconst 1, 1) := by decide +kernel
theorem d_Layers_rounds_18 : decode (ib f_Layers_rounds) 18 = .ok (.iload_n 2, 1) := by decide +kernel
theorem d_Layers_rounds_19 : decode (ib f_Layers_rounds) 19 = .ok (.ishl, 1) := by decide +kernel
theorem d_Layers_rounds_20 : decode (ib f_Layers_rounds) 20 = .ok (.iand, 1) := by decide +kernel
theorem d_Layers_rounds_21 : decode (ib f_Layers_rounds) 21 = .ok (.ior, 1) := by decide +kernel
theorem d_Layers_rounds_22 : decode (ib f_Layers_rounds) 22 = .ok (.istore_n 1, 1) := by decide +kernel
theorem d_Layers_rounds_23 : decode (ib f_Layers_rounds) 23 = .ok (.iinc 2 1, 3) := by decide +kernel
theorem d_Layers_rounds_26 : decode (ib f_Layers_rounds) 26 = .ok (.goto (-22), 3) := by decide +kernel
theorem d_Layers_rounds_29 : decode (ib f_Layers_rounds) 29 = .ok (.iload_n 1, 1) := by decide +kernel
theorem d_Layers_rounds_30 : decode (ib f_Layers_rounds) 30 = .ok (.ireturn, 1) := by decide +kernel
theorem d_Layers_tops_0 : decode (ib f_Layers_tops) 0 = .ok (.iconst 0, 1) := by decide +kernel
theorem d_Layers_tops_1 : decode (ib f_Layers_tops) 1 = .ok (.istore_n 1, 1) := by decide +kernel
theorem d_Layers_tops_2 : decode (ib f_Layers_tops) 2 = .ok (.iconst 0, 1) := by decide +kernel
theorem d_Layers_tops_3 : decode (ib f_Layers_tops) 3 = .ok (.istore_n 2, 1) := by decide +kernel
theorem d_Layers_tops_4 : decode (ib f_Layers_tops) 4 = .ok (.iload_n 2, 1) := by decide +kernel
theorem d_Layers_tops_5 : decode (ib f_Layers_tops) 5 = .ok (.bipush 12, 2) := by decide +kernel
theorem d_Layers_tops_7 : decode (ib f_Layers_tops) 7 = .ok (.if_icmp .ge 18, 3) := by decide +kernel
theorem d_Layers_tops_10 : decode (ib f_Layers_tops) 10 = .ok (.iload_n 1, 1) := by decide +kernel
theorem d_Layers_tops_11 : decode (ib f_Layers_tops) 11 = .ok (.aload_n 0, 1) := by decide +kernel
theorem d_Layers_tops_12 : decode (ib f_Layers_tops) 12 = .ok (.getfield 9, 3) := by decide +kernel
theorem d_Layers_tops_15 : decode (ib f_Layers_tops) 15 = .ok (.iload_n 2, 1) := by decide +kernel
theorem d_Layers_tops_16 : decode (ib f_Layers_tops) 16 = .ok (.iaload, 1) := by decide +kernel
theorem d_Layers_tops_17 : decode (ib f_Layers_tops) 17 = .ok (.ior, 1) := by decide +kernel
theorem d_Layers_tops_18 : decode (ib f_Layers_tops) 18 = .ok (.istore_n 1, 1) := by decide +kernel
theorem d_Layers_tops_19 : decode (ib f_Layers_tops) 19 = .ok (.iinc 2 1, 3) := by decide +kernel
theorem d_Layers_tops_22 : decode (ib f_Layers_tops) 22 = .ok (.goto (-18), 3) := by decide +kernel
theorem d_Layers_tops_25 : decode (ib f_Layers_tops) 25 = .ok (.sipush 4095, 3) := by decide +kernel
theorem d_Layers_tops_28 : decode (ib f_Layers_tops) 28 = .ok (.iload_n 1, 1) := by decide +kernel
theorem d_Layers_tops_29 : decode (ib f_Layers_tops) 29 = .ok (.iconst (-1), 1) := by decide +kernel
theorem d_Layers_tops_30 : decode (ib f_Layers_tops) 30 = .ok (.ixor, 1) := by decide +kernel
theorem d_Layers_tops_31 : decode (ib f_Layers_tops) 31 = .ok (.iand, 1) := by decide +kernel
theorem d_Layers_tops_32 : decode (ib f_Layers_tops) 32 = .ok (.ireturn, 1) := by decide +kernel
theorem d_Layers_earliest_0 : decode (ib f_Layers_earliest) 0 = .ok (.iload_n 1, 1) := by decide +kernel
theorem d_Layers_earliest_1 : decode (ib f_Layers_earliest) 1 = .ok (.ifCond .lt 23, 3) := by decide +kernel
theorem d_Layers_earliest_4 : decode (ib f_Layers_earliest) 4 = .ok (.iload_n 1, 1) := by decide +kernel
theorem d_Layers_earliest_5 : decode (ib f_Layers_earliest) 5 = .ok (.bipush 12, 2) := by decide +kernel
theorem d_Layers_earliest_7 : decode (ib f_Layers_earliest) 7 = .ok (.if_icmp .ge 17, 3) := by decide +kernel
theorem d_Layers_earliest_10 : decode (ib f_Layers_earliest) 10 = .ok (.aload_n 0, 1) := by decide +kernel
theorem d_Layers_earliest_11 : decode (ib f_Layers_earliest) 11 = .ok (.getfield 15, 3) := by decide +kernel
theorem d_Layers_earliest_14 : decode (ib f_Layers_earliest) 14 = .ok (.iload_n 1, 1) := by decide +kernel
theorem d_Layers_earliest_15 : decode (ib f_Layers_earliest) 15 = .ok (.iaload, 1) := by decide +kernel
theorem d_Layers_earliest_16 : decode (ib f_Layers_earliest) 16 = .ok (.aload_n 0, 1) := by decide +kernel
theorem d_Layers_earliest_17 : decode (ib f_Layers_earliest) 17 = .ok (.invokevirtual 40, 3) := by decide +kernel
theorem d_Layers_earliest_20 : decode (ib f_Layers_earliest) 20 = .ok (.iand, 1) := by decide +kernel
theorem d_Layers_earliest_21 : decode (ib f_Layers_earliest) 21 = .ok (.ifCond .eq 5, 3) := by decide +kernel
theorem d_Layers_earliest_24 : decode (ib f_Layers_earliest) 24 = .ok (.iconst (-1), 1) := by decide +kernel
theorem d_Layers_earliest_25 : decode (ib f_Layers_earliest) 25 = .ok (.ireturn, 1) := by decide +kernel
theorem d_Layers_earliest_26 : decode (ib f_Layers_earliest) 26 = .ok (.aload_n 0, 1) := by decide +kernel
theorem d_Layers_earliest_27 : decode (ib f_Layers_earliest) 27 = .ok (.getfield 15, 3) := by decide +kernel
theorem d_Layers_earliest_30 : decode (ib f_Layers_earliest) 30 = .ok (.iload_n 1, 1) := by decide +kernel
theorem d_Layers_earliest_31 : decode (ib f_Layers_earliest) 31 = .ok (.iaload, 1) := by decide +kernel
theorem d_Layers_earliest_32 : decode (ib f_Layers_earliest) 32 = .ok (.invokestatic 44, 3) := by decide +kernel
theorem d_Layers_earliest_35 : decode (ib f_Layers_earliest) 35 = .ok (.ireturn, 1) := by decide +kernel
theorem d_Layers_above_0 : decode (ib f_Layers_above) 0 = .ok (.iconst 0, 1) := by decide +kernel
theorem d_Layers_above_1 : decode (ib f_Layers_above) 1 = .ok (.istore_n 2, 1) := by decide +kernel
theorem d_Layers_above_2 : decode (ib f_Layers_above) 2 = .ok (.iconst 0, 1) := by decide +kernel
theorem d_Layers_above_3 : decode (ib f_Layers_above) 3 = .ok (.istore_n 3, 1) := by decide +kernel
theorem d_Layers_above_4 : decode (ib f_Layers_above) 4 = .ok (.iload_n 3, 1) := by decide +kernel
theorem d_Layers_above_5 : decode (ib f_Layers_above) 5 = .ok (.bipush 12, 2) := by decide +kernel
theorem d_Layers_above_7 : decode (ib f_Layers_above) 7 = .ok (.if_icmp .ge 33, 3) := by decide +kernel
theorem d_Layers_above_10 : decode (ib f_Layers_above) 10 = .ok (.iload_n 2, 1) := by decide +kernel
theorem d_Layers_above_11 : decode (ib f_Layers_above) 11 = .ok (.aload_n 0, 1) := by decide +kernel
theorem d_Layers_above_12 : decode (ib f_Layers_above) 12 = .ok (.getfield 15, 3) := by decide +kernel
theorem d_Layers_above_15 : decode (ib f_Layers_above) 15 = .ok (.iload_n 3, 1) := by decide +kernel
theorem d_Layers_above_16 : decode (ib f_Layers_above) 16 = .ok (.iaload, 1) := by decide +kernel
theorem d_Layers_above_17 : decode (ib f_Layers_above) 17 = .ok (.iload_n 1, 1) := by decide +kernel
theorem d_Layers_above_18 : decode (ib f_Layers_above) 18 = .ok (.ishr, 1) := by decide +kernel
theorem d_Layers_above_19 : decode (ib f_Layers_above) 19 = .ok (.iconst 1, 1) := by decide +kernel
theorem d_Layers_above_20 : decode (ib f_Layers_above) 20 = .ok (.iand, 1) := by decide +kernel
theorem d_Layers_above_21 : decode (ib f_Layers_above) 21 = .ok (.iconst 1, 1) := by decide +kernel
theorem d_Layers_above_22 : decode (ib f_Layers_above) 22 = .ok (.if_icmp .ne 9, 3) := by decide +kernel
theorem d_Layers_above_25 : decode (ib f_Layers_above) 25 = .ok (.iconst 1, 1) := by decide +kernel
theorem d_Layers_above_26 : decode (ib f_Layers_above) 26 = .ok (.iload_n 3, 1) := by decide +kernel
theorem d_Layers_above_27 : decode (ib f_Layers_above) 27 = .ok (.ishl, 1) := by decide +kernel
theorem d_Layers_above_28 : decode (ib f_Layers_above) 28 = .ok (.goto 4, 3) := by decide +kernel
theorem d_Layers_above_31 : decode (ib f_Layers_above) 31 = .ok (.iconst 0, 1) := by decide +kernel
theorem d_Layers_above_32 : decode (ib f_Layers_above) 32 = .ok (.ior, 1) := by decide +kernel
theorem d_Layers_above_33 : decode (ib f_Layers_above) 33 = .ok (.istore_n 2, 1) := by decide +kernel
theorem d_Layers_above_34 : decode (ib f_Layers_above) 34 = .ok (.iinc 3 1, 3) := by decide +kernel
theorem d_Layers_above_37 : decode (ib f_Layers_above) 37 = .ok (.goto (-33), 3) := by decide +kernel
theorem d_Layers_above_40 : decode (ib f_Layers_above) 40 = .ok (.iload_n 2, 1) := by decide +kernel
theorem d_Layers_above_41 : decode (ib f_Layers_above) 41 = .ok (.ireturn, 1) := by decide +kernel
theorem d_Reader_init_0 : decode (ib f_Reader_init) 0 = .ok (.aload_n 0, 1) := by decide +kernel
theorem d_Reader_init_1 : decode (ib f_Reader_init) 1 = .ok (.invokespecial 3, 3) := by decide +kernel
theorem d_Reader_init_4 : decode (ib f_Reader_init) 4 = .ok (.aload_n 0, 1) := by decide +kernel
theorem d_Reader_init_5 : decode (ib f_Reader_init) 5 = .ok (.sipush 400, 3) := by decide +kernel
theorem d_Reader_init_8 : decode (ib f_Reader_init) 8 = .ok (.newarray .int, 2) := by decide +kernel
theorem d_Reader_init_10 : decode (ib f_Reader_init) 10 = .ok (.putfield 9, 3) := by decide +kernel
theorem d_Reader_init_13 : decode (ib f_Reader_init) 13 = .ok (.aload_n 0, 1) := by decide +kernel
theorem d_Reader_init_14 : decode (ib f_Reader_init) 14 = .ok (.iconst 0, 1) := by decide +kernel
theorem d_Reader_init_15 : decode (ib f_Reader_init) 15 = .ok (.putfield 15, 3) := by decide +kernel
theorem d_Reader_init_18 : decode (ib f_Reader_init) 18 = .ok (.aload_n 0, 1) := by decide +kernel
theorem d_Reader_init_19 : decode (ib f_Reader_init) 19 = .ok (.iconst 0, 1) := by decide +kernel
theorem d_Reader_init_20 : decode (ib f_Reader_init) 20 = .ok (.putfield 19, 3) := by decide +kernel
theorem d_Reader_init_23 : decode (ib f_Reader_init) 23 = .ok (.aload_n 0, 1) := by decide +kernel
theorem d_Reader_init_24 : decode (ib f_Reader_init) 24 = .ok (.iconst (-1), 1) := by decide +kernel
theorem d_Reader_init_25 : decode (ib f_Reader_init) 25 = .ok (.putfield 22, 3) := by decide +kernel
theorem d_Reader_init_28 : decode (ib f_Reader_init) 28 = .ok (.aload_n 0, 1) := by decide +kernel
theorem d_Reader_init_29 : decode (ib f_Reader_init) 29 = .ok (.new 25, 3) := by decide +kernel
theorem d_Reader_init_32 : decode (ib f_Reader_init) 32 = .ok (.dup, 1) := by decide +kernel
theorem d_Reader_init_33 : decode (ib f_Reader_init) 33 = .ok (.iconst 5, 1) := by decide +kernel
theorem d_Reader_init_34 : decode (ib f_Reader_init) 34 = .ok (.bipush 16, 2) := by decide +kernel
theorem d_Reader_init_36 : decode (ib f_Reader_init) 36 = .ok (.invokespecial 27, 3) := by decide +kernel
theorem d_Reader_init_39 : decode (ib f_Reader_init) 39 = .ok (.putfield 30, 3) := by decide +kernel
theorem d_Reader_init_42 : decode (ib f_Reader_init) 42 = .ok (.aload_n 0, 1) := by decide +kernel
theorem d_Reader_init_43 : decode (ib f_Reader_init) 43 = .ok (.sipush 400, 3) := by decide +kernel
theorem d_Reader_init_46 : decode (ib f_Reader_init) 46 = .ok (.newarray .int, 2) := by decide +kernel
theorem d_Reader_init_48 : decode (ib f_Reader_init) 48 = .ok (.putfield 34, 3) := by decide +kernel
theorem d_Reader_init_51 : decode (ib f_Reader_init) 51 = .ok (.aload_n 0, 1) := by decide +kernel
theorem d_Reader_init_52 : decode (ib f_Reader_init) 52 = .ok (.iconst 0, 1) := by decide +kernel
theorem d_Reader_init_53 : decode (ib f_Reader_init) 53 = .ok (.putfield 37, 3) := by decide +kernel
theorem d_Reader_init_56 : decode (ib f_Reader_init) 56 = .ok (.aload_n 0, 1) := by decide +kernel
theorem d_Reader_init_57 : decode (ib f_Reader_init) 57 = .ok (.sipush 401, 3) := by decide +kernel
theorem d_Reader_init_60 : decode (ib f_Reader_init) 60 = .ok (.newarray .int, 2) := by decide +kernel
theorem d_Reader_init_62 : decode (ib f_Reader_init) 62 = .ok (.putfield 40, 3) := by decide +kernel
theorem d_Reader_init_65 : decode (ib f_Reader_init) 65 = .ok (.aload_n 0, 1) := by decide +kernel
theorem d_Reader_init_66 : decode (ib f_Reader_init) 66 = .ok (.sipush 401, 3) := by decide +kernel
theorem d_Reader_init_69 : decode (ib f_Reader_init) 69 = .ok (.newarray .int, 2) := by decide +kernel
theorem d_Reader_init_71 : decode (ib f_Reader_init) 71 = .ok (.putfield 43, 3) := by decide +kernel
theorem d_Reader_init_74 : decode (ib f_Reader_init) 74 = .ok (.aload_n 0, 1) := by decide +kernel
theorem d_Reader_init_75 : decode (ib f_Reader_init) 75 = .ok (.sipush 401, 3) := by decide +kernel
theorem d_Reader_init_78 : decode (ib f_Reader_init) 78 = .ok (.newarray .int, 2) := by decide +kernel
theorem d_Reader_init_80 : decode (ib f_Reader_init) 80 = .ok (.putfield 46, 3) := by decide +kernel
theorem d_Reader_init_83 : decode (ib f_Reader_init) 83 = .ok (.aload_n 0, 1) := by decide +kernel
theorem d_Reader_init_84 : decode (ib f_Reader_init) 84 = .ok (.iconst 0, 1) := by decide +kernel
theorem d_Reader_init_85 : decode (ib f_Reader_init) 85 = .ok (.putfield 49, 3) := by decide +kernel
theorem d_Reader_init_88 : decode (ib f_Reader_init) 88 = .ok (.aload_n 0, 1) := by decide +kernel
theorem d_Reader_init_89 : decode (ib f_Reader_init) 89 = .ok (.iconst 0, 1) := by decide +kernel
theorem d_Reader_init_90 : decode (ib f_Reader_init) 90 = .ok (.putfield 52, 3) := by decide +kernel
theorem d_Reader_init_93 : decode (ib f_Reader_init) 93 = .ok (.aload_n 0, 1) := by decide +kernel
theorem d_Reader_init_94 : decode (ib f_Reader_init) 94 = .ok (.iconst 5, 1) := by decide +kernel
theorem d_Reader_init_95 : decode (ib f_Reader_init) 95 = .ok (.newarray .int, 2) := by decide +kernel
theorem d_Reader_init_97 : decode (ib f_Reader_init) 97 = .ok (.putfield 55, 3) := by decide +kernel
theorem d_Reader_init_100 : decode (ib f_Reader_init) 100 = .ok (.return_, 1) := by decide +kernel
theorem d_Reader_append_0 : decode (ib f_Reader_append) 0 = .ok (.bipush 24, 2) := by decide +kernel
theorem d_Reader_append_2 : decode (ib f_Reader_append) 2 = .ok (.istore_n 2, 1) := by decide +kernel
theorem d_Reader_append_3 : decode (ib f_Reader_append) 3 = .ok (.iload_n 2, 1) := by decide +kernel
theorem d_Reader_append_4 : decode (ib f_Reader_append) 4 = .ok (.ifCond .lt 45, 3) := by decide +kernel
theorem d_Reader_append_7 : decode (ib f_Reader_append) 7 = .ok (.aload_n 0, 1) := by decide +kernel
theorem d_Reader_append_8 : decode (ib f_Reader_append) 8 = .ok (.getfield 15, 3) := by decide +kernel
theorem d_Reader_append_11 : decode (ib f_Reader_append) 11 = .ok (.sipush 400, 3) := by decide +kernel
theorem d_Reader_append_14 : decode (ib f_Reader_append) 14 = .ok (.if_icmp .ge 35, 3) := by decide +kernel
theorem d_Reader_append_17 : decode (ib f_Reader_append) 17 = .ok (.aload_n 0, 1) := by decide +kernel
theorem d_Reader_append_18 : decode (ib f_Reader_append) 18 = .ok (.getfield 9, 3) := by decide +kernel
theorem d_Reader_append_21 : decode (ib f_Reader_append) 21 = .ok (.aload_n 0, 1) := by decide +kernel
theorem d_Reader_append_22 : decode (ib f_Reader_append) 22 = .ok (.getfield 15, 3) := by decide +kernel
theorem d_Reader_append_25 : decode (ib f_Reader_append) 25 = .ok (.iload_n 1, 1) := by decide +kernel
theorem d_Reader_append_26 : decode (ib f_Reader_append) 26 = .ok (.iload_n 2, 1) := by decide +kernel
theorem d_Reader_append_27 : decode (ib f_Reader_append) 27 = .ok (.iushr, 1) := by decide +kernel
theorem d_Reader_append_28 : decode (ib f_Reader_append) 28 = .ok (.sipush 255, 3) := by decide +kernel
theorem d_Reader_append_31 : decode (ib f_Reader_append) 31 = .ok (.iand, 1) := by decide +kernel
theorem d_Reader_append_32 : decode (ib f_Reader_append) 32 = .ok (.iastore, 1) := by decide +kernel
theorem d_Reader_append_33 : decode (ib f_Reader_append) 33 = .ok (.aload_n 0, 1) := by decide +kernel
theorem d_Reader_append_34 : decode (ib f_Reader_append) 34 = .ok (.dup, 1) := by decide +kernel
theorem d_Reader_append_35 : decode (ib f_Reader_append) 35 = .ok (.getfield 15, 3) := by decide +kernel
theorem d_Reader_append_38 : decode (ib f_Reader_append) 38 = .ok (.iconst 1, 1) := by decide +kernel
theorem d_Reader_append_39 : decode (ib f_Reader_append) 39 = .ok (.iadd, 1) := by decide +kernel
theorem d_Reader_append_40 : decode (ib f_Reader_append) 40 = .ok (.putfield 15, 3) := by decide +kernel
theorem d_Reader_append_43 : decode (ib f_Reader_append) 43 = .ok (.iinc 2 (-8), 3) := by decide +kernel
theorem d_Reader_append_46 : decode (ib f_Reader_append) 46 = .ok (.goto (-43), 3) := by decide +kernel
theorem d_Reader_append_49 : decode (ib f_Reader_append) 49 = .ok (.return_, 1) := by decide +kernel
theorem d_Reader_read_0 : decode (ib f_Reader_read) 0 = .ok (.aload_n 0, 1) := by decide +kernel
theorem d_Reader_read_1 : decode (ib f_Reader_read) 1 = .ok (.iconst 0, 1) := by decide +kernel
theorem d_Reader_read_2 : decode (ib f_Reader_read) 2 = .ok (.putfield 19, 3) := by decide +kernel
theorem d_Reader_read_5 : decode (ib f_Reader_read) 5 = .ok (.aload_n 0, 1) := by decide +kernel
theorem d_Reader_read_6 : decode (ib f_Reader_read) 6 = .ok (.iconst (-1), 1) := by decide +kernel
theorem d_Reader_read_7 : decode (ib f_Reader_read) 7 = .ok (.putfield 22, 3) := by decide +kernel
theorem d_Reader_read_10 : decode (ib f_Reader_read) 10 = .ok (.aload_n 0, 1) := by decide +kernel
theorem d_Reader_read_11 : decode (ib f_Reader_read) 11 = .ok (.getfield 30, 3) := by decide +kernel
theorem d_Reader_read_14 : decode (ib f_Reader_read) 14 = .ok (.iconst 0, 1) := by decide +kernel
theorem d_Reader_read_15 : decode (ib f_Reader_read) 15 = .ok (.putfield 58, 3) := by decide +kernel
theorem d_Reader_read_18 : decode (ib f_Reader_read) 18 = .ok (.aload_n 0, 1) := by decide +kernel
theorem d_Reader_read_19 : decode (ib f_Reader_read) 19 = .ok (.iconst 0, 1) := by decide +kernel
theorem d_Reader_read_20 : decode (ib f_Reader_read) 20 = .ok (.putfield 37, 3) := by decide +kernel
theorem d_Reader_read_23 : decode (ib f_Reader_read) 23 = .ok (.aload_n 0, 1) := by decide +kernel
theorem d_Reader_read_24 : decode (ib f_Reader_read) 24 = .ok (.invokevirtual 61, 3) := by decide +kernel
theorem d_Reader_read_27 : decode (ib f_Reader_read) 27 = .ok (.aload_n 0, 1) := by decide +kernel
theorem d_Reader_read_28 : decode (ib f_Reader_read) 28 = .ok (.iconst 0, 1) := by decide +kernel
theorem d_Reader_read_29 : decode (ib f_Reader_read) 29 = .ok (.putfield 15, 3) := by decide +kernel
theorem d_Reader_read_32 : decode (ib f_Reader_read) 32 = .ok (.iload_n 1, 1) := by decide +kernel
theorem d_Reader_read_33 : decode (ib f_Reader_read) 33 = .ok (.ifCond .lt 8, 3) := by decide +kernel
theorem d_Reader_read_36 : decode (ib f_Reader_read) 36 = .ok (.iload_n 1, 1) := by decide +kernel
theorem d_Reader_read_37 : decode (ib f_Reader_read) 37 = .ok (.iconst 3, 1) := by decide +kernel
theorem d_Reader_read_38 : decode (ib f_Reader_read) 38 = .ok (.if_icmp .le 5, 3) := by decide +kernel
theorem d_Reader_read_41 : decode (ib f_Reader_read) 41 = .ok (.iconst (-1), 1) := by decide +kernel
theorem d_Reader_read_42 : decode (ib f_Reader_read) 42 = .ok (.ireturn, 1) := by decide +kernel
theorem d_Reader_read_43 : decode (ib f_Reader_read) 43 = .ok (.iconst 0, 1) := by decide +kernel
theorem d_Reader_read_44 : decode (ib f_Reader_read) 44 = .ok (.istore_n 2, 1) := by decide +kernel
theorem d_Reader_read_45 : decode (ib f_Reader_read) 45 = .ok (.iload_n 2, 1) := by decide +kernel
theorem d_Reader_read_46 : decode (ib f_Reader_read) 46 = .ok (.bipush 16, 2) := by decide +kernel
theorem d_Reader_read_48 : decode (ib f_Reader_read) 48 = .ok (.if_icmp .gt 104, 3) := by decide +kernel
theorem d_Reader_read_51 : decode (ib f_Reader_read) 51 = .ok (.aload_n 0, 1) := by decide +kernel
theorem d_Reader_read_52 : decode (ib f_Reader_read) 52 = .ok (.getfield 40, 3) := by decide +kernel
theorem d_Reader_read_55 : decode (ib f_Reader_read) 55 = .ok (.aload_n 0, 1) := by decide +kernel
theorem d_Reader_read_56 : decode (ib f_Reader_read) 56 = .ok (.getfield 52, 3) := by decide +kernel
theorem d_Reader_read_59 : decode (ib f_Reader_read) 59 = .ok (.iaload, 1) := by decide +kernel
theorem d_Reader_read_60 : decode (ib f_Reader_read) 60 = .ok (.ifCond .eq 92, 3) := by decide +kernel
theorem d_Reader_read_63 : decode (ib f_Reader_read) 63 = .ok (.iload_n 1, 1) := by decide +kernel
theorem d_Reader_read_64 : decode (ib f_Reader_read) 64 = .ok (.ifCond .ne 10, 3) := by decide +kernel
theorem d_Reader_read_67 : decode (ib f_Reader_read) 67 = .ok (.aload_n 0, 1) := by decide +kernel
theorem d_Reader_read_68 : decode (ib f_Reader_read) 68 = .ok (.invokevirtual 64, 3) := by decide +kernel
theorem d_Reader_read_71 : decode (ib f_Reader_read) 71 = .ok (.goto 31, 3) := by decide +kernel
theorem d_Reader_read_74 : decode (ib f_Reader_read) 74 = .ok (.iload_n 1, 1) := by decide +kernel
theorem d_Reader_read_75 : decode (ib f_Reader_read) 75 = .ok (.iconst 1, 1) := by decide +kernel
theorem d_Reader_read_76 : decode (ib f_Reader_read) 76 = .ok (.if_icmp .ne 10, 3) := by decide +kernel
theorem d_Reader_read_79 : decode (ib f_Reader_read) 79 = .ok (.aload_n 0, 1) := by decide +kernel
theorem d_Reader_read_80 : decode (ib f_Reader_read) 80 = .ok (.invokevirtual 68, 3) := by decide +kernel
theorem d_Reader_read_83 : decode (ib f_Reader_read) 83 = .ok (.goto 19, 3) := by decide +kernel
theorem d_Reader_read_86 : decode (ib f_Reader_read) 86 = .ok (.iload_n 1, 1) := by decide +kernel
theorem d_Reader_read_87 : decode (ib f_Reader_read) 87 = .ok (.iconst 2, 1) := by decide +kernel
theorem d_Reader_read_88 : decode (ib f_Reader_read) 88 = .ok (.if_icmp .ne 10, 3) := by decide +kernel
theorem d_Reader_read_91 : decode (ib f_Reader_read) 91 = .ok (.aload_n 0, 1) := by decide +kernel
theorem d_Reader_read_92 : decode (ib f_Reader_read) 92 = .ok (.invokevirtual 71, 3) := by decide +kernel
theorem d_Reader_read_95 : decode (ib f_Reader_read) 95 = .ok (.goto 7, 3) := by decide +kernel
theorem d_Reader_read_98 : decode (ib f_Reader_read) 98 = .ok (.aload_n 0, 1) := by decide +kernel
theorem d_Reader_read_99 : decode (ib f_Reader_read) 99 = .ok (.invokevirtual 74, 3) := by decide +kernel
theorem d_Reader_read_102 : decode (ib f_Reader_read) 102 = .ok (.istore_n 3, 1) := by decide +kernel
theorem d_Reader_read_103 : decode (ib f_Reader_read) 103 = .ok (.iload_n 3, 1) := by decide +kernel
theorem d_Reader_read_104 : decode (ib f_Reader_read) 104 = .ok (.ifCond .ne 5, 3) := by decide +kernel
theorem d_Reader_read_107 : decode (ib f_Reader_read) 107 = .ok (.iconst (-1), 1) := by decide +kernel
theorem d_Reader_read_108 : decode (ib f_Reader_read) 108 = .ok (.ireturn, 1) := by decide +kernel
theorem d_Reader_read_109 : decode (ib f_Reader_read) 109 = .ok (.aload_n 0, 1) := by decide +kernel
theorem d_Reader_read_110 : decode (ib f_Reader_read) 110 = .ok (.getfield 30, 3) := by decide +kernel
theorem d_Reader_read_113 : decode (ib f_Reader_read) 113 = .ok (.aload_n 0, 1) := by decide +kernel
theorem d_Reader_read_114 : decode (ib f_Reader_read) 114 = .ok (.getfield 55, 3) := by decide +kernel
theorem d_Reader_read_117 : decode (ib f_Reader_read) 117 = .ok (.iconst 0, 1) := by decide +kernel
theorem d_Reader_read_118 : decode (ib f_Reader_read) 118 = .ok (.iaload, 1) := by decide +kernel
theorem d_Reader_read_119 : decode (ib f_Reader_read) 119 = .ok (.aload_n 0, 1) := by decide +kernel
theorem d_Reader_read_120 : decode (ib f_Reader_read) 120 = .ok (.getfield 55, 3) := by decide +kernel
theorem d_Reader_read_123 : decode (ib f_Reader_read) 123 = .ok (.iconst 1, 1) := by decide +kernel
theorem d_Reader_read_124 : decode (ib f_Reader_read) 124 = .ok (.iaload, 1) := by decide +kernel
theorem d_Reader_read_125 : decode (ib f_Reader_read) 125 = .ok (.aload_n 0, 1) := by decide +kernel
theorem d_Reader_read_126 : decode (ib f_Reader_read) 126 = .ok (.getfield 55, 3) := by decide +kernel
theorem d_Reader_read_129 : decode (ib f_Reader_read) 129 = .ok (.iconst 2, 1) := by decide +kernel
theorem d_Reader_read_130 : decode (ib f_Reader_read) 130 = .ok (.iaload, 1) := by decide +kernel
theorem d_Reader_read_131 : decode (ib f_Reader_read) 131 = .ok (.aload_n 0, 1) := by decide +kernel
theorem d_Reader_read_132 : decode (ib f_Reader_read) 132 = .ok (.getfield 55, 3) := by decide +kernel
theorem d_Reader_read_135 : decode (ib f_Reader_read) 135 = .ok (.iconst 3, 1) := by decide +kernel
theorem d_Reader_read_136 : decode (ib f_Reader_read) 136 = .ok (.iaload, 1) := by decide +kernel
theorem d_Reader_read_137 : decode (ib f_Reader_read) 137 = .ok (.aload_n 0, 1) := by decide +kernel
theorem d_Reader_read_138 : decode (ib f_Reader_read) 138 = .ok (.getfield 55, 3) := by decide +kernel
theorem d_Reader_read_141 : decode (ib f_Reader_read) 141 = .ok (.iconst 4, 1) := by decide +kernel
theorem d_Reader_read_142 : decode (ib f_Reader_read) 142 = .ok (.iaload, 1) := by decide +kernel
theorem d_Reader_read_143 : decode (ib f_Reader_read) 143 = .ok (.invokevirtual 77, 3) := by decide +kernel
theorem d_Reader_read_146 : decode (ib f_Reader_read) 146 = .ok (.iinc 2 1, 3) := by decide +kernel
theorem d_Reader_read_149 : decode (ib f_Reader_read) 149 = .ok (.goto (-104), 3) := by decide +kernel
theorem d_Reader_read_152 : decode (ib f_Reader_read) 152 = .ok (.aload_n 0, 1) := by decide +kernel
theorem d_Reader_read_153 : decode (ib f_Reader_read) 153 = .ok (.getfield 30, 3) := by decide +kernel
theorem d_Reader_read_156 : decode (ib f_Reader_read) 156 = .ok (.getfield 58, 3) := by decide +kernel
theorem d_Reader_read_159 : decode (ib f_Reader_read) 159 = .ok (.ireturn, 1) := by decide +kernel
theorem d_Reader_split_0 : decode (ib f_Reader_split) 0 = .ok (.aload_n 0, 1) := by decide +kernel
theorem d_Reader_split_1 : decode (ib f_Reader_split) 1 = .ok (.iconst 0, 1) := by decide +kernel
theorem d_Reader_split_2 : decode (ib f_Reader_split) 2 = .ok (.putfield 49, 3) := by decide +kernel
theorem d_Reader_split_5 : decode (ib f_Reader_split) 5 = .ok (.aload_n 0, 1) := by decide +kernel
theorem d_Reader_split_6 : decode (ib f_Reader_split) 6 = .ok (.iconst 0, 1) := by decide +kernel
theorem d_Reader_split_7 : decode (ib f_Reader_split) 7 = .ok (.putfield 52, 3) := by decide +kernel
theorem d_Reader_split_10 : decode (ib f_Reader_split) 10 = .ok (.iconst 0, 1) := by decide +kernel
theorem d_Reader_split_11 : decode (ib f_Reader_split) 11 = .ok (.istore_n 1, 1) := by decide +kernel
theorem d_Reader_split_12 : decode (ib f_Reader_split) 12 = .ok (.iconst 0, 1) := by decide +kernel
theorem d_Reader_split_13 : decode (ib f_Reader_split) 13 = .ok (.istore_n 2, 1) := by decide +kernel
theorem d_Reader_split_14 : decode (ib f_Reader_split) 14 = .ok (.iload_n 2, 1) := by decide +kernel
theorem d_Reader_split_15 : decode (ib f_Reader_split) 15 = .ok (.sipush 400, 3) := by decide +kernel
theorem d_Reader_split_18 : decode (ib f_Reader_split) 18 = .ok (.if_icmp .ge 51, 3) := by decide +kernel
theorem d_Reader_split_21 : decode (ib f_Reader_split) 21 = .ok (.iload_n 1, 1) := by decide +kernel
theorem d_Reader_split_22 : decode (ib f_Reader_split) 22 = .ok (.aload_n 0, 1) := by decide +kernel
theorem d_Reader_split_23 : decode (ib f_Reader_split) 23 = .ok (.getfield 15, 3) := by decide +kernel
theorem d_Reader_split_26 : decode (ib f_Reader_split) 26 = .ok (.if_icmp .ge 43, 3) := by decide +kernel
theorem d_Reader_split_29 : decode (ib f_Reader_split) 29 = .ok (.aload_n 0, 1) := by decide +kernel
theorem d_Reader_split_30 : decode (ib f_Reader_split) 30 = .ok (.getfield 9, 3) := by decide +kernel
theorem d_Reader_split_33 : decode (ib f_Reader_split) 33 = .ok (.iload_n 1, 1) := by decide +kernel
theorem d_Reader_split_34 : decode (ib f_Reader_split) 34 = .ok (.iaload, 1) := by decide +kernel
theorem d_Reader_split_35 : decode (ib f_Reader_split) 35 = .ok (.bipush 32, 2) := by decide +kernel
theorem d_Reader_split_37 : decode (ib f_Reader_split) 37 = .ok (.if_icmp .eq 14, 3) := by decide +kernel
theorem d_Reader_split_40 : decode (ib f_Reader_split) 40 = .ok (.aload_n 0, 1) := by decide +kernel
theorem d_Reader_split_41 : decode (ib f_Reader_split) 41 = .ok (.getfield 9, 3) := by decide +kernel
theorem d_Reader_split_44 : decode (ib f_Reader_split) 44 = .ok (.iload_n 1, 1) := by decide +kernel
theorem d_Reader_split_45 : decode (ib f_Reader_split) 45 = .ok (.iaload, 1) := by decide +kernel
theorem d_Reader_split_46 : decode (ib f_Reader_split) 46 = .ok (.bipush 10, 2) := by decide +kernel
theorem d_Reader_split_48 : decode (ib f_Reader_split) 48 = .ok (.if_icmp .ne 9, 3) := by decide +kernel
theorem d_Reader_split_51 : decode (ib f_Reader_split) 51 = .ok (.iload_n 1, 1) := by decide +kernel
theorem d_Reader_split_52 : decode (ib f_Reader_split) 52 = .ok (.iconst 1, 1) := by decide +kernel
theorem d_Reader_split_53 : decode (ib f_Reader_split) 53 = .ok (.iadd, 1) := by decide +kernel
theorem d_Reader_split_54 : decode (ib f_Reader_split) 54 = .ok (.goto 8, 3) := by decide +kernel
theorem d_Reader_split_57 : decode (ib f_Reader_split) 57 = .ok (.aload_n 0, 1) := by decide +kernel
theorem d_Reader_split_58 : decode (ib f_Reader_split) 58 = .ok (.iload_n 1, 1) := by decide +kernel
theorem d_Reader_split_59 : decode (ib f_Reader_split) 59 = .ok (.invokevirtual 81, 3) := by decide +kernel
theorem d_Reader_split_62 : decode (ib f_Reader_split) 62 = .ok (.istore_n 1, 1) := by decide +kernel
theorem d_Reader_split_63 : decode (ib f_Reader_split) 63 = .ok (.iinc 2 1, 3) := by decide +kernel
theorem d_Reader_split_66 : decode (ib f_Reader_split) 66 = .ok (.goto (-52), 3) := by decide +kernel
theorem d_Reader_split_69 : decode (ib f_Reader_split) 69 = .ok (.aload_n 0, 1) := by decide +kernel
theorem d_Reader_split_70 : decode (ib f_Reader_split) 70 = .ok (.iconst 0, 1) := by decide +kernel
theorem d_Reader_split_71 : decode (ib f_Reader_split) 71 = .ok (.iconst 0, 1) := by decide +kernel
theorem d_Reader_split_72 : decode (ib f_Reader_split) 72 = .ok (.aload_n 0, 1) := by decide +kernel
theorem d_Reader_split_73 : decode (ib f_Reader_split) 73 = .ok (.getfield 15, 3) := by decide +kernel
theorem d_Reader_split_76 : decode (ib f_Reader_split) 76 = .ok (.invokevirtual 85, 3) := by decide +kernel
theorem d_Reader_split_79 : decode (ib f_Reader_split) 79 = .ok (.return_, 1) := by decide +kernel
theorem d_Reader_token_0 : decode (ib f_Reader_token) 0 = .ok (.iload_n 1, 1) := by decide +kernel
theorem d_Reader_token_1 : decode (ib f_Reader_token) 1 = .ok (.iconst 1, 1) := by decide +kernel
theorem d_Reader_token_2 : decode (ib f_Reader_token) 2 = .ok (.iadd, 1) := by decide +kernel
theorem d_Reader_token_3 : decode (ib f_Reader_token) 3 = .ok (.istore_n 2, 1) := by decide +kernel
theorem d_Reader_token_4 : decode (ib f_Reader_token) 4 = .ok (.aload_n 0, 1) := by decide +kernel
theorem d_Reader_token_5 : decode (ib f_Reader_token) 5 = .ok (.getfield 9, 3) := by decide +kernel
theorem d_Reader_token_8 : decode (ib f_Reader_token) 8 = .ok (.iload_n 1, 1) := by decide +kernel
theorem d_Reader_token_9 : decode (ib f_Reader_token) 9 = .ok (.iaload, 1) := by decide +kernel
theorem d_Reader_token_10 : decode (ib f_Reader_token) 10 = .ok (.invokestatic 89, 3) := by decide +kernel
theorem d_Reader_token_13 : decode (ib f_Reader_token) 13 = .ok (.ifCond .eq 55, 3) := by decide +kernel
theorem d_Reader_token_16 : decode (ib f_Reader_token) 16 = .ok (.iload_n 2, 1) := by decide +kernel
theorem d_Reader_token_17 : decode (ib f_Reader_token) 17 = .ok (.aload_n 0, 1) := by decide +kernel
theorem d_Reader_token_18 : decode (ib f_Reader_token) 18 = .ok (.getfield 15, 3) := by decide +kernel
theorem d_Reader_token_21 : decode (ib f_Reader_token) 21 = .ok (.if_icmp .ge 21, 3) := by decide +kernel
theorem d_Reader_token_24 : decode (ib f_Reader_token) 24 = .ok (.aload_n 0, 1) := by decide +kernel
theorem d_Reader_token_25 : decode (ib f_Reader_token) 25 = .ok (.getfield 9, 3) := by decide +kernel
theorem d_Reader_token_28 : decode (ib f_Reader_token) 28 = .ok (.iload_n 2, 1) := by decide +kernel
theorem d_Reader_token_29 : decode (ib f_Reader_token) 29 = .ok (.iaload, 1) := by decide +kernel
theorem d_Reader_token_30 : decode (ib f_Reader_token) 30 = .ok (.invokestatic 89, 3) := by decide +kernel
theorem d_Reader_token_33 : decode (ib f_Reader_token) 33 = .ok (.ifCond .eq 9, 3) := by decide +kernel
theorem d_Reader_token_36 : decode (ib f_Reader_token) 36 = .ok (.iinc 2 1, 3) := by decide +kernel
theorem d_Reader_token_39 : decode (ib f_Reader_token) 39 = .ok (.goto (-23), 3) := by decide +kernel
theorem d_Reader_token_42 : decode (ib f_Reader_token) 42 = .ok (.aload_n 0, 1) := by decide +kernel
theorem d_Reader_token_43 : decode (ib f_Reader_token) 43 = .ok (.iload_n 1, 1) := by decide +kernel
theorem d_Reader_token_44 : decode (ib f_Reader_token) 44 = .ok (.iload_n 2, 1) := by decide +kernel
theorem d_Reader_token_45 : decode (ib f_Reader_token) 45 = .ok (.invokevirtual 93, 3) := by decide +kernel
theorem d_Reader_token_48 : decode (ib f_Reader_token) 48 = .ok (.istore_n 3, 1) := by decide +kernel
theorem d_Reader_token_49 : decode (ib f_Reader_token) 49 = .ok (.aload_n 0, 1) := by decide +kernel
theorem d_Reader_token_50 : decode (ib f_Reader_token) 50 = .ok (.iload_n 3, 1) := by decide +kernel
theorem d_Reader_token_51 : decode (ib f_Reader_token) 51 = .ok (.iconst (-1), 1) := by decide +kernel
theorem d_Reader_token_52 : decode (ib f_Reader_token) 52 = .ok (.if_icmp .ne 7, 3) := by decide +kernel
theorem d_Reader_token_55 : decode (ib f_Reader_token) 55 = .ok (.iconst 1, 1) := by decide +kernel
theorem d_Reader_token_56 : decode (ib f_Reader_token) 56 = .ok (.goto 4, 3) := by decide +kernel
theorem d_Reader_token_59 : decode (ib f_Reader_token) 59 = .ok (.iconst 3, 1) := by decide +kernel
theorem d_Reader_token_60 : decode (ib f_Reader_token) 60 = .ok (.iload_n 3, 1) := by decide +kernel
theorem d_Reader_token_61 : decode (ib f_Reader_token) 61 = .ok (.iload_n 1, 1) := by decide +kernel
theorem d_Reader_token_62 : decode (ib f_Reader_token) 62 = .ok (.invokevirtual 85, 3) := by decide +kernel
theorem d_Reader_token_65 : decode (ib f_Reader_token) 65 = .ok (.goto 128, 3) := by decide +kernel
theorem d_Reader_token_68 : decode (ib f_Reader_token) 68 = .ok (.aload_n 0, 1) := by decide +kernel
theorem d_Reader_token_69 : decode (ib f_Reader_token) 69 = .ok (.getfield 9, 3) := by decide +kernel
theorem d_Reader_token_72 : decode (ib f_Reader_token) 72 = .ok (.iload_n 1, 1) := by decide +kernel
theorem d_Reader_token_73 : decode (ib f_Reader_token) 73 = .ok (.iaload, 1) := by decide +kernel
theorem d_Reader_token_74 : decode (ib f_Reader_token) 74 = .ok (.invokestatic 97, 3) := by decide +kernel
theorem d_Reader_token_77 : decode (ib f_Reader_token) 77 = .ok (.ifCond .eq 75, 3) := by decide +kernel
theorem d_Reader_token_80 : decode (ib f_Reader_token) 80 = .ok (.aload_n 0, 1) := by decide +kernel
theorem d_Reader_token_81 : decode (ib f_Reader_token) 81 = .ok (.getfield 9, 3) := by decide +kernel
theorem d_Reader_token_84 : decode (ib f_Reader_token) 84 = .ok (.iload_n 1, 1) := by decide +kernel
theorem d_Reader_token_85 : decode (ib f_Reader_token) 85 = .ok (.iaload, 1) := by decide +kernel
theorem d_Reader_token_86 : decode (ib f_Reader_token) 86 = .ok (.bipush 48, 2) := by decide +kernel
theorem d_Reader_token_88 : decode (ib f_Reader_token) 88 = .ok (.isub, 1) := by decide +kernel
theorem d_Reader_token_89 : decode (ib f_Reader_token) 89 = .ok (.istore_n 3, 1) := by decide +kernel
theorem d_Reader_token_90 : decode (ib f_Reader_token) 90 = .ok (.iload_n 2, 1) := by decide +kernel
theorem d_Reader_token_91 : decode (ib f_Reader_token) 91 = .ok (.aload_n 0, 1) := by decide +kernel
theorem d_Reader_token_92 : decode (ib f_Reader_token) 92 = .ok (.getfield 15, 3) := by decide +kernel
theorem d_Reader_token_95 : decode (ib f_Reader_token) 95 = .ok (.if_icmp .ge 36, 3) := by decide +kernel
theorem d_Reader_token_98 : decode (ib f_Reader_token) 98 = .ok (.aload_n 0, 1) := by decide +kernel
theorem d_Reader_token_99 : decode (ib f_Reader_token) 99 = .ok (.getfield 9, 3) := by decide +kernel
theorem d_Reader_token_102 : decode (ib f_Reader_token) 102 = .ok (.iload_n 2, 1) := by decide +kernel
theorem d_Reader_token_103 : decode (ib f_Reader_token) 103 = .ok (.iaload, 1) := by decide +kernel
theorem d_Reader_token_104 : decode (ib f_Reader_token) 104 = .ok (.invokestatic 97, 3) := by decide +kernel
theorem d_Reader_token_107 : decode (ib f_Reader_token) 107 = .ok (.ifCond .eq 24, 3) := by decide +kernel
theorem d_Reader_token_110 : decode (ib f_Reader_token) 110 = .ok (.bipush 10, 2) := by decide +kernel
theorem d_Reader_token_112 : decode (ib f_Reader_token) 112 = .ok (.iload_n 3, 1) := by decide +kernel
theorem d_Reader_token_113 : decode (ib f_Reader_token) 113 = .ok (.imul, 1) := by decide +kernel
theorem d_Reader_token_114 : decode (ib f_Reader_token) 114 = .ok (.aload_n 0, 1) := by decide +kernel
theorem d_Reader_token_115 : decode (ib f_Reader_token) 115 = .ok (.getfield 9, 3) := by decide +kernel
theorem d_Reader_token_118 : decode (ib f_Reader_token) 118 = .ok (.iload_n 2, 1) := by decide +kernel
theorem d_Reader_token_119 : decode (ib f_Reader_token) 119 = .ok (.iaload, 1) := by decide +kernel
theorem d_Reader_token_120 : decode (ib f_Reader_token) 120 = .ok (.iadd, 1) := by decide +kernel
theorem d_Reader_token_121 : decode (ib f_Reader_token) 121 = .ok (.bipush 48, 2) := by decide +kernel
theorem d_Reader_token_123 : decode (ib f_Reader_token) 123 = .ok (.isub, 1) := by decide +kernel
theorem d_Reader_token_124 : decode (ib f_Reader_token) 124 = .ok (.istore_n 3, 1) := by decide +kernel
theorem d_Reader_token_125 : decode (ib f_Reader_token) 125 = .ok (.iinc 2 1, 3) := by decide +kernel
theorem d_Reader_token_128 : decode (ib f_Reader_token) 128 = .ok (.goto (-38), 3) := by decide +kernel
theorem d_Reader_token_131 : decode (ib f_Reader_token) 131 = .ok (.aload_n 0, 1) := by decide +kernel
theorem d_Reader_token_132 : decode (ib f_Reader_token) 132 = .ok (.iload_n 2, 1) := by decide +kernel
theorem d_Reader_token_133 : decode (ib f_Reader_token) 133 = .ok (.iload_n 1, 1) := by decide +kernel
theorem d_Reader_token_134 : decode (ib f_Reader_token) 134 = .ok (.isub, 1) := by decide +kernel
theorem d_Reader_token_135 : decode (ib f_Reader_token) 135 = .ok (.iconst 4, 1) := by decide +kernel
theorem d_Reader_token_136 : decode (ib f_Reader_token) 136 = .ok (.if_icmp .le 7, 3) := by decide +kernel
theorem d_Reader_token_139 : decode (ib f_Reader_token) 139 = .ok (.iconst 1, 1) := by decide +kernel
theorem d_Reader_token_140 : decode (ib f_Reader_token) 140 = .ok (.goto 4, 3) := by decide +kernel
theorem d_Reader_token_143 : decode (ib f_Reader_token) 143 = .ok (.iconst 2, 1) := by decide +kernel
theorem d_Reader_token_144 : decode (ib f_Reader_token) 144 = .ok (.iload_n 3, 1) := by decide +kernel
theorem d_Reader_token_145 : decode (ib f_Reader_token) 145 = .ok (.iload_n 1, 1) := by decide +kernel
theorem d_Reader_token_146 : decode (ib f_Reader_token) 146 = .ok (.invokevirtual 85, 3) := by decide +kernel
theorem d_Reader_token_149 : decode (ib f_Reader_token) 149 = .ok (.goto 44, 3) := by decide +kernel
theorem d_Reader_token_152 : decode (ib f_Reader_token) 152 = .ok (.ldc 100, 2) := by decide +kernel
theorem d_Reader_token_154 : decode (ib f_Reader_token) 154 = .ok (.aload_n 0, 1) := by decide +kernel
theorem d_Reader_token_155 : decode (ib f_Reader_token) 155 = .ok (.getfield 9, 3) := by decide +kernel
theorem d_Reader_token_158 : decode (ib f_Reader_token) 158 = .ok (.iload_n 1, 1) := by decide +kernel
theorem d_Reader_token_159 : decode (ib f_Reader_token) 159 = .ok (.iaload, 1) := by decide +kernel
theorem d_Reader_token_160 : decode (ib f_Reader_token) 160 = .ok (.i2c, 1) := by decide +kernel
theorem d_Reader_token_161 : decode (ib f_Reader_token) 161 = .ok (.invokevirtual 102, 3) := by decide +kernel
theorem d_Reader_token_164 : decode (ib f_Reader_token) 164 = .ok (.ifCond .lt 7, 3) := by decide +kernel
theorem d_Reader_token_167 : decode (ib f_Reader_token) 167 = .ok (.iconst 1, 1) := by decide +kernel
theorem d_Reader_token_168 : decode (ib f_Reader_token) 168 = .ok (.goto 4, 3) := by decide +kernel
theorem d_Reader_token_171 : decode (ib f_Reader_token) 171 = .ok (.iconst 0, 1) := by decide +kernel
theorem d_Reader_token_172 : decode (ib f_Reader_token) 172 = .ok (.istore_n 3, 1) := by decide +kernel
theorem d_Reader_token_173 : decode (ib f_Reader_token) 173 = .ok (.aload_n 0, 1) := by decide +kernel
theorem d_Reader_token_174 : decode (ib f_Reader_token) 174 = .ok (.iload_n 3, 1) := by decide +kernel
theorem d_Reader_token_175 : decode (ib f_Reader_token) 175 = .ok (.ifCond .eq 7, 3) := by decide +kernel
theorem d_Reader_token_178 : decode (ib f_Reader_token) 178 = .ok (.iconst 4, 1) := by decide +kernel
theorem d_Reader_token_179 : decode (ib f_Reader_token) 179 = .ok (.goto 4, 3) := by decide +kernel
theorem d_Reader_token_182 : decode (ib f_Reader_token) 182 = .ok (.iconst 1, 1) := by decide +kernel
theorem d_Reader_token_183 : decode (ib f_Reader_token) 183 = .ok (.aload_n 0, 1) := by decide +kernel
theorem d_Reader_token_184 : decode (ib f_Reader_token) 184 = .ok (.getfield 9, 3) := by decide +kernel
theorem d_Reader_token_187 : decode (ib f_Reader_token) 187 = .ok (.iload_n 1, 1) := by decide +kernel
theorem d_Reader_token_188 : decode (ib f_Reader_token) 188 = .ok (.iaload, 1) := by decide +kernel
theorem d_Reader_token_189 : decode (ib f_Reader_token) 189 = .ok (.iload_n 1, 1) := by decide +kernel
theorem d_Reader_token_190 : decode (ib f_Reader_token) 190 = .ok (.invokevirtual 85, 3) := by decide +kernel
theorem d_Reader_token_193 : decode (ib f_Reader_token) 193 = .ok (.iload_n 2, 1) := by decide +kernel
theorem d_Reader_token_194 : decode (ib f_Reader_token) 194 = .ok (.ireturn, 1) := by decide +kernel
theorem d_Reader_addToken_0 : decode (ib f_Reader_addToken) 0 = .ok (.aload_n 0, 1) := by decide +kernel
theorem d_Reader_addToken_1 : decode (ib f_Reader_addToken) 1 = .ok (.getfield 49, 3) := by decide +kernel
theorem d_Reader_addToken_4 : decode (ib f_Reader_addToken) 4 = .ok (.sipush 400, 3) := by decide +kernel
theorem d_Reader_addToken_7 : decode (ib f_Reader_addToken) 7 = .ok (.if_icmp .gt 43, 3) := by decide +kernel
theorem d_Reader_addToken_10 : decode (ib f_Reader_addToken) 10 = .ok (.aload_n 0, 1) := by decide +kernel
theorem d_Reader_addToken_11 : decode (ib f_Reader_addToken) 11 = .ok (.getfield 40, 3) := by decide +kernel
theorem d_Reader_addToken_14 : decode (ib f_Reader_addToken) 14 = .ok (.aload_n 0, 1) := by decide +kernel
theorem d_Reader_addToken_15 : decode (ib f_Reader_addToken) 15 = .ok (.getfield 49, 3) := by decide +kernel
theorem d_Reader_addToken_18 : decode (ib f_Reader_addToken) 18 = .ok (.iload_n 1, 1) := by decide +kernel
theorem d_Reader_addToken_19 : decode (ib f_Reader_addToken) 19 = .ok (.iastore, 1) := by decide +kernel
theorem d_Reader_addToken_20 : decode (ib f_Reader_addToken) 20 = .ok (.aload_n 0, 1) := by decide +kernel
theorem d_Reader_addToken_21 : decode (ib f_Reader_addToken) 21 = .ok (.getfield 43, 3) := by decide +kernel
theorem d_Reader_addToken_24 : decode (ib f_Reader_addToken) 24 = .ok (.aload_n 0, 1) := by decide +kernel
theorem d_Reader_addToken_25 : decode (ib f_Reader_addToken) 25 = .ok (.getfield 49, 3) := by decide +kernel
theorem d_Reader_addToken_28 : decode (ib f_Reader_addToken) 28 = .ok (.iload_n 2, 1) := by decide +kernel
theorem d_Reader_addToken_29 : decode (ib f_Reader_addToken) 29 = .ok (.iastore, 1) := by decide +kernel
theorem d_Reader_addToken_30 : decode (ib f_Reader_addToken) 30 = .ok (.aload_n 0, 1) := by decide +kernel
theorem d_Reader_addToken_31 : decode (ib f_Reader_addToken) 31 = .ok (.getfield 46, 3) := by decide +kernel
theorem d_Reader_addToken_34 : decode (ib f_Reader_addToken) 34 = .ok (.aload_n 0, 1) := by decide +kernel
theorem d_Reader_addToken_35 : decode (ib f_Reader_addToken) 35 = .ok (.getfield 49, 3) := by decide +kernel
theorem d_Reader_addToken_38 : decode (ib f_Reader_addToken) 38 = .ok (.iload_n 3, 1) := by decide +kernel
theorem d_Reader_addToken_39 : decode (ib f_Reader_addToken) 39 = .ok (.iastore, 1) := by decide +kernel
theorem d_Reader_addToken_40 : decode (ib f_Reader_addToken) 40 = .ok (.aload_n 0, 1) := by decide +kernel
theorem d_Reader_addToken_41 : decode (ib f_Reader_addToken) 41 = .ok (.dup, 1) := by decide +kernel
theorem d_Reader_addToken_42 : decode (ib f_Reader_addToken) 42 = .ok (.getfield 49, 3) := by decide +kernel
theorem d_Reader_addToken_45 : decode (ib f_Reader_addToken) 45 = .ok (.iconst 1, 1) := by decide +kernel
theorem d_Reader_addToken_46 : decode (ib f_Reader_addToken) 46 = .ok (.iadd, 1) := by decide +kernel
theorem d_Reader_addToken_47 : decode (ib f_Reader_addToken) 47 = .ok (.putfield 49, 3) := by decide +kernel
theorem d_Reader_addToken_50 : decode (ib f_Reader_addToken) 50 = .ok (.return_, 1) := by decide +kernel
theorem d_Reader_isLetter_0 : decode (ib f_Reader_isLetter) 0 = .ok (.iload_n 0, 1) := by decide +kernel
theorem d_Reader_isLetter_1 : decode (ib f_Reader_isLetter) 1 = .ok (.bipush 97, 2) := by decide +kernel
theorem d_Reader_isLetter_3 : decode (ib f_Reader_isLetter) 3 = .ok (.if_icmp .lt 9, 3) := by decide +kernel
theorem d_Reader_isLetter_6 : decode (ib f_Reader_isLetter) 6 = .ok (.iload_n 0, 1) := by decide +kernel
theorem d_Reader_isLetter_7 : decode (ib f_Reader_isLetter) 7 = .ok (.bipush 122, 2) := by decide +kernel
theorem d_Reader_isLetter_9 : decode (ib f_Reader_isLetter) 9 = .ok (.if_icmp .le 15, 3) := by decide +kernel
theorem d_Reader_isLetter_12 : decode (ib f_Reader_isLetter) 12 = .ok (.iload_n 0, 1) := by decide +kernel
theorem d_Reader_isLetter_13 : decode (ib f_Reader_isLetter) 13 = .ok (.bipush 65, 2) := by decide +kernel
theorem d_Reader_isLetter_15 : decode (ib f_Reader_isLetter) 15 = .ok (.if_icmp .lt 13, 3) := by decide +kernel
theorem d_Reader_isLetter_18 : decode (ib f_Reader_isLetter) 18 = .ok (.iload_n 0, 1) := by decide +kernel
theorem d_Reader_isLetter_19 : decode (ib f_Reader_isLetter) 19 = .ok (.bipush 90, 2) := by decide +kernel
theorem d_Reader_isLetter_21 : decode (ib f_Reader_isLetter) 21 = .ok (.if_icmp .gt 7, 3) := by decide +kernel
theorem d_Reader_isLetter_24 : decode (ib f_Reader_isLetter) 24 = .ok (.iconst 1, 1) := by decide +kernel
theorem d_Reader_isLetter_25 : decode (ib f_Reader_isLetter) 25 = .ok (.goto 4, 3) := by decide +kernel
theorem d_Reader_isLetter_28 : decode (ib f_Reader_isLetter) 28 = .ok (.iconst 0, 1) := by decide +kernel
theorem d_Reader_isLetter_29 : decode (ib f_Reader_isLetter) 29 = .ok (.ireturn, 1) := by decide +kernel
theorem d_Reader_isDigit_0 : decode (ib f_Reader_isDigit) 0 = .ok (.iload_n 0, 1) := by decide +kernel
theorem d_Reader_isDigit_1 : decode (ib f_Reader_isDigit) 1 = .ok (.bipush 48, 2) := by decide +kernel
theorem d_Reader_isDigit_3 : decode (ib f_Reader_isDigit) 3 = .ok (.if_icmp .lt 13, 3) := by decide +kernel
theorem d_Reader_isDigit_6 : decode (ib f_Reader_isDigit) 6 = .ok (.iload_n 0, 1) := by decide +kernel
theorem d_Reader_isDigit_7 : decode (ib f_Reader_isDigit) 7 = .ok (.bipush 57, 2) := by decide +kernel
theorem d_Reader_isDigit_9 : decode (ib f_Reader_isDigit) 9 = .ok (.if_icmp .gt 7, 3) := by decide +kernel
theorem d_Reader_isDigit_12 : decode (ib f_Reader_isDigit) 12 = .ok (.iconst 1, 1) := by decide +kernel
theorem d_Reader_isDigit_13 : decode (ib f_Reader_isDigit) 13 = .ok (.goto 4, 3) := by decide +kernel
theorem d_Reader_isDigit_16 : decode (ib f_Reader_isDigit) 16 = .ok (.iconst 0, 1) := by decide +kernel
theorem d_Reader_isDigit_17 : decode (ib f_Reader_isDigit) 17 = .ok (.ireturn, 1) := by decide +kernel
theorem d_Reader_wordAt_0 : decode (ib f_Reader_wordAt) 0 = .ok (.iconst 0, 1) := by decide +kernel
theorem d_Reader_wordAt_1 : decode (ib f_Reader_wordAt) 1 = .ok (.istore_n 3, 1) := by decide +kernel
theorem d_Reader_wordAt_2 : decode (ib f_Reader_wordAt) 2 = .ok (.iconst 0, 1) := by decide +kernel
theorem d_Reader_wordAt_3 : decode (ib f_Reader_wordAt) 3 = .ok (.istore 4, 2) := by decide +kernel
theorem d_Reader_wordAt_5 : decode (ib f_Reader_wordAt) 5 = .ok (.iconst 0, 1) := by decide +kernel
theorem d_Reader_wordAt_6 : decode (ib f_Reader_wordAt) 6 = .ok (.istore 5, 2) := by decide +kernel
theorem d_Reader_wordAt_8 : decode (ib f_Reader_wordAt) 8 = .ok (.iload 5, 2) := by decide +kernel
theorem d_Reader_wordAt_10 : decode (ib f_Reader_wordAt) 10 = .ok (.ldc 107, 2) := by decide +kernel
theorem d_Reader_wordAt_12 : decode (ib f_Reader_wordAt) 12 = .ok (.invokevirtual 109, 3) := by decide +kernel
theorem d_Reader_wordAt_15 : decode (ib f_Reader_wordAt) 15 = .ok (.if_icmp .ge 54, 3) := by decide +kernel
theorem d_Reader_wordAt_18 : decode (ib f_Reader_wordAt) 18 = .ok (.ldc 107, 2) := by decide +kernel
theorem d_Reader_wordAt_20 : decode (ib f_Reader_wordAt) 20 = .ok (.iload 5, 2) := by decide +kernel
theorem d_Reader_wordAt_22 : decode (ib f_Reader_wordAt) 22 = .ok (.invokevirtual 112, 3) := by decide +kernel
theorem d_Reader_wordAt_25 : decode (ib f_Reader_wordAt) 25 = .ok (.bipush 32, 2) := by decide +kernel
theorem d_Reader_wordAt_27 : decode (ib f_Reader_wordAt) 27 = .ok (.if_icmp .ne 36, 3) := by decide +kernel
theorem d_Reader_wordAt_30 : decode (ib f_Reader_wordAt) 30 = .ok (.iload 5, 2) := by decide +kernel
theorem d_Reader_wordAt_32 : decode (ib f_Reader_wordAt) 32 = .ok (.iload 4, 2) := by decide +kernel
theorem d_Reader_wordAt_34 : decode (ib f_Reader_wordAt) 34 = .ok (.isub, 1) := by decide +kernel
theorem d_Reader_wordAt_35 : decode (ib f_Reader_wordAt) 35 = .ok (.iload_n 2, 1) := by decide +kernel
theorem d_Reader_wordAt_36 : decode (ib f_Reader_wordAt) 36 = .ok (.iload_n 1, 1) := by decide +kernel
theorem d_Reader_wordAt_37 : decode (ib f_Reader_wordAt) 37 = .ok (.isub, 1) := by decide +kernel
theorem d_Reader_wordAt_38 : decode (ib f_Reader_wordAt) 38 = .ok (.if_icmp .ne 16, 3) := by decide +kernel
theorem d_Reader_wordAt_41 : decode (ib f_Reader_wordAt) 41 = .ok (.aload_n 0, 1) := by decide +kernel
theorem d_Reader_wordAt_42 : decode (ib f_Reader_wordAt) 42 = .ok (.iload 4, 2) := by decide +kernel
theorem d_Reader_wordAt_44 : decode (ib f_Reader_wordAt) 44 = .ok (.iload_n 1, 1) := by decide +kernel
theorem d_Reader_wordAt_45 : decode (ib f_Reader_wordAt) 45 = .ok (.iload_n 2, 1) := by decide +kernel
theorem d_Reader_wordAt_46 : decode (ib f_Reader_wordAt) 46 = .ok (.invokevirtual 116, 3) := by decide +kernel
theorem d_Reader_wordAt_49 : decode (ib f_Reader_wordAt) 49 = .ok (.ifCond .eq 5, 3) := by decide +kernel
theorem d_Reader_wordAt_52 : decode (ib f_Reader_wordAt) 52 = .ok (.iload_n 3, 1) := by decide +kernel
theorem d_Reader_wordAt_53 : decode (ib f_Reader_wordAt) 53 = .ok (.ireturn, 1) := by decide +kernel
theorem d_Reader_wordAt_54 : decode (ib f_Reader_wordAt) 54 = .ok (.iinc 3 1, 3) := by decide +kernel
theorem d_Reader_wordAt_57 : decode (ib f_Reader_wordAt) 57 = .ok (.iload 5, 2) := by decide +kernel
theorem d_Reader_wordAt_59 : decode (ib f_Reader_wordAt) 59 = .ok (.iconst 1, 1) := by decide +kernel
theorem d_Reader_wordAt_60 : decode (ib f_Reader_wordAt) 60 = .ok (.iadd, 1) := by decide +kernel
theorem d_Reader_wordAt_61 : decode (ib f_Reader_wordAt) 61 = .ok (.istore 4, 2) := by decide +kernel
theorem d_Reader_wordAt_63 : decode (ib f_Reader_wordAt) 63 = .ok (.iinc 5 1, 3) := by decide +kernel
theorem d_Reader_wordAt_66 : decode (ib f_Reader_wordAt) 66 = .ok (.goto (-58), 3) := by decide +kernel
theorem d_Reader_wordAt_69 : decode (ib f_Reader_wordAt) 69 = .ok (.iconst (-1), 1) := by decide +kernel
theorem d_Reader_wordAt_70 : decode (ib f_Reader_wordAt) 70 = .ok (.ireturn, 1) := by decide +kernel
theorem d_Reader_stands_0 : decode (ib f_Reader_stands) 0 = .ok (.iload_n 2, 1) := by decide +kernel
theorem d_Reader_stands_1 : decode (ib f_Reader_stands) 1 = .ok (.istore 4, 2) := by decide +kernel
theorem d_Reader_stands_3 : decode (ib f_Reader_stands) 3 = .ok (.iload 4, 2) := by decide +kernel
theorem d_Reader_stands_5 : decode (ib f_Reader_stands) 5 = .ok (.iload_n 3, 1) := by decide +kernel
theorem d_Reader_stands_6 : decode (ib f_Reader_stands) 6 = .ok (.if_icmp .ge 32, 3) := by decide +kernel
theorem d_Reader_stands_9 : decode (ib f_Reader_stands) 9 = .ok (.ldc 107, 2) := by decide +kernel
theorem d_Reader_stands_11 : decode (ib f_Reader_stands) 11 = .ok (.iload_n 1, 1) := by decide +kernel
theorem d_Reader_stands_12 : decode (ib f_Reader_stands) 12 = .ok (.iload 4, 2) := by decide +kernel
theorem d_Reader_stands_14 : decode (ib f_Reader_stands) 14 = .ok (.iadd, 1) := by decide +kernel
theorem d_Reader_stands_15 : decode (ib f_Reader_stands) 15 = .ok (.iload_n 2, 1) := by decide +kernel
theorem d_Reader_stands_16 : decode (ib f_Reader_stands) 16 = .ok (.isub, 1) := by decide +kernel
theorem d_Reader_stands_17 : decode (ib f_Reader_stands) 17 = .ok (.invokevirtual 112, 3) := by decide +kernel
theorem d_Reader_stands_20 : decode (ib f_Reader_stands) 20 = .ok (.aload_n 0, 1) := by decide +kernel
theorem d_Reader_stands_21 : decode (ib f_Reader_stands) 21 = .ok (.getfield 9, 3) := by decide +kernel
theorem d_Reader_stands_24 : decode (ib f_Reader_stands) 24 = .ok (.iload 4, 2) := by decide +kernel
theorem d_Reader_stands_26 : decode (ib f_Reader_stands) 26 = .ok (.iaload, 1) := by decide +kernel
theorem d_Reader_stands_27 : decode (ib f_Reader_stands) 27 = .ok (.if_icmp .eq 5, 3) := by decide +kernel
theorem d_Reader_stands_30 : decode (ib f_Reader_stands) 30 = .ok (.iconst 0, 1) := by decide +kernel
theorem d_Reader_stands_31 : decode (ib f_Reader_stands) 31 = .ok (.ireturn, 1) := by decide +kernel
theorem d_Reader_stands_32 : decode (ib f_Reader_stands) 32 = .ok (.iinc 4 1, 3) := by decide +kernel
theorem d_Reader_stands_35 : decode (ib f_Reader_stands) 35 = .ok (.goto (-32), 3) := by decide +kernel
theorem d_Reader_stands_38 : decode (ib f_Reader_stands) 38 = .ok (.iconst 1, 1) := by decide +kernel
theorem d_Reader_stands_39 : decode (ib f_Reader_stands) 39 = .ok (.ireturn, 1) := by decide +kernel
theorem d_Reader_fail_0 : decode (ib f_Reader_fail) 0 = .ok (.aload_n 0, 1) := by decide +kernel
theorem d_Reader_fail_1 : decode (ib f_Reader_fail) 1 = .ok (.iload_n 1, 1) := by decide +kernel
theorem d_Reader_fail_2 : decode (ib f_Reader_fail) 2 = .ok (.putfield 19, 3) := by decide +kernel
theorem d_Reader_fail_5 : decode (ib f_Reader_fail) 5 = .ok (.aload_n 0, 1) := by decide +kernel
theorem d_Reader_fail_6 : decode (ib f_Reader_fail) 6 = .ok (.aload_n 0, 1) := by decide +kernel
theorem d_Reader_fail_7 : decode (ib f_Reader_fail) 7 = .ok (.getfield 46, 3) := by decide +kernel
theorem d_Reader_fail_10 : decode (ib f_Reader_fail) 10 = .ok (.aload_n 0, 1) := by decide +kernel
theorem d_Reader_fail_11 : decode (ib f_Reader_fail) 11 = .ok (.getfield 52, 3) := by decide +kernel
theorem d_Reader_fail_14 : decode (ib f_Reader_fail) 14 = .ok (.iaload, 1) := by decide +kernel
theorem d_Reader_fail_15 : decode (ib f_Reader_fail) 15 = .ok (.putfield 22, 3) := by decide +kernel
theorem d_Reader_fail_18 : decode (ib f_Reader_fail) 18 = .ok (.iconst 0, 1) := by decide +kernel
theorem d_Reader_fail_19 : decode (ib f_Reader_fail) 19 = .ok (.ireturn, 1) := by decide +kernel
theorem d_Reader_isWord_0 : decode (ib f_Reader_isWord) 0 = .ok (.aload_n 0, 1) := by decide +kernel
theorem d_Reader_isWord_1 : decode (ib f_Reader_isWord) 1 = .ok (.getfield 40, 3) := by decide +kernel
theorem d_Reader_isWord_4 : decode (ib f_Reader_isWord) 4 = .ok (.aload_n 0, 1) := by decide +kernel
theorem d_Reader_isWord_5 : decode (ib f_Reader_isWord) 5 = .ok (.getfield 52, 3) := by decide +kernel
theorem d_Reader_isWord_8 : decode (ib f_Reader_isWord) 8 = .ok (.iaload, 1) := by decide +kernel
theorem d_Reader_isWord_9 : decode (ib f_Reader_isWord) 9 = .ok (.iconst 3, 1) := by decide +kernel
theorem d_Reader_isWord_10 : decode (ib f_Reader_isWord) 10 = .ok (.if_icmp .ne 33, 3) := by decide +kernel
theorem d_Reader_isWord_13 : decode (ib f_Reader_isWord) 13 = .ok (.aload_n 0, 1) := by decide +kernel
theorem d_Reader_isWord_14 : decode (ib f_Reader_isWord) 14 = .ok (.getfield 43, 3) := by decide +kernel
theorem d_Reader_isWord_17 : decode (ib f_Reader_isWord) 17 = .ok (.aload_n 0, 1) := by decide +kernel
theorem d_Reader_isWord_18 : decode (ib f_Reader_isWord) 18 = .ok (.getfield 52, 3) := by decide +kernel
theorem d_Reader_isWord_21 : decode (ib f_Reader_isWord) 21 = .ok (.iaload, 1) := by decide +kernel
theorem d_Reader_isWord_22 : decode (ib f_Reader_isWord) 22 = .ok (.iload_n 1, 1) := by decide +kernel
theorem d_Reader_isWord_23 : decode (ib f_Reader_isWord) 23 = .ok (.if_icmp .lt 20, 3) := by decide +kernel
theorem d_Reader_isWord_26 : decode (ib f_Reader_isWord) 26 = .ok (.aload_n 0, 1) := by decide +kernel
theorem d_Reader_isWord_27 : decode (ib f_Reader_isWord) 27 = .ok (.getfield 43, 3) := by decide +kernel
theorem d_Reader_isWord_30 : decode (ib f_Reader_isWord) 30 = .ok (.aload_n 0, 1) := by decide +kernel
theorem d_Reader_isWord_31 : decode (ib f_Reader_isWord) 31 = .ok (.getfield 52, 3) := by decide +kernel
theorem d_Reader_isWord_34 : decode (ib f_Reader_isWord) 34 = .ok (.iaload, 1) := by decide +kernel
theorem d_Reader_isWord_35 : decode (ib f_Reader_isWord) 35 = .ok (.iload_n 2, 1) := by decide +kernel
theorem d_Reader_isWord_36 : decode (ib f_Reader_isWord) 36 = .ok (.if_icmp .gt 7, 3) := by decide +kernel
theorem d_Reader_isWord_39 : decode (ib f_Reader_isWord) 39 = .ok (.iconst 1, 1) := by decide +kernel
theorem d_Reader_isWord_40 : decode (ib f_Reader_isWord) 40 = .ok (.goto 4, 3) := by decide +kernel
theorem d_Reader_isWord_43 : decode (ib f_Reader_isWord) 43 = .ok (.iconst 0, 1) := by decide +kernel
theorem d_Reader_isWord_44 : decode (ib f_Reader_isWord) 44 = .ok (.ireturn, 1) := by decide +kernel
theorem d_Reader_isSign_0 : decode (ib f_Reader_isSign) 0 = .ok (.aload_n 0, 1) := by decide +kernel
theorem d_Reader_isSign_1 : decode (ib f_Reader_isSign) 1 = .ok (.getfield 40, 3) := by decide +kernel
theorem d_Reader_isSign_4 : decode (ib f_Reader_isSign) 4 = .ok (.aload_n 0, 1) := by decide +kernel
theorem d_Reader_isSign_5 : decode (ib f_Reader_isSign) 5 = .ok (.getfield 52, 3) := by decide +kernel
theorem d_Reader_isSign_8 : decode (ib f_Reader_isSign) 8 = .ok (.iaload, 1) := by decide +kernel
theorem d_Reader_isSign_9 : decode (ib f_Reader_isSign) 9 = .ok (.iconst 4, 1) := by decide +kernel
theorem d_Reader_isSign_10 : decode (ib f_Reader_isSign) 10 = .ok (.if_icmp .ne 20, 3) := by decide +kernel
theorem d_Reader_isSign_13 : decode (ib f_Reader_isSign) 13 = .ok (.aload_n 0, 1) := by decide +kernel
theorem d_Reader_isSign_14 : decode (ib f_Reader_isSign) 14 = .ok (.getfield 43, 3) := by decide +kernel
theorem d_Reader_isSign_17 : decode (ib f_Reader_isSign) 17 = .ok (.aload_n 0, 1) := by decide +kernel
theorem d_Reader_isSign_18 : decode (ib f_Reader_isSign) 18 = .ok (.getfield 52, 3) := by decide +kernel
theorem d_Reader_isSign_21 : decode (ib f_Reader_isSign) 21 = .ok (.iaload, 1) := by decide +kernel
theorem d_Reader_isSign_22 : decode (ib f_Reader_isSign) 22 = .ok (.iload_n 1, 1) := by decide +kernel
theorem d_Reader_isSign_23 : decode (ib f_Reader_isSign) 23 = .ok (.if_icmp .ne 7, 3) := by decide +kernel
theorem d_Reader_isSign_26 : decode (ib f_Reader_isSign) 26 = .ok (.iconst 1, 1) := by decide +kernel
theorem d_Reader_isSign_27 : decode (ib f_Reader_isSign) 27 = .ok (.goto 4, 3) := by decide +kernel
theorem d_Reader_isSign_30 : decode (ib f_Reader_isSign) 30 = .ok (.iconst 0, 1) := by decide +kernel
theorem d_Reader_isSign_31 : decode (ib f_Reader_isSign) 31 = .ok (.ireturn, 1) := by decide +kernel
theorem d_Reader_takeFirst_0 : decode (ib f_Reader_takeFirst) 0 = .ok (.aload_n 0, 1) := by decide +kernel
theorem d_Reader_takeFirst_1 : decode (ib f_Reader_takeFirst) 1 = .ok (.iload_n 1, 1) := by decide +kernel
theorem d_Reader_takeFirst_2 : decode (ib f_Reader_takeFirst) 2 = .ok (.iload_n 2, 1) := by decide +kernel
theorem d_Reader_takeFirst_3 : decode (ib f_Reader_takeFirst) 3 = .ok (.invokevirtual 120, 3) := by decide +kernel
theorem d_Reader_takeFirst_6 : decode (ib f_Reader_takeFirst) 6 = .ok (.ifCond .eq 19, 3) := by decide +kernel
theorem d_Reader_takeFirst_9 : decode (ib f_Reader_takeFirst) 9 = .ok (.aload_n 0, 1) := by decide +kernel
theorem d_Reader_takeFirst_10 : decode (ib f_Reader_takeFirst) 10 = .ok (.getfield 30, 3) := by decide +kernel
theorem d_Reader_takeFirst_13 : decode (ib f_Reader_takeFirst) 13 = .ok (.invokevirtual 124, 3) := by decide +kernel
theorem d_Reader_takeFirst_16 : decode (ib f_Reader_takeFirst) 16 = .ok (.ifCond .eq 9, 3) := by decide +kernel
theorem d_Reader_takeFirst_19 : decode (ib f_Reader_takeFirst) 19 = .ok (.aload_n 0, 1) := by decide +kernel
theorem d_Reader_takeFirst_20 : decode (ib f_Reader_takeFirst) 20 = .ok (.iconst 3, 1) := by decide +kernel
theorem d_Reader_takeFirst_21 : decode (ib f_Reader_takeFirst) 21 = .ok (.invokevirtual 127, 3) := by decide +kernel
theorem d_Reader_takeFirst_24 : decode (ib f_Reader_takeFirst) 24 = .ok (.ireturn, 1) := by decide +kernel
theorem d_Reader_takeFirst_25 : decode (ib f_Reader_takeFirst) 25 = .ok (.aload_n 0, 1) := by decide +kernel
theorem d_Reader_takeFirst_26 : decode (ib f_Reader_takeFirst) 26 = .ok (.iload_n 1, 1) := by decide +kernel
theorem d_Reader_takeFirst_27 : decode (ib f_Reader_takeFirst) 27 = .ok (.iload_n 2, 1) := by decide +kernel
theorem d_Reader_takeFirst_28 : decode (ib f_Reader_takeFirst) 28 = .ok (.iconst 0, 1) := by decide +kernel
theorem d_Reader_takeFirst_29 : decode (ib f_Reader_takeFirst) 29 = .ok (.invokevirtual 130, 3) := by decide +kernel
theorem d_Reader_takeFirst_32 : decode (ib f_Reader_takeFirst) 32 = .ok (.ireturn, 1) := by decide +kernel
theorem d_Reader_takeWord_0 : decode (ib f_Reader_takeWord) 0 = .ok (.aload_n 0, 1) := by decide +kernel
theorem d_Reader_takeWord_1 : decode (ib f_Reader_takeWord) 1 = .ok (.iload_n 1, 1) := by decide +kernel
theorem d_Reader_takeWord_2 : decode (ib f_Reader_takeWord) 2 = .ok (.iload_n 2, 1) := by decide +kernel
theorem d_Reader_takeWord_3 : decode (ib f_Reader_takeWord) 3 = .ok (.invokevirtual 120, 3) := by decide +kernel
theorem d_Reader_takeWord_6 : decode (ib f_Reader_takeWord) 6 = .ok (.ifCond .ne 9, 3) := by decide +kernel
theorem d_Reader_takeWord_9 : decode (ib f_Reader_takeWord) 9 = .ok (.aload_n 0, 1) := by decide +kernel
theorem d_Reader_takeWord_10 : decode (ib f_Reader_takeWord) 10 = .ok (.iconst 1, 1) := by decide +kernel
theorem d_Reader_takeWord_11 : decode (ib f_Reader_takeWord) 11 = .ok (.invokevirtual 127, 3) := by decide +kernel
theorem d_Reader_takeWord_14 : decode (ib f_Reader_takeWord) 14 = .ok (.ireturn, 1) := by decide +kernel
theorem d_Reader_takeWord_15 : decode (ib f_Reader_takeWord) 15 = .ok (.aload_n 0, 1) := by decide +kernel
theorem d_Reader_takeWord_16 : decode (ib f_Reader_takeWord) 16 = .ok (.iload_n 3, 1) := by decide +kernel
theorem d_Reader_takeWord_17 : decode (ib f_Reader_takeWord) 17 = .ok (.invokevirtual 133, 3) := by decide +kernel
theorem d_Reader_takeWord_20 : decode (ib f_Reader_takeWord) 20 = .ok (.ireturn, 1) := by decide +kernel
theorem d_Reader_takeNumber_0 : decode (ib f_Reader_takeNumber) 0 = .ok (.aload_n 0, 1) := by decide +kernel
theorem d_Reader_takeNumber_1 : decode (ib f_Reader_takeNumber) 1 = .ok (.getfield 40, 3) := by decide +kernel
theorem d_Reader_takeNumber_4 : decode (ib f_Reader_takeNumber) 4 = .ok (.aload_n 0, 1) := by decide +kernel
theorem d_Reader_takeNumber_5 : decode (ib f_Reader_takeNumber) 5 = .ok (.getfield 52, 3) := by decide +kernel
theorem d_Reader_takeNumber_8 : decode (ib f_Reader_takeNumber) 8 = .ok (.iaload, 1) := by decide +kernel
theorem d_Reader_takeNumber_9 : decode (ib f_Reader_takeNumber) 9 = .ok (.iconst 2, 1) := by decide +kernel
theorem d_Reader_takeNumber_10 : decode (ib f_Reader_takeNumber) 10 = .ok (.if_icmp .eq 9, 3) := by decide +kernel
theorem d_Reader_takeNumber_13 : decode (ib f_Reader_takeNumber) 13 = .ok (.aload_n 0, 1) := by decide +kernel
theorem d_Reader_takeNumber_14 : decode (ib f_Reader_takeNumber) 14 = .ok (.iconst 1, 1) := by decide +kernel
theorem d_Reader_takeNumber_15 : decode (ib f_Reader_takeNumber) 15 = .ok (.invokevirtual 127, 3) := by decide +kernel
theorem d_Reader_takeNumber_18 : decode (ib f_Reader_takeNumber) 18 = .ok (.ireturn, 1) := by decide +kernel
theorem d_Reader_takeNumber_19 : decode (ib f_Reader_takeNumber) 19 = .ok (.aload_n 0, 1) := by decide +kernel
theorem d_Reader_takeNumber_20 : decode (ib f_Reader_takeNumber) 20 = .ok (.getfield 43, 3) := by decide +kernel
theorem d_Reader_takeNumber_23 : decode (ib f_Reader_takeNumber) 23 = .ok (.aload_n 0, 1) := by decide +kernel
theorem d_Reader_takeNumber_24 : decode (ib f_Reader_takeNumber) 24 = .ok (.getfield 52, 3) := by decide +kernel
theorem d_Reader_takeNumber_27 : decode (ib f_Reader_takeNumber) 27 = .ok (.iaload, 1) := by decide +kernel
theorem d_Reader_takeNumber_28 : decode (ib f_Reader_takeNumber) 28 = .ok (.iload_n 1, 1) := by decide +kernel
theorem d_Reader_takeNumber_29 : decode (ib f_Reader_takeNumber) 29 = .ok (.if_icmp .lt 16, 3) := by decide +kernel
theorem d_Reader_takeNumber_32 : decode (ib f_Reader_takeNumber) 32 = .ok (.aload_n 0, 1) := by decide +kernel
theorem d_Reader_takeNumber_33 : decode (ib f_Reader_takeNumber) 33 = .ok (.getfield 43, 3) := by decide +kernel
theorem d_Reader_takeNumber_36 : decode (ib f_Reader_takeNumber) 36 = .ok (.aload_n 0, 1) := by decide +kernel
theorem d_Reader_takeNumber_37 : decode (ib f_Reader_takeNumber) 37 = .ok (.getfield 52, 3) := by decide +kernel
theorem d_Reader_takeNumber_40 : decode (ib f_Reader_takeNumber) 40 = .ok (.iaload, 1) := by decide +kernel
theorem d_Reader_takeNumber_41 : decode (ib f_Reader_takeNumber) 41 = .ok (.iload_n 2, 1) := by decide +kernel
theorem d_Reader_takeNumber_42 : decode (ib f_Reader_takeNumber) 42 = .ok (.if_icmp .le 9, 3) := by decide +kernel
theorem d_Reader_takeNumber_45 : decode (ib f_Reader_takeNumber) 45 = .ok (.aload_n 0, 1) := by decide +kernel
theorem d_Reader_takeNumber_46 : decode (ib f_Reader_takeNumber) 46 = .ok (.iconst 2, 1) := by decide +kernel
theorem d_Reader_takeNumber_47 : decode (ib f_Reader_takeNumber) 47 = .ok (.invokevirtual 127, 3) := by decide +kernel
theorem d_Reader_takeNumber_50 : decode (ib f_Reader_takeNumber) 50 = .ok (.ireturn, 1) := by decide +kernel
theorem d_Reader_takeNumber_51 : decode (ib f_Reader_takeNumber) 51 = .ok (.aload_n 0, 1) := by decide +kernel
theorem d_Reader_takeNumber_52 : decode (ib f_Reader_takeNumber) 52 = .ok (.iload_n 3, 1) := by decide +kernel
theorem d_Reader_takeNumber_53 : decode (ib f_Reader_takeNumber) 53 = .ok (.invokevirtual 133, 3) := by decide +kernel
theorem d_Reader_takeNumber_56 : decode (ib f_Reader_takeNumber) 56 = .ok (.ireturn, 1) := by decide +kernel
theorem d_Reader_takeSign_0 : decode (ib f_Reader_takeSign) 0 = .ok (.aload_n 0, 1) := by decide +kernel
theorem d_Reader_takeSign_1 : decode (ib f_Reader_takeSign) 1 = .ok (.iload_n 1, 1) := by decide +kernel
theorem d_Reader_takeSign_2 : decode (ib f_Reader_takeSign) 2 = .ok (.invokevirtual 136, 3) := by decide +kernel
theorem d_Reader_takeSign_5 : decode (ib f_Reader_takeSign) 5 = .ok (.ifCond .ne 9, 3) := by decide +kernel
theorem d_Reader_takeSign_8 : decode (ib f_Reader_takeSign) 8 = .ok (.aload_n 0, 1) := by decide +kernel
theorem d_Reader_takeSign_9 : decode (ib f_Reader_takeSign) 9 = .ok (.iconst 1, 1) := by decide +kernel
theorem d_Reader_takeSign_10 : decode (ib f_Reader_takeSign) 10 = .ok (.invokevirtual 127, 3) := by decide +kernel
theorem d_Reader_takeSign_13 : decode (ib f_Reader_takeSign) 13 = .ok (.ireturn, 1) := by decide +kernel
theorem d_Reader_takeSign_14 : decode (ib f_Reader_takeSign) 14 = .ok (.aload_n 0, 1) := by decide +kernel
theorem d_Reader_takeSign_15 : decode (ib f_Reader_takeSign) 15 = .ok (.invokevirtual 140, 3) := by decide +kernel
theorem d_Reader_takeSign_18 : decode (ib f_Reader_takeSign) 18 = .ok (.ireturn, 1) := by decide +kernel
theorem d_Reader_keep_0 : decode (ib f_Reader_keep) 0 = .ok (.aload_n 0, 1) := by decide +kernel
theorem d_Reader_keep_1 : decode (ib f_Reader_keep) 1 = .ok (.getfield 55, 3) := by decide +kernel
theorem d_Reader_keep_4 : decode (ib f_Reader_keep) 4 = .ok (.iload_n 1, 1) := by decide +kernel
theorem d_Reader_keep_5 : decode (ib f_Reader_keep) 5 = .ok (.aload_n 0, 1) := by decide +kernel
theorem d_Reader_keep_6 : decode (ib f_Reader_keep) 6 = .ok (.getfield 43, 3) := by decide +kernel
theorem d_Reader_keep_9 : decode (ib f_Reader_keep) 9 = .ok (.aload_n 0, 1) := by decide +kernel
theorem d_Reader_keep_10 : decode (ib f_Reader_keep) 10 = .ok (.getfield 52, 3) := by decide +kernel
theorem d_Reader_keep_13 : decode (ib f_Reader_keep) 13 = .ok (.iaload, 1) := by decide +kernel
theorem d_Reader_keep_14 : decode (ib f_Reader_keep) 14 = .ok (.iastore, 1) := by decide +kernel
theorem d_Reader_keep_15 : decode (ib f_Reader_keep) 15 = .ok (.aload_n 0, 1) := by decide +kernel
theorem d_Reader_keep_16 : decode (ib f_Reader_keep) 16 = .ok (.invokevirtual 140, 3) := by decide +kernel
theorem d_Reader_keep_19 : decode (ib f_Reader_keep) 19 = .ok (.ireturn, 1) := by decide +kernel
theorem d_Reader_step_0 : decode (ib f_Reader_step) 0 = .ok (.aload_n 0, 1) := by decide +kernel
theorem d_Reader_step_1 : decode (ib f_Reader_step) 1 = .ok (.getfield 52, 3) := by decide +kernel
theorem d_Reader_step_4 : decode (ib f_Reader_step) 4 = .ok (.aload_n 0, 1) := by decide +kernel
theorem d_Reader_step_5 : decode (ib f_Reader_step) 5 = .ok (.getfield 49, 3) := by decide +kernel
theorem d_Reader_step_8 : decode (ib f_Reader_step) 8 = .ok (.iconst 1, 1) := by decide +kernel
theorem d_Reader_step_9 : decode (ib f_Reader_step) 9 = .ok (.isub, 1) := by decide +kernel
theorem d_Reader_step_10 : decode (ib f_Reader_step) 10 = .ok (.if_icmp .ge 13, 3) := by decide +kernel
theorem d_Reader_step_13 : decode (ib f_Reader_step) 13 = .ok (.aload_n 0, 1) := by decide +kernel
theorem d_Reader_step_14 : decode (ib f_Reader_step) 14 = .ok (.dup, 1) := by decide +kernel
theorem d_Reader_step_15 : decode (ib f_Reader_step) 15 = .ok (.getfield 52, 3) := by decide +kernel
theorem d_Reader_step_18 : decode (ib f_Reader_step) 18 = .ok (.iconst 1, 1) := by decide +kernel
theorem d_Reader_step_19 : decode (ib f_Reader_step) 19 = .ok (.iadd, 1) := by decide +kernel
theorem d_Reader_step_20 : decode (ib f_Reader_step) 20 = .ok (.putfield 52, 3) := by decide +kernel
theorem d_Reader_step_23 : decode (ib f_Reader_step) 23 = .ok (.iconst 1, 1) := by decide +kernel
theorem d_Reader_step_24 : decode (ib f_Reader_step) 24 = .ok (.ireturn, 1) := by decide +kernel
theorem d_Reader_readFlight_0 : decode (ib f_Reader_readFlight) 0 = .ok (.aload_n 0, 1) := by decide +kernel
theorem d_Reader_readFlight_1 : decode (ib f_Reader_readFlight) 1 = .ok (.bipush 18, 2) := by decide +kernel
theorem d_Reader_readFlight_3 : decode (ib f_Reader_readFlight) 3 = .ok (.bipush 18, 2) := by decide +kernel
theorem d_Reader_readFlight_5 : decode (ib f_Reader_readFlight) 5 = .ok (.invokevirtual 143, 3) := by decide +kernel
theorem d_Reader_readFlight_8 : decode (ib f_Reader_readFlight) 8 = .ok (.ifCond .eq 27, 3) := by decide +kernel
theorem d_Reader_readFlight_11 : decode (ib f_Reader_readFlight) 11 = .ok (.aload_n 0, 1) := by decide +kernel
theorem d_Reader_readFlight_12 : decode (ib f_Reader_readFlight) 12 = .ok (.iconst 0, 1) := by decide +kernel
theorem d_Reader_readFlight_13 : decode (ib f_Reader_readFlight) 13 = .ok (.sipush 999, 3) := by decide +kernel
theorem d_Reader_readFlight_16 : decode (ib f_Reader_readFlight) 16 = .ok (.iconst 0, 1) := by decide +kernel
theorem d_Reader_readFlight_17 : decode (ib f_Reader_readFlight) 17 = .ok (.invokevirtual 146, 3) := by decide +kernel
theorem d_Reader_readFlight_20 : decode (ib f_Reader_readFlight) 20 = .ok (.ifCond .eq 15, 3) := by decide +kernel
theorem d_Reader_readFlight_23 : decode (ib f_Reader_readFlight) 23 = .ok (.aload_n 0, 1) := by decide +kernel
theorem d_Reader_readFlight_24 : decode (ib f_Reader_readFlight) 24 = .ok (.bipush 20, 2) := by decide +kernel
theorem d_Reader_readFlight_26 : decode (ib f_Reader_readFlight) 26 = .ok (.bipush 25, 2) := by decide +kernel
theorem d_Reader_readFlight_28 : decode (ib f_Reader_readFlight) 28 = .ok (.iconst 1, 1) := by decide +kernel
theorem d_Reader_readFlight_29 : decode (ib f_Reader_readFlight) 29 = .ok (.invokevirtual 130, 3) := by decide +kernel
theorem d_Reader_readFlight_32 : decode (ib f_Reader_readFlight) 32 = .ok (.ifCond .ne 5, 3) := by decide +kernel
theorem d_Reader_readFlight_35 : decode (ib f_Reader_readFlight) 35 = .ok (.iconst 0, 1) := by decide +kernel
theorem d_Reader_readFlight_36 : decode (ib f_Reader_readFlight) 36 = .ok (.ireturn, 1) := by decide +kernel
theorem d_Reader_readFlight_37 : decode (ib f_Reader_readFlight) 37 = .ok (.aload_n 0, 1) := by decide +kernel
theorem d_Reader_readFlight_38 : decode (ib f_Reader_readFlight) 38 = .ok (.getfield 55, 3) := by decide +kernel
theorem d_Reader_readFlight_41 : decode (ib f_Reader_readFlight) 41 = .ok (.iconst 1, 1) := by decide +kernel
theorem d_Reader_readFlight_42 : decode (ib f_Reader_readFlight) 42 = .ok (.dup2, 1) := by decide +kernel
theorem d_Reader_readFlight_43 : decode (ib f_Reader_readFlight) 43 = .ok (.iaload, 1) := by decide +kernel
theorem d_Reader_readFlight_44 : decode (ib f_Reader_readFlight) 44 = .ok (.bipush 20, 2) := by decide +kernel
theorem d_Reader_readFlight_46 : decode (ib f_Reader_readFlight) 46 = .ok (.isub, 1) := by decide +kernel
theorem d_Reader_readFlight_47 : decode (ib f_Reader_readFlight) 47 = .ok (.iastore, 1) := by decide +kernel
theorem d_Reader_readFlight_48 : decode (ib f_Reader_readFlight) 48 = .ok (.aload_n 0, 1) := by decide +kernel
theorem d_Reader_readFlight_49 : decode (ib f_Reader_readFlight) 49 = .ok (.iconst 1, 1) := by decide +kernel
theorem d_Reader_readFlight_50 : decode (ib f_Reader_readFlight) 50 = .ok (.bipush 9, 2) := by decide +kernel
theorem d_Reader_readFlight_52 : decode (ib f_Reader_readFlight) 52 = .ok (.iconst 2, 1) := by decide +kernel
theorem d_Reader_readFlight_53 : decode (ib f_Reader_readFlight) 53 = .ok (.invokevirtual 146, 3) := by decide +kernel
theorem d_Reader_readFlight_56 : decode (ib f_Reader_readFlight) 56 = .ok (.ifCond .eq 50, 3) := by decide +kernel
theorem d_Reader_readFlight_59 : decode (ib f_Reader_readFlight) 59 = .ok (.aload_n 0, 1) := by decide +kernel
theorem d_Reader_readFlight_60 : decode (ib f_Reader_readFlight) 60 = .ok (.iconst 0, 1) := by decide +kernel
theorem d_Reader_readFlight_61 : decode (ib f_Reader_readFlight) 61 = .ok (.bipush 9, 2) := by decide +kernel
theorem d_Reader_readFlight_63 : decode (ib f_Reader_readFlight) 63 = .ok (.iconst 3, 1) := by decide +kernel
theorem d_Reader_readFlight_64 : decode (ib f_Reader_readFlight) 64 = .ok (.invokevirtual 146, 3) := by decide +kernel
theorem d_Reader_readFlight_67 : decode (ib f_Reader_readFlight) 67 = .ok (.ifCond .eq 39, 3) := by decide +kernel
theorem d_Reader_readFlight_70 : decode (ib f_Reader_readFlight) 70 = .ok (.aload_n 0, 1) := by decide +kernel
theorem d_Reader_readFlight_71 : decode (ib f_Reader_readFlight) 71 = .ok (.bipush 19, 2) := by decide +kernel
theorem d_Reader_readFlight_73 : decode (ib f_Reader_readFlight) 73 = .ok (.bipush 19, 2) := by decide +kernel
theorem d_Reader_readFlight_75 : decode (ib f_Reader_readFlight) 75 = .ok (.iconst 4, 1) := by decide +kernel
theorem d_Reader_readFlight_76 : decode (ib f_Reader_readFlight) 76 = .ok (.invokevirtual 130, 3) := by decide +kernel
theorem d_Reader_readFlight_79 : decode (ib f_Reader_readFlight) 79 = .ok (.ifCond .eq 27, 3) := by decide +kernel
theorem d_Reader_readFlight_82 : decode (ib f_Reader_readFlight) 82 = .ok (.aload_n 0, 1) := by decide +kernel
theorem d_Reader_readFlight_83 : decode (ib f_Reader_readFlight) 83 = .ok (.iconst 0, 1) := by decide +kernel
theorem d_Reader_readFlight_84 : decode (ib f_Reader_readFlight) 84 = .ok (.bipush 59, 2) := by decide +kernel
theorem d_Reader_readFlight_86 : decode (ib f_Reader_readFlight) 86 = .ok (.iconst 4, 1) := by decide +kernel
theorem d_Reader_readFlight_87 : decode (ib f_Reader_readFlight) 87 = .ok (.invokevirtual 146, 3) := by decide +kernel
theorem d_Reader_readFlight_90 : decode (ib f_Reader_readFlight) 90 = .ok (.ifCond .eq 16, 3) := by decide +kernel
theorem d_Reader_readFlight_93 : decode (ib f_Reader_readFlight) 93 = .ok (.aload_n 0, 1) := by decide +kernel
theorem d_Reader_readFlight_94 : decode (ib f_Reader_readFlight) 94 = .ok (.bipush 59, 2) := by decide +kernel
theorem d_Reader_readFlight_96 : decode (ib f_Reader_readFlight) 96 = .ok (.invokevirtual 149, 3) := by decide +kernel
theorem d_Reader_readFlight_99 : decode (ib f_Reader_readFlight) 99 = .ok (.ifCond .eq 7, 3) := by decide +kernel
theorem d_Reader_readFlight_102 : decode (ib f_Reader_readFlight) 102 = .ok (.iconst 1, 1) := by decide +kernel
theorem d_Reader_readFlight_103 : decode (ib f_Reader_readFlight) 103 = .ok (.goto 4, 3) := by decide +kernel
theorem d_Reader_readFlight_106 : decode (ib f_Reader_readFlight) 106 = .ok (.iconst 0, 1) := by decide +kernel
theorem d_Reader_readFlight_107 : decode (ib f_Reader_readFlight) 107 = .ok (.ireturn, 1) := by decide +kernel
theorem d_Reader_readSky_0 : decode (ib f_Reader_readSky) 0 = .ok (.aload_n 0, 1) := by decide +kernel
theorem d_Reader_readSky_1 : decode (ib f_Reader_readSky) 1 = .ok (.bipush 18, 2) := by decide +kernel
theorem d_Reader_readSky_3 : decode (ib f_Reader_readSky) 3 = .ok (.bipush 18, 2) := by decide +kernel
theorem d_Reader_readSky_5 : decode (ib f_Reader_readSky) 5 = .ok (.invokevirtual 143, 3) := by decide +kernel
theorem d_Reader_readSky_8 : decode (ib f_Reader_readSky) 8 = .ok (.ifCond .eq 15, 3) := by decide +kernel
theorem d_Reader_readSky_11 : decode (ib f_Reader_readSky) 11 = .ok (.aload_n 0, 1) := by decide +kernel
theorem d_Reader_readSky_12 : decode (ib f_Reader_readSky) 12 = .ok (.iconst 0, 1) := by decide +kernel
theorem d_Reader_readSky_13 : decode (ib f_Reader_readSky) 13 = .ok (.sipush 999, 3) := by decide +kernel
theorem d_Reader_readSky_16 : decode (ib f_Reader_readSky) 16 = .ok (.iconst 0, 1) := by decide +kernel
theorem d_Reader_readSky_17 : decode (ib f_Reader_readSky) 17 = .ok (.invokevirtual 146, 3) := by decide +kernel
theorem d_Reader_readSky_20 : decode (ib f_Reader_readSky) 20 = .ok (.ifCond .ne 5, 3) := by decide +kernel
theorem d_Reader_readSky_23 : decode (ib f_Reader_readSky) 23 = .ok (.iconst 0, 1) := by decide +kernel
theorem d_Reader_readSky_24 : decode (ib f_Reader_readSky) 24 = .ok (.ireturn, 1) := by decide +kernel
theorem d_Reader_readSky_25 : decode (ib f_Reader_readSky) 25 = .ok (.aload_n 0, 1) := by decide +kernel
theorem d_Reader_readSky_26 : decode (ib f_Reader_readSky) 26 = .ok (.bipush 14, 2) := by decide +kernel
theorem d_Reader_readSky_28 : decode (ib f_Reader_readSky) 28 = .ok (.bipush 15, 2) := by decide +kernel
theorem d_Reader_readSky_30 : decode (ib f_Reader_readSky) 30 = .ok (.invokevirtual 120, 3) := by decide +kernel
theorem d_Reader_readSky_33 : decode (ib f_Reader_readSky) 33 = .ok (.ifCond .ne 14, 3) := by decide +kernel
theorem d_Reader_readSky_36 : decode (ib f_Reader_readSky) 36 = .ok (.aload_n 0, 1) := by decide +kernel
theorem d_Reader_readSky_37 : decode (ib f_Reader_readSky) 37 = .ok (.bipush 26, 2) := by decide +kernel
theorem d_Reader_readSky_39 : decode (ib f_Reader_readSky) 39 = .ok (.bipush 27, 2) := by decide +kernel
theorem d_Reader_readSky_41 : decode (ib f_Reader_readSky) 41 = .ok (.invokevirtual 120, 3) := by decide +kernel
theorem d_Reader_readSky_44 : decode (ib f_Reader_readSky) 44 = .ok (.ifCond .eq 7, 3) := by decide +kernel
theorem d_Reader_readSky_47 : decode (ib f_Reader_readSky) 47 = .ok (.iconst 1, 1) := by decide +kernel
theorem d_Reader_readSky_48 : decode (ib f_Reader_readSky) 48 = .ok (.goto 4, 3) := by decide +kernel
theorem d_Reader_readSky_51 : decode (ib f_Reader_readSky) 51 = .ok (.iconst 0, 1) := by decide +kernel
theorem d_Reader_readSky_52 : decode (ib f_Reader_readSky) 52 = .ok (.istore_n 1, 1) := by decide +kernel
theorem d_Reader_readSky_53 : decode (ib f_Reader_readSky) 53 = .ok (.iload_n 1, 1) := by decide +kernel
theorem d_Reader_readSky_54 : decode (ib f_Reader_readSky) 54 = .ok (.ifCond .ne 9, 3) := by decide +kernel
theorem d_Reader_readSky_57 : decode (ib f_Reader_readSky) 57 = .ok (.aload_n 0, 1) := by decide +kernel
theorem d_Reader_readSky_58 : decode (ib f_Reader_readSky) 58 = .ok (.iconst 1, 1) := by decide +kernel
theorem d_Reader_readSky_59 : decode (ib f_Reader_readSky) 59 = .ok (.invokevirtual 127, 3) := by decide +kernel
theorem d_Reader_readSky_62 : decode (ib f_Reader_readSky) 62 = .ok (.ireturn, 1) := by decide +kernel
theorem d_Reader_readSky_63 : decode (ib f_Reader_readSky) 63 = .ok (.aload_n 0, 1) := by decide +kernel
theorem d_Reader_readSky_64 : decode (ib f_Reader_readSky) 64 = .ok (.iconst 1, 1) := by decide +kernel
theorem d_Reader_readSky_65 : decode (ib f_Reader_readSky) 65 = .ok (.invokevirtual 133, 3) := by decide +kernel
theorem d_Reader_readSky_68 : decode (ib f_Reader_readSky) 68 = .ok (.pop, 1) := by decide +kernel
theorem d_Reader_readSky_69 : decode (ib f_Reader_readSky) 69 = .ok (.aload_n 0, 1) := by decide +kernel
theorem d_Reader_readSky_70 : decode (ib f_Reader_readSky) 70 = .ok (.getfield 55, 3) := by decide +kernel
theorem d_Reader_readSky_73 : decode (ib f_Reader_readSky) 73 = .ok (.iconst 1, 1) := by decide +kernel
theorem d_Reader_readSky_74 : decode (ib f_Reader_readSky) 74 = .ok (.iaload, 1) := by decide +kernel
theorem d_Reader_readSky_75 : decode (ib f_Reader_readSky) 75 = .ok (.bipush 26, 2) := by decide +kernel
theorem d_Reader_readSky_77 : decode (ib f_Reader_readSky) 77 = .ok (.if_icmp .ne 34, 3) := by decide +kernel
theorem d_Reader_readSky_80 : decode (ib f_Reader_readSky) 80 = .ok (.aload_n 0, 1) := by decide +kernel
theorem d_Reader_readSky_81 : decode (ib f_Reader_readSky) 81 = .ok (.iconst 0, 1) := by decide +kernel
theorem d_Reader_readSky_82 : decode (ib f_Reader_readSky) 82 = .ok (.bipush 59, 2) := by decide +kernel
theorem d_Reader_readSky_84 : decode (ib f_Reader_readSky) 84 = .ok (.iconst 2, 1) := by decide +kernel
theorem d_Reader_readSky_85 : decode (ib f_Reader_readSky) 85 = .ok (.invokevirtual 146, 3) := by decide +kernel
theorem d_Reader_readSky_88 : decode (ib f_Reader_readSky) 88 = .ok (.ifCond .eq 18, 3) := by decide +kernel
theorem d_Reader_readSky_91 : decode (ib f_Reader_readSky) 91 = .ok (.aload_n 0, 1) := by decide +kernel
theorem d_Reader_readSky_92 : decode (ib f_Reader_readSky) 92 = .ok (.iconst 0, 1) := by decide +kernel
theorem d_Reader_readSky_93 : decode (ib f_Reader_readSky) 93 = .ok (.bipush 99, 2) := by decide +kernel
theorem d_Reader_readSky_95 : decode (ib f_Reader_readSky) 95 = .ok (.iconst 3, 1) := by decide +kernel
theorem d_Reader_readSky_96 : decode (ib f_Reader_readSky) 96 = .ok (.invokevirtual 146, 3) := by decide +kernel
theorem d_Reader_readSky_99 : decode (ib f_Reader_readSky) 99 = .ok (.ifCond .eq 7, 3) := by decide +kernel
theorem d_Reader_readSky_102 : decode (ib f_Reader_readSky) 102 = .ok (.iconst 1, 1) := by decide +kernel
theorem d_Reader_readSky_103 : decode (ib f_Reader_readSky) 103 = .ok (.goto 4, 3) := by decide +kernel
theorem d_Reader_readSky_106 : decode (ib f_Reader_readSky) 106 = .ok (.iconst 0, 1) := by decide +kernel
theorem d_Reader_readSky_107 : decode (ib f_Reader_readSky) 107 = .ok (.istore_n 2, 1) := by decide +kernel
theorem d_Reader_readSky_108 : decode (ib f_Reader_readSky) 108 = .ok (.goto 35, 3) := by decide +kernel
theorem d_Reader_readSky_111 : decode (ib f_Reader_readSky) 111 = .ok (.aload_n 0, 1) := by decide +kernel
theorem d_Reader_readSky_112 : decode (ib f_Reader_readSky) 112 = .ok (.getfield 55, 3) := by decide +kernel
theorem d_Reader_readSky_115 : decode (ib f_Reader_readSky) 115 = .ok (.iconst 1, 1) := by decide +kernel
theorem d_Reader_readSky_116 : decode (ib f_Reader_readSky) 116 = .ok (.iaload, 1) := by decide +kernel
theorem d_Reader_readSky_117 : decode (ib f_Reader_readSky) 117 = .ok (.bipush 27, 2) := by decide +kernel
theorem d_Reader_readSky_119 : decode (ib f_Reader_readSky) 119 = .ok (.if_icmp .ne 15, 3) := by decide +kernel
theorem d_Reader_readSky_122 : decode (ib f_Reader_readSky) 122 = .ok (.aload_n 0, 1) := by decide +kernel
theorem d_Reader_readSky_123 : decode (ib f_Reader_readSky) 123 = .ok (.iconst 1, 1) := by decide +kernel
theorem d_Reader_readSky_124 : decode (ib f_Reader_readSky) 124 = .ok (.bipush 99, 2) := by decide +kernel
theorem d_Reader_readSky_126 : decode (ib f_Reader_readSky) 126 = .ok (.iconst 2, 1) := by decide +kernel
theorem d_Reader_readSky_127 : decode (ib f_Reader_readSky) 127 = .ok (.invokevirtual 146, 3) := by decide +kernel
theorem d_Reader_readSky_130 : decode (ib f_Reader_readSky) 130 = .ok (.istore_n 2, 1) := by decide +kernel
theorem d_Reader_readSky_131 : decode (ib f_Reader_readSky) 131 = .ok (.goto 12, 3) := by decide +kernel
theorem d_Reader_readSky_134 : decode (ib f_Reader_readSky) 134 = .ok (.aload_n 0, 1) := by decide +kernel
theorem d_Reader_readSky_135 : decode (ib f_Reader_readSky) 135 = .ok (.iconst 0, 1) := by decide +kernel
theorem d_Reader_readSky_136 : decode (ib f_Reader_readSky) 136 = .ok (.bipush 9, 2) := by decide +kernel
theorem d_Reader_readSky_138 : decode (ib f_Reader_readSky) 138 = .ok (.iconst 2, 1) := by decide +kernel
theorem d_Reader_readSky_139 : decode (ib f_Reader_readSky) 139 = .ok (.invokevirtual 146, 3) := by decide +kernel
theorem d_Reader_readSky_142 : decode (ib f_Reader_readSky) 142 = .ok (.istore_n 2, 1) := by decide +kernel
theorem d_Reader_readSky_143 : decode (ib f_Reader_readSky) 143 = .ok (.iload_n 2, 1) := by decide +kernel
theorem d_Reader_readSky_144 : decode (ib f_Reader_readSky) 144 = .ok (.ifCond .eq 16, 3) := by decide +kernel
theorem d_Reader_readSky_147 : decode (ib f_Reader_readSky) 147 = .ok (.aload_n 0, 1) := by decide +kernel
theorem d_Reader_readSky_148 : decode (ib f_Reader_readSky) 148 = .ok (.bipush 59, 2) := by decide +kernel
theorem d_Reader_readSky_150 : decode (ib f_Reader_readSky) 150 = .ok (.invokevirtual 149, 3) := by decide +kernel
theorem d_Reader_readSky_153 : decode (ib f_Reader_readSky) 153 = .ok (.ifCond .eq 7, 3) := by decide +kernel
theorem d_Reader_readSky_156 : decode (ib f_Reader_readSky) 156 = .ok (.iconst 1, 1) := by decide +kernel
theorem d_Reader_readSky_157 : decode (ib f_Reader_readSky) 157 = .ok (.goto 4, 3) := by decide +kernel
theorem d_Reader_readSky_160 : decode (ib f_Reader_readSky) 160 = .ok (.iconst 0, 1) := by decide +kernel
theorem d_Reader_readSky_161 : decode (ib f_Reader_readSky) 161 = .ok (.ireturn, 1) := by decide +kernel
theorem d_Reader_readStrips_0 : decode (ib f_Reader_readStrips) 0 = .ok (.aload_n 0, 1) := by decide +kernel
theorem d_Reader_readStrips_1 : decode (ib f_Reader_readStrips) 1 = .ok (.bipush 28, 2) := by decide +kernel
theorem d_Reader_readStrips_3 : decode (ib f_Reader_readStrips) 3 = .ok (.bipush 28, 2) := by decide +kernel
theorem d_Reader_readStrips_5 : decode (ib f_Reader_readStrips) 5 = .ok (.invokevirtual 143, 3) := by decide +kernel
theorem d_Reader_readStrips_8 : decode (ib f_Reader_readStrips) 8 = .ok (.ifCond .eq 38, 3) := by decide +kernel
theorem d_Reader_readStrips_11 : decode (ib f_Reader_readStrips) 11 = .ok (.aload_n 0, 1) := by decide +kernel
theorem d_Reader_readStrips_12 : decode (ib f_Reader_readStrips) 12 = .ok (.iconst 0, 1) := by decide +kernel
theorem d_Reader_readStrips_13 : decode (ib f_Reader_readStrips) 13 = .ok (.bipush 11, 2) := by decide +kernel
theorem d_Reader_readStrips_15 : decode (ib f_Reader_readStrips) 15 = .ok (.iconst 0, 1) := by decide +kernel
theorem d_Reader_readStrips_16 : decode (ib f_Reader_readStrips) 16 = .ok (.invokevirtual 146, 3) := by decide +kernel
theorem d_Reader_readStrips_19 : decode (ib f_Reader_readStrips) 19 = .ok (.ifCond .eq 27, 3) := by decide +kernel
theorem d_Reader_readStrips_22 : decode (ib f_Reader_readStrips) 22 = .ok (.aload_n 0, 1) := by decide +kernel
theorem d_Reader_readStrips_23 : decode (ib f_Reader_readStrips) 23 = .ok (.bipush 18, 2) := by decide +kernel
theorem d_Reader_readStrips_25 : decode (ib f_Reader_readStrips) 25 = .ok (.bipush 18, 2) := by decide +kernel
theorem d_Reader_readStrips_27 : decode (ib f_Reader_readStrips) 27 = .ok (.iconst 1, 1) := by decide +kernel
theorem d_Reader_readStrips_28 : decode (ib f_Reader_readStrips) 28 = .ok (.invokevirtual 130, 3) := by decide +kernel
theorem d_Reader_readStrips_31 : decode (ib f_Reader_readStrips) 31 = .ok (.ifCond .eq 15, 3) := by decide +kernel
theorem d_Reader_readStrips_34 : decode (ib f_Reader_readStrips) 34 = .ok (.aload_n 0, 1) := by decide +kernel
theorem d_Reader_readStrips_35 : decode (ib f_Reader_readStrips) 35 = .ok (.bipush 28, 2) := by decide +kernel
theorem d_Reader_readStrips_37 : decode (ib f_Reader_readStrips) 37 = .ok (.bipush 28, 2) := by decide +kernel
theorem d_Reader_readStrips_39 : decode (ib f_Reader_readStrips) 39 = .ok (.iconst 1, 1) := by decide +kernel
theorem d_Reader_readStrips_40 : decode (ib f_Reader_readStrips) 40 = .ok (.invokevirtual 130, 3) := by decide +kernel
theorem d_Reader_readStrips_43 : decode (ib f_Reader_readStrips) 43 = .ok (.ifCond .ne 5, 3) := by decide +kernel
theorem d_Reader_readStrips_46 : decode (ib f_Reader_readStrips) 46 = .ok (.iconst 0, 1) := by decide +kernel
theorem d_Reader_readStrips_47 : decode (ib f_Reader_readStrips) 47 = .ok (.ireturn, 1) := by decide +kernel
theorem d_Reader_readStrips_48 : decode (ib f_Reader_readStrips) 48 = .ok (.aload_n 0, 1) := by decide +kernel
theorem d_Reader_readStrips_49 : decode (ib f_Reader_readStrips) 49 = .ok (.getfield 40, 3) := by decide +kernel
theorem d_Reader_readStrips_52 : decode (ib f_Reader_readStrips) 52 = .ok (.aload_n 0, 1) := by decide +kernel
theorem d_Reader_readStrips_53 : decode (ib f_Reader_readStrips) 53 = .ok (.getfield 52, 3) := by decide +kernel
theorem d_Reader_readStrips_56 : decode (ib f_Reader_readStrips) 56 = .ok (.iaload, 1) := by decide +kernel
theorem d_Reader_readStrips_57 : decode (ib f_Reader_readStrips) 57 = .ok (.iconst 2, 1) := by decide +kernel
theorem d_Reader_readStrips_58 : decode (ib f_Reader_readStrips) 58 = .ok (.if_icmp .ne 27, 3) := by decide +kernel
theorem d_Reader_readStrips_61 : decode (ib f_Reader_readStrips) 61 = .ok (.aload_n 0, 1) := by decide +kernel
theorem d_Reader_readStrips_62 : decode (ib f_Reader_readStrips) 62 = .ok (.getfield 43, 3) := by decide +kernel
theorem d_Reader_readStrips_65 : decode (ib f_Reader_readStrips) 65 = .ok (.aload_n 0, 1) := by decide +kernel
theorem d_Reader_readStrips_66 : decode (ib f_Reader_readStrips) 66 = .ok (.getfield 52, 3) := by decide +kernel
theorem d_Reader_readStrips_69 : decode (ib f_Reader_readStrips) 69 = .ok (.iaload, 1) := by decide +kernel
theorem d_Reader_readStrips_70 : decode (ib f_Reader_readStrips) 70 = .ok (.aload_n 0, 1) := by decide +kernel
theorem d_Reader_readStrips_71 : decode (ib f_Reader_readStrips) 71 = .ok (.getfield 55, 3) := by decide +kernel
theorem d_Reader_readStrips_74 : decode (ib f_Reader_readStrips) 74 = .ok (.iconst 0, 1) := by decide +kernel
theorem d_Reader_readStrips_75 : decode (ib f_Reader_readStrips) 75 = .ok (.iaload, 1) := by decide +kernel
theorem d_Reader_readStrips_76 : decode (ib f_Reader_readStrips) 76 = .ok (.if_icmp .ne 9, 3) := by decide +kernel
theorem d_Reader_readStrips_79 : decode (ib f_Reader_readStrips) 79 = .ok (.aload_n 0, 1) := by decide +kernel
theorem d_Reader_readStrips_80 : decode (ib f_Reader_readStrips) 80 = .ok (.iconst 2, 1) := by decide +kernel
theorem d_Reader_readStrips_81 : decode (ib f_Reader_readStrips) 81 = .ok (.invokevirtual 127, 3) := by decide +kernel
theorem d_Reader_readStrips_84 : decode (ib f_Reader_readStrips) 84 = .ok (.ireturn, 1) := by decide +kernel
theorem d_Reader_readStrips_85 : decode (ib f_Reader_readStrips) 85 = .ok (.aload_n 0, 1) := by decide +kernel
theorem d_Reader_readStrips_86 : decode (ib f_Reader_readStrips) 86 = .ok (.iconst 0, 1) := by decide +kernel
theorem d_Reader_readStrips_87 : decode (ib f_Reader_readStrips) 87 = .ok (.bipush 11, 2) := by decide +kernel
theorem d_Reader_readStrips_89 : decode (ib f_Reader_readStrips) 89 = .ok (.iconst 1, 1) := by decide +kernel
theorem d_Reader_readStrips_90 : decode (ib f_Reader_readStrips) 90 = .ok (.invokevirtual 146, 3) := by decide +kernel
theorem d_Reader_readStrips_93 : decode (ib f_Reader_readStrips) 93 = .ok (.ifCond .eq 16, 3) := by decide +kernel
theorem d_Reader_readStrips_96 : decode (ib f_Reader_readStrips) 96 = .ok (.aload_n 0, 1) := by decide +kernel
theorem d_Reader_readStrips_97 : decode (ib f_Reader_readStrips) 97 = .ok (.bipush 59, 2) := by decide +kernel
theorem d_Reader_readStrips_99 : decode (ib f_Reader_readStrips) 99 = .ok (.invokevirtual 149, 3) := by decide +kernel
theorem d_Reader_readStrips_102 : decode (ib f_Reader_readStrips) 102 = .ok (.ifCond .eq 7, 3) := by decide +kernel
theorem d_Reader_readStrips_105 : decode (ib f_Reader_readStrips) 105 = .ok (.iconst 1, 1) := by decide +kernel
theorem d_Reader_readStrips_106 : decode (ib f_Reader_readStrips) 106 = .ok (.goto 4, 3) := by decide +kernel
theorem d_Reader_readStrips_109 : decode (ib f_Reader_readStrips) 109 = .ok (.iconst 0, 1) := by decide +kernel
theorem d_Reader_readStrips_110 : decode (ib f_Reader_readStrips) 110 = .ok (.ireturn, 1) := by decide +kernel
theorem d_Reader_readLaw_0 : decode (ib f_Reader_readLaw) 0 = .ok (.aload_n 0, 1) := by decide +kernel
theorem d_Reader_readLaw_1 : decode (ib f_Reader_readLaw) 1 = .ok (.iconst 0, 1) := by decide +kernel
theorem d_Reader_readLaw_2 : decode (ib f_Reader_readLaw) 2 = .ok (.iconst 2, 1) := by decide +kernel
theorem d_Reader_readLaw_3 : decode (ib f_Reader_readLaw) 3 = .ok (.invokevirtual 143, 3) := by decide +kernel
theorem d_Reader_readLaw_6 : decode (ib f_Reader_readLaw) 6 = .ok (.ifCond .ne 5, 3) := by decide +kernel
theorem d_Reader_readLaw_9 : decode (ib f_Reader_readLaw) 9 = .ok (.iconst 0, 1) := by decide +kernel
theorem d_Reader_readLaw_10 : decode (ib f_Reader_readLaw) 10 = .ok (.ireturn, 1) := by decide +kernel
theorem d_Reader_readLaw_11 : decode (ib f_Reader_readLaw) 11 = .ok (.aload_n 0, 1) := by decide +kernel
theorem d_Reader_readLaw_12 : decode (ib f_Reader_readLaw) 12 = .ok (.getfield 55, 3) := by decide +kernel
theorem d_Reader_readLaw_15 : decode (ib f_Reader_readLaw) 15 = .ok (.iconst 1, 1) := by decide +kernel
theorem d_Reader_readLaw_16 : decode (ib f_Reader_readLaw) 16 = .ok (.aload_n 0, 1) := by decide +kernel
theorem d_Reader_readLaw_17 : decode (ib f_Reader_readLaw) 17 = .ok (.getfield 37, 3) := by decide +kernel
theorem d_Reader_readLaw_20 : decode (ib f_Reader_readLaw) 20 = .ok (.iastore, 1) := by decide +kernel
theorem d_Reader_readLaw_21 : decode (ib f_Reader_readLaw) 21 = .ok (.aload_n 0, 1) := by decide +kernel
theorem d_Reader_readLaw_22 : decode (ib f_Reader_readLaw) 22 = .ok (.invokevirtual 152, 3) := by decide +kernel
theorem d_Reader_readLaw_25 : decode (ib f_Reader_readLaw) 25 = .ok (.ifCond .ne 5, 3) := by decide +kernel
theorem d_Reader_readLaw_28 : decode (ib f_Reader_readLaw) 28 = .ok (.iconst 0, 1) := by decide +kernel
theorem d_Reader_readLaw_29 : decode (ib f_Reader_readLaw) 29 = .ok (.ireturn, 1) := by decide +kernel
theorem d_Reader_readLaw_30 : decode (ib f_Reader_readLaw) 30 = .ok (.aload_n 0, 1) := by decide +kernel
theorem d_Reader_readLaw_31 : decode (ib f_Reader_readLaw) 31 = .ok (.getfield 55, 3) := by decide +kernel
theorem d_Reader_readLaw_34 : decode (ib f_Reader_readLaw) 34 = .ok (.iconst 2, 1) := by decide +kernel
theorem d_Reader_readLaw_35 : decode (ib f_Reader_readLaw) 35 = .ok (.aload_n 0, 1) := by decide +kernel
theorem d_Reader_readLaw_36 : decode (ib f_Reader_readLaw) 36 = .ok (.getfield 37, 3) := by decide +kernel
theorem d_Reader_readLaw_39 : decode (ib f_Reader_readLaw) 39 = .ok (.iastore, 1) := by decide +kernel
theorem d_Reader_readLaw_40 : decode (ib f_Reader_readLaw) 40 = .ok (.aload_n 0, 1) := by decide +kernel
theorem d_Reader_readLaw_41 : decode (ib f_Reader_readLaw) 41 = .ok (.iconst 3, 1) := by decide +kernel
theorem d_Reader_readLaw_42 : decode (ib f_Reader_readLaw) 42 = .ok (.iconst 3, 1) := by decide +kernel
theorem d_Reader_readLaw_43 : decode (ib f_Reader_readLaw) 43 = .ok (.invokevirtual 120, 3) := by decide +kernel
theorem d_Reader_readLaw_46 : decode (ib f_Reader_readLaw) 46 = .ok (.ifCond .eq 18, 3) := by decide +kernel
theorem d_Reader_readLaw_49 : decode (ib f_Reader_readLaw) 49 = .ok (.aload_n 0, 1) := by decide +kernel
theorem d_Reader_readLaw_50 : decode (ib f_Reader_readLaw) 50 = .ok (.invokevirtual 140, 3) := by decide +kernel
theorem d_Reader_readLaw_53 : decode (ib f_Reader_readLaw) 53 = .ok (.pop, 1) := by decide +kernel
theorem d_Reader_readLaw_54 : decode (ib f_Reader_readLaw) 54 = .ok (.aload_n 0, 1) := by decide +kernel
theorem d_Reader_readLaw_55 : decode (ib f_Reader_readLaw) 55 = .ok (.iconst 0, 1) := by decide +kernel
theorem d_Reader_readLaw_56 : decode (ib f_Reader_readLaw) 56 = .ok (.invokevirtual 155, 3) := by decide +kernel
theorem d_Reader_readLaw_59 : decode (ib f_Reader_readLaw) 59 = .ok (.ifCond .ne 5, 3) := by decide +kernel
theorem d_Reader_readLaw_62 : decode (ib f_Reader_readLaw) 62 = .ok (.iconst 0, 1) := by decide +kernel
theorem d_Reader_readLaw_63 : decode (ib f_Reader_readLaw) 63 = .ok (.ireturn, 1) := by decide +kernel
theorem d_Reader_readLaw_64 : decode (ib f_Reader_readLaw) 64 = .ok (.aload_n 0, 1) := by decide +kernel
theorem d_Reader_readLaw_65 : decode (ib f_Reader_readLaw) 65 = .ok (.getfield 55, 3) := by decide +kernel
theorem d_Reader_readLaw_68 : decode (ib f_Reader_readLaw) 68 = .ok (.iconst 3, 1) := by decide +kernel
theorem d_Reader_readLaw_69 : decode (ib f_Reader_readLaw) 69 = .ok (.aload_n 0, 1) := by decide +kernel
theorem d_Reader_readLaw_70 : decode (ib f_Reader_readLaw) 70 = .ok (.getfield 37, 3) := by decide +kernel
theorem d_Reader_readLaw_73 : decode (ib f_Reader_readLaw) 73 = .ok (.iastore, 1) := by decide +kernel
theorem d_Reader_readLaw_74 : decode (ib f_Reader_readLaw) 74 = .ok (.aload_n 0, 1) := by decide +kernel
theorem d_Reader_readLaw_75 : decode (ib f_Reader_readLaw) 75 = .ok (.bipush 59, 2) := by decide +kernel
theorem d_Reader_readLaw_77 : decode (ib f_Reader_readLaw) 77 = .ok (.invokevirtual 149, 3) := by decide +kernel
theorem d_Reader_readLaw_80 : decode (ib f_Reader_readLaw) 80 = .ok (.ireturn, 1) := by decide +kernel
theorem d_Reader_condition_0 : decode (ib f_Reader_condition) 0 = .ok (.iconst 0, 1) := by decide +kernel
theorem d_Reader_condition_1 : decode (ib f_Reader_condition) 1 = .ok (.istore_n 2, 1) := by decide +kernel
theorem d_Reader_condition_2 : decode (ib f_Reader_condition) 2 = .ok (.iconst 0, 1) := by decide +kernel
theorem d_Reader_condition_3 : decode (ib f_Reader_condition) 3 = .ok (.istore_n 3, 1) := by decide +kernel
theorem d_Reader_condition_4 : decode (ib f_Reader_condition) 4 = .ok (.iload_n 3, 1) := by decide +kernel
theorem d_Reader_condition_5 : decode (ib f_Reader_condition) 5 = .ok (.sipush 400, 3) := by decide +kernel
theorem d_Reader_condition_8 : decode (ib f_Reader_condition) 8 = .ok (.if_icmp .ge 99, 3) := by decide +kernel
theorem d_Reader_condition_11 : decode (ib f_Reader_condition) 11 = .ok (.aload_n 0, 1) := by decide +kernel
theorem d_Reader_condition_12 : decode (ib f_Reader_condition) 12 = .ok (.iload_n 1, 1) := by decide +kernel
theorem d_Reader_condition_13 : decode (ib f_Reader_condition) 13 = .ok (.invokevirtual 158, 3) := by decide +kernel
theorem d_Reader_condition_16 : decode (ib f_Reader_condition) 16 = .ok (.ifCond .ne 5, 3) := by decide +kernel
theorem d_Reader_condition_19 : decode (ib f_Reader_condition) 19 = .ok (.iconst 0, 1) := by decide +kernel
theorem d_Reader_condition_20 : decode (ib f_Reader_condition) 20 = .ok (.ireturn, 1) := by decide +kernel
theorem d_Reader_condition_21 : decode (ib f_Reader_condition) 21 = .ok (.iconst 0, 1) := by decide +kernel
theorem d_Reader_condition_22 : decode (ib f_Reader_condition) 22 = .ok (.istore 4, 2) := by decide +kernel
theorem d_Reader_condition_24 : decode (ib f_Reader_condition) 24 = .ok (.iload 4, 2) := by decide +kernel
theorem d_Reader_condition_26 : decode (ib f_Reader_condition) 26 = .ok (.sipush 400, 3) := by decide +kernel
theorem d_Reader_condition_29 : decode (ib f_Reader_condition) 29 = .ok (.if_icmp .ge 41, 3) := by decide +kernel
theorem d_Reader_condition_32 : decode (ib f_Reader_condition) 32 = .ok (.aload_n 0, 1) := by decide +kernel
theorem d_Reader_condition_33 : decode (ib f_Reader_condition) 33 = .ok (.iconst 5, 1) := by decide +kernel
theorem d_Reader_condition_34 : decode (ib f_Reader_condition) 34 = .ok (.iconst 5, 1) := by decide +kernel
theorem d_Reader_condition_35 : decode (ib f_Reader_condition) 35 = .ok (.invokevirtual 120, 3) := by decide +kernel
theorem d_Reader_condition_38 : decode (ib f_Reader_condition) 38 = .ok (.ifCond .eq 32, 3) := by decide +kernel
theorem d_Reader_condition_41 : decode (ib f_Reader_condition) 41 = .ok (.aload_n 0, 1) := by decide +kernel
theorem d_Reader_condition_42 : decode (ib f_Reader_condition) 42 = .ok (.invokevirtual 140, 3) := by decide +kernel
theorem d_Reader_condition_45 : decode (ib f_Reader_condition) 45 = .ok (.pop, 1) := by decide +kernel
theorem d_Reader_condition_46 : decode (ib f_Reader_condition) 46 = .ok (.aload_n 0, 1) := by decide +kernel
theorem d_Reader_condition_47 : decode (ib f_Reader_condition) 47 = .ok (.iload_n 1, 1) := by decide +kernel
theorem d_Reader_condition_48 : decode (ib f_Reader_condition) 48 = .ok (.invokevirtual 158, 3) := by decide +kernel
theorem d_Reader_condition_51 : decode (ib f_Reader_condition) 51 = .ok (.ifCond .ne 5, 3) := by decide +kernel
theorem d_Reader_condition_54 : decode (ib f_Reader_condition) 54 = .ok (.iconst 0, 1) := by decide +kernel
theorem d_Reader_condition_55 : decode (ib f_Reader_condition) 55 = .ok (.ireturn, 1) := by decide +kernel
theorem d_Reader_condition_56 : decode (ib f_Reader_condition) 56 = .ok (.aload_n 0, 1) := by decide +kernel
theorem d_Reader_condition_57 : decode (ib f_Reader_condition) 57 = .ok (.sipush 11006, 3) := by decide +kernel
theorem d_Reader_condition_60 : decode (ib f_Reader_condition) 60 = .ok (.invokevirtual 163, 3) := by decide +kernel
theorem d_Reader_condition_63 : decode (ib f_Reader_condition) 63 = .ok (.pop, 1) := by decide +kernel
theorem d_Reader_condition_64 : decode (ib f_Reader_condition) 64 = .ok (.iinc 4 1, 3) := by decide +kernel
theorem d_Reader_condition_67 : decode (ib f_Reader_condition) 67 = .ok (.goto (-43), 3) := by decide +kernel
theorem d_Reader_condition_70 : decode (ib f_Reader_condition) 70 = .ok (.iload_n 2, 1) := by decide +kernel
theorem d_Reader_condition_71 : decode (ib f_Reader_condition) 71 = .ok (.ifCond .le 11, 3) := by decide +kernel
theorem d_Reader_condition_74 : decode (ib f_Reader_condition) 74 = .ok (.aload_n 0, 1) := by decide +kernel
theorem d_Reader_condition_75 : decode (ib f_Reader_condition) 75 = .ok (.sipush 11007, 3) := by decide +kernel
theorem d_Reader_condition_78 : decode (ib f_Reader_condition) 78 = .ok (.invokevirtual 163, 3) := by decide +kernel
theorem d_Reader_condition_81 : decode (ib f_Reader_condition) 81 = .ok (.pop, 1) := by decide +kernel
theorem d_Reader_condition_82 : decode (ib f_Reader_condition) 82 = .ok (.iinc 2 1, 3) := by decide +kernel
theorem d_Reader_condition_85 : decode (ib f_Reader_condition) 85 = .ok (.aload_n 0, 1) := by decide +kernel
theorem d_Reader_condition_86 : decode (ib f_Reader_condition) 86 = .ok (.iconst 4, 1) := by decide +kernel
theorem d_Reader_condition_87 : decode (ib f_Reader_condition) 87 = .ok (.iconst 4, 1) := by decide +kernel
theorem d_Reader_condition_88 : decode (ib f_Reader_condition) 88 = .ok (.invokevirtual 120, 3) := by decide +kernel
theorem d_Reader_condition_91 : decode (ib f_Reader_condition) 91 = .ok (.ifCond .ne 5, 3) := by decide +kernel
theorem d_Reader_condition_94 : decode (ib f_Reader_condition) 94 = .ok (.iconst 1, 1) := by decide +kernel
theorem d_Reader_condition_95 : decode (ib f_Reader_condition) 95 = .ok (.ireturn, 1) := by decide +kernel
theorem d_Reader_condition_96 : decode (ib f_Reader_condition) 96 = .ok (.aload_n 0, 1) := by decide +kernel
theorem d_Reader_condition_97 : decode (ib f_Reader_condition) 97 = .ok (.invokevirtual 140, 3) := by decide +kernel
theorem d_Reader_condition_100 : decode (ib f_Reader_condition) 100 = .ok (.pop, 1) := by decide +kernel
theorem d_Reader_condition_101 : decode (ib f_Reader_condition) 101 = .ok (.iinc 3 1, 3) := by decide +kernel
theorem d_Reader_condition_104 : decode (ib f_Reader_condition) 104 = .ok (.goto (-100), 3) := by decide +kernel
theorem d_Reader_condition_107 : decode (ib f_Reader_condition) 107 = .ok (.iconst 0, 1) := by decide +kernel
theorem d_Reader_condition_108 : decode (ib f_Reader_condition) 108 = .ok (.ireturn, 1) := by decide +kernel
theorem d_Reader_single_0 : decode (ib f_Reader_single) 0 = .ok (.iload_n 1, 1) := by decide +kernel
theorem d_Reader_single_1 : decode (ib f_Reader_single) 1 = .ok (.istore_n 2, 1) := by decide +kernel
theorem d_Reader_single_2 : decode (ib f_Reader_single) 2 = .ok (.iload_n 2, 1) := by decide +kernel
theorem d_Reader_single_3 : decode (ib f_Reader_single) 3 = .ok (.bipush 8, 2) := by decide +kernel
theorem d_Reader_single_5 : decode (ib f_Reader_single) 5 = .ok (.if_icmp .ge 25, 3) := by decide +kernel
theorem d_Reader_single_8 : decode (ib f_Reader_single) 8 = .ok (.aload_n 0, 1) := by decide +kernel
theorem d_Reader_single_9 : decode (ib f_Reader_single) 9 = .ok (.bipush 6, 2) := by decide +kernel
theorem d_Reader_single_11 : decode (ib f_Reader_single) 11 = .ok (.bipush 6, 2) := by decide +kernel
theorem d_Reader_single_13 : decode (ib f_Reader_single) 13 = .ok (.invokevirtual 120, 3) := by decide +kernel
theorem d_Reader_single_16 : decode (ib f_Reader_single) 16 = .ok (.ifCond .eq 14, 3) := by decide +kernel
theorem d_Reader_single_19 : decode (ib f_Reader_single) 19 = .ok (.aload_n 0, 1) := by decide +kernel
theorem d_Reader_single_20 : decode (ib f_Reader_single) 20 = .ok (.invokevirtual 140, 3) := by decide +kernel
theorem d_Reader_single_23 : decode (ib f_Reader_single) 23 = .ok (.pop, 1) := by decide +kernel
theorem d_Reader_single_24 : decode (ib f_Reader_single) 24 = .ok (.iinc 2 1, 3) := by decide +kernel
theorem d_Reader_single_27 : decode (ib f_Reader_single) 27 = .ok (.goto (-25), 3) := by decide +kernel
theorem d_Reader_single_30 : decode (ib f_Reader_single) 30 = .ok (.aload_n 0, 1) := by decide +kernel
theorem d_Reader_single_31 : decode (ib f_Reader_single) 31 = .ok (.bipush 40, 2) := by decide +kernel
theorem d_Reader_single_33 : decode (ib f_Reader_single) 33 = .ok (.invokevirtual 136, 3) := by decide +kernel
theorem d_Reader_single_36 : decode (ib f_Reader_single) 36 = .ok (.istore_n 3, 1) := by decide +kernel
theorem d_Reader_single_37 : decode (ib f_Reader_single) 37 = .ok (.iload_n 2, 1) := by decide +kernel
theorem d_Reader_single_38 : decode (ib f_Reader_single) 38 = .ok (.bipush 8, 2) := by decide +kernel
theorem d_Reader_single_40 : decode (ib f_Reader_single) 40 = .ok (.if_icmp .lt 24, 3) := by decide +kernel
theorem d_Reader_single_43 : decode (ib f_Reader_single) 43 = .ok (.iload_n 3, 1) := by decide +kernel
theorem d_Reader_single_44 : decode (ib f_Reader_single) 44 = .ok (.ifCond .ne 14, 3) := by decide +kernel
theorem d_Reader_single_47 : decode (ib f_Reader_single) 47 = .ok (.aload_n 0, 1) := by decide +kernel
theorem d_Reader_single_48 : decode (ib f_Reader_single) 48 = .ok (.bipush 6, 2) := by decide +kernel
theorem d_Reader_single_50 : decode (ib f_Reader_single) 50 = .ok (.bipush 6, 2) := by decide +kernel
theorem d_Reader_single_52 : decode (ib f_Reader_single) 52 = .ok (.invokevirtual 120, 3) := by decide +kernel
theorem d_Reader_single_55 : decode (ib f_Reader_single) 55 = .ok (.ifCond .eq 9, 3) := by decide +kernel
theorem d_Reader_single_58 : decode (ib f_Reader_single) 58 = .ok (.aload_n 0, 1) := by decide +kernel
theorem d_Reader_single_59 : decode (ib f_Reader_single) 59 = .ok (.iconst 3, 1) := by decide +kernel
theorem d_Reader_single_60 : decode (ib f_Reader_single) 60 = .ok (.invokevirtual 127, 3) := by decide +kernel
theorem d_Reader_single_63 : decode (ib f_Reader_single) 63 = .ok (.ireturn, 1) := by decide +kernel
theorem d_Reader_single_64 : decode (ib f_Reader_single) 64 = .ok (.iload_n 3, 1) := by decide +kernel
theorem d_Reader_single_65 : decode (ib f_Reader_single) 65 = .ok (.ifCond .eq 29, 3) := by decide +kernel
theorem d_Reader_single_68 : decode (ib f_Reader_single) 68 = .ok (.aload_n 0, 1) := by decide +kernel
theorem d_Reader_single_69 : decode (ib f_Reader_single) 69 = .ok (.invokevirtual 140, 3) := by decide +kernel
theorem d_Reader_single_72 : decode (ib f_Reader_single) 72 = .ok (.pop, 1) := by decide +kernel
theorem d_Reader_single_73 : decode (ib f_Reader_single) 73 = .ok (.aload_n 0, 1) := by decide +kernel
theorem d_Reader_single_74 : decode (ib f_Reader_single) 74 = .ok (.iload_n 2, 1) := by decide +kernel
theorem d_Reader_single_75 : decode (ib f_Reader_single) 75 = .ok (.iconst 1, 1) := by decide +kernel
theorem d_Reader_single_76 : decode (ib f_Reader_single) 76 = .ok (.iadd, 1) := by decide +kernel
theorem d_Reader_single_77 : decode (ib f_Reader_single) 77 = .ok (.invokevirtual 155, 3) := by decide +kernel
theorem d_Reader_single_80 : decode (ib f_Reader_single) 80 = .ok (.ifCond .eq 12, 3) := by decide +kernel
theorem d_Reader_single_83 : decode (ib f_Reader_single) 83 = .ok (.aload_n 0, 1) := by decide +kernel
theorem d_Reader_single_84 : decode (ib f_Reader_single) 84 = .ok (.bipush 41, 2) := by decide +kernel
theorem d_Reader_single_86 : decode (ib f_Reader_single) 86 = .ok (.invokevirtual 149, 3) := by decide +kernel
theorem d_Reader_single_89 : decode (ib f_Reader_single) 89 = .ok (.ifCond .ne 95, 3) := by decide +kernel
theorem d_Reader_single_92 : decode (ib f_Reader_single) 92 = .ok (.iconst 0, 1) := by decide +kernel
theorem d_Reader_single_93 : decode (ib f_Reader_single) 93 = .ok (.ireturn, 1) := by decide +kernel
theorem d_Reader_single_94 : decode (ib f_Reader_single) 94 = .ok (.aload_n 0, 1) := by decide +kernel
theorem d_Reader_single_95 : decode (ib f_Reader_single) 95 = .ok (.invokevirtual 152, 3) := by decide +kernel
theorem d_Reader_single_98 : decode (ib f_Reader_single) 98 = .ok (.ifCond .ne 5, 3) := by decide +kernel
theorem d_Reader_single_101 : decode (ib f_Reader_single) 101 = .ok (.iconst 0, 1) := by decide +kernel
theorem d_Reader_single_102 : decode (ib f_Reader_single) 102 = .ok (.ireturn, 1) := by decide +kernel
theorem d_Reader_single_103 : decode (ib f_Reader_single) 103 = .ok (.aload_n 0, 1) := by decide +kernel
theorem d_Reader_single_104 : decode (ib f_Reader_single) 104 = .ok (.bipush 60, 2) := by decide +kernel
theorem d_Reader_single_106 : decode (ib f_Reader_single) 106 = .ok (.invokevirtual 136, 3) := by decide +kernel
theorem d_Reader_single_109 : decode (ib f_Reader_single) 109 = .ok (.ifCond .eq 9, 3) := by decide +kernel
theorem d_Reader_single_112 : decode (ib f_Reader_single) 112 = .ok (.sipush 11003, 3) := by decide +kernel
theorem d_Reader_single_115 : decode (ib f_Reader_single) 115 = .ok (.goto 34, 3) := by decide +kernel
theorem d_Reader_single_118 : decode (ib f_Reader_single) 118 = .ok (.aload_n 0, 1) := by decide +kernel
theorem d_Reader_single_119 : decode (ib f_Reader_single) 119 = .ok (.bipush 61, 2) := by decide +kernel
theorem d_Reader_single_121 : decode (ib f_Reader_single) 121 = .ok (.invokevirtual 136, 3) := by decide +kernel
theorem d_Reader_single_124 : decode (ib f_Reader_single) 124 = .ok (.ifCond .eq 9, 3) := by decide +kernel
theorem d_Reader_single_127 : decode (ib f_Reader_single) 127 = .ok (.sipush 11004, 3) := by decide +kernel
theorem d_Reader_single_130 : decode (ib f_Reader_single) 130 = .ok (.goto 19, 3) := by decide +kernel
theorem d_Reader_single_133 : decode (ib f_Reader_single) 133 = .ok (.aload_n 0, 1) := by decide +kernel
theorem d_Reader_single_134 : decode (ib f_Reader_single) 134 = .ok (.bipush 62, 2) := by decide +kernel
theorem d_Reader_single_136 : decode (ib f_Reader_single) 136 = .ok (.invokevirtual 136, 3) := by decide +kernel
theorem d_Reader_single_139 : decode (ib f_Reader_single) 139 = .ok (.ifCond .eq 9, 3) := by decide +kernel
theorem d_Reader_single_142 : decode (ib f_Reader_single) 142 = .ok (.sipush 11005, 3) := by decide +kernel
theorem d_Reader_single_145 : decode (ib f_Reader_single) 145 = .ok (.goto 4, 3) := by decide +kernel
theorem d_Reader_single_148 : decode (ib f_Reader_single) 148 = .ok (.iconst (-1), 1) := by decide +kernel
theorem d_Reader_single_149 : decode (ib f_Reader_single) 149 = .ok (.istore 4, 2) := by decide +kernel
theorem d_Reader_single_151 : decode (ib f_Reader_single) 151 = .ok (.iload 4, 2) := by decide +kernel
theorem d_Reader_single_153 : decode (ib f_Reader_single) 153 = .ok (.iconst (-1), 1) := by decide +kernel
theorem d_Reader_single_154 : decode (ib f_Reader_single) 154 = .ok (.if_icmp .ne 9, 3) := by decide +kernel
theorem d_Reader_single_157 : decode (ib f_Reader_single) 157 = .ok (.aload_n 0, 1) := by decide +kernel
theorem d_Reader_single_158 : decode (ib f_Reader_single) 158 = .ok (.iconst 1, 1) := by decide +kernel
theorem d_Reader_single_159 : decode (ib f_Reader_single) 159 = .ok (.invokevirtual 127, 3) := by decide +kernel
theorem d_Reader_single_162 : decode (ib f_Reader_single) 162 = .ok (.ireturn, 1) := by decide +kernel
theorem d_Reader_single_163 : decode (ib f_Reader_single) 163 = .ok (.aload_n 0, 1) := by decide +kernel
theorem d_Reader_single_164 : decode (ib f_Reader_single) 164 = .ok (.invokevirtual 140, 3) := by decide +kernel
theorem d_Reader_single_167 : decode (ib f_Reader_single) 167 = .ok (.pop, 1) := by decide +kernel
theorem d_Reader_single_168 : decode (ib f_Reader_single) 168 = .ok (.aload_n 0, 1) := by decide +kernel
theorem d_Reader_single_169 : decode (ib f_Reader_single) 169 = .ok (.invokevirtual 152, 3) := by decide +kernel
theorem d_Reader_single_172 : decode (ib f_Reader_single) 172 = .ok (.ifCond .ne 5, 3) := by decide +kernel
theorem d_Reader_single_175 : decode (ib f_Reader_single) 175 = .ok (.iconst 0, 1) := by decide +kernel
theorem d_Reader_single_176 : decode (ib f_Reader_single) 176 = .ok (.ireturn, 1) := by decide +kernel
theorem d_Reader_single_177 : decode (ib f_Reader_single) 177 = .ok (.aload_n 0, 1) := by decide +kernel
theorem d_Reader_single_178 : decode (ib f_Reader_single) 178 = .ok (.iload 4, 2) := by decide +kernel
theorem d_Reader_single_180 : decode (ib f_Reader_single) 180 = .ok (.invokevirtual 163, 3) := by decide +kernel
theorem d_Reader_single_183 : decode (ib f_Reader_single) 183 = .ok (.pop, 1) := by decide +kernel
theorem d_Reader_single_184 : decode (ib f_Reader_single) 184 = .ok (.iload_n 2, 1) := by decide +kernel
theorem d_Reader_single_185 : decode (ib f_Reader_single) 185 = .ok (.iload_n 1, 1) := by decide +kernel
theorem d_Reader_single_186 : decode (ib f_Reader_single) 186 = .ok (.isub, 1) := by decide +kernel
theorem d_Reader_single_187 : decode (ib f_Reader_single) 187 = .ok (.iconst 2, 1) := by decide +kernel
theorem d_Reader_single_188 : decode (ib f_Reader_single) 188 = .ok (.irem, 1) := by decide +kernel
theorem d_Reader_single_189 : decode (ib f_Reader_single) 189 = .ok (.ifCond .eq 13, 3) := by decide +kernel
theorem d_Reader_single_192 : decode (ib f_Reader_single) 192 = .ok (.aload_n 0, 1) := by decide +kernel
theorem d_Reader_single_193 : decode (ib f_Reader_single) 193 = .ok (.sipush 11008, 3) := by decide +kernel
theorem d_Reader_single_196 : decode (ib f_Reader_single) 196 = .ok (.invokevirtual 163, 3) := by decide +kernel
theorem d_Reader_single_199 : decode (ib f_Reader_single) 199 = .ok (.ifCond .eq 7, 3) := by decide +kernel
theorem d_Reader_single_202 : decode (ib f_Reader_single) 202 = .ok (.iconst 1, 1) := by decide +kernel
theorem d_Reader_single_203 : decode (ib f_Reader_single) 203 = .ok (.goto 4, 3) := by decide +kernel
theorem d_Reader_single_206 : decode (ib f_Reader_single) 206 = .ok (.iconst 0, 1) := by decide +kernel
theorem d_Reader_single_207 : decode (ib f_Reader_single) 207 = .ok (.ireturn, 1) := by decide +kernel
theorem d_Reader_expression_0 : decode (ib f_Reader_expression) 0 = .ok (.iconst (-1), 1) := by decide +kernel
theorem d_Reader_expression_1 : decode (ib f_Reader_expression) 1 = .ok (.istore_n 1, 1) := by decide +kernel
theorem d_Reader_expression_2 : decode (ib f_Reader_expression) 2 = .ok (.aload_n 0, 1) := by decide +kernel
theorem d_Reader_expression_3 : decode (ib f_Reader_expression) 3 = .ok (.invokevirtual 166, 3) := by decide +kernel
theorem d_Reader_expression_6 : decode (ib f_Reader_expression) 6 = .ok (.istore_n 2, 1) := by decide +kernel
theorem d_Reader_expression_7 : decode (ib f_Reader_expression) 7 = .ok (.iconst 0, 1) := by decide +kernel
theorem d_Reader_expression_8 : decode (ib f_Reader_expression) 8 = .ok (.istore_n 3, 1) := by decide +kernel
theorem d_Reader_expression_9 : decode (ib f_Reader_expression) 9 = .ok (.iload_n 3, 1) := by decide +kernel
theorem d_Reader_expression_10 : decode (ib f_Reader_expression) 10 = .ok (.sipush 400, 3) := by decide +kernel
theorem d_Reader_expression_13 : decode (ib f_Reader_expression) 13 = .ok (.if_icmp .ge 135, 3) := by decide +kernel
theorem d_Reader_expression_16 : decode (ib f_Reader_expression) 16 = .ok (.iload_n 2, 1) := by decide +kernel
theorem d_Reader_expression_17 : decode (ib f_Reader_expression) 17 = .ok (.ifCond .eq 131, 3) := by decide +kernel
theorem d_Reader_expression_20 : decode (ib f_Reader_expression) 20 = .ok (.aload_n 0, 1) := by decide +kernel
theorem d_Reader_expression_21 : decode (ib f_Reader_expression) 21 = .ok (.bipush 42, 2) := by decide +kernel
theorem d_Reader_expression_23 : decode (ib f_Reader_expression) 23 = .ok (.invokevirtual 136, 3) := by decide +kernel
theorem d_Reader_expression_26 : decode (ib f_Reader_expression) 26 = .ok (.ifCond .eq 34, 3) := by decide +kernel
theorem d_Reader_expression_29 : decode (ib f_Reader_expression) 29 = .ok (.aload_n 0, 1) := by decide +kernel
theorem d_Reader_expression_30 : decode (ib f_Reader_expression) 30 = .ok (.invokevirtual 140, 3) := by decide +kernel
theorem d_Reader_expression_33 : decode (ib f_Reader_expression) 33 = .ok (.pop, 1) := by decide +kernel
theorem d_Reader_expression_34 : decode (ib f_Reader_expression) 34 = .ok (.aload_n 0, 1) := by decide +kernel
theorem d_Reader_expression_35 : decode (ib f_Reader_expression) 35 = .ok (.invokevirtual 166, 3) := by decide +kernel
theorem d_Reader_expression_38 : decode (ib f_Reader_expression) 38 = .ok (.ifCond .eq 17, 3) := by decide +kernel
theorem d_Reader_expression_41 : decode (ib f_Reader_expression) 41 = .ok (.aload_n 0, 1) := by decide +kernel
theorem d_Reader_expression_42 : decode (ib f_Reader_expression) 42 = .ok (.sipush 11002, 3) := by decide +kernel
theorem d_Reader_expression_45 : decode (ib f_Reader_expression) 45 = .ok (.invokevirtual 163, 3) := by decide +kernel
theorem d_Reader_expression_48 : decode (ib f_Reader_expression) 48 = .ok (.ifCond .eq 7, 3) := by decide +kernel
theorem d_Reader_expression_51 : decode (ib f_Reader_expression) 51 = .ok (.iconst 1, 1) := by decide +kernel
theorem d_Reader_expression_52 : decode (ib f_Reader_expression) 52 = .ok (.goto 4, 3) := by decide +kernel
theorem d_Reader_expression_55 : decode (ib f_Reader_expression) 55 = .ok (.iconst 0, 1) := by decide +kernel
theorem d_Reader_expression_56 : decode (ib f_Reader_expression) 56 = .ok (.istore_n 2, 1) := by decide +kernel
theorem d_Reader_expression_57 : decode (ib f_Reader_expression) 57 = .ok (.goto 85, 3) := by decide +kernel
theorem d_Reader_expression_60 : decode (ib f_Reader_expression) 60 = .ok (.aload_n 0, 1) := by decide +kernel
theorem d_Reader_expression_61 : decode (ib f_Reader_expression) 61 = .ok (.bipush 47, 2) := by decide +kernel
theorem d_Reader_expression_63 : decode (ib f_Reader_expression) 63 = .ok (.invokevirtual 136, 3) := by decide +kernel
theorem d_Reader_expression_66 : decode (ib f_Reader_expression) 66 = .ok (.ifCond .eq 16, 3) := by decide +kernel
theorem d_Reader_expression_69 : decode (ib f_Reader_expression) 69 = .ok (.aload_n 0, 1) := by decide +kernel
theorem d_Reader_expression_70 : decode (ib f_Reader_expression) 70 = .ok (.invokevirtual 140, 3) := by decide +kernel
theorem d_Reader_expression_73 : decode (ib f_Reader_expression) 73 = .ok (.pop, 1) := by decide +kernel
theorem d_Reader_expression_74 : decode (ib f_Reader_expression) 74 = .ok (.aload_n 0, 1) := by decide +kernel
theorem d_Reader_expression_75 : decode (ib f_Reader_expression) 75 = .ok (.invokevirtual 169, 3) := by decide +kernel
theorem d_Reader_expression_78 : decode (ib f_Reader_expression) 78 = .ok (.istore_n 2, 1) := by decide +kernel
theorem d_Reader_expression_79 : decode (ib f_Reader_expression) 79 = .ok (.goto 63, 3) := by decide +kernel
theorem d_Reader_expression_82 : decode (ib f_Reader_expression) 82 = .ok (.iload_n 1, 1) := by decide +kernel
theorem d_Reader_expression_83 : decode (ib f_Reader_expression) 83 = .ok (.iconst (-1), 1) := by decide +kernel
theorem d_Reader_expression_84 : decode (ib f_Reader_expression) 84 = .ok (.if_icmp .eq 9, 3) := by decide +kernel
theorem d_Reader_expression_87 : decode (ib f_Reader_expression) 87 = .ok (.aload_n 0, 1) := by decide +kernel
theorem d_Reader_expression_88 : decode (ib f_Reader_expression) 88 = .ok (.iload_n 1, 1) := by decide +kernel
theorem d_Reader_expression_89 : decode (ib f_Reader_expression) 89 = .ok (.invokevirtual 163, 3) := by decide +kernel
theorem d_Reader_expression_92 : decode (ib f_Reader_expression) 92 = .ok (.pop, 1) := by decide +kernel
theorem d_Reader_expression_93 : decode (ib f_Reader_expression) 93 = .ok (.aload_n 0, 1) := by decide +kernel
theorem d_Reader_expression_94 : decode (ib f_Reader_expression) 94 = .ok (.bipush 43, 2) := by decide +kernel
theorem d_Reader_expression_96 : decode (ib f_Reader_expression) 96 = .ok (.invokevirtual 136, 3) := by decide +kernel
theorem d_Reader_expression_99 : decode (ib f_Reader_expression) 99 = .ok (.ifCond .ne 14, 3) := by decide +kernel
theorem d_Reader_expression_102 : decode (ib f_Reader_expression) 102 = .ok (.aload_n 0, 1) := by decide +kernel
