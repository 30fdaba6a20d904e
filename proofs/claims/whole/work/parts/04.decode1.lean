theorem d_Reader_expression_103 : decode (ib f_Reader_expression) 103 = .ok (.bipush 45, 2) := by decide +kernel
theorem d_Reader_expression_105 : decode (ib f_Reader_expression) 105 = .ok (.invokevirtual 136, 3) := by decide +kernel
theorem d_Reader_expression_108 : decode (ib f_Reader_expression) 108 = .ok (.ifCond .ne 5, 3) := by decide +kernel
theorem d_Reader_expression_111 : decode (ib f_Reader_expression) 111 = .ok (.iconst 1, 1) := by decide +kernel
theorem d_Reader_expression_112 : decode (ib f_Reader_expression) 112 = .ok (.ireturn, 1) := by decide +kernel
theorem d_Reader_expression_113 : decode (ib f_Reader_expression) 113 = .ok (.aload_n 0, 1) := by decide +kernel
theorem d_Reader_expression_114 : decode (ib f_Reader_expression) 114 = .ok (.bipush 43, 2) := by decide +kernel
theorem d_Reader_expression_116 : decode (ib f_Reader_expression) 116 = .ok (.invokevirtual 136, 3) := by decide +kernel
theorem d_Reader_expression_119 : decode (ib f_Reader_expression) 119 = .ok (.ifCond .eq 9, 3) := by decide +kernel
theorem d_Reader_expression_122 : decode (ib f_Reader_expression) 122 = .ok (.sipush 11000, 3) := by decide +kernel
theorem d_Reader_expression_125 : decode (ib f_Reader_expression) 125 = .ok (.goto 6, 3) := by decide +kernel
theorem d_Reader_expression_128 : decode (ib f_Reader_expression) 128 = .ok (.sipush 11001, 3) := by decide +kernel
theorem d_Reader_expression_131 : decode (ib f_Reader_expression) 131 = .ok (.istore_n 1, 1) := by decide +kernel
theorem d_Reader_expression_132 : decode (ib f_Reader_expression) 132 = .ok (.aload_n 0, 1) := by decide +kernel
theorem d_Reader_expression_133 : decode (ib f_Reader_expression) 133 = .ok (.invokevirtual 140, 3) := by decide +kernel
theorem d_Reader_expression_136 : decode (ib f_Reader_expression) 136 = .ok (.pop, 1) := by decide +kernel
theorem d_Reader_expression_137 : decode (ib f_Reader_expression) 137 = .ok (.aload_n 0, 1) := by decide +kernel
theorem d_Reader_expression_138 : decode (ib f_Reader_expression) 138 = .ok (.invokevirtual 166, 3) := by decide +kernel
theorem d_Reader_expression_141 : decode (ib f_Reader_expression) 141 = .ok (.istore_n 2, 1) := by decide +kernel
theorem d_Reader_expression_142 : decode (ib f_Reader_expression) 142 = .ok (.iinc 3 1, 3) := by decide +kernel
theorem d_Reader_expression_145 : decode (ib f_Reader_expression) 145 = .ok (.goto (-136), 3) := by decide +kernel
theorem d_Reader_expression_148 : decode (ib f_Reader_expression) 148 = .ok (.iconst 0, 1) := by decide +kernel
theorem d_Reader_expression_149 : decode (ib f_Reader_expression) 149 = .ok (.ireturn, 1) := by decide +kernel
theorem d_Reader_unit_0 : decode (ib f_Reader_unit) 0 = .ok (.aload_n 0, 1) := by decide +kernel
theorem d_Reader_unit_1 : decode (ib f_Reader_unit) 1 = .ok (.getfield 40, 3) := by decide +kernel
theorem d_Reader_unit_4 : decode (ib f_Reader_unit) 4 = .ok (.aload_n 0, 1) := by decide +kernel
theorem d_Reader_unit_5 : decode (ib f_Reader_unit) 5 = .ok (.getfield 52, 3) := by decide +kernel
theorem d_Reader_unit_8 : decode (ib f_Reader_unit) 8 = .ok (.iaload, 1) := by decide +kernel
theorem d_Reader_unit_9 : decode (ib f_Reader_unit) 9 = .ok (.iconst 2, 1) := by decide +kernel
theorem d_Reader_unit_10 : decode (ib f_Reader_unit) 10 = .ok (.if_icmp .ne 7, 3) := by decide +kernel
theorem d_Reader_unit_13 : decode (ib f_Reader_unit) 13 = .ok (.iconst 1, 1) := by decide +kernel
theorem d_Reader_unit_14 : decode (ib f_Reader_unit) 14 = .ok (.goto 4, 3) := by decide +kernel
theorem d_Reader_unit_17 : decode (ib f_Reader_unit) 17 = .ok (.iconst 0, 1) := by decide +kernel
theorem d_Reader_unit_18 : decode (ib f_Reader_unit) 18 = .ok (.istore_n 1, 1) := by decide +kernel
theorem d_Reader_unit_19 : decode (ib f_Reader_unit) 19 = .ok (.iload_n 1, 1) := by decide +kernel
theorem d_Reader_unit_20 : decode (ib f_Reader_unit) 20 = .ok (.ifCond .ne 20, 3) := by decide +kernel
theorem d_Reader_unit_23 : decode (ib f_Reader_unit) 23 = .ok (.aload_n 0, 1) := by decide +kernel
theorem d_Reader_unit_24 : decode (ib f_Reader_unit) 24 = .ok (.bipush 7, 2) := by decide +kernel
theorem d_Reader_unit_26 : decode (ib f_Reader_unit) 26 = .ok (.bipush 17, 2) := by decide +kernel
theorem d_Reader_unit_28 : decode (ib f_Reader_unit) 28 = .ok (.invokevirtual 120, 3) := by decide +kernel
theorem d_Reader_unit_31 : decode (ib f_Reader_unit) 31 = .ok (.ifCond .ne 9, 3) := by decide +kernel
theorem d_Reader_unit_34 : decode (ib f_Reader_unit) 34 = .ok (.aload_n 0, 1) := by decide +kernel
theorem d_Reader_unit_35 : decode (ib f_Reader_unit) 35 = .ok (.iconst 1, 1) := by decide +kernel
theorem d_Reader_unit_36 : decode (ib f_Reader_unit) 36 = .ok (.invokevirtual 127, 3) := by decide +kernel
theorem d_Reader_unit_39 : decode (ib f_Reader_unit) 39 = .ok (.ireturn, 1) := by decide +kernel
theorem d_Reader_unit_40 : decode (ib f_Reader_unit) 40 = .ok (.aload_n 0, 1) := by decide +kernel
theorem d_Reader_unit_41 : decode (ib f_Reader_unit) 41 = .ok (.iload_n 1, 1) := by decide +kernel
theorem d_Reader_unit_42 : decode (ib f_Reader_unit) 42 = .ok (.ifCond .eq 15, 3) := by decide +kernel
theorem d_Reader_unit_45 : decode (ib f_Reader_unit) 45 = .ok (.aload_n 0, 1) := by decide +kernel
theorem d_Reader_unit_46 : decode (ib f_Reader_unit) 46 = .ok (.getfield 43, 3) := by decide +kernel
theorem d_Reader_unit_49 : decode (ib f_Reader_unit) 49 = .ok (.aload_n 0, 1) := by decide +kernel
theorem d_Reader_unit_50 : decode (ib f_Reader_unit) 50 = .ok (.getfield 52, 3) := by decide +kernel
theorem d_Reader_unit_53 : decode (ib f_Reader_unit) 53 = .ok (.iaload, 1) := by decide +kernel
theorem d_Reader_unit_54 : decode (ib f_Reader_unit) 54 = .ok (.goto 16, 3) := by decide +kernel
theorem d_Reader_unit_57 : decode (ib f_Reader_unit) 57 = .ok (.sipush 10000, 3) := by decide +kernel
theorem d_Reader_unit_60 : decode (ib f_Reader_unit) 60 = .ok (.aload_n 0, 1) := by decide +kernel
theorem d_Reader_unit_61 : decode (ib f_Reader_unit) 61 = .ok (.getfield 43, 3) := by decide +kernel
theorem d_Reader_unit_64 : decode (ib f_Reader_unit) 64 = .ok (.aload_n 0, 1) := by decide +kernel
theorem d_Reader_unit_65 : decode (ib f_Reader_unit) 65 = .ok (.getfield 52, 3) := by decide +kernel
theorem d_Reader_unit_68 : decode (ib f_Reader_unit) 68 = .ok (.iaload, 1) := by decide +kernel
theorem d_Reader_unit_69 : decode (ib f_Reader_unit) 69 = .ok (.iadd, 1) := by decide +kernel
theorem d_Reader_unit_70 : decode (ib f_Reader_unit) 70 = .ok (.invokevirtual 163, 3) := by decide +kernel
theorem d_Reader_unit_73 : decode (ib f_Reader_unit) 73 = .ok (.pop, 1) := by decide +kernel
theorem d_Reader_unit_74 : decode (ib f_Reader_unit) 74 = .ok (.aload_n 0, 1) := by decide +kernel
theorem d_Reader_unit_75 : decode (ib f_Reader_unit) 75 = .ok (.invokevirtual 140, 3) := by decide +kernel
theorem d_Reader_unit_78 : decode (ib f_Reader_unit) 78 = .ok (.ireturn, 1) := by decide +kernel
theorem d_Reader_divisor_0 : decode (ib f_Reader_divisor) 0 = .ok (.aload_n 0, 1) := by decide +kernel
theorem d_Reader_divisor_1 : decode (ib f_Reader_divisor) 1 = .ok (.getfield 40, 3) := by decide +kernel
theorem d_Reader_divisor_4 : decode (ib f_Reader_divisor) 4 = .ok (.aload_n 0, 1) := by decide +kernel
theorem d_Reader_divisor_5 : decode (ib f_Reader_divisor) 5 = .ok (.getfield 52, 3) := by decide +kernel
theorem d_Reader_divisor_8 : decode (ib f_Reader_divisor) 8 = .ok (.iaload, 1) := by decide +kernel
theorem d_Reader_divisor_9 : decode (ib f_Reader_divisor) 9 = .ok (.iconst 2, 1) := by decide +kernel
theorem d_Reader_divisor_10 : decode (ib f_Reader_divisor) 10 = .ok (.if_icmp .eq 9, 3) := by decide +kernel
theorem d_Reader_divisor_13 : decode (ib f_Reader_divisor) 13 = .ok (.aload_n 0, 1) := by decide +kernel
theorem d_Reader_divisor_14 : decode (ib f_Reader_divisor) 14 = .ok (.iconst 1, 1) := by decide +kernel
theorem d_Reader_divisor_15 : decode (ib f_Reader_divisor) 15 = .ok (.invokevirtual 127, 3) := by decide +kernel
theorem d_Reader_divisor_18 : decode (ib f_Reader_divisor) 18 = .ok (.ireturn, 1) := by decide +kernel
theorem d_Reader_divisor_19 : decode (ib f_Reader_divisor) 19 = .ok (.aload_n 0, 1) := by decide +kernel
theorem d_Reader_divisor_20 : decode (ib f_Reader_divisor) 20 = .ok (.getfield 43, 3) := by decide +kernel
theorem d_Reader_divisor_23 : decode (ib f_Reader_divisor) 23 = .ok (.aload_n 0, 1) := by decide +kernel
theorem d_Reader_divisor_24 : decode (ib f_Reader_divisor) 24 = .ok (.getfield 52, 3) := by decide +kernel
theorem d_Reader_divisor_27 : decode (ib f_Reader_divisor) 27 = .ok (.iaload, 1) := by decide +kernel
theorem d_Reader_divisor_28 : decode (ib f_Reader_divisor) 28 = .ok (.ifCond .ne 9, 3) := by decide +kernel
theorem d_Reader_divisor_31 : decode (ib f_Reader_divisor) 31 = .ok (.aload_n 0, 1) := by decide +kernel
theorem d_Reader_divisor_32 : decode (ib f_Reader_divisor) 32 = .ok (.iconst 2, 1) := by decide +kernel
theorem d_Reader_divisor_33 : decode (ib f_Reader_divisor) 33 = .ok (.invokevirtual 127, 3) := by decide +kernel
theorem d_Reader_divisor_36 : decode (ib f_Reader_divisor) 36 = .ok (.ireturn, 1) := by decide +kernel
theorem d_Reader_divisor_37 : decode (ib f_Reader_divisor) 37 = .ok (.aload_n 0, 1) := by decide +kernel
theorem d_Reader_divisor_38 : decode (ib f_Reader_divisor) 38 = .ok (.sipush 20000, 3) := by decide +kernel
theorem d_Reader_divisor_41 : decode (ib f_Reader_divisor) 41 = .ok (.aload_n 0, 1) := by decide +kernel
theorem d_Reader_divisor_42 : decode (ib f_Reader_divisor) 42 = .ok (.getfield 43, 3) := by decide +kernel
theorem d_Reader_divisor_45 : decode (ib f_Reader_divisor) 45 = .ok (.aload_n 0, 1) := by decide +kernel
theorem d_Reader_divisor_46 : decode (ib f_Reader_divisor) 46 = .ok (.getfield 52, 3) := by decide +kernel
theorem d_Reader_divisor_49 : decode (ib f_Reader_divisor) 49 = .ok (.iaload, 1) := by decide +kernel
theorem d_Reader_divisor_50 : decode (ib f_Reader_divisor) 50 = .ok (.iadd, 1) := by decide +kernel
theorem d_Reader_divisor_51 : decode (ib f_Reader_divisor) 51 = .ok (.invokevirtual 163, 3) := by decide +kernel
theorem d_Reader_divisor_54 : decode (ib f_Reader_divisor) 54 = .ok (.pop, 1) := by decide +kernel
theorem d_Reader_divisor_55 : decode (ib f_Reader_divisor) 55 = .ok (.aload_n 0, 1) := by decide +kernel
theorem d_Reader_divisor_56 : decode (ib f_Reader_divisor) 56 = .ok (.invokevirtual 140, 3) := by decide +kernel
theorem d_Reader_divisor_59 : decode (ib f_Reader_divisor) 59 = .ok (.ireturn, 1) := by decide +kernel
theorem d_Reader_emit_0 : decode (ib f_Reader_emit) 0 = .ok (.aload_n 0, 1) := by decide +kernel
theorem d_Reader_emit_1 : decode (ib f_Reader_emit) 1 = .ok (.getfield 37, 3) := by decide +kernel
theorem d_Reader_emit_4 : decode (ib f_Reader_emit) 4 = .ok (.sipush 400, 3) := by decide +kernel
theorem d_Reader_emit_7 : decode (ib f_Reader_emit) 7 = .ok (.if_icmp .ge 23, 3) := by decide +kernel
theorem d_Reader_emit_10 : decode (ib f_Reader_emit) 10 = .ok (.aload_n 0, 1) := by decide +kernel
theorem d_Reader_emit_11 : decode (ib f_Reader_emit) 11 = .ok (.getfield 34, 3) := by decide +kernel
theorem d_Reader_emit_14 : decode (ib f_Reader_emit) 14 = .ok (.aload_n 0, 1) := by decide +kernel
theorem d_Reader_emit_15 : decode (ib f_Reader_emit) 15 = .ok (.getfield 37, 3) := by decide +kernel
theorem d_Reader_emit_18 : decode (ib f_Reader_emit) 18 = .ok (.iload_n 1, 1) := by decide +kernel
theorem d_Reader_emit_19 : decode (ib f_Reader_emit) 19 = .ok (.iastore, 1) := by decide +kernel
theorem d_Reader_emit_20 : decode (ib f_Reader_emit) 20 = .ok (.aload_n 0, 1) := by decide +kernel
theorem d_Reader_emit_21 : decode (ib f_Reader_emit) 21 = .ok (.dup, 1) := by decide +kernel
theorem d_Reader_emit_22 : decode (ib f_Reader_emit) 22 = .ok (.getfield 37, 3) := by decide +kernel
theorem d_Reader_emit_25 : decode (ib f_Reader_emit) 25 = .ok (.iconst 1, 1) := by decide +kernel
theorem d_Reader_emit_26 : decode (ib f_Reader_emit) 26 = .ok (.iadd, 1) := by decide +kernel
theorem d_Reader_emit_27 : decode (ib f_Reader_emit) 27 = .ok (.putfield 37, 3) := by decide +kernel
theorem d_Reader_emit_30 : decode (ib f_Reader_emit) 30 = .ok (.iconst 1, 1) := by decide +kernel
theorem d_Reader_emit_31 : decode (ib f_Reader_emit) 31 = .ok (.ireturn, 1) := by decide +kernel
theorem d_Rows_init_0_0 : decode prog_7_method_1_code 0 = .ok (.aload_n 0, 1) := by decide +kernel
theorem d_Rows_init_0 (ms : Nat) : decode (ib (f_Rows_init ms)) 0 = .ok (.aload_n 0, 1) := d_Rows_init_0_0
theorem d_Rows_init_1_0 : decode prog_7_method_1_code 1 = .ok (.invokespecial 1, 3) := by decide +kernel
theorem d_Rows_init_1 (ms : Nat) : decode (ib (f_Rows_init ms)) 1 = .ok (.invokespecial 1, 3) := d_Rows_init_1_0
theorem d_Rows_init_4_0 : decode prog_7_method_1_code 4 = .ok (.aload_n 0, 1) := by decide +kernel
theorem d_Rows_init_4 (ms : Nat) : decode (ib (f_Rows_init ms)) 4 = .ok (.aload_n 0, 1) := d_Rows_init_4_0
theorem d_Rows_init_5_0 : decode prog_7_method_1_code 5 = .ok (.iconst 0, 1) := by decide +kernel
theorem d_Rows_init_5 (ms : Nat) : decode (ib (f_Rows_init ms)) 5 = .ok (.iconst 0, 1) := d_Rows_init_5_0
theorem d_Rows_init_6_0 : decode prog_7_method_1_code 6 = .ok (.putfield 7, 3) := by decide +kernel
theorem d_Rows_init_6 (ms : Nat) : decode (ib (f_Rows_init ms)) 6 = .ok (.putfield 7, 3) := d_Rows_init_6_0
theorem d_Rows_init_9_0 : decode prog_7_method_1_code 9 = .ok (.aload_n 0, 1) := by decide +kernel
theorem d_Rows_init_9 (ms : Nat) : decode (ib (f_Rows_init ms)) 9 = .ok (.aload_n 0, 1) := d_Rows_init_9_0
theorem d_Rows_init_10_0 : decode prog_7_method_1_code 10 = .ok (.iload_n 1, 1) := by decide +kernel
theorem d_Rows_init_10 (ms : Nat) : decode (ib (f_Rows_init ms)) 10 = .ok (.iload_n 1, 1) := d_Rows_init_10_0
theorem d_Rows_init_11_0 : decode prog_7_method_1_code 11 = .ok (.putfield 13, 3) := by decide +kernel
theorem d_Rows_init_11 (ms : Nat) : decode (ib (f_Rows_init ms)) 11 = .ok (.putfield 13, 3) := d_Rows_init_11_0
theorem d_Rows_init_14_0 : decode prog_7_method_1_code 14 = .ok (.aload_n 0, 1) := by decide +kernel
theorem d_Rows_init_14 (ms : Nat) : decode (ib (f_Rows_init ms)) 14 = .ok (.aload_n 0, 1) := d_Rows_init_14_0
theorem d_Rows_init_15_0 : decode prog_7_method_1_code 15 = .ok (.iload_n 2, 1) := by decide +kernel
theorem d_Rows_init_15 (ms : Nat) : decode (ib (f_Rows_init ms)) 15 = .ok (.iload_n 2, 1) := d_Rows_init_15_0
theorem d_Rows_init_16_0 : decode prog_7_method_1_code 16 = .ok (.putfield 16, 3) := by decide +kernel
theorem d_Rows_init_16 (ms : Nat) : decode (ib (f_Rows_init ms)) 16 = .ok (.putfield 16, 3) := d_Rows_init_16_0
theorem d_Rows_init_19_0 : decode prog_7_method_1_code 19 = .ok (.aload_n 0, 1) := by decide +kernel
theorem d_Rows_init_19 (ms : Nat) : decode (ib (f_Rows_init ms)) 19 = .ok (.aload_n 0, 1) := d_Rows_init_19_0
theorem d_Rows_init_20_0 : decode prog_7_method_1_code 20 = .ok (.iload_n 1, 1) := by decide +kernel
theorem d_Rows_init_20 (ms : Nat) : decode (ib (f_Rows_init ms)) 20 = .ok (.iload_n 1, 1) := d_Rows_init_20_0
theorem d_Rows_init_21_0 : decode prog_7_method_1_code 21 = .ok (.iload_n 2, 1) := by decide +kernel
theorem d_Rows_init_21 (ms : Nat) : decode (ib (f_Rows_init ms)) 21 = .ok (.iload_n 2, 1) := d_Rows_init_21_0
theorem d_Rows_init_22_0 : decode prog_7_method_1_code 22 = .ok (.imul, 1) := by decide +kernel
theorem d_Rows_init_22 (ms : Nat) : decode (ib (f_Rows_init ms)) 22 = .ok (.imul, 1) := d_Rows_init_22_0
theorem d_Rows_init_23_0 : decode prog_7_method_1_code 23 = .ok (.newarray .int, 2) := by decide +kernel
theorem d_Rows_init_23 (ms : Nat) : decode (ib (f_Rows_init ms)) 23 = .ok (.newarray .int, 2) := d_Rows_init_23_0
theorem d_Rows_init_25_0 : decode prog_7_method_1_code 25 = .ok (.putfield 19, 3) := by decide +kernel
theorem d_Rows_init_25 (ms : Nat) : decode (ib (f_Rows_init ms)) 25 = .ok (.putfield 19, 3) := d_Rows_init_25_0
theorem d_Rows_init_28_0 : decode prog_7_method_1_code 28 = .ok (.return_, 1) := by decide +kernel
theorem d_Rows_init_28 (ms : Nat) : decode (ib (f_Rows_init ms)) 28 = .ok (.return_, 1) := d_Rows_init_28_0
theorem d_Rows_isFull_0 : decode (ib f_Rows_isFull) 0 = .ok (.aload_n 0, 1) := by decide +kernel
theorem d_Rows_isFull_1 : decode (ib f_Rows_isFull) 1 = .ok (.getfield 7, 3) := by decide +kernel
theorem d_Rows_isFull_4 : decode (ib f_Rows_isFull) 4 = .ok (.aload_n 0, 1) := by decide +kernel
theorem d_Rows_isFull_5 : decode (ib f_Rows_isFull) 5 = .ok (.getfield 16, 3) := by decide +kernel
theorem d_Rows_isFull_8 : decode (ib f_Rows_isFull) 8 = .ok (.if_icmp .lt 7, 3) := by decide +kernel
theorem d_Rows_isFull_11 : decode (ib f_Rows_isFull) 11 = .ok (.iconst 1, 1) := by decide +kernel
theorem d_Rows_isFull_12 : decode (ib f_Rows_isFull) 12 = .ok (.goto 4, 3) := by decide +kernel
theorem d_Rows_isFull_15 : decode (ib f_Rows_isFull) 15 = .ok (.iconst 0, 1) := by decide +kernel
theorem d_Rows_isFull_16 : decode (ib f_Rows_isFull) 16 = .ok (.ireturn, 1) := by decide +kernel
theorem d_Rows_add_0 : decode (ib f_Rows_add) 0 = .ok (.aload_n 0, 1) := by decide +kernel
theorem d_Rows_add_1 : decode (ib f_Rows_add) 1 = .ok (.invokevirtual 23, 3) := by decide +kernel
theorem d_Rows_add_4 : decode (ib f_Rows_add) 4 = .ok (.ifCond .eq 4, 3) := by decide +kernel
theorem d_Rows_add_7 : decode (ib f_Rows_add) 7 = .ok (.return_, 1) := by decide +kernel
theorem d_Rows_add_8 : decode (ib f_Rows_add) 8 = .ok (.aload_n 0, 1) := by decide +kernel
theorem d_Rows_add_9 : decode (ib f_Rows_add) 9 = .ok (.dup, 1) := by decide +kernel
theorem d_Rows_add_10 : decode (ib f_Rows_add) 10 = .ok (.getfield 7, 3) := by decide +kernel
theorem d_Rows_add_13 : decode (ib f_Rows_add) 13 = .ok (.iconst 1, 1) := by decide +kernel
theorem d_Rows_add_14 : decode (ib f_Rows_add) 14 = .ok (.iadd, 1) := by decide +kernel
theorem d_Rows_add_15 : decode (ib f_Rows_add) 15 = .ok (.putfield 7, 3) := by decide +kernel
theorem d_Rows_add_18 : decode (ib f_Rows_add) 18 = .ok (.aload_n 0, 1) := by decide +kernel
theorem d_Rows_add_19 : decode (ib f_Rows_add) 19 = .ok (.iconst 0, 1) := by decide +kernel
theorem d_Rows_add_20 : decode (ib f_Rows_add) 20 = .ok (.iload_n 1, 1) := by decide +kernel
theorem d_Rows_add_21 : decode (ib f_Rows_add) 21 = .ok (.invokevirtual 27, 3) := by decide +kernel
theorem d_Rows_add_24 : decode (ib f_Rows_add) 24 = .ok (.aload_n 0, 1) := by decide +kernel
theorem d_Rows_add_25 : decode (ib f_Rows_add) 25 = .ok (.iconst 1, 1) := by decide +kernel
theorem d_Rows_add_26 : decode (ib f_Rows_add) 26 = .ok (.iload_n 2, 1) := by decide +kernel
theorem d_Rows_add_27 : decode (ib f_Rows_add) 27 = .ok (.invokevirtual 27, 3) := by decide +kernel
theorem d_Rows_add_30 : decode (ib f_Rows_add) 30 = .ok (.aload_n 0, 1) := by decide +kernel
theorem d_Rows_add_31 : decode (ib f_Rows_add) 31 = .ok (.iconst 2, 1) := by decide +kernel
theorem d_Rows_add_32 : decode (ib f_Rows_add) 32 = .ok (.iload_n 3, 1) := by decide +kernel
theorem d_Rows_add_33 : decode (ib f_Rows_add) 33 = .ok (.invokevirtual 27, 3) := by decide +kernel
theorem d_Rows_add_36 : decode (ib f_Rows_add) 36 = .ok (.aload_n 0, 1) := by decide +kernel
theorem d_Rows_add_37 : decode (ib f_Rows_add) 37 = .ok (.iconst 3, 1) := by decide +kernel
theorem d_Rows_add_38 : decode (ib f_Rows_add) 38 = .ok (.iload 4, 2) := by decide +kernel
theorem d_Rows_add_40 : decode (ib f_Rows_add) 40 = .ok (.invokevirtual 27, 3) := by decide +kernel
theorem d_Rows_add_43 : decode (ib f_Rows_add) 43 = .ok (.aload_n 0, 1) := by decide +kernel
theorem d_Rows_add_44 : decode (ib f_Rows_add) 44 = .ok (.iconst 4, 1) := by decide +kernel
theorem d_Rows_add_45 : decode (ib f_Rows_add) 45 = .ok (.iload 5, 2) := by decide +kernel
theorem d_Rows_add_47 : decode (ib f_Rows_add) 47 = .ok (.invokevirtual 27, 3) := by decide +kernel
theorem d_Rows_add_50 : decode (ib f_Rows_add) 50 = .ok (.return_, 1) := by decide +kernel
theorem d_Rows_write_0 : decode (ib f_Rows_write) 0 = .ok (.aload_n 0, 1) := by decide +kernel
theorem d_Rows_write_1 : decode (ib f_Rows_write) 1 = .ok (.getfield 7, 3) := by decide +kernel
theorem d_Rows_write_4 : decode (ib f_Rows_write) 4 = .ok (.iconst 1, 1) := by decide +kernel
theorem d_Rows_write_5 : decode (ib f_Rows_write) 5 = .ok (.isub, 1) := by decide +kernel
theorem d_Rows_write_6 : decode (ib f_Rows_write) 6 = .ok (.aload_n 0, 1) := by decide +kernel
theorem d_Rows_write_7 : decode (ib f_Rows_write) 7 = .ok (.getfield 13, 3) := by decide +kernel
theorem d_Rows_write_10 : decode (ib f_Rows_write) 10 = .ok (.imul, 1) := by decide +kernel
theorem d_Rows_write_11 : decode (ib f_Rows_write) 11 = .ok (.iload_n 1, 1) := by decide +kernel
theorem d_Rows_write_12 : decode (ib f_Rows_write) 12 = .ok (.iadd, 1) := by decide +kernel
theorem d_Rows_write_13 : decode (ib f_Rows_write) 13 = .ok (.istore_n 3, 1) := by decide +kernel
theorem d_Rows_write_14 : decode (ib f_Rows_write) 14 = .ok (.iload_n 1, 1) := by decide +kernel
theorem d_Rows_write_15 : decode (ib f_Rows_write) 15 = .ok (.aload_n 0, 1) := by decide +kernel
theorem d_Rows_write_16 : decode (ib f_Rows_write) 16 = .ok (.getfield 13, 3) := by decide +kernel
theorem d_Rows_write_19 : decode (ib f_Rows_write) 19 = .ok (.if_icmp .ge 23, 3) := by decide +kernel
theorem d_Rows_write_22 : decode (ib f_Rows_write) 22 = .ok (.iload_n 3, 1) := by decide +kernel
theorem d_Rows_write_23 : decode (ib f_Rows_write) 23 = .ok (.ifCond .lt 19, 3) := by decide +kernel
theorem d_Rows_write_26 : decode (ib f_Rows_write) 26 = .ok (.iload_n 3, 1) := by decide +kernel
theorem d_Rows_write_27 : decode (ib f_Rows_write) 27 = .ok (.aload_n 0, 1) := by decide +kernel
theorem d_Rows_write_28 : decode (ib f_Rows_write) 28 = .ok (.getfield 19, 3) := by decide +kernel
theorem d_Rows_write_31 : decode (ib f_Rows_write) 31 = .ok (.arraylength, 1) := by decide +kernel
theorem d_Rows_write_32 : decode (ib f_Rows_write) 32 = .ok (.if_icmp .ge 10, 3) := by decide +kernel
theorem d_Rows_write_35 : decode (ib f_Rows_write) 35 = .ok (.aload_n 0, 1) := by decide +kernel
theorem d_Rows_write_36 : decode (ib f_Rows_write) 36 = .ok (.getfield 19, 3) := by decide +kernel
theorem d_Rows_write_39 : decode (ib f_Rows_write) 39 = .ok (.iload_n 3, 1) := by decide +kernel
theorem d_Rows_write_40 : decode (ib f_Rows_write) 40 = .ok (.iload_n 2, 1) := by decide +kernel
theorem d_Rows_write_41 : decode (ib f_Rows_write) 41 = .ok (.iastore, 1) := by decide +kernel
theorem d_Rows_write_42 : decode (ib f_Rows_write) 42 = .ok (.return_, 1) := by decide +kernel
theorem d_Rows_get_0 : decode (ib f_Rows_get) 0 = .ok (.iload_n 1, 1) := by decide +kernel
theorem d_Rows_get_1 : decode (ib f_Rows_get) 1 = .ok (.ifCond .lt 27, 3) := by decide +kernel
theorem d_Rows_get_4 : decode (ib f_Rows_get) 4 = .ok (.iload_n 1, 1) := by decide +kernel
theorem d_Rows_get_5 : decode (ib f_Rows_get) 5 = .ok (.aload_n 0, 1) := by decide +kernel
theorem d_Rows_get_6 : decode (ib f_Rows_get) 6 = .ok (.getfield 7, 3) := by decide +kernel
theorem d_Rows_get_9 : decode (ib f_Rows_get) 9 = .ok (.if_icmp .ge 19, 3) := by decide +kernel
theorem d_Rows_get_12 : decode (ib f_Rows_get) 12 = .ok (.iload_n 2, 1) := by decide +kernel
theorem d_Rows_get_13 : decode (ib f_Rows_get) 13 = .ok (.ifCond .lt 15, 3) := by decide +kernel
theorem d_Rows_get_16 : decode (ib f_Rows_get) 16 = .ok (.iload_n 2, 1) := by decide +kernel
theorem d_Rows_get_17 : decode (ib f_Rows_get) 17 = .ok (.aload_n 0, 1) := by decide +kernel
theorem d_Rows_get_18 : decode (ib f_Rows_get) 18 = .ok (.getfield 13, 3) := by decide +kernel
theorem d_Rows_get_21 : decode (ib f_Rows_get) 21 = .ok (.if_icmp .ge 7, 3) := by decide +kernel
theorem d_Rows_get_24 : decode (ib f_Rows_get) 24 = .ok (.iconst 1, 1) := by decide +kernel
theorem d_Rows_get_25 : decode (ib f_Rows_get) 25 = .ok (.goto 4, 3) := by decide +kernel
theorem d_Rows_get_28 : decode (ib f_Rows_get) 28 = .ok (.iconst 0, 1) := by decide +kernel
theorem d_Rows_get_29 : decode (ib f_Rows_get) 29 = .ok (.istore_n 3, 1) := by decide +kernel
theorem d_Rows_get_30 : decode (ib f_Rows_get) 30 = .ok (.iload_n 3, 1) := by decide +kernel
theorem d_Rows_get_31 : decode (ib f_Rows_get) 31 = .ok (.ifCond .eq 19, 3) := by decide +kernel
theorem d_Rows_get_34 : decode (ib f_Rows_get) 34 = .ok (.aload_n 0, 1) := by decide +kernel
theorem d_Rows_get_35 : decode (ib f_Rows_get) 35 = .ok (.getfield 19, 3) := by decide +kernel
theorem d_Rows_get_38 : decode (ib f_Rows_get) 38 = .ok (.iload_n 1, 1) := by decide +kernel
theorem d_Rows_get_39 : decode (ib f_Rows_get) 39 = .ok (.aload_n 0, 1) := by decide +kernel
theorem d_Rows_get_40 : decode (ib f_Rows_get) 40 = .ok (.getfield 13, 3) := by decide +kernel
theorem d_Rows_get_43 : decode (ib f_Rows_get) 43 = .ok (.imul, 1) := by decide +kernel
theorem d_Rows_get_44 : decode (ib f_Rows_get) 44 = .ok (.iload_n 2, 1) := by decide +kernel
theorem d_Rows_get_45 : decode (ib f_Rows_get) 45 = .ok (.iadd, 1) := by decide +kernel
theorem d_Rows_get_46 : decode (ib f_Rows_get) 46 = .ok (.iaload, 1) := by decide +kernel
theorem d_Rows_get_47 : decode (ib f_Rows_get) 47 = .ok (.goto 4, 3) := by decide +kernel
theorem d_Rows_get_50 : decode (ib f_Rows_get) 50 = .ok (.iconst 0, 1) := by decide +kernel
theorem d_Rows_get_51 : decode (ib f_Rows_get) 51 = .ok (.ireturn, 1) := by decide +kernel
theorem d_Rows_sumOf_0 : decode (ib f_Rows_sumOf) 0 = .ok (.iconst 0, 1) := by decide +kernel
theorem d_Rows_sumOf_1 : decode (ib f_Rows_sumOf) 1 = .ok (.istore_n 3, 1) := by decide +kernel
theorem d_Rows_sumOf_2 : decode (ib f_Rows_sumOf) 2 = .ok (.iconst 0, 1) := by decide +kernel
theorem d_Rows_sumOf_3 : decode (ib f_Rows_sumOf) 3 = .ok (.istore 4, 2) := by decide +kernel
theorem d_Rows_sumOf_5 : decode (ib f_Rows_sumOf) 5 = .ok (.iload 4, 2) := by decide +kernel
theorem d_Rows_sumOf_7 : decode (ib f_Rows_sumOf) 7 = .ok (.aload_n 0, 1) := by decide +kernel
theorem d_Rows_sumOf_8 : decode (ib f_Rows_sumOf) 8 = .ok (.getfield 7, 3) := by decide +kernel
theorem d_Rows_sumOf_11 : decode (ib f_Rows_sumOf) 11 = .ok (.if_icmp .ge 33, 3) := by decide +kernel
theorem d_Rows_sumOf_14 : decode (ib f_Rows_sumOf) 14 = .ok (.iload_n 3, 1) := by decide +kernel
theorem d_Rows_sumOf_15 : decode (ib f_Rows_sumOf) 15 = .ok (.iload_n 1, 1) := by decide +kernel
theorem d_Rows_sumOf_16 : decode (ib f_Rows_sumOf) 16 = .ok (.iload 4, 2) := by decide +kernel
theorem d_Rows_sumOf_18 : decode (ib f_Rows_sumOf) 18 = .ok (.ishr, 1) := by decide +kernel
theorem d_Rows_sumOf_19 : decode (ib f_Rows_sumOf) 19 = .ok (.iconst 1, 1) := by decide +kernel
theorem d_Rows_sumOf_20 : decode (ib f_Rows_sumOf) 20 = .ok (.iand, 1) := by decide +kernel
theorem d_Rows_sumOf_21 : decode (ib f_Rows_sumOf) 21 = .ok (.iconst 1, 1) := by decide +kernel
theorem d_Rows_sumOf_22 : decode (ib f_Rows_sumOf) 22 = .ok (.if_icmp .ne 13, 3) := by decide +kernel
theorem d_Rows_sumOf_25 : decode (ib f_Rows_sumOf) 25 = .ok (.aload_n 0, 1) := by decide +kernel
theorem d_Rows_sumOf_26 : decode (ib f_Rows_sumOf) 26 = .ok (.iload 4, 2) := by decide +kernel
theorem d_Rows_sumOf_28 : decode (ib f_Rows_sumOf) 28 = .ok (.iload_n 2, 1) := by decide +kernel
theorem d_Rows_sumOf_29 : decode (ib f_Rows_sumOf) 29 = .ok (.invokevirtual 31, 3) := by decide +kernel
theorem d_Rows_sumOf_32 : decode (ib f_Rows_sumOf) 32 = .ok (.goto 4, 3) := by decide +kernel
theorem d_Rows_sumOf_35 : decode (ib f_Rows_sumOf) 35 = .ok (.iconst 0, 1) := by decide +kernel
theorem d_Rows_sumOf_36 : decode (ib f_Rows_sumOf) 36 = .ok (.iadd, 1) := by decide +kernel
theorem d_Rows_sumOf_37 : decode (ib f_Rows_sumOf) 37 = .ok (.istore_n 3, 1) := by decide +kernel
theorem d_Rows_sumOf_38 : decode (ib f_Rows_sumOf) 38 = .ok (.iinc 4 1, 3) := by decide +kernel
theorem d_Rows_sumOf_41 : decode (ib f_Rows_sumOf) 41 = .ok (.goto (-36), 3) := by decide +kernel
theorem d_Rows_sumOf_44 : decode (ib f_Rows_sumOf) 44 = .ok (.iload_n 3, 1) := by decide +kernel
theorem d_Rows_sumOf_45 : decode (ib f_Rows_sumOf) 45 = .ok (.ireturn, 1) := by decide +kernel
theorem d_Rows_unionOf_0 : decode (ib f_Rows_unionOf) 0 = .ok (.iconst 0, 1) := by decide +kernel
theorem d_Rows_unionOf_1 : decode (ib f_Rows_unionOf) 1 = .ok (.istore_n 2, 1) := by decide +kernel
theorem d_Rows_unionOf_2 : decode (ib f_Rows_unionOf) 2 = .ok (.iconst 0, 1) := by decide +kernel
theorem d_Rows_unionOf_3 : decode (ib f_Rows_unionOf) 3 = .ok (.istore_n 3, 1) := by decide +kernel
theorem d_Rows_unionOf_4 : decode (ib f_Rows_unionOf) 4 = .ok (.iload_n 3, 1) := by decide +kernel
theorem d_Rows_unionOf_5 : decode (ib f_Rows_unionOf) 5 = .ok (.aload_n 0, 1) := by decide +kernel
theorem d_Rows_unionOf_6 : decode (ib f_Rows_unionOf) 6 = .ok (.getfield 7, 3) := by decide +kernel
theorem d_Rows_unionOf_9 : decode (ib f_Rows_unionOf) 9 = .ok (.if_icmp .ge 31, 3) := by decide +kernel
theorem d_Rows_unionOf_12 : decode (ib f_Rows_unionOf) 12 = .ok (.iload_n 2, 1) := by decide +kernel
theorem d_Rows_unionOf_13 : decode (ib f_Rows_unionOf) 13 = .ok (.iload_n 1, 1) := by decide +kernel
theorem d_Rows_unionOf_14 : decode (ib f_Rows_unionOf) 14 = .ok (.iload_n 3, 1) := by decide +kernel
theorem d_Rows_unionOf_15 : decode (ib f_Rows_unionOf) 15 = .ok (.ishr, 1) := by decide +kernel
theorem d_Rows_unionOf_16 : decode (ib f_Rows_unionOf) 16 = .ok (.iconst 1, 1) := by decide +kernel
theorem d_Rows_unionOf_17 : decode (ib f_Rows_unionOf) 17 = .ok (.iand, 1) := by decide +kernel
theorem d_Rows_unionOf_18 : decode (ib f_Rows_unionOf) 18 = .ok (.iconst 1, 1) := by decide +kernel
theorem d_Rows_unionOf_19 : decode (ib f_Rows_unionOf) 19 = .ok (.if_icmp .ne 12, 3) := by decide +kernel
theorem d_Rows_unionOf_22 : decode (ib f_Rows_unionOf) 22 = .ok (.aload_n 0, 1) := by decide +kernel
theorem d_Rows_unionOf_23 : decode (ib f_Rows_unionOf) 23 = .ok (.iload_n 3, 1) := by decide +kernel
theorem d_Rows_unionOf_24 : decode (ib f_Rows_unionOf) 24 = .ok (.iconst 0, 1) := by decide +kernel
theorem d_Rows_unionOf_25 : decode (ib f_Rows_unionOf) 25 = .ok (.invokevirtual 31, 3) := by decide +kernel
theorem d_Rows_unionOf_28 : decode (ib f_Rows_unionOf) 28 = .ok (.goto 4, 3) := by decide +kernel
theorem d_Rows_unionOf_31 : decode (ib f_Rows_unionOf) 31 = .ok (.iconst 0, 1) := by decide +kernel
theorem d_Rows_unionOf_32 : decode (ib f_Rows_unionOf) 32 = .ok (.ior, 1) := by decide +kernel
theorem d_Rows_unionOf_33 : decode (ib f_Rows_unionOf) 33 = .ok (.istore_n 2, 1) := by decide +kernel
theorem d_Rows_unionOf_34 : decode (ib f_Rows_unionOf) 34 = .ok (.iinc 3 1, 3) := by decide +kernel
theorem d_Rows_unionOf_37 : decode (ib f_Rows_unionOf) 37 = .ok (.goto (-33), 3) := by decide +kernel
theorem d_Rows_unionOf_40 : decode (ib f_Rows_unionOf) 40 = .ok (.iload_n 2, 1) := by decide +kernel
theorem d_Rows_unionOf_41 : decode (ib f_Rows_unionOf) 41 = .ok (.ireturn, 1) := by decide +kernel
theorem d_Rows_copyFrom_0 : decode (ib f_Rows_copyFrom) 0 = .ok (.aload_n 0, 1) := by decide +kernel
theorem d_Rows_copyFrom_1 : decode (ib f_Rows_copyFrom) 1 = .ok (.aload_n 1, 1) := by decide +kernel
theorem d_Rows_copyFrom_2 : decode (ib f_Rows_copyFrom) 2 = .ok (.getfield 7, 3) := by decide +kernel
theorem d_Rows_copyFrom_5 : decode (ib f_Rows_copyFrom) 5 = .ok (.aload_n 0, 1) := by decide +kernel
theorem d_Rows_copyFrom_6 : decode (ib f_Rows_copyFrom) 6 = .ok (.getfield 16, 3) := by decide +kernel
theorem d_Rows_copyFrom_9 : decode (ib f_Rows_copyFrom) 9 = .ok (.invokestatic 35, 3) := by decide +kernel
theorem d_Rows_copyFrom_12 : decode (ib f_Rows_copyFrom) 12 = .ok (.putfield 7, 3) := by decide +kernel
theorem d_Rows_copyFrom_15 : decode (ib f_Rows_copyFrom) 15 = .ok (.aload_n 0, 1) := by decide +kernel
theorem d_Rows_copyFrom_16 : decode (ib f_Rows_copyFrom) 16 = .ok (.getfield 7, 3) := by decide +kernel
theorem d_Rows_copyFrom_19 : decode (ib f_Rows_copyFrom) 19 = .ok (.aload_n 0, 1) := by decide +kernel
theorem d_Rows_copyFrom_20 : decode (ib f_Rows_copyFrom) 20 = .ok (.getfield 13, 3) := by decide +kernel
theorem d_Rows_copyFrom_23 : decode (ib f_Rows_copyFrom) 23 = .ok (.imul, 1) := by decide +kernel
theorem d_Rows_copyFrom_24 : decode (ib f_Rows_copyFrom) 24 = .ok (.aload_n 1, 1) := by decide +kernel
theorem d_Rows_copyFrom_25 : decode (ib f_Rows_copyFrom) 25 = .ok (.getfield 19, 3) := by decide +kernel
theorem d_Rows_copyFrom_28 : decode (ib f_Rows_copyFrom) 28 = .ok (.arraylength, 1) := by decide +kernel
theorem d_Rows_copyFrom_29 : decode (ib f_Rows_copyFrom) 29 = .ok (.invokestatic 35, 3) := by decide +kernel
theorem d_Rows_copyFrom_32 : decode (ib f_Rows_copyFrom) 32 = .ok (.istore_n 2, 1) := by decide +kernel
theorem d_Rows_copyFrom_33 : decode (ib f_Rows_copyFrom) 33 = .ok (.aload_n 1, 1) := by decide +kernel
theorem d_Rows_copyFrom_34 : decode (ib f_Rows_copyFrom) 34 = .ok (.getfield 19, 3) := by decide +kernel
theorem d_Rows_copyFrom_37 : decode (ib f_Rows_copyFrom) 37 = .ok (.iconst 0, 1) := by decide +kernel
theorem d_Rows_copyFrom_38 : decode (ib f_Rows_copyFrom) 38 = .ok (.aload_n 0, 1) := by decide +kernel
theorem d_Rows_copyFrom_39 : decode (ib f_Rows_copyFrom) 39 = .ok (.getfield 19, 3) := by decide +kernel
theorem d_Rows_copyFrom_42 : decode (ib f_Rows_copyFrom) 42 = .ok (.iconst 0, 1) := by decide +kernel
theorem d_Rows_copyFrom_43 : decode (ib f_Rows_copyFrom) 43 = .ok (.iload_n 2, 1) := by decide +kernel
theorem d_Rows_copyFrom_44 : decode (ib f_Rows_copyFrom) 44 = .ok (.invokestatic 40, 3) := by decide +kernel
theorem d_Rows_copyFrom_47 : decode (ib f_Rows_copyFrom) 47 = .ok (.return_, 1) := by decide +kernel
theorem d_Thing_init_0 : decode (ib f_Thing_init) 0 = .ok (.aload_n 0, 1) := by decide +kernel
theorem d_Thing_init_1 : decode (ib f_Thing_init) 1 = .ok (.invokespecial 1, 3) := by decide +kernel
theorem d_Thing_init_4 : decode (ib f_Thing_init) 4 = .ok (.aload_n 0, 1) := by decide +kernel
theorem d_Thing_init_5 : decode (ib f_Thing_init) 5 = .ok (.iconst 0, 1) := by decide +kernel
theorem d_Thing_init_6 : decode (ib f_Thing_init) 6 = .ok (.putfield 7, 3) := by decide +kernel
theorem d_Thing_init_9 : decode (ib f_Thing_init) 9 = .ok (.aload_n 0, 1) := by decide +kernel
theorem d_Thing_init_10 : decode (ib f_Thing_init) 10 = .ok (.iconst 0, 1) := by decide +kernel
theorem d_Thing_init_11 : decode (ib f_Thing_init) 11 = .ok (.putfield 13, 3) := by decide +kernel
theorem d_Thing_init_14 : decode (ib f_Thing_init) 14 = .ok (.aload_n 0, 1) := by decide +kernel
theorem d_Thing_init_15 : decode (ib f_Thing_init) 15 = .ok (.iconst 1, 1) := by decide +kernel
theorem d_Thing_init_16 : decode (ib f_Thing_init) 16 = .ok (.putfield 16, 3) := by decide +kernel
theorem d_Thing_init_19 : decode (ib f_Thing_init) 19 = .ok (.aload_n 0, 1) := by decide +kernel
theorem d_Thing_init_20 : decode (ib f_Thing_init) 20 = .ok (.iconst 0, 1) := by decide +kernel
theorem d_Thing_init_21 : decode (ib f_Thing_init) 21 = .ok (.putfield 19, 3) := by decide +kernel
theorem d_Thing_init_24 : decode (ib f_Thing_init) 24 = .ok (.aload_n 0, 1) := by decide +kernel
theorem d_Thing_init_25 : decode (ib f_Thing_init) 25 = .ok (.iconst 0, 1) := by decide +kernel
theorem d_Thing_init_26 : decode (ib f_Thing_init) 26 = .ok (.putfield 22, 3) := by decide +kernel
theorem d_Thing_init_29 : decode (ib f_Thing_init) 29 = .ok (.aload_n 0, 1) := by decide +kernel
theorem d_Thing_init_30 : decode (ib f_Thing_init) 30 = .ok (.iconst 0, 1) := by decide +kernel
theorem d_Thing_init_31 : decode (ib f_Thing_init) 31 = .ok (.putfield 25, 3) := by decide +kernel
theorem d_Thing_init_34 : decode (ib f_Thing_init) 34 = .ok (.aload_n 0, 1) := by decide +kernel
theorem d_Thing_init_35 : decode (ib f_Thing_init) 35 = .ok (.bipush 6, 2) := by decide +kernel
theorem d_Thing_init_37 : decode (ib f_Thing_init) 37 = .ok (.putfield 28, 3) := by decide +kernel
theorem d_Thing_init_40 : decode (ib f_Thing_init) 40 = .ok (.return_, 1) := by decide +kernel
theorem d_Thing_copyFrom_0 : decode (ib f_Thing_copyFrom) 0 = .ok (.aload_n 0, 1) := by decide +kernel
theorem d_Thing_copyFrom_1 : decode (ib f_Thing_copyFrom) 1 = .ok (.aload_n 1, 1) := by decide +kernel
theorem d_Thing_copyFrom_2 : decode (ib f_Thing_copyFrom) 2 = .ok (.getfield 7, 3) := by decide +kernel
theorem d_Thing_copyFrom_5 : decode (ib f_Thing_copyFrom) 5 = .ok (.putfield 7, 3) := by decide +kernel
theorem d_Thing_copyFrom_8 : decode (ib f_Thing_copyFrom) 8 = .ok (.aload_n 0, 1) := by decide +kernel
theorem d_Thing_copyFrom_9 : decode (ib f_Thing_copyFrom) 9 = .ok (.aload_n 1, 1) := by decide +kernel
theorem d_Thing_copyFrom_10 : decode (ib f_Thing_copyFrom) 10 = .ok (.getfield 13, 3) := by decide +kernel
theorem d_Thing_copyFrom_13 : decode (ib f_Thing_copyFrom) 13 = .ok (.putfield 13, 3) := by decide +kernel
theorem d_Thing_copyFrom_16 : decode (ib f_Thing_copyFrom) 16 = .ok (.aload_n 0, 1) := by decide +kernel
theorem d_Thing_copyFrom_17 : decode (ib f_Thing_copyFrom) 17 = .ok (.aload_n 1, 1) := by decide +kernel
theorem d_Thing_copyFrom_18 : decode (ib f_Thing_copyFrom) 18 = .ok (.getfield 16, 3) := by decide +kernel
theorem d_Thing_copyFrom_21 : decode (ib f_Thing_copyFrom) 21 = .ok (.putfield 16, 3) := by decide +kernel
theorem d_Thing_copyFrom_24 : decode (ib f_Thing_copyFrom) 24 = .ok (.aload_n 0, 1) := by decide +kernel
theorem d_Thing_copyFrom_25 : decode (ib f_Thing_copyFrom) 25 = .ok (.aload_n 1, 1) := by decide +kernel
theorem d_Thing_copyFrom_26 : decode (ib f_Thing_copyFrom) 26 = .ok (.getfield 19, 3) := by decide +kernel
theorem d_Thing_copyFrom_29 : decode (ib f_Thing_copyFrom) 29 = .ok (.putfield 19, 3) := by decide +kernel
theorem d_Thing_copyFrom_32 : decode (ib f_Thing_copyFrom) 32 = .ok (.aload_n 0, 1) := by decide +kernel
theorem d_Thing_copyFrom_33 : decode (ib f_Thing_copyFrom) 33 = .ok (.aload_n 1, 1) := by decide +kernel
theorem d_Thing_copyFrom_34 : decode (ib f_Thing_copyFrom) 34 = .ok (.getfield 22, 3) := by decide +kernel
theorem d_Thing_copyFrom_37 : decode (ib f_Thing_copyFrom) 37 = .ok (.putfield 22, 3) := by decide +kernel
theorem d_Thing_copyFrom_40 : decode (ib f_Thing_copyFrom) 40 = .ok (.aload_n 0, 1) := by decide +kernel
theorem d_Thing_copyFrom_41 : decode (ib f_Thing_copyFrom) 41 = .ok (.aload_n 1, 1) := by decide +kernel
theorem d_Thing_copyFrom_42 : decode (ib f_Thing_copyFrom) 42 = .ok (.getfield 25, 3) := by decide +kernel
theorem d_Thing_copyFrom_45 : decode (ib f_Thing_copyFrom) 45 = .ok (.putfield 25, 3) := by decide +kernel
theorem d_Thing_copyFrom_48 : decode (ib f_Thing_copyFrom) 48 = .ok (.aload_n 0, 1) := by decide +kernel
theorem d_Thing_copyFrom_49 : decode (ib f_Thing_copyFrom) 49 = .ok (.aload_n 1, 1) := by decide +kernel
theorem d_Thing_copyFrom_50 : decode (ib f_Thing_copyFrom) 50 = .ok (.getfield 28, 3) := by decide +kernel
theorem d_Thing_copyFrom_53 : decode (ib f_Thing_copyFrom) 53 = .ok (.putfield 28, 3) := by decide +kernel
theorem d_Thing_copyFrom_56 : decode (ib f_Thing_copyFrom) 56 = .ok (.return_, 1) := by decide +kernel
theorem d_Told_init_0 : decode (ib f_Told_init) 0 = .ok (.aload_n 0, 1) := by decide +kernel
theorem d_Told_init_1 : decode (ib f_Told_init) 1 = .ok (.invokespecial 3, 3) := by decide +kernel
theorem d_Told_init_4 : decode (ib f_Told_init) 4 = .ok (.aload_n 0, 1) := by decide +kernel
theorem d_Told_init_5 : decode (ib f_Told_init) 5 = .ok (.new 9, 3) := by decide +kernel
theorem d_Told_init_8 : decode (ib f_Told_init) 8 = .ok (.dup, 1) := by decide +kernel
theorem d_Told_init_9 : decode (ib f_Told_init) 9 = .ok (.invokespecial 11, 3) := by decide +kernel
theorem d_Told_init_12 : decode (ib f_Told_init) 12 = .ok (.putfield 12, 3) := by decide +kernel
theorem d_Told_init_15 : decode (ib f_Told_init) 15 = .ok (.aload_n 0, 1) := by decide +kernel
theorem d_Told_init_16 : decode (ib f_Told_init) 16 = .ok (.new 18, 3) := by decide +kernel
theorem d_Told_init_19 : decode (ib f_Told_init) 19 = .ok (.dup, 1) := by decide +kernel
theorem d_Told_init_20 : decode (ib f_Told_init) 20 = .ok (.iconst 5, 1) := by decide +kernel
theorem d_Told_init_21 : decode (ib f_Told_init) 21 = .ok (.bipush 16, 2) := by decide +kernel
theorem d_Told_init_23 : decode (ib f_Told_init) 23 = .ok (.invokespecial 20, 3) := by decide +kernel
theorem d_Told_init_26 : decode (ib f_Told_init) 26 = .ok (.putfield 23, 3) := by decide +kernel
theorem d_Told_init_29 : decode (ib f_Told_init) 29 = .ok (.aload_n 0, 1) := by decide +kernel
theorem d_Told_init_30 : decode (ib f_Told_init) 30 = .ok (.new 18, 3) := by decide +kernel
theorem d_Told_init_33 : decode (ib f_Told_init) 33 = .ok (.dup, 1) := by decide +kernel
theorem d_Told_init_34 : decode (ib f_Told_init) 34 = .ok (.iconst 5, 1) := by decide +kernel
theorem d_Told_init_35 : decode (ib f_Told_init) 35 = .ok (.bipush 16, 2) := by decide +kernel
theorem d_Told_init_37 : decode (ib f_Told_init) 37 = .ok (.invokespecial 20, 3) := by decide +kernel
theorem d_Told_init_40 : decode (ib f_Told_init) 40 = .ok (.putfield 27, 3) := by decide +kernel
theorem d_Told_init_43 : decode (ib f_Told_init) 43 = .ok (.aload_n 0, 1) := by decide +kernel
theorem d_Told_init_44 : decode (ib f_Told_init) 44 = .ok (.new 18, 3) := by decide +kernel
theorem d_Told_init_47 : decode (ib f_Told_init) 47 = .ok (.dup, 1) := by decide +kernel
theorem d_Told_init_48 : decode (ib f_Told_init) 48 = .ok (.iconst 5, 1) := by decide +kernel
theorem d_Told_init_49 : decode (ib f_Told_init) 49 = .ok (.bipush 16, 2) := by decide +kernel
theorem d_Told_init_51 : decode (ib f_Told_init) 51 = .ok (.invokespecial 20, 3) := by decide +kernel
theorem d_Told_init_54 : decode (ib f_Told_init) 54 = .ok (.putfield 30, 3) := by decide +kernel
theorem d_Told_init_57 : decode (ib f_Told_init) 57 = .ok (.aload_n 0, 1) := by decide +kernel
theorem d_Told_init_58 : decode (ib f_Told_init) 58 = .ok (.new 18, 3) := by decide +kernel
theorem d_Told_init_61 : decode (ib f_Told_init) 61 = .ok (.dup, 1) := by decide +kernel
theorem d_Told_init_62 : decode (ib f_Told_init) 62 = .ok (.iconst 1, 1) := by decide +kernel
theorem d_Told_init_63 : decode (ib f_Told_init) 63 = .ok (.bipush 8, 2) := by decide +kernel
theorem d_Told_init_65 : decode (ib f_Told_init) 65 = .ok (.invokespecial 20, 3) := by decide +kernel
theorem d_Told_init_68 : decode (ib f_Told_init) 68 = .ok (.putfield 33, 3) := by decide +kernel
theorem d_Told_init_71 : decode (ib f_Told_init) 71 = .ok (.aload_n 0, 1) := by decide +kernel
theorem d_Told_init_72 : decode (ib f_Told_init) 72 = .ok (.new 18, 3) := by decide +kernel
theorem d_Told_init_75 : decode (ib f_Told_init) 75 = .ok (.dup, 1) := by decide +kernel
theorem d_Told_init_76 : decode (ib f_Told_init) 76 = .ok (.iconst 2, 1) := by decide +kernel
theorem d_Told_init_77 : decode (ib f_Told_init) 77 = .ok (.bipush 6, 2) := by decide +kernel
theorem d_Told_init_79 : decode (ib f_Told_init) 79 = .ok (.invokespecial 20, 3) := by decide +kernel
theorem d_Told_init_82 : decode (ib f_Told_init) 82 = .ok (.putfield 36, 3) := by decide +kernel
theorem d_Told_init_85 : decode (ib f_Told_init) 85 = .ok (.aload_n 0, 1) := by decide +kernel
theorem d_Told_init_86 : decode (ib f_Told_init) 86 = .ok (.new 18, 3) := by decide +kernel
theorem d_Told_init_89 : decode (ib f_Told_init) 89 = .ok (.dup, 1) := by decide +kernel
theorem d_Told_init_90 : decode (ib f_Told_init) 90 = .ok (.iconst 1, 1) := by decide +kernel
theorem d_Told_init_91 : decode (ib f_Told_init) 91 = .ok (.bipush 8, 2) := by decide +kernel
theorem d_Told_init_93 : decode (ib f_Told_init) 93 = .ok (.invokespecial 20, 3) := by decide +kernel
theorem d_Told_init_96 : decode (ib f_Told_init) 96 = .ok (.putfield 39, 3) := by decide +kernel
theorem d_Told_init_99 : decode (ib f_Told_init) 99 = .ok (.aload_n 0, 1) := by decide +kernel
theorem d_Told_init_100 : decode (ib f_Told_init) 100 = .ok (.new 18, 3) := by decide +kernel
theorem d_Told_init_103 : decode (ib f_Told_init) 103 = .ok (.dup, 1) := by decide +kernel
theorem d_Told_init_104 : decode (ib f_Told_init) 104 = .ok (.iconst 2, 1) := by decide +kernel
theorem d_Told_init_105 : decode (ib f_Told_init) 105 = .ok (.bipush 9, 2) := by decide +kernel
theorem d_Told_init_107 : decode (ib f_Told_init) 107 = .ok (.invokespecial 20, 3) := by decide +kernel
theorem d_Told_init_110 : decode (ib f_Told_init) 110 = .ok (.putfield 42, 3) := by decide +kernel
theorem d_Told_init_113 : decode (ib f_Told_init) 113 = .ok (.aload_n 0, 1) := by decide +kernel
theorem d_Told_init_114 : decode (ib f_Told_init) 114 = .ok (.new 18, 3) := by decide +kernel
theorem d_Told_init_117 : decode (ib f_Told_init) 117 = .ok (.dup, 1) := by decide +kernel
theorem d_Told_init_118 : decode (ib f_Told_init) 118 = .ok (.iconst 2, 1) := by decide +kernel
theorem d_Told_init_119 : decode (ib f_Told_init) 119 = .ok (.bipush 9, 2) := by decide +kernel
theorem d_Told_init_121 : decode (ib f_Told_init) 121 = .ok (.invokespecial 20, 3) := by decide +kernel
theorem d_Told_init_124 : decode (ib f_Told_init) 124 = .ok (.putfield 45, 3) := by decide +kernel
theorem d_Told_init_127 : decode (ib f_Told_init) 127 = .ok (.return_, 1) := by decide +kernel
theorem d_Told_take_0 : decode (ib f_Told_take) 0 = .ok (.iload_n 1, 1) := by decide +kernel
theorem d_Told_take_1 : decode (ib f_Told_take) 1 = .ok (.ifCond .ne 25, 3) := by decide +kernel
theorem d_Told_take_4 : decode (ib f_Told_take) 4 = .ok (.aload_n 0, 1) := by decide +kernel
theorem d_Told_take_5 : decode (ib f_Told_take) 5 = .ok (.getfield 12, 3) := by decide +kernel
theorem d_Told_take_8 : decode (ib f_Told_take) 8 = .ok (.aload_n 2, 1) := by decide +kernel
theorem d_Told_take_9 : decode (ib f_Told_take) 9 = .ok (.getfield 48, 3) := by decide +kernel
theorem d_Told_take_12 : decode (ib f_Told_take) 12 = .ok (.aload_n 2, 1) := by decide +kernel
theorem d_Told_take_13 : decode (ib f_Told_take) 13 = .ok (.getfield 53, 3) := by decide +kernel
theorem d_Told_take_16 : decode (ib f_Told_take) 16 = .ok (.aload_n 2, 1) := by decide +kernel
theorem d_Told_take_17 : decode (ib f_Told_take) 17 = .ok (.getfield 57, 3) := by decide +kernel
theorem d_Told_take_20 : decode (ib f_Told_take) 20 = .ok (.invokevirtual 61, 3) := by decide +kernel
theorem d_Told_take_23 : decode (ib f_Told_take) 23 = .ok (.goto 57, 3) := by decide +kernel
theorem d_Told_take_26 : decode (ib f_Told_take) 26 = .ok (.iload_n 1, 1) := by decide +kernel
theorem d_Told_take_27 : decode (ib f_Told_take) 27 = .ok (.iconst 1, 1) := by decide +kernel
theorem d_Told_take_28 : decode (ib f_Told_take) 28 = .ok (.if_icmp .ne 17, 3) := by decide +kernel
theorem d_Told_take_31 : decode (ib f_Told_take) 31 = .ok (.aload_n 0, 1) := by decide +kernel
theorem d_Told_take_32 : decode (ib f_Told_take) 32 = .ok (.getfield 23, 3) := by decide +kernel
theorem d_Told_take_35 : decode (ib f_Told_take) 35 = .ok (.aload_n 2, 1) := by decide +kernel
theorem d_Told_take_36 : decode (ib f_Told_take) 36 = .ok (.getfield 48, 3) := by decide +kernel
theorem d_Told_take_39 : decode (ib f_Told_take) 39 = .ok (.invokevirtual 65, 3) := by decide +kernel
theorem d_Told_take_42 : decode (ib f_Told_take) 42 = .ok (.goto 38, 3) := by decide +kernel
theorem d_Told_take_45 : decode (ib f_Told_take) 45 = .ok (.iload_n 1, 1) := by decide +kernel
theorem d_Told_take_46 : decode (ib f_Told_take) 46 = .ok (.iconst 2, 1) := by decide +kernel
theorem d_Told_take_47 : decode (ib f_Told_take) 47 = .ok (.if_icmp .ne 17, 3) := by decide +kernel
theorem d_Told_take_50 : decode (ib f_Told_take) 50 = .ok (.aload_n 0, 1) := by decide +kernel
theorem d_Told_take_51 : decode (ib f_Told_take) 51 = .ok (.getfield 27, 3) := by decide +kernel
theorem d_Told_take_54 : decode (ib f_Told_take) 54 = .ok (.aload_n 2, 1) := by decide +kernel
theorem d_Told_take_55 : decode (ib f_Told_take) 55 = .ok (.getfield 48, 3) := by decide +kernel
theorem d_Told_take_58 : decode (ib f_Told_take) 58 = .ok (.invokevirtual 65, 3) := by decide +kernel
theorem d_Told_take_61 : decode (ib f_Told_take) 61 = .ok (.goto 19, 3) := by decide +kernel
theorem d_Told_take_64 : decode (ib f_Told_take) 64 = .ok (.iload_n 1, 1) := by decide +kernel
theorem d_Told_take_65 : decode (ib f_Told_take) 65 = .ok (.iconst 3, 1) := by decide +kernel
theorem d_Told_take_66 : decode (ib f_Told_take) 66 = .ok (.if_icmp .ne 14, 3) := by decide +kernel
theorem d_Told_take_69 : decode (ib f_Told_take) 69 = .ok (.aload_n 0, 1) := by decide +kernel
theorem d_Told_take_70 : decode (ib f_Told_take) 70 = .ok (.getfield 30, 3) := by decide +kernel
theorem d_Told_take_73 : decode (ib f_Told_take) 73 = .ok (.aload_n 2, 1) := by decide +kernel
theorem d_Told_take_74 : decode (ib f_Told_take) 74 = .ok (.getfield 48, 3) := by decide +kernel
theorem d_Told_take_77 : decode (ib f_Told_take) 77 = .ok (.invokevirtual 65, 3) := by decide +kernel
theorem d_Told_take_80 : decode (ib f_Told_take) 80 = .ok (.return_, 1) := by decide +kernel
theorem d_Told_copyFrom_0 : decode (ib f_Told_copyFrom) 0 = .ok (.aload_n 0, 1) := by decide +kernel
theorem d_Told_copyFrom_1 : decode (ib f_Told_copyFrom) 1 = .ok (.getfield 12, 3) := by decide +kernel
theorem d_Told_copyFrom_4 : decode (ib f_Told_copyFrom) 4 = .ok (.aload_n 1, 1) := by decide +kernel
theorem d_Told_copyFrom_5 : decode (ib f_Told_copyFrom) 5 = .ok (.getfield 12, 3) := by decide +kernel
theorem d_Told_copyFrom_8 : decode (ib f_Told_copyFrom) 8 = .ok (.getfield 69, 3) := by decide +kernel
theorem d_Told_copyFrom_11 : decode (ib f_Told_copyFrom) 11 = .ok (.aload_n 1, 1) := by decide +kernel
theorem d_Told_copyFrom_12 : decode (ib f_Told_copyFrom) 12 = .ok (.getfield 12, 3) := by decide +kernel
theorem d_Told_copyFrom_15 : decode (ib f_Told_copyFrom) 15 = .ok (.getfield 72, 3) := by decide +kernel
theorem d_Told_copyFrom_18 : decode (ib f_Told_copyFrom) 18 = .ok (.aload_n 1, 1) := by decide +kernel
theorem d_Told_copyFrom_19 : decode (ib f_Told_copyFrom) 19 = .ok (.getfield 12, 3) := by decide +kernel
theorem d_Told_copyFrom_22 : decode (ib f_Told_copyFrom) 22 = .ok (.getfield 73, 3) := by decide +kernel
theorem d_Told_copyFrom_25 : decode (ib f_Told_copyFrom) 25 = .ok (.invokevirtual 61, 3) := by decide +kernel
theorem d_Told_copyFrom_28 : decode (ib f_Told_copyFrom) 28 = .ok (.aload_n 0, 1) := by decide +kernel
theorem d_Told_copyFrom_29 : decode (ib f_Told_copyFrom) 29 = .ok (.getfield 23, 3) := by decide +kernel
theorem d_Told_copyFrom_32 : decode (ib f_Told_copyFrom) 32 = .ok (.aload_n 1, 1) := by decide +kernel
theorem d_Told_copyFrom_33 : decode (ib f_Told_copyFrom) 33 = .ok (.getfield 23, 3) := by decide +kernel
theorem d_Told_copyFrom_36 : decode (ib f_Told_copyFrom) 36 = .ok (.invokevirtual 65, 3) := by decide +kernel
theorem d_Told_copyFrom_39 : decode (ib f_Told_copyFrom) 39 = .ok (.aload_n 0, 1) := by decide +kernel
theorem d_Told_copyFrom_40 : decode (ib f_Told_copyFrom) 40 = .ok (.getfield 27, 3) := by decide +kernel
theorem d_Told_copyFrom_43 : decode (ib f_Told_copyFrom) 43 = .ok (.aload_n 1, 1) := by decide +kernel
theorem d_Told_copyFrom_44 : decode (ib f_Told_copyFrom) 44 = .ok (.getfield 27, 3) := by decide +kernel
theorem d_Told_copyFrom_47 : decode (ib f_Told_copyFrom) 47 = .ok (.invokevirtual 65, 3) := by decide +kernel
theorem d_Told_copyFrom_50 : decode (ib f_Told_copyFrom) 50 = .ok (.aload_n 0, 1) := by decide +kernel
theorem d_Told_copyFrom_51 : decode (ib f_Told_copyFrom) 51 = .ok (.getfield 30, 3) := by decide +kernel
theorem d_Told_copyFrom_54 : decode (ib f_Told_copyFrom) 54 = .ok (.aload_n 1, 1) := by decide +kernel
theorem d_Told_copyFrom_55 : decode (ib f_Told_copyFrom) 55 = .ok (.getfield 30, 3) := by decide +kernel
theorem d_Told_copyFrom_58 : decode (ib f_Told_copyFrom) 58 = .ok (.invokevirtual 65, 3) := by decide +kernel
theorem d_Told_copyFrom_61 : decode (ib f_Told_copyFrom) 61 = .ok (.aload_n 0, 1) := by decide +kernel
theorem d_Told_copyFrom_62 : decode (ib f_Told_copyFrom) 62 = .ok (.getfield 33, 3) := by decide +kernel
theorem d_Told_copyFrom_65 : decode (ib f_Told_copyFrom) 65 = .ok (.aload_n 1, 1) := by decide +kernel
theorem d_Told_copyFrom_66 : decode (ib f_Told_copyFrom) 66 = .ok (.getfield 33, 3) := by decide +kernel
theorem d_Told_copyFrom_69 : decode (ib f_Told_copyFrom) 69 = .ok (.invokevirtual 65, 3) := by decide +kernel
theorem d_Told_copyFrom_72 : decode (ib f_Told_copyFrom) 72 = .ok (.aload_n 0, 1) := by decide +kernel
theorem d_Told_copyFrom_73 : decode (ib f_Told_copyFrom) 73 = .ok (.getfield 36, 3) := by decide +kernel
theorem d_Told_copyFrom_76 : decode (ib f_Told_copyFrom) 76 = .ok (.aload_n 1, 1) := by decide +kernel
theorem d_Told_copyFrom_77 : decode (ib f_Told_copyFrom) 77 = .ok (.getfield 36, 3) := by decide +kernel
theorem d_Told_copyFrom_80 : decode (ib f_Told_copyFrom) 80 = .ok (.invokevirtual 65, 3) := by decide +kernel
theorem d_Told_copyFrom_83 : decode (ib f_Told_copyFrom) 83 = .ok (.aload_n 0, 1) := by decide +kernel
theorem d_Told_copyFrom_84 : decode (ib f_Told_copyFrom) 84 = .ok (.getfield 39, 3) := by decide +kernel
theorem d_Told_copyFrom_87 : decode (ib f_Told_copyFrom) 87 = .ok (.aload_n 1, 1) := by decide +kernel
theorem d_Told_copyFrom_88 : decode (ib f_Told_copyFrom) 88 = .ok (.getfield 39, 3) := by decide +kernel
theorem d_Told_copyFrom_91 : decode (ib f_Told_copyFrom) 91 = .ok (.invokevirtual 65, 3) := by decide +kernel
theorem d_Told_copyFrom_94 : decode (ib f_Told_copyFrom) 94 = .ok (.aload_n 0, 1) := by decide +kernel
theorem d_Told_copyFrom_95 : decode (ib f_Told_copyFrom) 95 = .ok (.getfield 42, 3) := by decide +kernel
theorem d_Told_copyFrom_98 : decode (ib f_Told_copyFrom) 98 = .ok (.aload_n 1, 1) := by decide +kernel
theorem d_Told_copyFrom_99 : decode (ib f_Told_copyFrom) 99 = .ok (.getfield 42, 3) := by decide +kernel
theorem d_Told_copyFrom_102 : decode (ib f_Told_copyFrom) 102 = .ok (.invokevirtual 65, 3) := by decide +kernel
theorem d_Told_copyFrom_105 : decode (ib f_Told_copyFrom) 105 = .ok (.aload_n 0, 1) := by decide +kernel
theorem d_Told_copyFrom_106 : decode (ib f_Told_copyFrom) 106 = .ok (.getfield 45, 3) := by decide +kernel
theorem d_Told_copyFrom_109 : decode (ib f_Told_copyFrom) 109 = .ok (.aload_n 1, 1) := by decide +kernel
theorem d_Told_copyFrom_110 : decode (ib f_Told_copyFrom) 110 = .ok (.getfield 45, 3) := by decide +kernel
theorem d_Told_copyFrom_113 : decode (ib f_Told_copyFrom) 113 = .ok (.invokevirtual 65, 3) := by decide +kernel
theorem d_Told_copyFrom_116 : decode (ib f_Told_copyFrom) 116 = .ok (.return_, 1) := by decide +kernel
theorem d_Wings_init_0 : decode (ib f_Wings_init) 0 = .ok (.aload_n 0, 1) := by decide +kernel
theorem d_Wings_init_1 : decode (ib f_Wings_init) 1 = .ok (.invokespecial 3, 3) := by decide +kernel
theorem d_Wings_init_4 : decode (ib f_Wings_init) 4 = .ok (.aload_n 0, 1) := by decide +kernel
theorem d_Wings_init_5 : decode (ib f_Wings_init) 5 = .ok (.bipush 8, 2) := by decide +kernel
theorem d_Wings_init_7 : decode (ib f_Wings_init) 7 = .ok (.newarray .int, 2) := by decide +kernel
theorem d_Wings_init_9 : decode (ib f_Wings_init) 9 = .ok (.putfield 9, 3) := by decide +kernel
theorem d_Wings_init_12 : decode (ib f_Wings_init) 12 = .ok (.aload_n 0, 1) := by decide +kernel
theorem d_Wings_init_13 : decode (ib f_Wings_init) 13 = .ok (.bipush 8, 2) := by decide +kernel
theorem d_Wings_init_15 : decode (ib f_Wings_init) 15 = .ok (.newarray .int, 2) := by decide +kernel
theorem d_Wings_init_17 : decode (ib f_Wings_init) 17 = .ok (.putfield 15, 3) := by decide +kernel
theorem d_Wings_init_20 : decode (ib f_Wings_init) 20 = .ok (.aload_n 0, 1) := by decide +kernel
theorem d_Wings_init_21 : decode (ib f_Wings_init) 21 = .ok (.bipush 8, 2) := by decide +kernel
theorem d_Wings_init_23 : decode (ib f_Wings_init) 23 = .ok (.newarray .int, 2) := by decide +kernel
theorem d_Wings_init_25 : decode (ib f_Wings_init) 25 = .ok (.putfield 18, 3) := by decide +kernel
theorem d_Wings_init_28 : decode (ib f_Wings_init) 28 = .ok (.return_, 1) := by decide +kernel
theorem d_Wings_numberings_0 : decode (ib f_Wings_numberings) 0 = .ok (.aload_n 1, 1) := by decide +kernel
theorem d_Wings_numberings_1 : decode (ib f_Wings_numberings) 1 = .ok (.aload_n 0, 1) := by decide +kernel
theorem d_Wings_numberings_2 : decode (ib f_Wings_numberings) 2 = .ok (.getfield 9, 3) := by decide +kernel
theorem d_Wings_numberings_5 : decode (ib f_Wings_numberings) 5 = .ok (.invokestatic 21, 3) := by decide +kernel
theorem d_Wings_numberings_8 : decode (ib f_Wings_numberings) 8 = .ok (.aload_n 2, 1) := by decide +kernel
theorem d_Wings_numberings_9 : decode (ib f_Wings_numberings) 9 = .ok (.aload_n 0, 1) := by decide +kernel
theorem d_Wings_numberings_10 : decode (ib f_Wings_numberings) 10 = .ok (.getfield 15, 3) := by decide +kernel
theorem d_Wings_numberings_13 : decode (ib f_Wings_numberings) 13 = .ok (.invokestatic 21, 3) := by decide +kernel
theorem d_Wings_numberings_16 : decode (ib f_Wings_numberings) 16 = .ok (.aload_n 0, 1) := by decide +kernel
theorem d_Wings_numberings_17 : decode (ib f_Wings_numberings) 17 = .ok (.getfield 9, 3) := by decide +kernel
theorem d_Wings_numberings_20 : decode (ib f_Wings_numberings) 20 = .ok (.invokestatic 25, 3) := by decide +kernel
theorem d_Wings_numberings_23 : decode (ib f_Wings_numberings) 23 = .ok (.istore_n 3, 1) := by decide +kernel
theorem d_Wings_numberings_24 : decode (ib f_Wings_numberings) 24 = .ok (.iload_n 3, 1) := by decide +kernel
theorem d_Wings_numberings_25 : decode (ib f_Wings_numberings) 25 = .ok (.aload_n 0, 1) := by decide +kernel
theorem d_Wings_numberings_26 : decode (ib f_Wings_numberings) 26 = .ok (.getfield 15, 3) := by decide +kernel
theorem d_Wings_numberings_29 : decode (ib f_Wings_numberings) 29 = .ok (.invokestatic 25, 3) := by decide +kernel
theorem d_Wings_numberings_32 : decode (ib f_Wings_numberings) 32 = .ok (.if_icmp .eq 5, 3) := by decide +kernel
theorem d_Wings_numberings_35 : decode (ib f_Wings_numberings) 35 = .ok (.iconst 0, 1) := by decide +kernel
theorem d_Wings_numberings_36 : decode (ib f_Wings_numberings) 36 = .ok (.ireturn, 1) := by decide +kernel
theorem d_Wings_numberings_37 : decode (ib f_Wings_numberings) 37 = .ok (.aload_n 0, 1) := by decide +kernel
theorem d_Wings_numberings_38 : decode (ib f_Wings_numberings) 38 = .ok (.getfield 9, 3) := by decide +kernel
theorem d_Wings_numberings_41 : decode (ib f_Wings_numberings) 41 = .ok (.aload_n 0, 1) := by decide +kernel
theorem d_Wings_numberings_42 : decode (ib f_Wings_numberings) 42 = .ok (.getfield 15, 3) := by decide +kernel
theorem d_Wings_numberings_45 : decode (ib f_Wings_numberings) 45 = .ok (.aload_n 0, 1) := by decide +kernel
theorem d_Wings_numberings_46 : decode (ib f_Wings_numberings) 46 = .ok (.getfield 18, 3) := by decide +kernel
theorem d_Wings_numberings_49 : decode (ib f_Wings_numberings) 49 = .ok (.iconst 0, 1) := by decide +kernel
theorem d_Wings_numberings_50 : decode (ib f_Wings_numberings) 50 = .ok (.iconst 0, 1) := by decide +kernel
theorem d_Wings_numberings_51 : decode (ib f_Wings_numberings) 51 = .ok (.invokestatic 29, 3) := by decide +kernel
theorem d_Wings_numberings_54 : decode (ib f_Wings_numberings) 54 = .ok (.istore 4, 2) := by decide +kernel
theorem d_Wings_numberings_56 : decode (ib f_Wings_numberings) 56 = .ok (.iconst 2, 1) := by decide +kernel
theorem d_Wings_numberings_57 : decode (ib f_Wings_numberings) 57 = .ok (.istore 5, 2) := by decide +kernel
theorem d_Wings_numberings_59 : decode (ib f_Wings_numberings) 59 = .ok (.iload 5, 2) := by decide +kernel
theorem d_Wings_numberings_61 : decode (ib f_Wings_numberings) 61 = .ok (.iload_n 3, 1) := by decide +kernel
theorem d_Wings_numberings_62 : decode (ib f_Wings_numberings) 62 = .ok (.if_icmp .gt 16, 3) := by decide +kernel
theorem d_Wings_numberings_65 : decode (ib f_Wings_numberings) 65 = .ok (.iload 4, 2) := by decide +kernel
theorem d_Wings_numberings_67 : decode (ib f_Wings_numberings) 67 = .ok (.iload 5, 2) := by decide +kernel
theorem d_Wings_numberings_69 : decode (ib f_Wings_numberings) 69 = .ok (.imul, 1) := by decide +kernel
theorem d_Wings_numberings_70 : decode (ib f_Wings_numberings) 70 = .ok (.istore 4, 2) := by decide +kernel
theorem d_Wings_numberings_72 : decode (ib f_Wings_numberings) 72 = .ok (.iinc 5 1, 3) := by decide +kernel
theorem d_Wings_numberings_75 : decode (ib f_Wings_numberings) 75 = .ok (.goto (-16), 3) := by decide +kernel
theorem d_Wings_numberings_78 : decode (ib f_Wings_numberings) 78 = .ok (.iload 4, 2) := by decide +kernel
theorem d_Wings_numberings_80 : decode (ib f_Wings_numberings) 80 = .ok (.ireturn, 1) := by decide +kernel
theorem d_Wings_learn_0 : decode (ib f_Wings_learn) 0 = .ok (.aload_n 1, 1) := by decide +kernel
theorem d_Wings_learn_1 : decode (ib f_Wings_learn) 1 = .ok (.iconst 0, 1) := by decide +kernel
theorem d_Wings_learn_2 : decode (ib f_Wings_learn) 2 = .ok (.invokestatic 33, 3) := by decide +kernel
theorem d_Wings_learn_5 : decode (ib f_Wings_learn) 5 = .ok (.iconst 0, 1) := by decide +kernel
theorem d_Wings_learn_6 : decode (ib f_Wings_learn) 6 = .ok (.istore_n 2, 1) := by decide +kernel
theorem d_Wings_learn_7 : decode (ib f_Wings_learn) 7 = .ok (.iload_n 2, 1) := by decide +kernel
theorem d_Wings_learn_8 : decode (ib f_Wings_learn) 8 = .ok (.aload_n 0, 1) := by decide +kernel
theorem d_Wings_learn_9 : decode (ib f_Wings_learn) 9 = .ok (.getfield 39, 3) := by decide +kernel
theorem d_Wings_learn_12 : decode (ib f_Wings_learn) 12 = .ok (.if_icmp .ge 66, 3) := by decide +kernel
theorem d_Wings_learn_15 : decode (ib f_Wings_learn) 15 = .ok (.aload_n 0, 1) := by decide +kernel
theorem d_Wings_learn_16 : decode (ib f_Wings_learn) 16 = .ok (.iload_n 2, 1) := by decide +kernel
theorem d_Wings_learn_17 : decode (ib f_Wings_learn) 17 = .ok (.iconst 0, 1) := by decide +kernel
theorem d_Wings_learn_18 : decode (ib f_Wings_learn) 18 = .ok (.invokevirtual 45, 3) := by decide +kernel
theorem d_Wings_learn_21 : decode (ib f_Wings_learn) 21 = .ok (.istore_n 3, 1) := by decide +kernel
theorem d_Wings_learn_22 : decode (ib f_Wings_learn) 22 = .ok (.aload_n 0, 1) := by decide +kernel
theorem d_Wings_learn_23 : decode (ib f_Wings_learn) 23 = .ok (.iload_n 2, 1) := by decide +kernel
theorem d_Wings_learn_24 : decode (ib f_Wings_learn) 24 = .ok (.iconst 1, 1) := by decide +kernel
theorem d_Wings_learn_25 : decode (ib f_Wings_learn) 25 = .ok (.invokevirtual 45, 3) := by decide +kernel
theorem d_Wings_learn_28 : decode (ib f_Wings_learn) 28 = .ok (.istore 4, 2) := by decide +kernel
theorem d_Wings_learn_30 : decode (ib f_Wings_learn) 30 = .ok (.iload_n 3, 1) := by decide +kernel
theorem d_Wings_learn_31 : decode (ib f_Wings_learn) 31 = .ok (.ifCond .lt 41, 3) := by decide +kernel
theorem d_Wings_learn_34 : decode (ib f_Wings_learn) 34 = .ok (.iload_n 3, 1) := by decide +kernel
theorem d_Wings_learn_35 : decode (ib f_Wings_learn) 35 = .ok (.bipush 8, 2) := by decide +kernel
theorem d_Wings_learn_37 : decode (ib f_Wings_learn) 37 = .ok (.if_icmp .ge 35, 3) := by decide +kernel
theorem d_Wings_learn_40 : decode (ib f_Wings_learn) 40 = .ok (.iload 4, 2) := by decide +kernel
theorem d_Wings_learn_42 : decode (ib f_Wings_learn) 42 = .ok (.ifCond .lt 30, 3) := by decide +kernel
theorem d_Wings_learn_45 : decode (ib f_Wings_learn) 45 = .ok (.iload 4, 2) := by decide +kernel
theorem d_Wings_learn_47 : decode (ib f_Wings_learn) 47 = .ok (.bipush 8, 2) := by decide +kernel
theorem d_Wings_learn_49 : decode (ib f_Wings_learn) 49 = .ok (.if_icmp .ge 23, 3) := by decide +kernel
theorem d_Wings_learn_52 : decode (ib f_Wings_learn) 52 = .ok (.aload_n 1, 1) := by decide +kernel
theorem d_Wings_learn_53 : decode (ib f_Wings_learn) 53 = .ok (.iload_n 3, 1) := by decide +kernel
theorem d_Wings_learn_54 : decode (ib f_Wings_learn) 54 = .ok (.dup2, 1) := by decide +kernel
theorem d_Wings_learn_55 : decode (ib f_Wings_learn) 55 = .ok (.iaload, 1) := by decide +kernel
theorem d_Wings_learn_56 : decode (ib f_Wings_learn) 56 = .ok (.iconst 1, 1) := by decide +kernel
theorem d_Wings_learn_57 : decode (ib f_Wings_learn) 57 = .ok (.iload 4, 2) := by decide +kernel
theorem d_Wings_learn_59 : decode (ib f_Wings_learn) 59 = .ok (.ishl, 1) := by decide +kernel
theorem d_Wings_learn_60 : decode (ib f_Wings_learn) 60 = .ok (.ior, 1) := by decide +kernel
theorem d_Wings_learn_61 : decode (ib f_Wings_learn) 61 = .ok (.iastore, 1) := by decide +kernel
theorem d_Wings_learn_62 : decode (ib f_Wings_learn) 62 = .ok (.aload_n 1, 1) := by decide +kernel
theorem d_Wings_learn_63 : decode (ib f_Wings_learn) 63 = .ok (.iload 4, 2) := by decide +kernel
theorem d_Wings_learn_65 : decode (ib f_Wings_learn) 65 = .ok (.dup2, 1) := by decide +kernel
theorem d_Wings_learn_66 : decode (ib f_Wings_learn) 66 = .ok (.iaload, 1) := by decide +kernel
theorem d_Wings_learn_67 : decode (ib f_Wings_learn) 67 = .ok (.iconst 1, 1) := by decide +kernel
theorem d_Wings_learn_68 : decode (ib f_Wings_learn) 68 = .ok (.iload_n 3, 1) := by decide +kernel
theorem d_Wings_learn_69 : decode (ib f_Wings_learn) 69 = .ok (.ishl, 1) := by decide +kernel
theorem d_Wings_learn_70 : decode (ib f_Wings_learn) 70 = .ok (.ior, 1) := by decide +kernel
theorem d_Wings_learn_71 : decode (ib f_Wings_learn) 71 = .ok (.iastore, 1) := by decide +kernel
theorem d_Wings_learn_72 : decode (ib f_Wings_learn) 72 = .ok (.iinc 2 1, 3) := by decide +kernel
theorem d_Wings_learn_75 : decode (ib f_Wings_learn) 75 = .ok (.goto (-68), 3) := by decide +kernel
theorem d_Wings_learn_78 : decode (ib f_Wings_learn) 78 = .ok (.return_, 1) := by decide +kernel
theorem d_Wings_bare_0 : decode (ib f_Wings_bare) 0 = .ok (.iconst 0, 1) := by decide +kernel
theorem d_Wings_bare_1 : decode (ib f_Wings_bare) 1 = .ok (.istore_n 1, 1) := by decide +kernel
theorem d_Wings_bare_2 : decode (ib f_Wings_bare) 2 = .ok (.aload_n 0, 1) := by decide +kernel
theorem d_Wings_bare_3 : decode (ib f_Wings_bare) 3 = .ok (.astore_n 2, 1) := by decide +kernel
theorem d_Wings_bare_4 : decode (ib f_Wings_bare) 4 = .ok (.aload_n 2, 1) := by decide +kernel
theorem d_Wings_bare_5 : decode (ib f_Wings_bare) 5 = .ok (.arraylength, 1) := by decide +kernel
theorem d_Wings_bare_6 : decode (ib f_Wings_bare) 6 = .ok (.istore_n 3, 1) := by decide +kernel
theorem d_Wings_bare_7 : decode (ib f_Wings_bare) 7 = .ok (.iconst 0, 1) := by decide +kernel
theorem d_Wings_bare_8 : decode (ib f_Wings_bare) 8 = .ok (.istore 4, 2) := by decide +kernel
theorem d_Wings_bare_10 : decode (ib f_Wings_bare) 10 = .ok (.iload 4, 2) := by decide +kernel
theorem d_Wings_bare_12 : decode (ib f_Wings_bare) 12 = .ok (.iload_n 3, 1) := by decide +kernel
theorem d_Wings_bare_13 : decode (ib f_Wings_bare) 13 = .ok (.if_icmp .ge 28, 3) := by decide +kernel
theorem d_Wings_bare_16 : decode (ib f_Wings_bare) 16 = .ok (.aload_n 2, 1) := by decide +kernel
theorem d_Wings_bare_17 : decode (ib f_Wings_bare) 17 = .ok (.iload 4, 2) := by decide +kernel
theorem d_Wings_bare_19 : decode (ib f_Wings_bare) 19 = .ok (.iaload, 1) := by decide +kernel
theorem d_Wings_bare_20 : decode (ib f_Wings_bare) 20 = .ok (.istore 5, 2) := by decide +kernel
theorem d_Wings_bare_22 : decode (ib f_Wings_bare) 22 = .ok (.iload_n 1, 1) := by decide +kernel
theorem d_Wings_bare_23 : decode (ib f_Wings_bare) 23 = .ok (.iload 5, 2) := by decide +kernel
theorem d_Wings_bare_25 : decode (ib f_Wings_bare) 25 = .ok (.ifCond .ne 7, 3) := by decide +kernel
theorem d_Wings_bare_28 : decode (ib f_Wings_bare) 28 = .ok (.iconst 1, 1) := by decide +kernel
theorem d_Wings_bare_29 : decode (ib f_Wings_bare) 29 = .ok (.goto 4, 3) := by decide +kernel
theorem d_Wings_bare_32 : decode (ib f_Wings_bare) 32 = .ok (.iconst 0, 1) := by decide +kernel
theorem d_Wings_bare_33 : decode (ib f_Wings_bare) 33 = .ok (.iadd, 1) := by decide +kernel
theorem d_Wings_bare_34 : decode (ib f_Wings_bare) 34 = .ok (.istore_n 1, 1) := by decide +kernel
theorem d_Wings_bare_35 : decode (ib f_Wings_bare) 35 = .ok (.iinc 4 1, 3) := by decide +kernel
theorem d_Wings_bare_38 : decode (ib f_Wings_bare) 38 = .ok (.goto (-28), 3) := by decide +kernel
theorem d_Wings_bare_41 : decode (ib f_Wings_bare) 41 = .ok (.iload_n 1, 1) := by decide +kernel
theorem d_Wings_bare_42 : decode (ib f_Wings_bare) 42 = .ok (.ireturn, 1) := by decide +kernel
theorem d_Wings_tried_0 : decode (ib f_Wings_tried) 0 = .ok (.iload_n 3, 1) := by decide +kernel
theorem d_Wings_tried_1 : decode (ib f_Wings_tried) 1 = .ok (.bipush 8, 2) := by decide +kernel
theorem d_Wings_tried_3 : decode (ib f_Wings_tried) 3 = .ok (.if_icmp .lt 5, 3) := by decide +kernel
theorem d_Wings_tried_6 : decode (ib f_Wings_tried) 6 = .ok (.iconst 1, 1) := by decide +kernel
theorem d_Wings_tried_7 : decode (ib f_Wings_tried) 7 = .ok (.ireturn, 1) := by decide +kernel
theorem d_Wings_tried_8 : decode (ib f_Wings_tried) 8 = .ok (.aload_n 0, 1) := by decide +kernel
theorem d_Wings_tried_9 : decode (ib f_Wings_tried) 9 = .ok (.iload_n 3, 1) := by decide +kernel
theorem d_Wings_tried_10 : decode (ib f_Wings_tried) 10 = .ok (.iaload, 1) := by decide +kernel
theorem d_Wings_tried_11 : decode (ib f_Wings_tried) 11 = .ok (.ifCond .ne 15, 3) := by decide +kernel
theorem d_Wings_tried_14 : decode (ib f_Wings_tried) 14 = .ok (.aload_n 0, 1) := by decide +kernel
theorem d_Wings_tried_15 : decode (ib f_Wings_tried) 15 = .ok (.aload_n 1, 1) := by decide +kernel
theorem d_Wings_tried_16 : decode (ib f_Wings_tried) 16 = .ok (.aload_n 2, 1) := by decide +kernel
theorem d_Wings_tried_17 : decode (ib f_Wings_tried) 17 = .ok (.iload_n 3, 1) := by decide +kernel
theorem d_Wings_tried_18 : decode (ib f_Wings_tried) 18 = .ok (.iconst 1, 1) := by decide +kernel
theorem d_Wings_tried_19 : decode (ib f_Wings_tried) 19 = .ok (.iadd, 1) := by decide +kernel
theorem d_Wings_tried_20 : decode (ib f_Wings_tried) 20 = .ok (.iload 4, 2) := by decide +kernel
theorem d_Wings_tried_22 : decode (ib f_Wings_tried) 22 = .ok (.invokestatic 29, 3) := by decide +kernel
theorem d_Wings_tried_25 : decode (ib f_Wings_tried) 25 = .ok (.ireturn, 1) := by decide +kernel
theorem d_Wings_tried_26 : decode (ib f_Wings_tried) 26 = .ok (.iconst 0, 1) := by decide +kernel
theorem d_Wings_tried_27 : decode (ib f_Wings_tried) 27 = .ok (.istore 5, 2) := by decide +kernel
theorem d_Wings_tried_29 : decode (ib f_Wings_tried) 29 = .ok (.iconst 0, 1) := by decide +kernel
theorem d_Wings_tried_30 : decode (ib f_Wings_tried) 30 = .ok (.istore 6, 2) := by decide +kernel
theorem d_Wings_tried_32 : decode (ib f_Wings_tried) 32 = .ok (.iload 6, 2) := by decide +kernel
theorem d_Wings_tried_34 : decode (ib f_Wings_tried) 34 = .ok (.bipush 8, 2) := by decide +kernel
theorem d_Wings_tried_36 : decode (ib f_Wings_tried) 36 = .ok (.if_icmp .ge 57, 3) := by decide +kernel
theorem d_Wings_tried_39 : decode (ib f_Wings_tried) 39 = .ok (.iload 4, 2) := by decide +kernel
theorem d_Wings_tried_41 : decode (ib f_Wings_tried) 41 = .ok (.iload 6, 2) := by decide +kernel
theorem d_Wings_tried_43 : decode (ib f_Wings_tried) 43 = .ok (.ishr, 1) := by decide +kernel
theorem d_Wings_tried_44 : decode (ib f_Wings_tried) 44 = .ok (.iconst 1, 1) := by decide +kernel
theorem d_Wings_tried_45 : decode (ib f_Wings_tried) 45 = .ok (.iand, 1) := by decide +kernel
theorem d_Wings_tried_46 : decode (ib f_Wings_tried) 46 = .ok (.ifCond .ne 41, 3) := by decide +kernel
theorem d_Wings_tried_49 : decode (ib f_Wings_tried) 49 = .ok (.aload_n 0, 1) := by decide +kernel
theorem d_Wings_tried_50 : decode (ib f_Wings_tried) 50 = .ok (.aload_n 1, 1) := by decide +kernel
theorem d_Wings_tried_51 : decode (ib f_Wings_tried) 51 = .ok (.aload_n 2, 1) := by decide +kernel
theorem d_Wings_tried_52 : decode (ib f_Wings_tried) 52 = .ok (.iload_n 3, 1) := by decide +kernel
theorem d_Wings_tried_53 : decode (ib f_Wings_tried) 53 = .ok (.iload 6, 2) := by decide +kernel
theorem d_Wings_tried_55 : decode (ib f_Wings_tried) 55 = .ok (.invokestatic 49, 3) := by decide +kernel
theorem d_Wings_tried_58 : decode (ib f_Wings_tried) 58 = .ok (.ifCond .eq 29, 3) := by decide +kernel
theorem d_Wings_tried_61 : decode (ib f_Wings_tried) 61 = .ok (.aload_n 2, 1) := by decide +kernel
theorem d_Wings_tried_62 : decode (ib f_Wings_tried) 62 = .ok (.iload_n 3, 1) := by decide +kernel
theorem d_Wings_tried_63 : decode (ib f_Wings_tried) 63 = .ok (.iload 6, 2) := by decide +kernel
theorem d_Wings_tried_65 : decode (ib f_Wings_tried) 65 = .ok (.iastore, 1) := by decide +kernel
theorem d_Wings_tried_66 : decode (ib f_Wings_tried) 66 = .ok (.iload 5, 2) := by decide +kernel
theorem d_Wings_tried_68 : decode (ib f_Wings_tried) 68 = .ok (.aload_n 0, 1) := by decide +kernel
theorem d_Wings_tried_69 : decode (ib f_Wings_tried) 69 = .ok (.aload_n 1, 1) := by decide +kernel
theorem d_Wings_tried_70 : decode (ib f_Wings_tried) 70 = .ok (.aload_n 2, 1) := by decide +kernel
theorem d_Wings_tried_71 : decode (ib f_Wings_tried) 71 = .ok (.iload_n 3, 1) := by decide +kernel
theorem d_Wings_tried_72 : decode (ib f_Wings_tried) 72 = .ok (.iconst 1, 1) := by decide +kernel
theorem d_Wings_tried_73 : decode (ib f_Wings_tried) 73 = .ok (.iadd, 1) := by decide +kernel
theorem d_Wings_tried_74 : decode (ib f_Wings_tried) 74 = .ok (.iload 4, 2) := by decide +kernel
theorem d_Wings_tried_76 : decode (ib f_Wings_tried) 76 = .ok (.iconst 1, 1) := by decide +kernel
theorem d_Wings_tried_77 : decode (ib f_Wings_tried) 77 = .ok (.iload 6, 2) := by decide +kernel
theorem d_Wings_tried_79 : decode (ib f_Wings_tried) 79 = .ok (.ishl, 1) := by decide +kernel
theorem d_Wings_tried_80 : decode (ib f_Wings_tried) 80 = .ok (.ior, 1) := by decide +kernel
theorem d_Wings_tried_81 : decode (ib f_Wings_tried) 81 = .ok (.invokestatic 29, 3) := by decide +kernel
theorem d_Wings_tried_84 : decode (ib f_Wings_tried) 84 = .ok (.iadd, 1) := by decide +kernel
theorem d_Wings_tried_85 : decode (ib f_Wings_tried) 85 = .ok (.istore 5, 2) := by decide +kernel
theorem d_Wings_tried_87 : decode (ib f_Wings_tried) 87 = .ok (.iinc 6 1, 3) := by decide +kernel
theorem d_Wings_tried_90 : decode (ib f_Wings_tried) 90 = .ok (.goto (-58), 3) := by decide +kernel
theorem d_Wings_tried_93 : decode (ib f_Wings_tried) 93 = .ok (.iload 5, 2) := by decide +kernel
theorem d_Wings_tried_95 : decode (ib f_Wings_tried) 95 = .ok (.ireturn, 1) := by decide +kernel
theorem d_Wings_fits_0 : decode (ib f_Wings_fits) 0 = .ok (.aload_n 0, 1) := by decide +kernel
theorem d_Wings_fits_1 : decode (ib f_Wings_fits) 1 = .ok (.iload_n 3, 1) := by decide +kernel
theorem d_Wings_fits_2 : decode (ib f_Wings_fits) 2 = .ok (.iaload, 1) := by decide +kernel
theorem d_Wings_fits_3 : decode (ib f_Wings_fits) 3 = .ok (.invokestatic 53, 3) := by decide +kernel
theorem d_Wings_fits_6 : decode (ib f_Wings_fits) 6 = .ok (.aload_n 1, 1) := by decide +kernel
theorem d_Wings_fits_7 : decode (ib f_Wings_fits) 7 = .ok (.iload 4, 2) := by decide +kernel
theorem d_Wings_fits_9 : decode (ib f_Wings_fits) 9 = .ok (.iaload, 1) := by decide +kernel
theorem d_Wings_fits_10 : decode (ib f_Wings_fits) 10 = .ok (.invokestatic 53, 3) := by decide +kernel
theorem d_Wings_fits_13 : decode (ib f_Wings_fits) 13 = .ok (.if_icmp .eq 5, 3) := by decide +kernel
theorem d_Wings_fits_16 : decode (ib f_Wings_fits) 16 = .ok (.iconst 0, 1) := by decide +kernel
theorem d_Wings_fits_17 : decode (ib f_Wings_fits) 17 = .ok (.ireturn, 1) := by decide +kernel
theorem d_Wings_fits_18 : decode (ib f_Wings_fits) 18 = .ok (.iconst 0, 1) := by decide +kernel
theorem d_Wings_fits_19 : decode (ib f_Wings_fits) 19 = .ok (.istore 5, 2) := by decide +kernel
theorem d_Wings_fits_21 : decode (ib f_Wings_fits) 21 = .ok (.iload 5, 2) := by decide +kernel
theorem d_Wings_fits_23 : decode (ib f_Wings_fits) 23 = .ok (.iload_n 3, 1) := by decide +kernel
theorem d_Wings_fits_24 : decode (ib f_Wings_fits) 24 = .ok (.if_icmp .ge 40, 3) := by decide +kernel
theorem d_Wings_fits_27 : decode (ib f_Wings_fits) 27 = .ok (.aload_n 0, 1) := by decide +kernel
theorem d_Wings_fits_28 : decode (ib f_Wings_fits) 28 = .ok (.iload 5, 2) := by decide +kernel
theorem d_Wings_fits_30 : decode (ib f_Wings_fits) 30 = .ok (.iaload, 1) := by decide +kernel
theorem d_Wings_fits_31 : decode (ib f_Wings_fits) 31 = .ok (.ifCond .eq 27, 3) := by decide +kernel
theorem d_Wings_fits_34 : decode (ib f_Wings_fits) 34 = .ok (.aload_n 0, 1) := by decide +kernel
theorem d_Wings_fits_35 : decode (ib f_Wings_fits) 35 = .ok (.iload_n 3, 1) := by decide +kernel
theorem d_Wings_fits_36 : decode (ib f_Wings_fits) 36 = .ok (.iaload, 1) := by decide +kernel
theorem d_Wings_fits_37 : decode (ib f_Wings_fits) 37 = .ok (.iload 5, 2) := by decide +kernel
theorem d_Wings_fits_39 : decode (ib f_Wings_fits) 39 = .ok (.ishr, 1) := by decide +kernel
theorem d_Wings_fits_40 : decode (ib f_Wings_fits) 40 = .ok (.iconst 1, 1) := by decide +kernel
theorem d_Wings_fits_41 : decode (ib f_Wings_fits) 41 = .ok (.iand, 1) := by decide +kernel
theorem d_Wings_fits_42 : decode (ib f_Wings_fits) 42 = .ok (.aload_n 1, 1) := by decide +kernel
theorem d_Wings_fits_43 : decode (ib f_Wings_fits) 43 = .ok (.iload 4, 2) := by decide +kernel
theorem d_Wings_fits_45 : decode (ib f_Wings_fits) 45 = .ok (.iaload, 1) := by decide +kernel
theorem d_Wings_fits_46 : decode (ib f_Wings_fits) 46 = .ok (.aload_n 2, 1) := by decide +kernel
theorem d_Wings_fits_47 : decode (ib f_Wings_fits) 47 = .ok (.iload 5, 2) := by decide +kernel
theorem d_Wings_fits_49 : decode (ib f_Wings_fits) 49 = .ok (.iaload, 1) := by decide +kernel
theorem d_Wings_fits_50 : decode (ib f_Wings_fits) 50 = .ok (.ishr, 1) := by decide +kernel
theorem d_Wings_fits_51 : decode (ib f_Wings_fits) 51 = .ok (.iconst 1, 1) := by decide +kernel
theorem d_Wings_fits_52 : decode (ib f_Wings_fits) 52 = .ok (.iand, 1) := by decide +kernel
theorem d_Wings_fits_53 : decode (ib f_Wings_fits) 53 = .ok (.if_icmp .eq 5, 3) := by decide +kernel
theorem d_Wings_fits_56 : decode (ib f_Wings_fits) 56 = .ok (.iconst 0, 1) := by decide +kernel
theorem d_Wings_fits_57 : decode (ib f_Wings_fits) 57 = .ok (.ireturn, 1) := by decide +kernel
theorem d_Wings_fits_58 : decode (ib f_Wings_fits) 58 = .ok (.iinc 5 1, 3) := by decide +kernel
theorem d_Wings_fits_61 : decode (ib f_Wings_fits) 61 = .ok (.goto (-40), 3) := by decide +kernel
theorem d_Wings_fits_64 : decode (ib f_Wings_fits) 64 = .ok (.iconst 1, 1) := by decide +kernel
theorem d_Wings_fits_65 : decode (ib f_Wings_fits) 65 = .ok (.ireturn, 1) := by decide +kernel
theorem d_World_init_0 : decode (ib f_World_init) 0 = .ok (.aload_n 0, 1) := by decide +kernel
theorem d_World_init_1 : decode (ib f_World_init) 1 = .ok (.invokespecial 3, 3) := by decide +kernel
theorem d_World_init_4 : decode (ib f_World_init) 4 = .ok (.aload_n 0, 1) := by decide +kernel
theorem d_World_init_5 : decode (ib f_World_init) 5 = .ok (.bipush 60, 2) := by decide +kernel
theorem d_World_init_7 : decode (ib f_World_init) 7 = .ok (.newarray .int, 2) := by decide +kernel
theorem d_World_init_9 : decode (ib f_World_init) 9 = .ok (.putfield 9, 3) := by decide +kernel
theorem d_World_init_12 : decode (ib f_World_init) 12 = .ok (.aload_n 0, 1) := by decide +kernel
theorem d_World_init_13 : decode (ib f_World_init) 13 = .ok (.bipush 60, 2) := by decide +kernel
theorem d_World_init_15 : decode (ib f_World_init) 15 = .ok (.newarray .int, 2) := by decide +kernel
theorem d_World_init_17 : decode (ib f_World_init) 17 = .ok (.putfield 15, 3) := by decide +kernel
theorem d_World_init_20 : decode (ib f_World_init) 20 = .ok (.aload_n 0, 1) := by decide +kernel
theorem d_World_init_21 : decode (ib f_World_init) 21 = .ok (.bipush 60, 2) := by decide +kernel
theorem d_World_init_23 : decode (ib f_World_init) 23 = .ok (.newarray .int, 2) := by decide +kernel
theorem d_World_init_25 : decode (ib f_World_init) 25 = .ok (.putfield 18, 3) := by decide +kernel
theorem d_World_init_28 : decode (ib f_World_init) 28 = .ok (.aload_n 0, 1) := by decide +kernel
theorem d_World_init_29 : decode (ib f_World_init) 29 = .ok (.bipush 20, 2) := by decide +kernel
theorem d_World_init_31 : decode (ib f_World_init) 31 = .ok (.anewarray 21, 3) := by decide +kernel
theorem d_World_init_34 : decode (ib f_World_init) 34 = .ok (.putfield 23, 3) := by decide +kernel
theorem d_World_init_37 : decode (ib f_World_init) 37 = .ok (.aload_n 0, 1) := by decide +kernel
theorem d_World_init_38 : decode (ib f_World_init) 38 = .ok (.new 27, 3) := by decide +kernel
theorem d_World_init_41 : decode (ib f_World_init) 41 = .ok (.dup, 1) := by decide +kernel
theorem d_World_init_42 : decode (ib f_World_init) 42 = .ok (.iconst 4, 1) := by decide +kernel
theorem d_World_init_43 : decode (ib f_World_init) 43 = .ok (.sipush 150, 3) := by decide +kernel
theorem d_World_init_46 : decode (ib f_World_init) 46 = .ok (.invokespecial 29, 3) := by decide +kernel
theorem d_World_init_49 : decode (ib f_World_init) 49 = .ok (.putfield 32, 3) := by decide +kernel
theorem d_World_init_52 : decode (ib f_World_init) 52 = .ok (.aload_n 0, 1) := by decide +kernel
theorem d_World_init_53 : decode (ib f_World_init) 53 = .ok (.iconst 0, 1) := by decide +kernel
theorem d_World_init_54 : decode (ib f_World_init) 54 = .ok (.putfield 36, 3) := by decide +kernel
theorem d_World_init_57 : decode (ib f_World_init) 57 = .ok (.aload_n 0, 1) := by decide +kernel
theorem d_World_init_58 : decode (ib f_World_init) 58 = .ok (.iconst 0, 1) := by decide +kernel
theorem d_World_init_59 : decode (ib f_World_init) 59 = .ok (.putfield 40, 3) := by decide +kernel
theorem d_World_init_62 : decode (ib f_World_init) 62 = .ok (.aload_n 0, 1) := by decide +kernel
theorem d_World_init_63 : decode (ib f_World_init) 63 = .ok (.iconst 0, 1) := by decide +kernel
theorem d_World_init_64 : decode (ib f_World_init) 64 = .ok (.putfield 43, 3) := by decide +kernel
theorem d_World_init_67 : decode (ib f_World_init) 67 = .ok (.aload_n 0, 1) := by decide +kernel
theorem d_World_init_68 : decode (ib f_World_init) 68 = .ok (.iconst 0, 1) := by decide +kernel
theorem d_World_init_69 : decode (ib f_World_init) 69 = .ok (.putfield 46, 3) := by decide +kernel
theorem d_World_init_72 : decode (ib f_World_init) 72 = .ok (.aload_n 0, 1) := by decide +kernel
theorem d_World_init_73 : decode (ib f_World_init) 73 = .ok (.iconst 0, 1) := by decide +kernel
theorem d_World_init_74 : decode (ib f_World_init) 74 = .ok (.putfield 49, 3) := by decide +kernel
theorem d_World_init_77 : decode (ib f_World_init) 77 = .ok (.aload_n 0, 1) := by decide +kernel
theorem d_World_init_78 : decode (ib f_World_init) 78 = .ok (.iconst 0, 1) := by decide +kernel
theorem d_World_init_79 : decode (ib f_World_init) 79 = .ok (.putfield 52, 3) := by decide +kernel
theorem d_World_init_82 : decode (ib f_World_init) 82 = .ok (.aload_n 0, 1) := by decide +kernel
theorem d_World_init_83 : decode (ib f_World_init) 83 = .ok (.iconst 0, 1) := by decide +kernel
theorem d_World_init_84 : decode (ib f_World_init) 84 = .ok (.putfield 55, 3) := by decide +kernel
theorem d_World_init_87 : decode (ib f_World_init) 87 = .ok (.aload_n 0, 1) := by decide +kernel
theorem d_World_init_88 : decode (ib f_World_init) 88 = .ok (.iconst 0, 1) := by decide +kernel
theorem d_World_init_89 : decode (ib f_World_init) 89 = .ok (.putfield 58, 3) := by decide +kernel
theorem d_World_init_92 : decode (ib f_World_init) 92 = .ok (.aload_n 0, 1) := by decide +kernel
theorem d_World_init_93 : decode (ib f_World_init) 93 = .ok (.getfield 9, 3) := by decide +kernel
theorem d_World_init_96 : decode (ib f_World_init) 96 = .ok (.bipush 50, 2) := by decide +kernel
theorem d_World_init_98 : decode (ib f_World_init) 98 = .ok (.invokestatic 61, 3) := by decide +kernel
theorem d_World_init_101 : decode (ib f_World_init) 101 = .ok (.aload_n 0, 1) := by decide +kernel
theorem d_World_init_102 : decode (ib f_World_init) 102 = .ok (.getfield 18, 3) := by decide +kernel
theorem d_World_init_105 : decode (ib f_World_init) 105 = .ok (.iconst (-1), 1) := by decide +kernel
theorem d_World_init_106 : decode (ib f_World_init) 106 = .ok (.invokestatic 61, 3) := by decide +kernel
theorem d_World_init_109 : decode (ib f_World_init) 109 = .ok (.iconst 0, 1) := by decide +kernel
theorem d_World_init_110 : decode (ib f_World_init) 110 = .ok (.istore_n 1, 1) := by decide +kernel
theorem d_World_init_111 : decode (ib f_World_init) 111 = .ok (.iload_n 1, 1) := by decide +kernel
theorem d_World_init_112 : decode (ib f_World_init) 112 = .ok (.bipush 20, 2) := by decide +kernel
theorem d_World_init_114 : decode (ib f_World_init) 114 = .ok (.if_icmp .ge 22, 3) := by decide +kernel
theorem d_World_init_117 : decode (ib f_World_init) 117 = .ok (.aload_n 0, 1) := by decide +kernel
theorem d_World_init_118 : decode (ib f_World_init) 118 = .ok (.getfield 23, 3) := by decide +kernel
theorem d_World_init_121 : decode (ib f_World_init) 121 = .ok (.iload_n 1, 1) := by decide +kernel
theorem d_World_init_122 : decode (ib f_World_init) 122 = .ok (.new 21, 3) := by decide +kernel
theorem d_World_init_125 : decode (ib f_World_init) 125 = .ok (.dup, 1) := by decide +kernel
theorem d_World_init_126 : decode (ib f_World_init) 126 = .ok (.invokespecial 67, 3) := by decide +kernel
theorem d_World_init_129 : decode (ib f_World_init) 129 = .ok (.aastore, 1) := by decide +kernel
theorem d_World_init_130 : decode (ib f_World_init) 130 = .ok (.iinc 1 1, 3) := by decide +kernel
theorem d_World_init_133 : decode (ib f_World_init) 133 = .ok (.goto (-22), 3) := by decide +kernel
theorem d_World_init_136 : decode (ib f_World_init) 136 = .ok (.return_, 1) := by decide +kernel
theorem d_World_copyFrom_0 : decode (ib f_World_copyFrom) 0 = .ok (.aload_n 1, 1) := by decide +kernel
theorem d_World_copyFrom_1 : decode (ib f_World_copyFrom) 1 = .ok (.getfield 9, 3) := by decide +kernel
theorem d_World_copyFrom_4 : decode (ib f_World_copyFrom) 4 = .ok (.iconst 0, 1) := by decide +kernel
theorem d_World_copyFrom_5 : decode (ib f_World_copyFrom) 5 = .ok (.aload_n 0, 1) := by decide +kernel
theorem d_World_copyFrom_6 : decode (ib f_World_copyFrom) 6 = .ok (.getfield 9, 3) := by decide +kernel
theorem d_World_copyFrom_9 : decode (ib f_World_copyFrom) 9 = .ok (.iconst 0, 1) := by decide +kernel
theorem d_World_copyFrom_10 : decode (ib f_World_copyFrom) 10 = .ok (.bipush 60, 2) := by decide +kernel
theorem d_World_copyFrom_12 : decode (ib f_World_copyFrom) 12 = .ok (.invokestatic 68, 3) := by decide +kernel
theorem d_World_copyFrom_15 : decode (ib f_World_copyFrom) 15 = .ok (.aload_n 1, 1) := by decide +kernel
theorem d_World_copyFrom_16 : decode (ib f_World_copyFrom) 16 = .ok (.getfield 15, 3) := by decide +kernel
theorem d_World_copyFrom_19 : decode (ib f_World_copyFrom) 19 = .ok (.iconst 0, 1) := by decide +kernel
theorem d_World_copyFrom_20 : decode (ib f_World_copyFrom) 20 = .ok (.aload_n 0, 1) := by decide +kernel
theorem d_World_copyFrom_21 : decode (ib f_World_copyFrom) 21 = .ok (.getfield 15, 3) := by decide +kernel
theorem d_World_copyFrom_24 : decode (ib f_World_copyFrom) 24 = .ok (.iconst 0, 1) := by decide +kernel
theorem d_World_copyFrom_25 : decode (ib f_World_copyFrom) 25 = .ok (.bipush 60, 2) := by decide +kernel
theorem d_World_copyFrom_27 : decode (ib f_World_copyFrom) 27 = .ok (.invokestatic 68, 3) := by decide +kernel
theorem d_World_copyFrom_30 : decode (ib f_World_copyFrom) 30 = .ok (.aload_n 1, 1) := by decide +kernel
theorem d_World_copyFrom_31 : decode (ib f_World_copyFrom) 31 = .ok (.getfield 18, 3) := by decide +kernel
theorem d_World_copyFrom_34 : decode (ib f_World_copyFrom) 34 = .ok (.iconst 0, 1) := by decide +kernel
theorem d_World_copyFrom_35 : decode (ib f_World_copyFrom) 35 = .ok (.aload_n 0, 1) := by decide +kernel
theorem d_World_copyFrom_36 : decode (ib f_World_copyFrom) 36 = .ok (.getfield 18, 3) := by decide +kernel
theorem d_World_copyFrom_39 : decode (ib f_World_copyFrom) 39 = .ok (.iconst 0, 1) := by decide +kernel
theorem d_World_copyFrom_40 : decode (ib f_World_copyFrom) 40 = .ok (.bipush 60, 2) := by decide +kernel
theorem d_World_copyFrom_42 : decode (ib f_World_copyFrom) 42 = .ok (.invokestatic 68, 3) := by decide +kernel
theorem d_World_copyFrom_45 : decode (ib f_World_copyFrom) 45 = .ok (.iconst 0, 1) := by decide +kernel
theorem d_World_copyFrom_46 : decode (ib f_World_copyFrom) 46 = .ok (.istore_n 2, 1) := by decide +kernel
theorem d_World_copyFrom_47 : decode (ib f_World_copyFrom) 47 = .ok (.iload_n 2, 1) := by decide +kernel
theorem d_World_copyFrom_48 : decode (ib f_World_copyFrom) 48 = .ok (.aload_n 1, 1) := by decide +kernel
theorem d_World_copyFrom_49 : decode (ib f_World_copyFrom) 49 = .ok (.getfield 36, 3) := by decide +kernel
theorem d_World_copyFrom_52 : decode (ib f_World_copyFrom) 52 = .ok (.if_icmp .ge 24, 3) := by decide +kernel
theorem d_World_copyFrom_55 : decode (ib f_World_copyFrom) 55 = .ok (.aload_n 0, 1) := by decide +kernel
theorem d_World_copyFrom_56 : decode (ib f_World_copyFrom) 56 = .ok (.getfield 23, 3) := by decide +kernel
theorem d_World_copyFrom_59 : decode (ib f_World_copyFrom) 59 = .ok (.iload_n 2, 1) := by decide +kernel
theorem d_World_copyFrom_60 : decode (ib f_World_copyFrom) 60 = .ok (.aaload, 1) := by decide +kernel
theorem d_World_copyFrom_61 : decode (ib f_World_copyFrom) 61 = .ok (.aload_n 1, 1) := by decide +kernel
theorem d_World_copyFrom_62 : decode (ib f_World_copyFrom) 62 = .ok (.getfield 23, 3) := by decide +kernel
theorem d_World_copyFrom_65 : decode (ib f_World_copyFrom) 65 = .ok (.iload_n 2, 1) := by decide +kernel
theorem d_World_copyFrom_66 : decode (ib f_World_copyFrom) 66 = .ok (.aaload, 1) := by decide +kernel
theorem d_World_copyFrom_67 : decode (ib f_World_copyFrom) 67 = .ok (.invokevirtual 74, 3) := by decide +kernel
theorem d_World_copyFrom_70 : decode (ib f_World_copyFrom) 70 = .ok (.iinc 2 1, 3) := by decide +kernel
theorem d_World_copyFrom_73 : decode (ib f_World_copyFrom) 73 = .ok (.goto (-26), 3) := by decide +kernel
theorem d_World_copyFrom_76 : decode (ib f_World_copyFrom) 76 = .ok (.aload_n 0, 1) := by decide +kernel
theorem d_World_copyFrom_77 : decode (ib f_World_copyFrom) 77 = .ok (.getfield 32, 3) := by decide +kernel
theorem d_World_copyFrom_80 : decode (ib f_World_copyFrom) 80 = .ok (.aload_n 1, 1) := by decide +kernel
theorem d_World_copyFrom_81 : decode (ib f_World_copyFrom) 81 = .ok (.getfield 32, 3) := by decide +kernel
theorem d_World_copyFrom_84 : decode (ib f_World_copyFrom) 84 = .ok (.invokevirtual 78, 3) := by decide +kernel
theorem d_World_copyFrom_87 : decode (ib f_World_copyFrom) 87 = .ok (.aload_n 0, 1) := by decide +kernel
theorem d_World_copyFrom_88 : decode (ib f_World_copyFrom) 88 = .ok (.aload_n 1, 1) := by decide +kernel
theorem d_World_copyFrom_89 : decode (ib f_World_copyFrom) 89 = .ok (.getfield 36, 3) := by decide +kernel
theorem d_World_copyFrom_92 : decode (ib f_World_copyFrom) 92 = .ok (.putfield 36, 3) := by decide +kernel
theorem d_World_copyFrom_95 : decode (ib f_World_copyFrom) 95 = .ok (.aload_n 0, 1) := by decide +kernel
theorem d_World_copyFrom_96 : decode (ib f_World_copyFrom) 96 = .ok (.aload_n 1, 1) := by decide +kernel
theorem d_World_copyFrom_97 : decode (ib f_World_copyFrom) 97 = .ok (.getfield 40, 3) := by decide +kernel
theorem d_World_copyFrom_100 : decode (ib f_World_copyFrom) 100 = .ok (.putfield 40, 3) := by decide +kernel
theorem d_World_copyFrom_103 : decode (ib f_World_copyFrom) 103 = .ok (.aload_n 0, 1) := by decide +kernel
theorem d_World_copyFrom_104 : decode (ib f_World_copyFrom) 104 = .ok (.aload_n 1, 1) := by decide +kernel
theorem d_World_copyFrom_105 : decode (ib f_World_copyFrom) 105 = .ok (.getfield 43, 3) := by decide +kernel
theorem d_World_copyFrom_108 : decode (ib f_World_copyFrom) 108 = .ok (.putfield 43, 3) := by decide +kernel
theorem d_World_copyFrom_111 : decode (ib f_World_copyFrom) 111 = .ok (.aload_n 0, 1) := by decide +kernel
theorem d_World_copyFrom_112 : decode (ib f_World_copyFrom) 112 = .ok (.aload_n 1, 1) := by decide +kernel
theorem d_World_copyFrom_113 : decode (ib f_World_copyFrom) 113 = .ok (.getfield 46, 3) := by decide +kernel
theorem d_World_copyFrom_116 : decode (ib f_World_copyFrom) 116 = .ok (.putfield 46, 3) := by decide +kernel
theorem d_World_copyFrom_119 : decode (ib f_World_copyFrom) 119 = .ok (.aload_n 0, 1) := by decide +kernel
theorem d_World_copyFrom_120 : decode (ib f_World_copyFrom) 120 = .ok (.aload_n 1, 1) := by decide +kernel
theorem d_World_copyFrom_121 : decode (ib f_World_copyFrom) 121 = .ok (.getfield 49, 3) := by decide +kernel
theorem d_World_copyFrom_124 : decode (ib f_World_copyFrom) 124 = .ok (.putfield 49, 3) := by decide +kernel
theorem d_World_copyFrom_127 : decode (ib f_World_copyFrom) 127 = .ok (.aload_n 0, 1) := by decide +kernel
theorem d_World_copyFrom_128 : decode (ib f_World_copyFrom) 128 = .ok (.aload_n 1, 1) := by decide +kernel
theorem d_World_copyFrom_129 : decode (ib f_World_copyFrom) 129 = .ok (.getfield 52, 3) := by decide +kernel
theorem d_World_copyFrom_132 : decode (ib f_World_copyFrom) 132 = .ok (.putfield 52, 3) := by decide +kernel
theorem d_World_copyFrom_135 : decode (ib f_World_copyFrom) 135 = .ok (.aload_n 0, 1) := by decide +kernel
theorem d_World_copyFrom_136 : decode (ib f_World_copyFrom) 136 = .ok (.aload_n 1, 1) := by decide +kernel
theorem d_World_copyFrom_137 : decode (ib f_World_copyFrom) 137 = .ok (.getfield 55, 3) := by decide +kernel
theorem d_World_copyFrom_140 : decode (ib f_World_copyFrom) 140 = .ok (.putfield 55, 3) := by decide +kernel
theorem d_World_copyFrom_143 : decode (ib f_World_copyFrom) 143 = .ok (.aload_n 0, 1) := by decide +kernel
theorem d_World_copyFrom_144 : decode (ib f_World_copyFrom) 144 = .ok (.aload_n 1, 1) := by decide +kernel
theorem d_World_copyFrom_145 : decode (ib f_World_copyFrom) 145 = .ok (.getfield 58, 3) := by decide +kernel
theorem d_World_copyFrom_148 : decode (ib f_World_copyFrom) 148 = .ok (.putfield 58, 3) := by decide +kernel
theorem d_World_copyFrom_151 : decode (ib f_World_copyFrom) 151 = .ok (.return_, 1) := by decide +kernel
theorem d_World_isTaken_0 : decode (ib f_World_isTaken) 0 = .ok (.iload_n 1, 1) := by decide +kernel
theorem d_World_isTaken_1 : decode (ib f_World_isTaken) 1 = .ok (.ifCond .lt 23, 3) := by decide +kernel
theorem d_World_isTaken_4 : decode (ib f_World_isTaken) 4 = .ok (.iload_n 1, 1) := by decide +kernel
theorem d_World_isTaken_5 : decode (ib f_World_isTaken) 5 = .ok (.bipush 60, 2) := by decide +kernel
theorem d_World_isTaken_7 : decode (ib f_World_isTaken) 7 = .ok (.if_icmp .ge 17, 3) := by decide +kernel
theorem d_World_isTaken_10 : decode (ib f_World_isTaken) 10 = .ok (.aload_n 0, 1) := by decide +kernel
theorem d_World_isTaken_11 : decode (ib f_World_isTaken) 11 = .ok (.getfield 18, 3) := by decide +kernel
theorem d_World_isTaken_14 : decode (ib f_World_isTaken) 14 = .ok (.iload_n 1, 1) := by decide +kernel
theorem d_World_isTaken_15 : decode (ib f_World_isTaken) 15 = .ok (.iaload, 1) := by decide +kernel
theorem d_World_isTaken_16 : decode (ib f_World_isTaken) 16 = .ok (.iconst (-1), 1) := by decide +kernel
theorem d_World_isTaken_17 : decode (ib f_World_isTaken) 17 = .ok (.if_icmp .eq 7, 3) := by decide +kernel
theorem d_World_isTaken_20 : decode (ib f_World_isTaken) 20 = .ok (.iconst 1, 1) := by decide +kernel
theorem d_World_isTaken_21 : decode (ib f_World_isTaken) 21 = .ok (.goto 4, 3) := by decide +kernel
theorem d_World_isTaken_24 : decode (ib f_World_isTaken) 24 = .ok (.iconst 0, 1) := by decide +kernel
theorem d_World_isTaken_25 : decode (ib f_World_isTaken) 25 = .ok (.ireturn, 1) := by decide +kernel
theorem d_World_hasRoom_0 : decode (ib f_World_hasRoom) 0 = .ok (.iload_n 1, 1) := by decide +kernel
theorem d_World_hasRoom_1 : decode (ib f_World_hasRoom) 1 = .ok (.ifCond .lt 32, 3) := by decide +kernel
theorem d_World_hasRoom_4 : decode (ib f_World_hasRoom) 4 = .ok (.iload_n 1, 1) := by decide +kernel
theorem d_World_hasRoom_5 : decode (ib f_World_hasRoom) 5 = .ok (.bipush 60, 2) := by decide +kernel
theorem d_World_hasRoom_7 : decode (ib f_World_hasRoom) 7 = .ok (.if_icmp .ge 26, 3) := by decide +kernel
theorem d_World_hasRoom_10 : decode (ib f_World_hasRoom) 10 = .ok (.aload_n 0, 1) := by decide +kernel
theorem d_World_hasRoom_11 : decode (ib f_World_hasRoom) 11 = .ok (.getfield 18, 3) := by decide +kernel
theorem d_World_hasRoom_14 : decode (ib f_World_hasRoom) 14 = .ok (.iload_n 1, 1) := by decide +kernel
theorem d_World_hasRoom_15 : decode (ib f_World_hasRoom) 15 = .ok (.iaload, 1) := by decide +kernel
theorem d_World_hasRoom_16 : decode (ib f_World_hasRoom) 16 = .ok (.iconst (-1), 1) := by decide +kernel
theorem d_World_hasRoom_17 : decode (ib f_World_hasRoom) 17 = .ok (.if_icmp .ne 16, 3) := by decide +kernel
theorem d_World_hasRoom_20 : decode (ib f_World_hasRoom) 20 = .ok (.aload_n 0, 1) := by decide +kernel
theorem d_World_hasRoom_21 : decode (ib f_World_hasRoom) 21 = .ok (.getfield 36, 3) := by decide +kernel
theorem d_World_hasRoom_24 : decode (ib f_World_hasRoom) 24 = .ok (.bipush 20, 2) := by decide +kernel
theorem d_World_hasRoom_26 : decode (ib f_World_hasRoom) 26 = .ok (.if_icmp .ge 7, 3) := by decide +kernel
theorem d_World_hasRoom_29 : decode (ib f_World_hasRoom) 29 = .ok (.iconst 1, 1) := by decide +kernel
theorem d_World_hasRoom_30 : decode (ib f_World_hasRoom) 30 = .ok (.goto 4, 3) := by decide +kernel
theorem d_World_hasRoom_33 : decode (ib f_World_hasRoom) 33 = .ok (.iconst 0, 1) := by decide +kernel
theorem d_World_hasRoom_34 : decode (ib f_World_hasRoom) 34 = .ok (.ireturn, 1) := by decide +kernel
theorem d_World_near_0 : decode (ib f_World_near) 0 = .ok (.aload_n 0, 1) := by decide +kernel
theorem d_World_near_1 : decode (ib f_World_near) 1 = .ok (.iload_n 1, 1) := by decide +kernel
theorem d_World_near_2 : decode (ib f_World_near) 2 = .ok (.iconst 1, 1) := by decide +kernel
theorem d_World_near_3 : decode (ib f_World_near) 3 = .ok (.isub, 1) := by decide +kernel
theorem d_World_near_4 : decode (ib f_World_near) 4 = .ok (.invokevirtual 81, 3) := by decide +kernel
theorem d_World_near_7 : decode (ib f_World_near) 7 = .ok (.ifCond .eq 7, 3) := by decide +kernel
theorem d_World_near_10 : decode (ib f_World_near) 10 = .ok (.iconst 1, 1) := by decide +kernel
theorem d_World_near_11 : decode (ib f_World_near) 11 = .ok (.goto 4, 3) := by decide +kernel
theorem d_World_near_14 : decode (ib f_World_near) 14 = .ok (.iconst 0, 1) := by decide +kernel
theorem d_World_near_15 : decode (ib f_World_near) 15 = .ok (.istore_n 2, 1) := by decide +kernel
theorem d_World_near_16 : decode (ib f_World_near) 16 = .ok (.iload_n 2, 1) := by decide +kernel
theorem d_World_near_17 : decode (ib f_World_near) 17 = .ok (.aload_n 0, 1) := by decide +kernel
theorem d_World_near_18 : decode (ib f_World_near) 18 = .ok (.iload_n 1, 1) := by decide +kernel
theorem d_World_near_19 : decode (ib f_World_near) 19 = .ok (.iconst 1, 1) := by decide +kernel
theorem d_World_near_20 : decode (ib f_World_near) 20 = .ok (.iadd, 1) := by decide +kernel
theorem d_World_near_21 : decode (ib f_World_near) 21 = .ok (.invokevirtual 81, 3) := by decide +kernel
theorem d_World_near_24 : decode (ib f_World_near) 24 = .ok (.ifCond .eq 7, 3) := by decide +kernel
theorem d_World_near_27 : decode (ib f_World_near) 27 = .ok (.iconst 1, 1) := by decide +kernel
theorem d_World_near_28 : decode (ib f_World_near) 28 = .ok (.goto 4, 3) := by decide +kernel
theorem d_World_near_31 : decode (ib f_World_near) 31 = .ok (.iconst 0, 1) := by decide +kernel
theorem d_World_near_32 : decode (ib f_World_near) 32 = .ok (.iadd, 1) := by decide +kernel
theorem d_World_near_33 : decode (ib f_World_near) 33 = .ok (.istore_n 2, 1) := by decide +kernel
theorem d_World_near_34 : decode (ib f_World_near) 34 = .ok (.iload_n 2, 1) := by decide +kernel
theorem d_World_near_35 : decode (ib f_World_near) 35 = .ok (.aload_n 0, 1) := by decide +kernel
theorem d_World_near_36 : decode (ib f_World_near) 36 = .ok (.iload_n 1, 1) := by decide +kernel
theorem d_World_near_37 : decode (ib f_World_near) 37 = .ok (.bipush 10, 2) := by decide +kernel
theorem d_World_near_39 : decode (ib f_World_near) 39 = .ok (.isub, 1) := by decide +kernel
theorem d_World_near_40 : decode (ib f_World_near) 40 = .ok (.invokevirtual 81, 3) := by decide +kernel
theorem d_World_near_43 : decode (ib f_World_near) 43 = .ok (.ifCond .eq 7, 3) := by decide +kernel
theorem d_World_near_46 : decode (ib f_World_near) 46 = .ok (.iconst 1, 1) := by decide +kernel
theorem d_World_near_47 : decode (ib f_World_near) 47 = .ok (.goto 4, 3) := by decide +kernel
theorem d_World_near_50 : decode (ib f_World_near) 50 = .ok (.iconst 0, 1) := by decide +kernel
theorem d_World_near_51 : decode (ib f_World_near) 51 = .ok (.iadd, 1) := by decide +kernel
theorem d_World_near_52 : decode (ib f_World_near) 52 = .ok (.istore_n 2, 1) := by decide +kernel
theorem d_World_near_53 : decode (ib f_World_near) 53 = .ok (.iload_n 2, 1) := by decide +kernel
theorem d_World_near_54 : decode (ib f_World_near) 54 = .ok (.aload_n 0, 1) := by decide +kernel
theorem d_World_near_55 : decode (ib f_World_near) 55 = .ok (.iload_n 1, 1) := by decide +kernel
theorem d_World_near_56 : decode (ib f_World_near) 56 = .ok (.bipush 10, 2) := by decide +kernel
theorem d_World_near_58 : decode (ib f_World_near) 58 = .ok (.iadd, 1) := by decide +kernel
theorem d_World_near_59 : decode (ib f_World_near) 59 = .ok (.invokevirtual 81, 3) := by decide +kernel
theorem d_World_near_62 : decode (ib f_World_near) 62 = .ok (.ifCond .eq 7, 3) := by decide +kernel
theorem d_World_near_65 : decode (ib f_World_near) 65 = .ok (.iconst 1, 1) := by decide +kernel
theorem d_World_near_66 : decode (ib f_World_near) 66 = .ok (.goto 4, 3) := by decide +kernel
theorem d_World_near_69 : decode (ib f_World_near) 69 = .ok (.iconst 0, 1) := by decide +kernel
theorem d_World_near_70 : decode (ib f_World_near) 70 = .ok (.iadd, 1) := by decide +kernel
theorem d_World_near_71 : decode (ib f_World_near) 71 = .ok (.istore_n 2, 1) := by decide +kernel
theorem d_World_near_72 : decode (ib f_World_near) 72 = .ok (.iload_n 2, 1) := by decide +kernel
theorem d_World_near_73 : decode (ib f_World_near) 73 = .ok (.ireturn, 1) := by decide +kernel
theorem d_World_slotOf_0 : decode (ib f_World_slotOf) 0 = .ok (.iconst 0, 1) := by decide +kernel
theorem d_World_slotOf_1 : decode (ib f_World_slotOf) 1 = .ok (.istore_n 2, 1) := by decide +kernel
theorem d_World_slotOf_2 : decode (ib f_World_slotOf) 2 = .ok (.iload_n 2, 1) := by decide +kernel
theorem d_World_slotOf_3 : decode (ib f_World_slotOf) 3 = .ok (.aload_n 0, 1) := by decide +kernel
theorem d_World_slotOf_4 : decode (ib f_World_slotOf) 4 = .ok (.getfield 36, 3) := by decide +kernel
theorem d_World_slotOf_7 : decode (ib f_World_slotOf) 7 = .ok (.if_icmp .ge 24, 3) := by decide +kernel
theorem d_World_slotOf_10 : decode (ib f_World_slotOf) 10 = .ok (.aload_n 0, 1) := by decide +kernel
theorem d_World_slotOf_11 : decode (ib f_World_slotOf) 11 = .ok (.getfield 23, 3) := by decide +kernel
theorem d_World_slotOf_14 : decode (ib f_World_slotOf) 14 = .ok (.iload_n 2, 1) := by decide +kernel
theorem d_World_slotOf_15 : decode (ib f_World_slotOf) 15 = .ok (.aaload, 1) := by decide +kernel
theorem d_World_slotOf_16 : decode (ib f_World_slotOf) 16 = .ok (.getfield 85, 3) := by decide +kernel
theorem d_World_slotOf_19 : decode (ib f_World_slotOf) 19 = .ok (.iload_n 1, 1) := by decide +kernel
theorem d_World_slotOf_20 : decode (ib f_World_slotOf) 20 = .ok (.if_icmp .ne 5, 3) := by decide +kernel
theorem d_World_slotOf_23 : decode (ib f_World_slotOf) 23 = .ok (.iload_n 2, 1) := by decide +kernel
theorem d_World_slotOf_24 : decode (ib f_World_slotOf) 24 = .ok (.ireturn, 1) := by decide +kernel
theorem d_World_slotOf_25 : decode (ib f_World_slotOf) 25 = .ok (.iinc 2 1, 3) := by decide +kernel
theorem d_World_slotOf_28 : decode (ib f_World_slotOf) 28 = .ok (.goto (-26), 3) := by decide +kernel
theorem d_World_slotOf_31 : decode (ib f_World_slotOf) 31 = .ok (.iconst (-1), 1) := by decide +kernel
theorem d_World_slotOf_32 : decode (ib f_World_slotOf) 32 = .ok (.ireturn, 1) := by decide +kernel
theorem d_World_find_0 : decode (ib f_World_find) 0 = .ok (.aload_n 0, 1) := by decide +kernel
theorem d_World_find_1 : decode (ib f_World_find) 1 = .ok (.iload_n 1, 1) := by decide +kernel
theorem d_World_find_2 : decode (ib f_World_find) 2 = .ok (.invokevirtual 88, 3) := by decide +kernel
theorem d_World_find_5 : decode (ib f_World_find) 5 = .ok (.istore_n 2, 1) := by decide +kernel
theorem d_World_find_6 : decode (ib f_World_find) 6 = .ok (.iload_n 2, 1) := by decide +kernel
theorem d_World_find_7 : decode (ib f_World_find) 7 = .ok (.iconst (-1), 1) := by decide +kernel
theorem d_World_find_8 : decode (ib f_World_find) 8 = .ok (.if_icmp .ne 7, 3) := by decide +kernel
theorem d_World_find_11 : decode (ib f_World_find) 11 = .ok (.aconst_null, 1) := by decide +kernel
theorem d_World_find_12 : decode (ib f_World_find) 12 = .ok (.goto 9, 3) := by decide +kernel
theorem d_World_find_15 : decode (ib f_World_find) 15 = .ok (.aload_n 0, 1) := by decide +kernel
theorem d_World_find_16 : decode (ib f_World_find) 16 = .ok (.getfield 23, 3) := by decide +kernel
theorem d_World_find_19 : decode (ib f_World_find) 19 = .ok (.iload_n 2, 1) := by decide +kernel
theorem d_World_find_20 : decode (ib f_World_find) 20 = .ok (.aaload, 1) := by decide +kernel
theorem d_World_find_21 : decode (ib f_World_find) 21 = .ok (.areturn, 1) := by decide +kernel
theorem d_World_thingAt_0 : decode (ib f_World_thingAt) 0 = .ok (.aload_n 0, 1) := by decide +kernel
theorem d_World_thingAt_1 : decode (ib f_World_thingAt) 1 = .ok (.iload_n 1, 1) := by decide +kernel
theorem d_World_thingAt_2 : decode (ib f_World_thingAt) 2 = .ok (.invokevirtual 81, 3) := by decide +kernel
theorem d_World_thingAt_5 : decode (ib f_World_thingAt) 5 = .ok (.ifCond .eq 16, 3) := by decide +kernel
theorem d_World_thingAt_8 : decode (ib f_World_thingAt) 8 = .ok (.aload_n 0, 1) := by decide +kernel
theorem d_World_thingAt_9 : decode (ib f_World_thingAt) 9 = .ok (.aload_n 0, 1) := by decide +kernel
theorem d_World_thingAt_10 : decode (ib f_World_thingAt) 10 = .ok (.getfield 18, 3) := by decide +kernel
theorem d_World_thingAt_13 : decode (ib f_World_thingAt) 13 = .ok (.iload_n 1, 1) := by decide +kernel
theorem d_World_thingAt_14 : decode (ib f_World_thingAt) 14 = .ok (.iaload, 1) := by decide +kernel
theorem d_World_thingAt_15 : decode (ib f_World_thingAt) 15 = .ok (.invokevirtual 92, 3) := by decide +kernel
theorem d_World_thingAt_18 : decode (ib f_World_thingAt) 18 = .ok (.goto 4, 3) := by decide +kernel
theorem d_World_thingAt_21 : decode (ib f_World_thingAt) 21 = .ok (.aconst_null, 1) := by decide +kernel
theorem d_World_thingAt_22 : decode (ib f_World_thingAt) 22 = .ok (.areturn, 1) := by decide +kernel
theorem d_World_newcomer_0 : decode (ib f_World_newcomer) 0 = .ok (.aload_n 0, 1) := by decide +kernel
theorem d_World_newcomer_1 : decode (ib f_World_newcomer) 1 = .ok (.getfield 23, 3) := by decide +kernel
theorem d_World_newcomer_4 : decode (ib f_World_newcomer) 4 = .ok (.aload_n 0, 1) := by decide +kernel
theorem d_World_newcomer_5 : decode (ib f_World_newcomer) 5 = .ok (.getfield 36, 3) := by decide +kernel
theorem d_World_newcomer_8 : decode (ib f_World_newcomer) 8 = .ok (.bipush 19, 2) := by decide +kernel
theorem d_World_newcomer_10 : decode (ib f_World_newcomer) 10 = .ok (.invokestatic 96, 3) := by decide +kernel
theorem d_World_newcomer_13 : decode (ib f_World_newcomer) 13 = .ok (.aaload, 1) := by decide +kernel
theorem d_World_newcomer_14 : decode (ib f_World_newcomer) 14 = .ok (.astore 5, 2) := by decide +kernel
theorem d_World_newcomer_16 : decode (ib f_World_newcomer) 16 = .ok (.aload 5, 2) := by decide +kernel
theorem d_World_newcomer_18 : decode (ib f_World_newcomer) 18 = .ok (.aload_n 0, 1) := by decide +kernel
theorem d_World_newcomer_19 : decode (ib f_World_newcomer) 19 = .ok (.getfield 49, 3) := by decide +kernel
theorem d_World_newcomer_22 : decode (ib f_World_newcomer) 22 = .ok (.putfield 85, 3) := by decide +kernel
theorem d_World_newcomer_25 : decode (ib f_World_newcomer) 25 = .ok (.aload 5, 2) := by decide +kernel
theorem d_World_newcomer_27 : decode (ib f_World_newcomer) 27 = .ok (.iload_n 1, 1) := by decide +kernel
theorem d_World_newcomer_28 : decode (ib f_World_newcomer) 28 = .ok (.putfield 102, 3) := by decide +kernel
theorem d_World_newcomer_31 : decode (ib f_World_newcomer) 31 = .ok (.aload 5, 2) := by decide +kernel
theorem d_World_newcomer_33 : decode (ib f_World_newcomer) 33 = .ok (.iload_n 2, 1) := by decide +kernel
theorem d_World_newcomer_34 : decode (ib f_World_newcomer) 34 = .ok (.putfield 105, 3) := by decide +kernel
theorem d_World_newcomer_37 : decode (ib f_World_newcomer) 37 = .ok (.aload 5, 2) := by decide +kernel
theorem d_World_newcomer_39 : decode (ib f_World_newcomer) 39 = .ok (.iload_n 3, 1) := by decide +kernel
theorem d_World_newcomer_40 : decode (ib f_World_newcomer) 40 = .ok (.putfield 108, 3) := by decide +kernel
theorem d_World_newcomer_43 : decode (ib f_World_newcomer) 43 = .ok (.aload 5, 2) := by decide +kernel
theorem d_World_newcomer_45 : decode (ib f_World_newcomer) 45 = .ok (.iload 4, 2) := by decide +kernel
theorem d_World_newcomer_47 : decode (ib f_World_newcomer) 47 = .ok (.putfield 111, 3) := by decide +kernel
theorem d_World_newcomer_50 : decode (ib f_World_newcomer) 50 = .ok (.aload 5, 2) := by decide +kernel
theorem d_World_newcomer_52 : decode (ib f_World_newcomer) 52 = .ok (.iconst 0, 1) := by decide +kernel
theorem d_World_newcomer_53 : decode (ib f_World_newcomer) 53 = .ok (.putfield 114, 3) := by decide +kernel
theorem d_World_newcomer_56 : decode (ib f_World_newcomer) 56 = .ok (.aload 5, 2) := by decide +kernel
theorem d_World_newcomer_58 : decode (ib f_World_newcomer) 58 = .ok (.bipush 6, 2) := by decide +kernel
theorem d_World_newcomer_60 : decode (ib f_World_newcomer) 60 = .ok (.putfield 117, 3) := by decide +kernel
theorem d_World_newcomer_63 : decode (ib f_World_newcomer) 63 = .ok (.aload 5, 2) := by decide +kernel
theorem d_World_newcomer_65 : decode (ib f_World_newcomer) 65 = .ok (.areturn, 1) := by decide +kernel
theorem d_World_settle_0 : decode (ib f_World_settle) 0 = .ok (.aload_n 0, 1) := by decide +kernel
theorem d_World_settle_1 : decode (ib f_World_settle) 1 = .ok (.getfield 18, 3) := by decide +kernel
theorem d_World_settle_4 : decode (ib f_World_settle) 4 = .ok (.aload_n 1, 1) := by decide +kernel
theorem d_World_settle_5 : decode (ib f_World_settle) 5 = .ok (.getfield 111, 3) := by decide +kernel
theorem d_World_settle_8 : decode (ib f_World_settle) 8 = .ok (.aload_n 1, 1) := by decide +kernel
theorem d_World_settle_9 : decode (ib f_World_settle) 9 = .ok (.getfield 85, 3) := by decide +kernel
theorem d_World_settle_12 : decode (ib f_World_settle) 12 = .ok (.iastore, 1) := by decide +kernel
theorem d_World_settle_13 : decode (ib f_World_settle) 13 = .ok (.aload_n 0, 1) := by decide +kernel
theorem d_World_settle_14 : decode (ib f_World_settle) 14 = .ok (.dup, 1) := by decide +kernel
theorem d_World_settle_15 : decode (ib f_World_settle) 15 = .ok (.getfield 36, 3) := by decide +kernel
theorem d_World_settle_18 : decode (ib f_World_settle) 18 = .ok (.iconst 1, 1) := by decide +kernel
theorem d_World_settle_19 : decode (ib f_World_settle) 19 = .ok (.iadd, 1) := by decide +kernel
theorem d_World_settle_20 : decode (ib f_World_settle) 20 = .ok (.putfield 36, 3) := by decide +kernel
theorem d_World_settle_23 : decode (ib f_World_settle) 23 = .ok (.aload_n 0, 1) := by decide +kernel
theorem d_World_settle_24 : decode (ib f_World_settle) 24 = .ok (.dup, 1) := by decide +kernel
theorem d_World_settle_25 : decode (ib f_World_settle) 25 = .ok (.getfield 49, 3) := by decide +kernel
theorem d_World_settle_28 : decode (ib f_World_settle) 28 = .ok (.iconst 1, 1) := by decide +kernel
theorem d_World_settle_29 : decode (ib f_World_settle) 29 = .ok (.iadd, 1) := by decide +kernel
theorem d_World_settle_30 : decode (ib f_World_settle) 30 = .ok (.putfield 49, 3) := by decide +kernel
theorem d_World_settle_33 : decode (ib f_World_settle) 33 = .ok (.aload_n 0, 1) := by decide +kernel
theorem d_World_settle_34 : decode (ib f_World_settle) 34 = .ok (.iconst 0, 1) := by decide +kernel
theorem d_World_settle_35 : decode (ib f_World_settle) 35 = .ok (.aload_n 1, 1) := by decide +kernel
theorem d_World_settle_36 : decode (ib f_World_settle) 36 = .ok (.getfield 85, 3) := by decide +kernel
theorem d_World_settle_39 : decode (ib f_World_settle) 39 = .ok (.aload_n 1, 1) := by decide +kernel
theorem d_World_settle_40 : decode (ib f_World_settle) 40 = .ok (.getfield 111, 3) := by decide +kernel
theorem d_World_settle_43 : decode (ib f_World_settle) 43 = .ok (.invokevirtual 120, 3) := by decide +kernel
theorem d_World_settle_46 : decode (ib f_World_settle) 46 = .ok (.aload_n 1, 1) := by decide +kernel
theorem d_World_settle_47 : decode (ib f_World_settle) 47 = .ok (.getfield 85, 3) := by decide +kernel
theorem d_World_settle_50 : decode (ib f_World_settle) 50 = .ok (.ireturn, 1) := by decide +kernel
theorem d_World_tweeze_0 : decode (ib f_World_tweeze) 0 = .ok (.aload_n 0, 1) := by decide +kernel
theorem d_World_tweeze_1 : decode (ib f_World_tweeze) 1 = .ok (.iload_n 1, 1) := by decide +kernel
theorem d_World_tweeze_2 : decode (ib f_World_tweeze) 2 = .ok (.invokevirtual 88, 3) := by decide +kernel
theorem d_World_tweeze_5 : decode (ib f_World_tweeze) 5 = .ok (.istore_n 2, 1) := by decide +kernel
theorem d_World_tweeze_6 : decode (ib f_World_tweeze) 6 = .ok (.iload_n 2, 1) := by decide +kernel
theorem d_World_tweeze_7 : decode (ib f_World_tweeze) 7 = .ok (.iconst (-1), 1) := by decide +kernel
theorem d_World_tweeze_8 : decode (ib f_World_tweeze) 8 = .ok (.if_icmp .eq 33, 3) := by decide +kernel
theorem d_World_tweeze_11 : decode (ib f_World_tweeze) 11 = .ok (.aload_n 0, 1) := by decide +kernel
theorem d_World_tweeze_12 : decode (ib f_World_tweeze) 12 = .ok (.dup, 1) := by decide +kernel
theorem d_World_tweeze_13 : decode (ib f_World_tweeze) 13 = .ok (.getfield 55, 3) := by decide +kernel
theorem d_World_tweeze_16 : decode (ib f_World_tweeze) 16 = .ok (.iconst 1, 1) := by decide +kernel
theorem d_World_tweeze_17 : decode (ib f_World_tweeze) 17 = .ok (.iadd, 1) := by decide +kernel
theorem d_World_tweeze_18 : decode (ib f_World_tweeze) 18 = .ok (.putfield 55, 3) := by decide +kernel
theorem d_World_tweeze_21 : decode (ib f_World_tweeze) 21 = .ok (.aload_n 0, 1) := by decide +kernel
theorem d_World_tweeze_22 : decode (ib f_World_tweeze) 22 = .ok (.iconst 5, 1) := by decide +kernel
theorem d_World_tweeze_23 : decode (ib f_World_tweeze) 23 = .ok (.iload_n 1, 1) := by decide +kernel
theorem d_World_tweeze_24 : decode (ib f_World_tweeze) 24 = .ok (.aload_n 0, 1) := by decide +kernel
theorem d_World_tweeze_25 : decode (ib f_World_tweeze) 25 = .ok (.getfield 23, 3) := by decide +kernel
theorem d_World_tweeze_28 : decode (ib f_World_tweeze) 28 = .ok (.iload_n 2, 1) := by decide +kernel
theorem d_World_tweeze_29 : decode (ib f_World_tweeze) 29 = .ok (.aaload, 1) := by decide +kernel
theorem d_World_tweeze_30 : decode (ib f_World_tweeze) 30 = .ok (.getfield 111, 3) := by decide +kernel
theorem d_World_tweeze_33 : decode (ib f_World_tweeze) 33 = .ok (.invokevirtual 120, 3) := by decide +kernel
theorem d_World_tweeze_36 : decode (ib f_World_tweeze) 36 = .ok (.aload_n 0, 1) := by decide +kernel
theorem d_World_tweeze_37 : decode (ib f_World_tweeze) 37 = .ok (.iload_n 2, 1) := by decide +kernel
theorem d_World_tweeze_38 : decode (ib f_World_tweeze) 38 = .ok (.invokevirtual 124, 3) := by decide +kernel
theorem d_World_tweeze_41 : decode (ib f_World_tweeze) 41 = .ok (.return_, 1) := by decide +kernel
theorem d_World_remove_0 : decode (ib f_World_remove) 0 = .ok (.aload_n 0, 1) := by decide +kernel
theorem d_World_remove_1 : decode (ib f_World_remove) 1 = .ok (.getfield 23, 3) := by decide +kernel
theorem d_World_remove_4 : decode (ib f_World_remove) 4 = .ok (.iload_n 1, 1) := by decide +kernel
theorem d_World_remove_5 : decode (ib f_World_remove) 5 = .ok (.aaload, 1) := by decide +kernel
theorem d_World_remove_6 : decode (ib f_World_remove) 6 = .ok (.astore_n 2, 1) := by decide +kernel
theorem d_World_remove_7 : decode (ib f_World_remove) 7 = .ok (.aload_n 0, 1) := by decide +kernel
theorem d_World_remove_8 : decode (ib f_World_remove) 8 = .ok (.getfield 18, 3) := by decide +kernel
theorem d_World_remove_11 : decode (ib f_World_remove) 11 = .ok (.aload_n 2, 1) := by decide +kernel
theorem d_World_remove_12 : decode (ib f_World_remove) 12 = .ok (.getfield 111, 3) := by decide +kernel
theorem d_World_remove_15 : decode (ib f_World_remove) 15 = .ok (.iconst (-1), 1) := by decide +kernel
theorem d_World_remove_16 : decode (ib f_World_remove) 16 = .ok (.iastore, 1) := by decide +kernel
theorem d_World_remove_17 : decode (ib f_World_remove) 17 = .ok (.aload_n 0, 1) := by decide +kernel
theorem d_World_remove_18 : decode (ib f_World_remove) 18 = .ok (.dup, 1) := by decide +kernel
theorem d_World_remove_19 : decode (ib f_World_remove) 19 = .ok (.getfield 36, 3) := by decide +kernel
theorem d_World_remove_22 : decode (ib f_World_remove) 22 = .ok (.iconst 1, 1) := by decide +kernel
theorem d_World_remove_23 : decode (ib f_World_remove) 23 = .ok (.isub, 1) := by decide +kernel
theorem d_World_remove_24 : decode (ib f_World_remove) 24 = .ok (.putfield 36, 3) := by decide +kernel
theorem d_World_remove_27 : decode (ib f_World_remove) 27 = .ok (.iload_n 1, 1) := by decide +kernel
theorem d_World_remove_28 : decode (ib f_World_remove) 28 = .ok (.istore_n 3, 1) := by decide +kernel
theorem d_World_remove_29 : decode (ib f_World_remove) 29 = .ok (.iload_n 3, 1) := by decide +kernel
theorem d_World_remove_30 : decode (ib f_World_remove) 30 = .ok (.aload_n 0, 1) := by decide +kernel
theorem d_World_remove_31 : decode (ib f_World_remove) 31 = .ok (.getfield 36, 3) := by decide +kernel
theorem d_World_remove_34 : decode (ib f_World_remove) 34 = .ok (.if_icmp .ge 23, 3) := by decide +kernel
theorem d_World_remove_37 : decode (ib f_World_remove) 37 = .ok (.aload_n 0, 1) := by decide +kernel
theorem d_World_remove_38 : decode (ib f_World_remove) 38 = .ok (.getfield 23, 3) := by decide +kernel
theorem d_World_remove_41 : decode (ib f_World_remove) 41 = .ok (.iload_n 3, 1) := by decide +kernel
theorem d_World_remove_42 : decode (ib f_World_remove) 42 = .ok (.aload_n 0, 1) := by decide +kernel
theorem d_World_remove_43 : decode (ib f_World_remove) 43 = .ok (.getfield 23, 3) := by decide +kernel
theorem d_World_remove_46 : decode (ib f_World_remove) 46 = .ok (.iload_n 3, 1) := by decide +kernel
theorem d_World_remove_47 : decode (ib f_World_remove) 47 = .ok (.iconst 1, 1) := by decide +kernel
theorem d_World_remove_48 : decode (ib f_World_remove) 48 = .ok (.iadd, 1) := by decide +kernel
theorem d_World_remove_49 : decode (ib f_World_remove) 49 = .ok (.aaload, 1) := by decide +kernel
theorem d_World_remove_50 : decode (ib f_World_remove) 50 = .ok (.aastore, 1) := by decide +kernel
theorem d_World_remove_51 : decode (ib f_World_remove) 51 = .ok (.iinc 3 1, 3) := by decide +kernel
theorem d_World_remove_54 : decode (ib f_World_remove) 54 = .ok (.goto (-25), 3) := by decide +kernel
theorem d_World_remove_57 : decode (ib f_World_remove) 57 = .ok (.aload_n 0, 1) := by decide +kernel
theorem d_World_remove_58 : decode (ib f_World_remove) 58 = .ok (.getfield 23, 3) := by decide +kernel
theorem d_World_remove_61 : decode (ib f_World_remove) 61 = .ok (.aload_n 0, 1) := by decide +kernel
theorem d_World_remove_62 : decode (ib f_World_remove) 62 = .ok (.getfield 36, 3) := by decide +kernel
theorem d_World_remove_65 : decode (ib f_World_remove) 65 = .ok (.aload_n 2, 1) := by decide +kernel
theorem d_World_remove_66 : decode (ib f_World_remove) 66 = .ok (.aastore, 1) := by decide +kernel
theorem d_World_remove_67 : decode (ib f_World_remove) 67 = .ok (.return_, 1) := by decide +kernel
theorem d_World_write_0 : decode (ib f_World_write) 0 = .ok (.aload_n 0, 1) := by decide +kernel
theorem d_World_write_1 : decode (ib f_World_write) 1 = .ok (.getfield 32, 3) := by decide +kernel
theorem d_World_write_4 : decode (ib f_World_write) 4 = .ok (.aload_n 0, 1) := by decide +kernel
theorem d_World_write_5 : decode (ib f_World_write) 5 = .ok (.getfield 58, 3) := by decide +kernel
theorem d_World_write_8 : decode (ib f_World_write) 8 = .ok (.iload_n 1, 1) := by decide +kernel
theorem d_World_write_9 : decode (ib f_World_write) 9 = .ok (.iload_n 2, 1) := by decide +kernel
theorem d_World_write_10 : decode (ib f_World_write) 10 = .ok (.iload_n 3, 1) := by decide +kernel
theorem d_World_write_11 : decode (ib f_World_write) 11 = .ok (.iconst 0, 1) := by decide +kernel
theorem d_World_write_12 : decode (ib f_World_write) 12 = .ok (.invokevirtual 128, 3) := by decide +kernel
theorem d_World_write_15 : decode (ib f_World_write) 15 = .ok (.return_, 1) := by decide +kernel
theorem d_World_draw_0 : decode (ib f_World_draw) 0 = .ok (.aload_n 0, 1) := by decide +kernel
theorem d_World_draw_1 : decode (ib f_World_draw) 1 = .ok (.ldc 132, 2) := by decide +kernel
theorem d_World_draw_3 : decode (ib f_World_draw) 3 = .ok (.aload_n 0, 1) := by decide +kernel
theorem d_World_draw_4 : decode (ib f_World_draw) 4 = .ok (.getfield 40, 3) := by decide +kernel
theorem d_World_draw_7 : decode (ib f_World_draw) 7 = .ok (.imul, 1) := by decide +kernel
theorem d_World_draw_8 : decode (ib f_World_draw) 8 = .ok (.ldc 133, 2) := by decide +kernel
theorem d_World_draw_10 : decode (ib f_World_draw) 10 = .ok (.iadd, 1) := by decide +kernel
theorem d_World_draw_11 : decode (ib f_World_draw) 11 = .ok (.putfield 40, 3) := by decide +kernel
theorem d_World_draw_14 : decode (ib f_World_draw) 14 = .ok (.aload_n 0, 1) := by decide +kernel
theorem d_World_draw_15 : decode (ib f_World_draw) 15 = .ok (.getfield 40, 3) := by decide +kernel
theorem d_World_draw_18 : decode (ib f_World_draw) 18 = .ok (.bipush 8, 2) := by decide +kernel
theorem d_World_draw_20 : decode (ib f_World_draw) 20 = .ok (.iushr, 1) := by decide +kernel
theorem d_World_draw_21 : decode (ib f_World_draw) 21 = .ok (.iload_n 1, 1) := by decide +kernel
theorem d_World_draw_22 : decode (ib f_World_draw) 22 = .ok (.irem, 1) := by decide +kernel
theorem d_World_draw_23 : decode (ib f_World_draw) 23 = .ok (.ireturn, 1) := by decide +kernel
theorem d_World_happens_0 : decode (ib f_World_happens) 0 = .ok (.iload_n 2, 1) := by decide +kernel
theorem d_World_happens_1 : decode (ib f_World_happens) 1 = .ok (.ifCond .eq 18, 3) := by decide +kernel
theorem d_World_happens_4 : decode (ib f_World_happens) 4 = .ok (.iload_n 1, 1) := by decide +kernel
theorem d_World_happens_5 : decode (ib f_World_happens) 5 = .ok (.sipush 500, 3) := by decide +kernel
theorem d_World_happens_8 : decode (ib f_World_happens) 8 = .ok (.if_icmp .lt 7, 3) := by decide +kernel
theorem d_World_happens_11 : decode (ib f_World_happens) 11 = .ok (.iconst 1, 1) := by decide +kernel
theorem d_World_happens_12 : decode (ib f_World_happens) 12 = .ok (.goto 23, 3) := by decide +kernel
theorem d_World_happens_15 : decode (ib f_World_happens) 15 = .ok (.iconst 0, 1) := by decide +kernel
theorem d_World_happens_16 : decode (ib f_World_happens) 16 = .ok (.goto 19, 3) := by decide +kernel
theorem d_World_happens_19 : decode (ib f_World_happens) 19 = .ok (.aload_n 0, 1) := by decide +kernel
theorem d_World_happens_20 : decode (ib f_World_happens) 20 = .ok (.sipush 1000, 3) := by decide +kernel
theorem d_World_happens_23 : decode (ib f_World_happens) 23 = .ok (.invokevirtual 134, 3) := by decide +kernel
theorem d_World_happens_26 : decode (ib f_World_happens) 26 = .ok (.iload_n 1, 1) := by decide +kernel
theorem d_World_happens_27 : decode (ib f_World_happens) 27 = .ok (.if_icmp .ge 7, 3) := by decide +kernel
theorem d_World_happens_30 : decode (ib f_World_happens) 30 = .ok (.iconst 1, 1) := by decide +kernel
theorem d_World_happens_31 : decode (ib f_World_happens) 31 = .ok (.goto 4, 3) := by decide +kernel
theorem d_World_happens_34 : decode (ib f_World_happens) 34 = .ok (.iconst 0, 1) := by decide +kernel
theorem d_World_happens_35 : decode (ib f_World_happens) 35 = .ok (.ireturn, 1) := by decide +kernel
theorem d_World_liveDay_0 : decode (ib f_World_liveDay) 0 = .ok (.iconst 0, 1) := by decide +kernel
theorem d_World_liveDay_1 : decode (ib f_World_liveDay) 1 = .ok (.istore_n 3, 1) := by decide +kernel
theorem d_World_liveDay_2 : decode (ib f_World_liveDay) 2 = .ok (.iload_n 3, 1) := by decide +kernel
theorem d_World_liveDay_3 : decode (ib f_World_liveDay) 3 = .ok (.aload_n 1, 1) := by decide +kernel
theorem d_World_liveDay_4 : decode (ib f_World_liveDay) 4 = .ok (.getfield 137, 3) := by decide +kernel
theorem d_World_liveDay_7 : decode (ib f_World_liveDay) 7 = .ok (.getfield 142, 3) := by decide +kernel
theorem d_World_liveDay_10 : decode (ib f_World_liveDay) 10 = .ok (.if_icmp .ge 56, 3) := by decide +kernel
theorem d_World_liveDay_13 : decode (ib f_World_liveDay) 13 = .ok (.aload_n 1, 1) := by decide +kernel
theorem d_World_liveDay_14 : decode (ib f_World_liveDay) 14 = .ok (.getfield 137, 3) := by decide +kernel
theorem d_World_liveDay_17 : decode (ib f_World_liveDay) 17 = .ok (.iload_n 3, 1) := by decide +kernel
theorem d_World_liveDay_18 : decode (ib f_World_liveDay) 18 = .ok (.iconst 0, 1) := by decide +kernel
theorem d_World_liveDay_19 : decode (ib f_World_liveDay) 19 = .ok (.invokevirtual 143, 3) := by decide +kernel
theorem d_World_liveDay_22 : decode (ib f_World_liveDay) 22 = .ok (.aload_n 0, 1) := by decide +kernel
theorem d_World_liveDay_23 : decode (ib f_World_liveDay) 23 = .ok (.getfield 58, 3) := by decide +kernel
theorem d_World_liveDay_26 : decode (ib f_World_liveDay) 26 = .ok (.if_icmp .ne 34, 3) := by decide +kernel
theorem d_World_liveDay_29 : decode (ib f_World_liveDay) 29 = .ok (.aload_n 0, 1) := by decide +kernel
theorem d_World_liveDay_30 : decode (ib f_World_liveDay) 30 = .ok (.aload_n 1, 1) := by decide +kernel
theorem d_World_liveDay_31 : decode (ib f_World_liveDay) 31 = .ok (.getfield 137, 3) := by decide +kernel
theorem d_World_liveDay_34 : decode (ib f_World_liveDay) 34 = .ok (.iload_n 3, 1) := by decide +kernel
theorem d_World_liveDay_35 : decode (ib f_World_liveDay) 35 = .ok (.iconst 1, 1) := by decide +kernel
theorem d_World_liveDay_36 : decode (ib f_World_liveDay) 36 = .ok (.invokevirtual 143, 3) := by decide +kernel
theorem d_World_liveDay_39 : decode (ib f_World_liveDay) 39 = .ok (.aload_n 1, 1) := by decide +kernel
theorem d_World_liveDay_40 : decode (ib f_World_liveDay) 40 = .ok (.getfield 137, 3) := by decide +kernel
theorem d_World_liveDay_43 : decode (ib f_World_liveDay) 43 = .ok (.iload_n 3, 1) := by decide +kernel
theorem d_World_liveDay_44 : decode (ib f_World_liveDay) 44 = .ok (.iconst 2, 1) := by decide +kernel
theorem d_World_liveDay_45 : decode (ib f_World_liveDay) 45 = .ok (.invokevirtual 143, 3) := by decide +kernel
theorem d_World_liveDay_48 : decode (ib f_World_liveDay) 48 = .ok (.aload_n 1, 1) := by decide +kernel
theorem d_World_liveDay_49 : decode (ib f_World_liveDay) 49 = .ok (.getfield 137, 3) := by decide +kernel
theorem d_World_liveDay_52 : decode (ib f_World_liveDay) 52 = .ok (.iload_n 3, 1) := by decide +kernel
theorem d_World_liveDay_53 : decode (ib f_World_liveDay) 53 = .ok (.iconst 3, 1) := by decide +kernel
theorem d_World_liveDay_54 : decode (ib f_World_liveDay) 54 = .ok (.invokevirtual 143, 3) := by decide +kernel
theorem d_World_liveDay_57 : decode (ib f_World_liveDay) 57 = .ok (.invokevirtual 146, 3) := by decide +kernel
theorem d_World_liveDay_60 : decode (ib f_World_liveDay) 60 = .ok (.iinc 3 1, 3) := by decide +kernel
theorem d_World_liveDay_63 : decode (ib f_World_liveDay) 63 = .ok (.goto (-61), 3) := by decide +kernel
theorem d_World_liveDay_66 : decode (ib f_World_liveDay) 66 = .ok (.iconst 0, 1) := by decide +kernel
theorem d_World_liveDay_67 : decode (ib f_World_liveDay) 67 = .ok (.istore_n 3, 1) := by decide +kernel
theorem d_World_liveDay_68 : decode (ib f_World_liveDay) 68 = .ok (.iload_n 3, 1) := by decide +kernel
theorem d_World_liveDay_69 : decode (ib f_World_liveDay) 69 = .ok (.aload_n 1, 1) := by decide +kernel
theorem d_World_liveDay_70 : decode (ib f_World_liveDay) 70 = .ok (.getfield 149, 3) := by decide +kernel
theorem d_World_liveDay_73 : decode (ib f_World_liveDay) 73 = .ok (.getfield 142, 3) := by decide +kernel
theorem d_World_liveDay_76 : decode (ib f_World_liveDay) 76 = .ok (.if_icmp .ge 39, 3) := by decide +kernel
theorem d_World_liveDay_79 : decode (ib f_World_liveDay) 79 = .ok (.aload_n 1, 1) := by decide +kernel
theorem d_World_liveDay_80 : decode (ib f_World_liveDay) 80 = .ok (.getfield 149, 3) := by decide +kernel
theorem d_World_liveDay_83 : decode (ib f_World_liveDay) 83 = .ok (.iload_n 3, 1) := by decide +kernel
theorem d_World_liveDay_84 : decode (ib f_World_liveDay) 84 = .ok (.iconst 0, 1) := by decide +kernel
theorem d_World_liveDay_85 : decode (ib f_World_liveDay) 85 = .ok (.invokevirtual 143, 3) := by decide +kernel
theorem d_World_liveDay_88 : decode (ib f_World_liveDay) 88 = .ok (.aload_n 0, 1) := by decide +kernel
theorem d_World_liveDay_89 : decode (ib f_World_liveDay) 89 = .ok (.getfield 58, 3) := by decide +kernel
theorem d_World_liveDay_92 : decode (ib f_World_liveDay) 92 = .ok (.if_icmp .ne 17, 3) := by decide +kernel
theorem d_World_liveDay_95 : decode (ib f_World_liveDay) 95 = .ok (.aload_n 0, 1) := by decide +kernel
theorem d_World_liveDay_96 : decode (ib f_World_liveDay) 96 = .ok (.aload_n 1, 1) := by decide +kernel
theorem d_World_liveDay_97 : decode (ib f_World_liveDay) 97 = .ok (.getfield 152, 3) := by decide +kernel
theorem d_World_liveDay_100 : decode (ib f_World_liveDay) 100 = .ok (.aload_n 1, 1) := by decide +kernel
theorem d_World_liveDay_101 : decode (ib f_World_liveDay) 101 = .ok (.getfield 149, 3) := by decide +kernel
theorem d_World_liveDay_104 : decode (ib f_World_liveDay) 104 = .ok (.iload_n 3, 1) := by decide +kernel
theorem d_World_liveDay_105 : decode (ib f_World_liveDay) 105 = .ok (.iload_n 2, 1) := by decide +kernel
theorem d_World_liveDay_106 : decode (ib f_World_liveDay) 106 = .ok (.invokevirtual 156, 3) := by decide +kernel
theorem d_World_liveDay_109 : decode (ib f_World_liveDay) 109 = .ok (.iinc 3 1, 3) := by decide +kernel
theorem d_World_liveDay_112 : decode (ib f_World_liveDay) 112 = .ok (.goto (-44), 3) := by decide +kernel
theorem d_World_liveDay_115 : decode (ib f_World_liveDay) 115 = .ok (.iconst 0, 1) := by decide +kernel
theorem d_World_liveDay_116 : decode (ib f_World_liveDay) 116 = .ok (.istore_n 3, 1) := by decide +kernel
theorem d_World_liveDay_117 : decode (ib f_World_liveDay) 117 = .ok (.iconst 0, 1) := by decide +kernel
theorem d_World_liveDay_118 : decode (ib f_World_liveDay) 118 = .ok (.istore 4, 2) := by decide +kernel
theorem d_World_liveDay_120 : decode (ib f_World_liveDay) 120 = .ok (.iload 4, 2) := by decide +kernel
theorem d_World_liveDay_122 : decode (ib f_World_liveDay) 122 = .ok (.bipush 20, 2) := by decide +kernel
theorem d_World_liveDay_124 : decode (ib f_World_liveDay) 124 = .ok (.if_icmp .ge 28, 3) := by decide +kernel
theorem d_World_liveDay_127 : decode (ib f_World_liveDay) 127 = .ok (.iload_n 3, 1) := by decide +kernel
theorem d_World_liveDay_128 : decode (ib f_World_liveDay) 128 = .ok (.aload_n 0, 1) := by decide +kernel
theorem d_World_liveDay_129 : decode (ib f_World_liveDay) 129 = .ok (.getfield 36, 3) := by decide +kernel
theorem d_World_liveDay_132 : decode (ib f_World_liveDay) 132 = .ok (.if_icmp .ge 20, 3) := by decide +kernel
theorem d_World_liveDay_135 : decode (ib f_World_liveDay) 135 = .ok (.aload_n 0, 1) := by decide +kernel
theorem d_World_liveDay_136 : decode (ib f_World_liveDay) 136 = .ok (.aload_n 1, 1) := by decide +kernel
theorem d_World_liveDay_137 : decode (ib f_World_liveDay) 137 = .ok (.getfield 152, 3) := by decide +kernel
theorem d_World_liveDay_140 : decode (ib f_World_liveDay) 140 = .ok (.iload_n 3, 1) := by decide +kernel
theorem d_World_liveDay_141 : decode (ib f_World_liveDay) 141 = .ok (.iload_n 2, 1) := by decide +kernel
theorem d_World_liveDay_142 : decode (ib f_World_liveDay) 142 = .ok (.invokevirtual 160, 3) := by decide +kernel
theorem d_World_liveDay_145 : decode (ib f_World_liveDay) 145 = .ok (.istore_n 3, 1) := by decide +kernel
theorem d_World_liveDay_146 : decode (ib f_World_liveDay) 146 = .ok (.iinc 4 1, 3) := by decide +kernel
theorem d_World_liveDay_149 : decode (ib f_World_liveDay) 149 = .ok (.goto (-29), 3) := by decide +kernel
theorem d_World_liveDay_152 : decode (ib f_World_liveDay) 152 = .ok (.bipush 59, 2) := by decide +kernel
theorem d_World_liveDay_154 : decode (ib f_World_liveDay) 154 = .ok (.istore 4, 2) := by decide +kernel
theorem d_World_liveDay_156 : decode (ib f_World_liveDay) 156 = .ok (.iload 4, 2) := by decide +kernel
theorem d_World_liveDay_158 : decode (ib f_World_liveDay) 158 = .ok (.ifCond .lt 37, 3) := by decide +kernel
theorem d_World_liveDay_161 : decode (ib f_World_liveDay) 161 = .ok (.aload_n 0, 1) := by decide +kernel
theorem d_World_liveDay_162 : decode (ib f_World_liveDay) 162 = .ok (.iload 4, 2) := by decide +kernel
theorem d_World_liveDay_164 : decode (ib f_World_liveDay) 164 = .ok (.invokevirtual 81, 3) := by decide +kernel
theorem d_World_liveDay_167 : decode (ib f_World_liveDay) 167 = .ok (.ifCond .eq 22, 3) := by decide +kernel
theorem d_World_liveDay_170 : decode (ib f_World_liveDay) 170 = .ok (.aload_n 0, 1) := by decide +kernel
theorem d_World_liveDay_171 : decode (ib f_World_liveDay) 171 = .ok (.aload_n 1, 1) := by decide +kernel
theorem d_World_liveDay_172 : decode (ib f_World_liveDay) 172 = .ok (.getfield 152, 3) := by decide +kernel
theorem d_World_liveDay_175 : decode (ib f_World_liveDay) 175 = .ok (.aload_n 0, 1) := by decide +kernel
theorem d_World_liveDay_176 : decode (ib f_World_liveDay) 176 = .ok (.aload_n 0, 1) := by decide +kernel
theorem d_World_liveDay_177 : decode (ib f_World_liveDay) 177 = .ok (.getfield 18, 3) := by decide +kernel
theorem d_World_liveDay_180 : decode (ib f_World_liveDay) 180 = .ok (.iload 4, 2) := by decide +kernel
theorem d_World_liveDay_182 : decode (ib f_World_liveDay) 182 = .ok (.iaload, 1) := by decide +kernel
theorem d_World_liveDay_183 : decode (ib f_World_liveDay) 183 = .ok (.invokevirtual 88, 3) := by decide +kernel
theorem d_World_liveDay_186 : decode (ib f_World_liveDay) 186 = .ok (.invokevirtual 164, 3) := by decide +kernel
theorem d_World_liveDay_189 : decode (ib f_World_liveDay) 189 = .ok (.iinc 4 (-1), 3) := by decide +kernel
theorem d_World_liveDay_192 : decode (ib f_World_liveDay) 192 = .ok (.goto (-36), 3) := by decide +kernel
theorem d_World_liveDay_195 : decode (ib f_World_liveDay) 195 = .ok (.aload_n 0, 1) := by decide +kernel
theorem d_World_liveDay_196 : decode (ib f_World_liveDay) 196 = .ok (.invokevirtual 168, 3) := by decide +kernel
theorem d_World_liveDay_199 : decode (ib f_World_liveDay) 199 = .ok (.return_, 1) := by decide +kernel
theorem d_World_weather_0 : decode (ib f_World_weather) 0 = .ok (.iload_n 1, 1) := by decide +kernel
theorem d_World_weather_1 : decode (ib f_World_weather) 1 = .ok (.bipush 14, 2) := by decide +kernel
theorem d_World_weather_3 : decode (ib f_World_weather) 3 = .ok (.if_icmp .ne 11, 3) := by decide +kernel
theorem d_World_weather_6 : decode (ib f_World_weather) 6 = .ok (.aload_n 0, 1) := by decide +kernel
theorem d_World_weather_7 : decode (ib f_World_weather) 7 = .ok (.iload_n 2, 1) := by decide +kernel
theorem d_World_weather_8 : decode (ib f_World_weather) 8 = .ok (.putfield 43, 3) := by decide +kernel
theorem d_World_weather_11 : decode (ib f_World_weather) 11 = .ok (.goto 85, 3) := by decide +kernel
theorem d_World_weather_14 : decode (ib f_World_weather) 14 = .ok (.iload_n 1, 1) := by decide +kernel
theorem d_World_weather_15 : decode (ib f_World_weather) 15 = .ok (.bipush 15, 2) := by decide +kernel
theorem d_World_weather_17 : decode (ib f_World_weather) 17 = .ok (.if_icmp .ne 11, 3) := by decide +kernel
theorem d_World_weather_20 : decode (ib f_World_weather) 20 = .ok (.aload_n 0, 1) := by decide +kernel
theorem d_World_weather_21 : decode (ib f_World_weather) 21 = .ok (.iload_n 2, 1) := by decide +kernel
theorem d_World_weather_22 : decode (ib f_World_weather) 22 = .ok (.putfield 46, 3) := by decide +kernel
theorem d_World_weather_25 : decode (ib f_World_weather) 25 = .ok (.goto 71, 3) := by decide +kernel
theorem d_World_weather_28 : decode (ib f_World_weather) 28 = .ok (.iload_n 1, 1) := by decide +kernel
theorem d_World_weather_29 : decode (ib f_World_weather) 29 = .ok (.bipush 26, 2) := by decide +kernel
theorem d_World_weather_31 : decode (ib f_World_weather) 31 = .ok (.if_icmp .ne 23, 3) := by decide +kernel
theorem d_World_weather_34 : decode (ib f_World_weather) 34 = .ok (.iload_n 2, 1) := by decide +kernel
theorem d_World_weather_35 : decode (ib f_World_weather) 35 = .ok (.ifCond .lt 19, 3) := by decide +kernel
theorem d_World_weather_38 : decode (ib f_World_weather) 38 = .ok (.iload_n 2, 1) := by decide +kernel
theorem d_World_weather_39 : decode (ib f_World_weather) 39 = .ok (.bipush 60, 2) := by decide +kernel
theorem d_World_weather_41 : decode (ib f_World_weather) 41 = .ok (.if_icmp .ge 13, 3) := by decide +kernel
theorem d_World_weather_44 : decode (ib f_World_weather) 44 = .ok (.aload_n 0, 1) := by decide +kernel
theorem d_World_weather_45 : decode (ib f_World_weather) 45 = .ok (.getfield 9, 3) := by decide +kernel
theorem d_World_weather_48 : decode (ib f_World_weather) 48 = .ok (.iload_n 2, 1) := by decide +kernel
theorem d_World_weather_49 : decode (ib f_World_weather) 49 = .ok (.iload_n 3, 1) := by decide +kernel
theorem d_World_weather_50 : decode (ib f_World_weather) 50 = .ok (.iastore, 1) := by decide +kernel
theorem d_World_weather_51 : decode (ib f_World_weather) 51 = .ok (.goto 45, 3) := by decide +kernel
theorem d_World_weather_54 : decode (ib f_World_weather) 54 = .ok (.iload_n 1, 1) := by decide +kernel
theorem d_World_weather_55 : decode (ib f_World_weather) 55 = .ok (.bipush 27, 2) := by decide +kernel
theorem d_World_weather_57 : decode (ib f_World_weather) 57 = .ok (.if_icmp .ne 39, 3) := by decide +kernel
theorem d_World_weather_60 : decode (ib f_World_weather) 60 = .ok (.iconst 0, 1) := by decide +kernel
theorem d_World_weather_61 : decode (ib f_World_weather) 61 = .ok (.istore 4, 2) := by decide +kernel
theorem d_World_weather_63 : decode (ib f_World_weather) 63 = .ok (.iload 4, 2) := by decide +kernel
theorem d_World_weather_65 : decode (ib f_World_weather) 65 = .ok (.bipush 60, 2) := by decide +kernel
theorem d_World_weather_67 : decode (ib f_World_weather) 67 = .ok (.if_icmp .ge 29, 3) := by decide +kernel
theorem d_World_weather_70 : decode (ib f_World_weather) 70 = .ok (.aload_n 0, 1) := by decide +kernel
theorem d_World_weather_71 : decode (ib f_World_weather) 71 = .ok (.getfield 9, 3) := by decide +kernel
theorem d_World_weather_74 : decode (ib f_World_weather) 74 = .ok (.iload 4, 2) := by decide +kernel
theorem d_World_weather_76 : decode (ib f_World_weather) 76 = .ok (.iconst 0, 1) := by decide +kernel
theorem d_World_weather_77 : decode (ib f_World_weather) 77 = .ok (.aload_n 0, 1) := by decide +kernel
theorem d_World_weather_78 : decode (ib f_World_weather) 78 = .ok (.getfield 9, 3) := by decide +kernel
theorem d_World_weather_81 : decode (ib f_World_weather) 81 = .ok (.iload 4, 2) := by decide +kernel
theorem d_World_weather_83 : decode (ib f_World_weather) 83 = .ok (.iaload, 1) := by decide +kernel
theorem d_World_weather_84 : decode (ib f_World_weather) 84 = .ok (.iload_n 2, 1) := by decide +kernel
theorem d_World_weather_85 : decode (ib f_World_weather) 85 = .ok (.isub, 1) := by decide +kernel
theorem d_World_weather_86 : decode (ib f_World_weather) 86 = .ok (.invokestatic 171, 3) := by decide +kernel
theorem d_World_weather_89 : decode (ib f_World_weather) 89 = .ok (.iastore, 1) := by decide +kernel
theorem d_World_weather_90 : decode (ib f_World_weather) 90 = .ok (.iinc 4 1, 3) := by decide +kernel
theorem d_World_weather_93 : decode (ib f_World_weather) 93 = .ok (.goto (-30), 3) := by decide +kernel
theorem d_World_weather_96 : decode (ib f_World_weather) 96 = .ok (.return_, 1) := by decide +kernel
theorem d_World_comeUp_0 : decode (ib f_World_comeUp) 0 = .ok (.aload_n 2, 1) := by decide +kernel
theorem d_World_comeUp_1 : decode (ib f_World_comeUp) 1 = .ok (.iload_n 3, 1) := by decide +kernel
theorem d_World_comeUp_2 : decode (ib f_World_comeUp) 2 = .ok (.iconst 4, 1) := by decide +kernel
theorem d_World_comeUp_3 : decode (ib f_World_comeUp) 3 = .ok (.invokevirtual 143, 3) := by decide +kernel
theorem d_World_comeUp_6 : decode (ib f_World_comeUp) 6 = .ok (.istore 5, 2) := by decide +kernel
theorem d_World_comeUp_8 : decode (ib f_World_comeUp) 8 = .ok (.aload_n 0, 1) := by decide +kernel
theorem d_World_comeUp_9 : decode (ib f_World_comeUp) 9 = .ok (.iload 5, 2) := by decide +kernel
theorem d_World_comeUp_11 : decode (ib f_World_comeUp) 11 = .ok (.invokevirtual 174, 3) := by decide +kernel
theorem d_World_comeUp_14 : decode (ib f_World_comeUp) 14 = .ok (.ifCond .ne 4, 3) := by decide +kernel
theorem d_World_comeUp_17 : decode (ib f_World_comeUp) 17 = .ok (.return_, 1) := by decide +kernel
theorem d_World_comeUp_18 : decode (ib f_World_comeUp) 18 = .ok (.aload_n 0, 1) := by decide +kernel
theorem d_World_comeUp_19 : decode (ib f_World_comeUp) 19 = .ok (.aload_n 2, 1) := by decide +kernel
theorem d_World_comeUp_20 : decode (ib f_World_comeUp) 20 = .ok (.iload_n 3, 1) := by decide +kernel
theorem d_World_comeUp_21 : decode (ib f_World_comeUp) 21 = .ok (.iconst 1, 1) := by decide +kernel
theorem d_World_comeUp_22 : decode (ib f_World_comeUp) 22 = .ok (.invokevirtual 143, 3) := by decide +kernel
theorem d_World_comeUp_25 : decode (ib f_World_comeUp) 25 = .ok (.aload_n 2, 1) := by decide +kernel
theorem d_World_comeUp_26 : decode (ib f_World_comeUp) 26 = .ok (.iload_n 3, 1) := by decide +kernel
theorem d_World_comeUp_27 : decode (ib f_World_comeUp) 27 = .ok (.iconst 2, 1) := by decide +kernel
theorem d_World_comeUp_28 : decode (ib f_World_comeUp) 28 = .ok (.invokevirtual 143, 3) := by decide +kernel
theorem d_World_comeUp_31 : decode (ib f_World_comeUp) 31 = .ok (.aload_n 2, 1) := by decide +kernel
theorem d_World_comeUp_32 : decode (ib f_World_comeUp) 32 = .ok (.iload_n 3, 1) := by decide +kernel
theorem d_World_comeUp_33 : decode (ib f_World_comeUp) 33 = .ok (.iconst 3, 1) := by decide +kernel
theorem d_World_comeUp_34 : decode (ib f_World_comeUp) 34 = .ok (.invokevirtual 143, 3) := by decide +kernel
theorem d_World_comeUp_37 : decode (ib f_World_comeUp) 37 = .ok (.iload 5, 2) := by decide +kernel
theorem d_World_comeUp_39 : decode (ib f_World_comeUp) 39 = .ok (.invokevirtual 177, 3) := by decide +kernel
theorem d_World_comeUp_42 : decode (ib f_World_comeUp) 42 = .ok (.astore 6, 2) := by decide +kernel
theorem d_World_comeUp_44 : decode (ib f_World_comeUp) 44 = .ok (.aload_n 0, 1) := by decide +kernel
theorem d_World_comeUp_45 : decode (ib f_World_comeUp) 45 = .ok (.aload_n 1, 1) := by decide +kernel
theorem d_World_comeUp_46 : decode (ib f_World_comeUp) 46 = .ok (.iconst 0, 1) := by decide +kernel
theorem d_World_comeUp_47 : decode (ib f_World_comeUp) 47 = .ok (.aload_n 0, 1) := by decide +kernel
theorem d_World_comeUp_48 : decode (ib f_World_comeUp) 48 = .ok (.aload 6, 2) := by decide +kernel
theorem d_World_comeUp_50 : decode (ib f_World_comeUp) 50 = .ok (.invokevirtual 181, 3) := by decide +kernel
theorem d_World_comeUp_53 : decode (ib f_World_comeUp) 53 = .ok (.iload 4, 2) := by decide +kernel
theorem d_World_comeUp_55 : decode (ib f_World_comeUp) 55 = .ok (.invokevirtual 187, 3) := by decide +kernel
theorem d_World_comeUp_58 : decode (ib f_World_comeUp) 58 = .ok (.ifCond .eq 37, 3) := by decide +kernel
theorem d_World_comeUp_61 : decode (ib f_World_comeUp) 61 = .ok (.aload_n 0, 1) := by decide +kernel
theorem d_World_comeUp_62 : decode (ib f_World_comeUp) 62 = .ok (.aload 6, 2) := by decide +kernel
theorem d_World_comeUp_64 : decode (ib f_World_comeUp) 64 = .ok (.invokevirtual 191, 3) := by decide +kernel
theorem d_World_comeUp_67 : decode (ib f_World_comeUp) 67 = .ok (.pop, 1) := by decide +kernel
theorem d_World_comeUp_68 : decode (ib f_World_comeUp) 68 = .ok (.aload_n 0, 1) := by decide +kernel
theorem d_World_comeUp_69 : decode (ib f_World_comeUp) 69 = .ok (.getfield 9, 3) := by decide +kernel
theorem d_World_comeUp_72 : decode (ib f_World_comeUp) 72 = .ok (.iload 5, 2) := by decide +kernel
theorem d_World_comeUp_74 : decode (ib f_World_comeUp) 74 = .ok (.iconst 0, 1) := by decide +kernel
theorem d_World_comeUp_75 : decode (ib f_World_comeUp) 75 = .ok (.aload_n 0, 1) := by decide +kernel
theorem d_World_comeUp_76 : decode (ib f_World_comeUp) 76 = .ok (.getfield 9, 3) := by decide +kernel
theorem d_World_comeUp_79 : decode (ib f_World_comeUp) 79 = .ok (.iload 5, 2) := by decide +kernel
theorem d_World_comeUp_81 : decode (ib f_World_comeUp) 81 = .ok (.iaload, 1) := by decide +kernel
theorem d_World_comeUp_82 : decode (ib f_World_comeUp) 82 = .ok (.aload 6, 2) := by decide +kernel
theorem d_World_comeUp_84 : decode (ib f_World_comeUp) 84 = .ok (.getfield 105, 3) := by decide +kernel
theorem d_World_comeUp_87 : decode (ib f_World_comeUp) 87 = .ok (.isub, 1) := by decide +kernel
theorem d_World_comeUp_88 : decode (ib f_World_comeUp) 88 = .ok (.invokestatic 171, 3) := by decide +kernel
theorem d_World_comeUp_91 : decode (ib f_World_comeUp) 91 = .ok (.iastore, 1) := by decide +kernel
theorem d_World_comeUp_92 : decode (ib f_World_comeUp) 92 = .ok (.goto 11, 3) := by decide +kernel
theorem d_World_comeUp_95 : decode (ib f_World_comeUp) 95 = .ok (.aload_n 0, 1) := by decide +kernel
theorem d_World_comeUp_96 : decode (ib f_World_comeUp) 96 = .ok (.iconst 1, 1) := by decide +kernel
theorem d_World_comeUp_97 : decode (ib f_World_comeUp) 97 = .ok (.iconst (-1), 1) := by decide +kernel
theorem d_World_comeUp_98 : decode (ib f_World_comeUp) 98 = .ok (.iload 5, 2) := by decide +kernel
theorem d_World_comeUp_100 : decode (ib f_World_comeUp) 100 = .ok (.invokevirtual 120, 3) := by decide +kernel
theorem d_World_comeUp_103 : decode (ib f_World_comeUp) 103 = .ok (.return_, 1) := by decide +kernel
theorem d_World_struggle_0 : decode (ib f_World_struggle) 0 = .ok (.aload_n 0, 1) := by decide +kernel
theorem d_World_struggle_1 : decode (ib f_World_struggle) 1 = .ok (.getfield 23, 3) := by decide +kernel
theorem d_World_struggle_4 : decode (ib f_World_struggle) 4 = .ok (.iload_n 2, 1) := by decide +kernel
theorem d_World_struggle_5 : decode (ib f_World_struggle) 5 = .ok (.aaload, 1) := by decide +kernel
theorem d_World_struggle_6 : decode (ib f_World_struggle) 6 = .ok (.astore 4, 2) := by decide +kernel
theorem d_World_struggle_8 : decode (ib f_World_struggle) 8 = .ok (.aload_n 1, 1) := by decide +kernel
theorem d_World_struggle_9 : decode (ib f_World_struggle) 9 = .ok (.iconst 1, 1) := by decide +kernel
theorem d_World_struggle_10 : decode (ib f_World_struggle) 10 = .ok (.aload_n 0, 1) := by decide +kernel
theorem d_World_struggle_11 : decode (ib f_World_struggle) 11 = .ok (.aload 4, 2) := by decide +kernel
theorem d_World_struggle_13 : decode (ib f_World_struggle) 13 = .ok (.invokevirtual 181, 3) := by decide +kernel
theorem d_World_struggle_16 : decode (ib f_World_struggle) 16 = .ok (.istore 5, 2) := by decide +kernel
theorem d_World_struggle_18 : decode (ib f_World_struggle) 18 = .ok (.iload 5, 2) := by decide +kernel
theorem d_World_struggle_20 : decode (ib f_World_struggle) 20 = .ok (.ifCond .le 13, 3) := by decide +kernel
theorem d_World_struggle_23 : decode (ib f_World_struggle) 23 = .ok (.aload_n 0, 1) := by decide +kernel
theorem d_World_struggle_24 : decode (ib f_World_struggle) 24 = .ok (.iload 5, 2) := by decide +kernel
theorem d_World_struggle_26 : decode (ib f_World_struggle) 26 = .ok (.iload_n 3, 1) := by decide +kernel
theorem d_World_struggle_27 : decode (ib f_World_struggle) 27 = .ok (.invokevirtual 187, 3) := by decide +kernel
theorem d_World_struggle_30 : decode (ib f_World_struggle) 30 = .ok (.ifCond .ne 7, 3) := by decide +kernel
theorem d_World_struggle_33 : decode (ib f_World_struggle) 33 = .ok (.iload_n 2, 1) := by decide +kernel
theorem d_World_struggle_34 : decode (ib f_World_struggle) 34 = .ok (.iconst 1, 1) := by decide +kernel
theorem d_World_struggle_35 : decode (ib f_World_struggle) 35 = .ok (.iadd, 1) := by decide +kernel
theorem d_World_struggle_36 : decode (ib f_World_struggle) 36 = .ok (.ireturn, 1) := by decide +kernel
theorem d_World_struggle_37 : decode (ib f_World_struggle) 37 = .ok (.aload 4, 2) := by decide +kernel
theorem d_World_struggle_39 : decode (ib f_World_struggle) 39 = .ok (.getfield 117, 3) := by decide +kernel
theorem d_World_struggle_42 : decode (ib f_World_struggle) 42 = .ok (.iconst 1, 1) := by decide +kernel
theorem d_World_struggle_43 : decode (ib f_World_struggle) 43 = .ok (.if_icmp .gt 35, 3) := by decide +kernel
theorem d_World_struggle_46 : decode (ib f_World_struggle) 46 = .ok (.aload_n 0, 1) := by decide +kernel
theorem d_World_struggle_47 : decode (ib f_World_struggle) 47 = .ok (.dup, 1) := by decide +kernel
theorem d_World_struggle_48 : decode (ib f_World_struggle) 48 = .ok (.getfield 52, 3) := by decide +kernel
theorem d_World_struggle_51 : decode (ib f_World_struggle) 51 = .ok (.iconst 1, 1) := by decide +kernel
theorem d_World_struggle_52 : decode (ib f_World_struggle) 52 = .ok (.iadd, 1) := by decide +kernel
theorem d_World_struggle_53 : decode (ib f_World_struggle) 53 = .ok (.putfield 52, 3) := by decide +kernel
theorem d_World_struggle_56 : decode (ib f_World_struggle) 56 = .ok (.aload_n 0, 1) := by decide +kernel
theorem d_World_struggle_57 : decode (ib f_World_struggle) 57 = .ok (.iconst 3, 1) := by decide +kernel
theorem d_World_struggle_58 : decode (ib f_World_struggle) 58 = .ok (.aload 4, 2) := by decide +kernel
theorem d_World_struggle_60 : decode (ib f_World_struggle) 60 = .ok (.getfield 85, 3) := by decide +kernel
theorem d_World_struggle_63 : decode (ib f_World_struggle) 63 = .ok (.aload 4, 2) := by decide +kernel
theorem d_World_struggle_65 : decode (ib f_World_struggle) 65 = .ok (.getfield 111, 3) := by decide +kernel
theorem d_World_struggle_68 : decode (ib f_World_struggle) 68 = .ok (.invokevirtual 120, 3) := by decide +kernel
theorem d_World_struggle_71 : decode (ib f_World_struggle) 71 = .ok (.aload_n 0, 1) := by decide +kernel
theorem d_World_struggle_72 : decode (ib f_World_struggle) 72 = .ok (.iload_n 2, 1) := by decide +kernel
theorem d_World_struggle_73 : decode (ib f_World_struggle) 73 = .ok (.invokevirtual 124, 3) := by decide +kernel
theorem d_World_struggle_76 : decode (ib f_World_struggle) 76 = .ok (.iload_n 2, 1) := by decide +kernel
theorem d_World_struggle_77 : decode (ib f_World_struggle) 77 = .ok (.ireturn, 1) := by decide +kernel
theorem d_World_struggle_78 : decode (ib f_World_struggle) 78 = .ok (.aload 4, 2) := by decide +kernel
theorem d_World_struggle_80 : decode (ib f_World_struggle) 80 = .ok (.dup, 1) := by decide +kernel
theorem d_World_struggle_81 : decode (ib f_World_struggle) 81 = .ok (.getfield 117, 3) := by decide +kernel
theorem d_World_struggle_84 : decode (ib f_World_struggle) 84 = .ok (.iconst 1, 1) := by decide +kernel
theorem d_World_struggle_85 : decode (ib f_World_struggle) 85 = .ok (.isub, 1) := by decide +kernel
theorem d_World_struggle_86 : decode (ib f_World_struggle) 86 = .ok (.putfield 117, 3) := by decide +kernel
theorem d_World_struggle_89 : decode (ib f_World_struggle) 89 = .ok (.aload_n 0, 1) := by decide +kernel
theorem d_World_struggle_90 : decode (ib f_World_struggle) 90 = .ok (.getfield 15, 3) := by decide +kernel
theorem d_World_struggle_93 : decode (ib f_World_struggle) 93 = .ok (.aload 4, 2) := by decide +kernel
theorem d_World_struggle_95 : decode (ib f_World_struggle) 95 = .ok (.getfield 111, 3) := by decide +kernel
theorem d_World_struggle_98 : decode (ib f_World_struggle) 98 = .ok (.dup2, 1) := by decide +kernel
theorem d_World_struggle_99 : decode (ib f_World_struggle) 99 = .ok (.iaload, 1) := by decide +kernel
theorem d_World_struggle_100 : decode (ib f_World_struggle) 100 = .ok (.iconst 1, 1) := by decide +kernel
theorem d_World_struggle_101 : decode (ib f_World_struggle) 101 = .ok (.iadd, 1) := by decide +kernel
theorem d_World_struggle_102 : decode (ib f_World_struggle) 102 = .ok (.iastore, 1) := by decide +kernel
theorem d_World_struggle_103 : decode (ib f_World_struggle) 103 = .ok (.aload 4, 2) := by decide +kernel
theorem d_World_struggle_105 : decode (ib f_World_struggle) 105 = .ok (.iconst 0, 1) := by decide +kernel
theorem d_World_struggle_106 : decode (ib f_World_struggle) 106 = .ok (.aload 4, 2) := by decide +kernel
theorem d_World_struggle_108 : decode (ib f_World_struggle) 108 = .ok (.getfield 108, 3) := by decide +kernel
theorem d_World_struggle_111 : decode (ib f_World_struggle) 111 = .ok (.iconst 1, 1) := by decide +kernel
theorem d_World_struggle_112 : decode (ib f_World_struggle) 112 = .ok (.isub, 1) := by decide +kernel
theorem d_World_struggle_113 : decode (ib f_World_struggle) 113 = .ok (.invokestatic 171, 3) := by decide +kernel
theorem d_World_struggle_116 : decode (ib f_World_struggle) 116 = .ok (.putfield 108, 3) := by decide +kernel
theorem d_World_struggle_119 : decode (ib f_World_struggle) 119 = .ok (.aload_n 0, 1) := by decide +kernel
theorem d_World_struggle_120 : decode (ib f_World_struggle) 120 = .ok (.iconst 2, 1) := by decide +kernel
theorem d_World_struggle_121 : decode (ib f_World_struggle) 121 = .ok (.aload 4, 2) := by decide +kernel
theorem d_World_struggle_123 : decode (ib f_World_struggle) 123 = .ok (.getfield 85, 3) := by decide +kernel
theorem d_World_struggle_126 : decode (ib f_World_struggle) 126 = .ok (.aload 4, 2) := by decide +kernel
theorem d_World_struggle_128 : decode (ib f_World_struggle) 128 = .ok (.getfield 111, 3) := by decide +kernel
theorem d_World_struggle_131 : decode (ib f_World_struggle) 131 = .ok (.invokevirtual 120, 3) := by decide +kernel
theorem d_World_struggle_134 : decode (ib f_World_struggle) 134 = .ok (.iload_n 2, 1) := by decide +kernel
theorem d_World_struggle_135 : decode (ib f_World_struggle) 135 = .ok (.iconst 1, 1) := by decide +kernel
theorem d_World_struggle_136 : decode (ib f_World_struggle) 136 = .ok (.iadd, 1) := by decide +kernel
theorem d_World_struggle_137 : decode (ib f_World_struggle) 137 = .ok (.ireturn, 1) := by decide +kernel
theorem d_World_slide_0 : decode (ib f_World_slide) 0 = .ok (.iload_n 2, 1) := by decide +kernel
theorem d_World_slide_1 : decode (ib f_World_slide) 1 = .ok (.iconst (-1), 1) := by decide +kernel
theorem d_World_slide_2 : decode (ib f_World_slide) 2 = .ok (.if_icmp .ne 4, 3) := by decide +kernel
theorem d_World_slide_5 : decode (ib f_World_slide) 5 = .ok (.return_, 1) := by decide +kernel
theorem d_World_slide_6 : decode (ib f_World_slide) 6 = .ok (.aload_n 0, 1) := by decide +kernel
theorem d_World_slide_7 : decode (ib f_World_slide) 7 = .ok (.getfield 23, 3) := by decide +kernel
theorem d_World_slide_10 : decode (ib f_World_slide) 10 = .ok (.iload_n 2, 1) := by decide +kernel
theorem d_World_slide_11 : decode (ib f_World_slide) 11 = .ok (.aaload, 1) := by decide +kernel
theorem d_World_slide_12 : decode (ib f_World_slide) 12 = .ok (.astore_n 3, 1) := by decide +kernel
theorem d_World_slide_13 : decode (ib f_World_slide) 13 = .ok (.aload_n 1, 1) := by decide +kernel
theorem d_World_slide_14 : decode (ib f_World_slide) 14 = .ok (.iconst 2, 1) := by decide +kernel
theorem d_World_slide_15 : decode (ib f_World_slide) 15 = .ok (.aload_n 0, 1) := by decide +kernel
theorem d_World_slide_16 : decode (ib f_World_slide) 16 = .ok (.aload_n 3, 1) := by decide +kernel
theorem d_World_slide_17 : decode (ib f_World_slide) 17 = .ok (.invokevirtual 181, 3) := by decide +kernel
theorem d_World_slide_20 : decode (ib f_World_slide) 20 = .ok (.istore 4, 2) := by decide +kernel
theorem d_World_slide_22 : decode (ib f_World_slide) 22 = .ok (.iconst 0, 1) := by decide +kernel
theorem d_World_slide_23 : decode (ib f_World_slide) 23 = .ok (.istore 5, 2) := by decide +kernel
theorem d_World_slide_25 : decode (ib f_World_slide) 25 = .ok (.iload 5, 2) := by decide +kernel
theorem d_World_slide_27 : decode (ib f_World_slide) 27 = .ok (.iload 4, 2) := by decide +kernel
theorem d_World_slide_29 : decode (ib f_World_slide) 29 = .ok (.if_icmp .ge 93, 3) := by decide +kernel
theorem d_World_slide_32 : decode (ib f_World_slide) 32 = .ok (.aload_n 0, 1) := by decide +kernel
theorem d_World_slide_33 : decode (ib f_World_slide) 33 = .ok (.aload_n 3, 1) := by decide +kernel
theorem d_World_slide_34 : decode (ib f_World_slide) 34 = .ok (.getfield 111, 3) := by decide +kernel
theorem d_World_slide_37 : decode (ib f_World_slide) 37 = .ok (.iconst 1, 1) := by decide +kernel
theorem d_World_slide_38 : decode (ib f_World_slide) 38 = .ok (.iadd, 1) := by decide +kernel
theorem d_World_slide_39 : decode (ib f_World_slide) 39 = .ok (.invokevirtual 81, 3) := by decide +kernel
theorem d_World_slide_42 : decode (ib f_World_slide) 42 = .ok (.ifCond .ne 80, 3) := by decide +kernel
theorem d_World_slide_45 : decode (ib f_World_slide) 45 = .ok (.aload_n 3, 1) := by decide +kernel
theorem d_World_slide_46 : decode (ib f_World_slide) 46 = .ok (.getfield 111, 3) := by decide +kernel
theorem d_World_slide_49 : decode (ib f_World_slide) 49 = .ok (.bipush 59, 2) := by decide +kernel
theorem d_World_slide_51 : decode (ib f_World_slide) 51 = .ok (.if_icmp .lt 32, 3) := by decide +kernel
theorem d_World_slide_54 : decode (ib f_World_slide) 54 = .ok (.aload_n 0, 1) := by decide +kernel
theorem d_World_slide_55 : decode (ib f_World_slide) 55 = .ok (.dup, 1) := by decide +kernel
theorem d_World_slide_56 : decode (ib f_World_slide) 56 = .ok (.getfield 52, 3) := by decide +kernel
theorem d_World_slide_59 : decode (ib f_World_slide) 59 = .ok (.iconst 1, 1) := by decide +kernel
theorem d_World_slide_60 : decode (ib f_World_slide) 60 = .ok (.iadd, 1) := by decide +kernel
theorem d_World_slide_61 : decode (ib f_World_slide) 61 = .ok (.putfield 52, 3) := by decide +kernel
theorem d_World_slide_64 : decode (ib f_World_slide) 64 = .ok (.aload_n 0, 1) := by decide +kernel
theorem d_World_slide_65 : decode (ib f_World_slide) 65 = .ok (.iconst 4, 1) := by decide +kernel
theorem d_World_slide_66 : decode (ib f_World_slide) 66 = .ok (.aload_n 3, 1) := by decide +kernel
theorem d_World_slide_67 : decode (ib f_World_slide) 67 = .ok (.getfield 85, 3) := by decide +kernel
theorem d_World_slide_70 : decode (ib f_World_slide) 70 = .ok (.aload_n 3, 1) := by decide +kernel
theorem d_World_slide_71 : decode (ib f_World_slide) 71 = .ok (.getfield 111, 3) := by decide +kernel
theorem d_World_slide_74 : decode (ib f_World_slide) 74 = .ok (.invokevirtual 120, 3) := by decide +kernel
theorem d_World_slide_77 : decode (ib f_World_slide) 77 = .ok (.aload_n 0, 1) := by decide +kernel
theorem d_World_slide_78 : decode (ib f_World_slide) 78 = .ok (.iload_n 2, 1) := by decide +kernel
theorem d_World_slide_79 : decode (ib f_World_slide) 79 = .ok (.invokevirtual 124, 3) := by decide +kernel
theorem d_World_slide_82 : decode (ib f_World_slide) 82 = .ok (.return_, 1) := by decide +kernel
theorem d_World_slide_83 : decode (ib f_World_slide) 83 = .ok (.aload_n 0, 1) := by decide +kernel
theorem d_World_slide_84 : decode (ib f_World_slide) 84 = .ok (.getfield 18, 3) := by decide +kernel
theorem d_World_slide_87 : decode (ib f_World_slide) 87 = .ok (.aload_n 3, 1) := by decide +kernel
theorem d_World_slide_88 : decode (ib f_World_slide) 88 = .ok (.getfield 111, 3) := by decide +kernel
theorem d_World_slide_91 : decode (ib f_World_slide) 91 = .ok (.iconst (-1), 1) := by decide +kernel
theorem d_World_slide_92 : decode (ib f_World_slide) 92 = .ok (.iastore, 1) := by decide +kernel
theorem d_World_slide_93 : decode (ib f_World_slide) 93 = .ok (.aload_n 3, 1) := by decide +kernel
theorem d_World_slide_94 : decode (ib f_World_slide) 94 = .ok (.dup, 1) := by decide +kernel
theorem d_World_slide_95 : decode (ib f_World_slide) 95 = .ok (.getfield 111, 3) := by decide +kernel
theorem d_World_slide_98 : decode (ib f_World_slide) 98 = .ok (.iconst 1, 1) := by decide +kernel
theorem d_World_slide_99 : decode (ib f_World_slide) 99 = .ok (.iadd, 1) := by decide +kernel
theorem d_World_slide_100 : decode (ib f_World_slide) 100 = .ok (.putfield 111, 3) := by decide +kernel
theorem d_World_slide_103 : decode (ib f_World_slide) 103 = .ok (.aload_n 0, 1) := by decide +kernel
theorem d_World_slide_104 : decode (ib f_World_slide) 104 = .ok (.getfield 18, 3) := by decide +kernel
theorem d_World_slide_107 : decode (ib f_World_slide) 107 = .ok (.aload_n 3, 1) := by decide +kernel
theorem d_World_slide_108 : decode (ib f_World_slide) 108 = .ok (.getfield 111, 3) := by decide +kernel
theorem d_World_slide_111 : decode (ib f_World_slide) 111 = .ok (.aload_n 3, 1) := by decide +kernel
theorem d_World_slide_112 : decode (ib f_World_slide) 112 = .ok (.getfield 85, 3) := by decide +kernel
theorem d_World_slide_115 : decode (ib f_World_slide) 115 = .ok (.iastore, 1) := by decide +kernel
theorem d_World_slide_116 : decode (ib f_World_slide) 116 = .ok (.iinc 5 1, 3) := by decide +kernel
theorem d_World_slide_119 : decode (ib f_World_slide) 119 = .ok (.goto (-94), 3) := by decide +kernel
theorem d_World_slide_122 : decode (ib f_World_slide) 122 = .ok (.return_, 1) := by decide +kernel
theorem d_World_growOld_0 : decode (ib f_World_growOld) 0 = .ok (.iconst 0, 1) := by decide +kernel
theorem d_World_growOld_1 : decode (ib f_World_growOld) 1 = .ok (.istore_n 1, 1) := by decide +kernel
theorem d_World_growOld_2 : decode (ib f_World_growOld) 2 = .ok (.iload_n 1, 1) := by decide +kernel
theorem d_World_growOld_3 : decode (ib f_World_growOld) 3 = .ok (.aload_n 0, 1) := by decide +kernel
theorem d_World_growOld_4 : decode (ib f_World_growOld) 4 = .ok (.getfield 36, 3) := by decide +kernel
theorem d_World_growOld_7 : decode (ib f_World_growOld) 7 = .ok (.if_icmp .ge 35, 3) := by decide +kernel
theorem d_World_growOld_10 : decode (ib f_World_growOld) 10 = .ok (.aload_n 0, 1) := by decide +kernel
theorem d_World_growOld_11 : decode (ib f_World_growOld) 11 = .ok (.getfield 23, 3) := by decide +kernel
theorem d_World_growOld_14 : decode (ib f_World_growOld) 14 = .ok (.iload_n 1, 1) := by decide +kernel
theorem d_World_growOld_15 : decode (ib f_World_growOld) 15 = .ok (.aaload, 1) := by decide +kernel
theorem d_World_growOld_16 : decode (ib f_World_growOld) 16 = .ok (.sipush 999, 3) := by decide +kernel
theorem d_World_growOld_19 : decode (ib f_World_growOld) 19 = .ok (.aload_n 0, 1) := by decide +kernel
theorem d_World_growOld_20 : decode (ib f_World_growOld) 20 = .ok (.getfield 23, 3) := by decide +kernel
theorem d_World_growOld_23 : decode (ib f_World_growOld) 23 = .ok (.iload_n 1, 1) := by decide +kernel
theorem d_World_growOld_24 : decode (ib f_World_growOld) 24 = .ok (.aaload, 1) := by decide +kernel
theorem d_World_growOld_25 : decode (ib f_World_growOld) 25 = .ok (.getfield 114, 3) := by decide +kernel
theorem d_World_growOld_28 : decode (ib f_World_growOld) 28 = .ok (.iconst 1, 1) := by decide +kernel
theorem d_World_growOld_29 : decode (ib f_World_growOld) 29 = .ok (.iadd, 1) := by decide +kernel
theorem d_World_growOld_30 : decode (ib f_World_growOld) 30 = .ok (.invokestatic 96, 3) := by decide +kernel
theorem d_World_growOld_33 : decode (ib f_World_growOld) 33 = .ok (.putfield 114, 3) := by decide +kernel
theorem d_World_growOld_36 : decode (ib f_World_growOld) 36 = .ok (.iinc 1 1, 3) := by decide +kernel
theorem d_World_growOld_39 : decode (ib f_World_growOld) 39 = .ok (.goto (-37), 3) := by decide +kernel
theorem d_World_growOld_42 : decode (ib f_World_growOld) 42 = .ok (.iconst 0, 1) := by decide +kernel
theorem d_World_growOld_43 : decode (ib f_World_growOld) 43 = .ok (.istore_n 1, 1) := by decide +kernel
theorem d_World_growOld_44 : decode (ib f_World_growOld) 44 = .ok (.iload_n 1, 1) := by decide +kernel
theorem d_World_growOld_45 : decode (ib f_World_growOld) 45 = .ok (.bipush 60, 2) := by decide +kernel
theorem d_World_growOld_47 : decode (ib f_World_growOld) 47 = .ok (.if_icmp .ge 43, 3) := by decide +kernel
theorem d_World_growOld_50 : decode (ib f_World_growOld) 50 = .ok (.aload_n 0, 1) := by decide +kernel
theorem d_World_growOld_51 : decode (ib f_World_growOld) 51 = .ok (.getfield 46, 3) := by decide +kernel
theorem d_World_growOld_54 : decode (ib f_World_growOld) 54 = .ok (.iconst 4, 1) := by decide +kernel
theorem d_World_growOld_55 : decode (ib f_World_growOld) 55 = .ok (.if_icmp .le 35, 3) := by decide +kernel
theorem d_World_growOld_58 : decode (ib f_World_growOld) 58 = .ok (.aload_n 0, 1) := by decide +kernel
theorem d_World_growOld_59 : decode (ib f_World_growOld) 59 = .ok (.iload_n 1, 1) := by decide +kernel
theorem d_World_growOld_60 : decode (ib f_World_growOld) 60 = .ok (.invokevirtual 81, 3) := by decide +kernel
theorem d_World_growOld_63 : decode (ib f_World_growOld) 63 = .ok (.ifCond .ne 21, 3) := by decide +kernel
theorem d_World_growOld_66 : decode (ib f_World_growOld) 66 = .ok (.aload_n 0, 1) := by decide +kernel
theorem d_World_growOld_67 : decode (ib f_World_growOld) 67 = .ok (.getfield 9, 3) := by decide +kernel
theorem d_World_growOld_70 : decode (ib f_World_growOld) 70 = .ok (.iload_n 1, 1) := by decide +kernel
theorem d_World_growOld_71 : decode (ib f_World_growOld) 71 = .ok (.iconst 0, 1) := by decide +kernel
theorem d_World_growOld_72 : decode (ib f_World_growOld) 72 = .ok (.aload_n 0, 1) := by decide +kernel
theorem d_World_growOld_73 : decode (ib f_World_growOld) 73 = .ok (.getfield 9, 3) := by decide +kernel
theorem d_World_growOld_76 : decode (ib f_World_growOld) 76 = .ok (.iload_n 1, 1) := by decide +kernel
theorem d_World_growOld_77 : decode (ib f_World_growOld) 77 = .ok (.iaload, 1) := by decide +kernel
theorem d_World_growOld_78 : decode (ib f_World_growOld) 78 = .ok (.iconst 1, 1) := by decide +kernel
theorem d_World_growOld_79 : decode (ib f_World_growOld) 79 = .ok (.isub, 1) := by decide +kernel
theorem d_World_growOld_80 : decode (ib f_World_growOld) 80 = .ok (.invokestatic 171, 3) := by decide +kernel
theorem d_World_growOld_83 : decode (ib f_World_growOld) 83 = .ok (.iastore, 1) := by decide +kernel
theorem d_World_growOld_84 : decode (ib f_World_growOld) 84 = .ok (.iinc 1 1, 3) := by decide +kernel
theorem d_World_growOld_87 : decode (ib f_World_growOld) 87 = .ok (.goto (-43), 3) := by decide +kernel
theorem d_World_growOld_90 : decode (ib f_World_growOld) 90 = .ok (.aload_n 0, 1) := by decide +kernel
theorem d_World_growOld_91 : decode (ib f_World_growOld) 91 = .ok (.dup, 1) := by decide +kernel
theorem d_World_growOld_92 : decode (ib f_World_growOld) 92 = .ok (.getfield 58, 3) := by decide +kernel
theorem d_World_growOld_95 : decode (ib f_World_growOld) 95 = .ok (.iconst 1, 1) := by decide +kernel
theorem d_World_growOld_96 : decode (ib f_World_growOld) 96 = .ok (.iadd, 1) := by decide +kernel
theorem d_World_growOld_97 : decode (ib f_World_growOld) 97 = .ok (.putfield 58, 3) := by decide +kernel
theorem d_World_growOld_100 : decode (ib f_World_growOld) 100 = .ok (.return_, 1) := by decide +kernel
theorem d_Rec_init_0 : decode (ib f_Rec_init) 0 = .ok (.aload_n 0, 1) := by decide +kernel
theorem d_Rec_init_1 : decode (ib f_Rec_init) 1 = .ok (.invokespecial 3, 3) := by decide +kernel
theorem d_Rec_init_4 : decode (ib f_Rec_init) 4 = .ok (.aload_n 0, 1) := by decide +kernel
theorem d_Rec_init_5 : decode (ib f_Rec_init) 5 = .ok (.new 9, 3) := by decide +kernel
theorem d_Rec_init_8 : decode (ib f_Rec_init) 8 = .ok (.dup, 1) := by decide +kernel
theorem d_Rec_init_9 : decode (ib f_Rec_init) 9 = .ok (.invokespecial 11, 3) := by decide +kernel
theorem d_Rec_init_12 : decode (ib f_Rec_init) 12 = .ok (.putfield 12, 3) := by decide +kernel
theorem d_Rec_init_15 : decode (ib f_Rec_init) 15 = .ok (.aload_n 0, 1) := by decide +kernel
theorem d_Rec_init_16 : decode (ib f_Rec_init) 16 = .ok (.new 16, 3) := by decide +kernel
theorem d_Rec_init_19 : decode (ib f_Rec_init) 19 = .ok (.dup, 1) := by decide +kernel
theorem d_Rec_init_20 : decode (ib f_Rec_init) 20 = .ok (.invokespecial 18, 3) := by decide +kernel
theorem d_Rec_init_23 : decode (ib f_Rec_init) 23 = .ok (.putfield 19, 3) := by decide +kernel
theorem d_Rec_init_26 : decode (ib f_Rec_init) 26 = .ok (.aload_n 0, 1) := by decide +kernel
theorem d_Rec_init_27 : decode (ib f_Rec_init) 27 = .ok (.new 9, 3) := by decide +kernel
theorem d_Rec_init_30 : decode (ib f_Rec_init) 30 = .ok (.dup, 1) := by decide +kernel
theorem d_Rec_init_31 : decode (ib f_Rec_init) 31 = .ok (.invokespecial 11, 3) := by decide +kernel
theorem d_Rec_init_34 : decode (ib f_Rec_init) 34 = .ok (.putfield 23, 3) := by decide +kernel
theorem d_Rec_init_37 : decode (ib f_Rec_init) 37 = .ok (.aload_n 0, 1) := by decide +kernel
theorem d_Rec_init_38 : decode (ib f_Rec_init) 38 = .ok (.new 16, 3) := by decide +kernel
theorem d_Rec_init_41 : decode (ib f_Rec_init) 41 = .ok (.dup, 1) := by decide +kernel
theorem d_Rec_init_42 : decode (ib f_Rec_init) 42 = .ok (.invokespecial 18, 3) := by decide +kernel
theorem d_Rec_init_45 : decode (ib f_Rec_init) 45 = .ok (.putfield 26, 3) := by decide +kernel
theorem d_Rec_init_48 : decode (ib f_Rec_init) 48 = .ok (.aload_n 0, 1) := by decide +kernel
theorem d_Rec_init_49 : decode (ib f_Rec_init) 49 = .ok (.iconst 0, 1) := by decide +kernel
theorem d_Rec_init_50 : decode (ib f_Rec_init) 50 = .ok (.putfield 29, 3) := by decide +kernel
theorem d_Rec_init_53 : decode (ib f_Rec_init) 53 = .ok (.aload_n 0, 1) := by decide +kernel
theorem d_Rec_init_54 : decode (ib f_Rec_init) 54 = .ok (.bipush 6, 2) := by decide +kernel
theorem d_Rec_init_56 : decode (ib f_Rec_init) 56 = .ok (.anewarray 9, 3) := by decide +kernel
theorem d_Rec_init_59 : decode (ib f_Rec_init) 59 = .ok (.putfield 33, 3) := by decide +kernel
theorem d_Rec_init_62 : decode (ib f_Rec_init) 62 = .ok (.aload_n 0, 1) := by decide +kernel
theorem d_Rec_init_63 : decode (ib f_Rec_init) 63 = .ok (.iconst 0, 1) := by decide +kernel
theorem d_Rec_init_64 : decode (ib f_Rec_init) 64 = .ok (.putfield 37, 3) := by decide +kernel
theorem d_Rec_init_67 : decode (ib f_Rec_init) 67 = .ok (.aload_n 0, 1) := by decide +kernel
theorem d_Rec_init_68 : decode (ib f_Rec_init) 68 = .ok (.iconst 0, 1) := by decide +kernel
theorem d_Rec_init_69 : decode (ib f_Rec_init) 69 = .ok (.putfield 41, 3) := by decide +kernel
theorem d_Rec_init_72 : decode (ib f_Rec_init) 72 = .ok (.aload_n 0, 1) := by decide +kernel
theorem d_Rec_init_73 : decode (ib f_Rec_init) 73 = .ok (.new 44, 3) := by decide +kernel
theorem d_Rec_init_76 : decode (ib f_Rec_init) 76 = .ok (.dup, 1) := by decide +kernel
theorem d_Rec_init_77 : decode (ib f_Rec_init) 77 = .ok (.invokespecial 46, 3) := by decide +kernel
theorem d_Rec_init_80 : decode (ib f_Rec_init) 80 = .ok (.putfield 47, 3) := by decide +kernel
theorem d_Rec_init_83 : decode (ib f_Rec_init) 83 = .ok (.aload_n 0, 1) := by decide +kernel
theorem d_Rec_init_84 : decode (ib f_Rec_init) 84 = .ok (.new 9, 3) := by decide +kernel
theorem d_Rec_init_87 : decode (ib f_Rec_init) 87 = .ok (.dup, 1) := by decide +kernel
theorem d_Rec_init_88 : decode (ib f_Rec_init) 88 = .ok (.invokespecial 11, 3) := by decide +kernel
theorem d_Rec_init_91 : decode (ib f_Rec_init) 91 = .ok (.putfield 51, 3) := by decide +kernel
theorem d_Rec_init_94 : decode (ib f_Rec_init) 94 = .ok (.aload_n 0, 1) := by decide +kernel
theorem d_Rec_init_95 : decode (ib f_Rec_init) 95 = .ok (.new 54, 3) := by decide +kernel
theorem d_Rec_init_98 : decode (ib f_Rec_init) 98 = .ok (.dup, 1) := by decide +kernel
theorem d_Rec_init_99 : decode (ib f_Rec_init) 99 = .ok (.invokespecial 56, 3) := by decide +kernel
theorem d_Rec_init_102 : decode (ib f_Rec_init) 102 = .ok (.putfield 57, 3) := by decide +kernel
theorem d_Rec_init_105 : decode (ib f_Rec_init) 105 = .ok (.aload_n 0, 1) := by decide +kernel
theorem d_Rec_init_106 : decode (ib f_Rec_init) 106 = .ok (.new 61, 3) := by decide +kernel
theorem d_Rec_init_109 : decode (ib f_Rec_init) 109 = .ok (.dup, 1) := by decide +kernel
theorem d_Rec_init_110 : decode (ib f_Rec_init) 110 = .ok (.invokespecial 63, 3) := by decide +kernel
theorem d_Rec_init_113 : decode (ib f_Rec_init) 113 = .ok (.putfield 64, 3) := by decide +kernel
theorem d_Rec_init_116 : decode (ib f_Rec_init) 116 = .ok (.aload_n 0, 1) := by decide +kernel
theorem d_Rec_init_117 : decode (ib f_Rec_init) 117 = .ok (.new 68, 3) := by decide +kernel
theorem d_Rec_init_120 : decode (ib f_Rec_init) 120 = .ok (.dup, 1) := by decide +kernel
theorem d_Rec_init_121 : decode (ib f_Rec_init) 121 = .ok (.invokespecial 70, 3) := by decide +kernel
theorem d_Rec_init_124 : decode (ib f_Rec_init) 124 = .ok (.putfield 71, 3) := by decide +kernel
theorem d_Rec_init_127 : decode (ib f_Rec_init) 127 = .ok (.iconst 0, 1) := by decide +kernel
theorem d_Rec_init_128 : decode (ib f_Rec_init) 128 = .ok (.istore_n 1, 1) := by decide +kernel
theorem d_Rec_init_129 : decode (ib f_Rec_init) 129 = .ok (.iload_n 1, 1) := by decide +kernel
theorem d_Rec_init_130 : decode (ib f_Rec_init) 130 = .ok (.bipush 6, 2) := by decide +kernel
theorem d_Rec_init_132 : decode (ib f_Rec_init) 132 = .ok (.if_icmp .ge 22, 3) := by decide +kernel
theorem d_Rec_init_135 : decode (ib f_Rec_init) 135 = .ok (.aload_n 0, 1) := by decide +kernel
theorem d_Rec_init_136 : decode (ib f_Rec_init) 136 = .ok (.getfield 33, 3) := by decide +kernel
theorem d_Rec_init_139 : decode (ib f_Rec_init) 139 = .ok (.iload_n 1, 1) := by decide +kernel
theorem d_Rec_init_140 : decode (ib f_Rec_init) 140 = .ok (.new 9, 3) := by decide +kernel
theorem d_Rec_init_143 : decode (ib f_Rec_init) 143 = .ok (.dup, 1) := by decide +kernel
theorem d_Rec_init_144 : decode (ib f_Rec_init) 144 = .ok (.invokespecial 11, 3) := by decide +kernel
theorem d_Rec_init_147 : decode (ib f_Rec_init) 147 = .ok (.aastore, 1) := by decide +kernel
theorem d_Rec_init_148 : decode (ib f_Rec_init) 148 = .ok (.iinc 1 1, 3) := by decide +kernel
theorem d_Rec_init_151 : decode (ib f_Rec_init) 151 = .ok (.goto (-22), 3) := by decide +kernel
theorem d_Rec_init_154 : decode (ib f_Rec_init) 154 = .ok (.return_, 1) := by decide +kernel
theorem d_Rec_state_0 : decode (ib f_Rec_state) 0 = .ok (.aload_n 0, 1) := by decide +kernel
theorem d_Rec_state_1 : decode (ib f_Rec_state) 1 = .ok (.getfield 12, 3) := by decide +kernel
theorem d_Rec_state_4 : decode (ib f_Rec_state) 4 = .ok (.getfield 75, 3) := by decide +kernel
theorem d_Rec_state_7 : decode (ib f_Rec_state) 7 = .ok (.istore_n 2, 1) := by decide +kernel
theorem d_Rec_state_8 : decode (ib f_Rec_state) 8 = .ok (.aload_n 0, 1) := by decide +kernel
theorem d_Rec_state_9 : decode (ib f_Rec_state) 9 = .ok (.getfield 12, 3) := by decide +kernel
theorem d_Rec_state_12 : decode (ib f_Rec_state) 12 = .ok (.iload_n 1, 1) := by decide +kernel
theorem d_Rec_state_13 : decode (ib f_Rec_state) 13 = .ok (.putfield 75, 3) := by decide +kernel
theorem d_Rec_state_16 : decode (ib f_Rec_state) 16 = .ok (.aload_n 0, 1) := by decide +kernel
theorem d_Rec_state_17 : decode (ib f_Rec_state) 17 = .ok (.invokevirtual 78, 3) := by decide +kernel
theorem d_Rec_state_20 : decode (ib f_Rec_state) 20 = .ok (.iload_n 2, 1) := by decide +kernel
theorem d_Rec_state_21 : decode (ib f_Rec_state) 21 = .ok (.ireturn, 1) := by decide +kernel
theorem d_Rec_set_0 : decode (ib f_Rec_set) 0 = .ok (.iload_n 1, 1) := by decide +kernel
theorem d_Rec_set_1 : decode (ib f_Rec_set) 1 = .ok (.ifCond .ne 12, 3) := by decide +kernel
theorem d_Rec_set_4 : decode (ib f_Rec_set) 4 = .ok (.aload_n 0, 1) := by decide +kernel
theorem d_Rec_set_5 : decode (ib f_Rec_set) 5 = .ok (.iload_n 2, 1) := by decide +kernel
theorem d_Rec_set_6 : decode (ib f_Rec_set) 6 = .ok (.iload_n 3, 1) := by decide +kernel
theorem d_Rec_set_7 : decode (ib f_Rec_set) 7 = .ok (.invokevirtual 81, 3) := by decide +kernel
theorem d_Rec_set_10 : decode (ib f_Rec_set) 10 = .ok (.goto 35, 3) := by decide +kernel
theorem d_Rec_set_13 : decode (ib f_Rec_set) 13 = .ok (.iload_n 1, 1) := by decide +kernel
theorem d_Rec_set_14 : decode (ib f_Rec_set) 14 = .ok (.iconst 4, 1) := by decide +kernel
theorem d_Rec_set_15 : decode (ib f_Rec_set) 15 = .ok (.if_icmp .eq 8, 3) := by decide +kernel
theorem d_Rec_set_18 : decode (ib f_Rec_set) 18 = .ok (.iload_n 1, 1) := by decide +kernel
theorem d_Rec_set_19 : decode (ib f_Rec_set) 19 = .ok (.iconst 5, 1) := by decide +kernel
theorem d_Rec_set_20 : decode (ib f_Rec_set) 20 = .ok (.if_icmp .ne 12, 3) := by decide +kernel
theorem d_Rec_set_23 : decode (ib f_Rec_set) 23 = .ok (.aload_n 0, 1) := by decide +kernel
theorem d_Rec_set_24 : decode (ib f_Rec_set) 24 = .ok (.iload_n 1, 1) := by decide +kernel
theorem d_Rec_set_25 : decode (ib f_Rec_set) 25 = .ok (.iload_n 3, 1) := by decide +kernel
theorem d_Rec_set_26 : decode (ib f_Rec_set) 26 = .ok (.invokevirtual 85, 3) := by decide +kernel
theorem d_Rec_set_29 : decode (ib f_Rec_set) 29 = .ok (.goto 16, 3) := by decide +kernel
theorem d_Rec_set_32 : decode (ib f_Rec_set) 32 = .ok (.iload_n 1, 1) := by decide +kernel
theorem d_Rec_set_33 : decode (ib f_Rec_set) 33 = .ok (.aload_n 0, 1) := by decide +kernel
theorem d_Rec_set_34 : decode (ib f_Rec_set) 34 = .ok (.getfield 12, 3) := by decide +kernel
theorem d_Rec_set_37 : decode (ib f_Rec_set) 37 = .ok (.iload_n 2, 1) := by decide +kernel
theorem d_Rec_set_38 : decode (ib f_Rec_set) 38 = .ok (.invokevirtual 88, 3) := by decide +kernel
theorem d_Rec_set_41 : decode (ib f_Rec_set) 41 = .ok (.iload_n 3, 1) := by decide +kernel
theorem d_Rec_set_42 : decode (ib f_Rec_set) 42 = .ok (.invokestatic 92, 3) := by decide +kernel
theorem d_Rec_set_45 : decode (ib f_Rec_set) 45 = .ok (.istore 4, 2) := by decide +kernel
theorem d_Rec_set_47 : decode (ib f_Rec_set) 47 = .ok (.iload 4, 2) := by decide +kernel
theorem d_Rec_set_49 : decode (ib f_Rec_set) 49 = .ok (.ifCond .eq 7, 3) := by decide +kernel
theorem d_Rec_set_52 : decode (ib f_Rec_set) 52 = .ok (.aload_n 0, 1) := by decide +kernel
theorem d_Rec_set_53 : decode (ib f_Rec_set) 53 = .ok (.invokevirtual 78, 3) := by decide +kernel
theorem d_Rec_set_56 : decode (ib f_Rec_set) 56 = .ok (.iload 4, 2) := by decide +kernel
theorem d_Rec_set_58 : decode (ib f_Rec_set) 58 = .ok (.ireturn, 1) := by decide +kernel
theorem d_Rec_setGlue_0 : decode (ib f_Rec_setGlue) 0 = .ok (.iload_n 1, 1) := by decide +kernel
theorem d_Rec_setGlue_1 : decode (ib f_Rec_setGlue) 1 = .ok (.iconst 0, 1) := by decide +kernel
theorem d_Rec_setGlue_2 : decode (ib f_Rec_setGlue) 2 = .ok (.bipush 59, 2) := by decide +kernel
theorem d_Rec_setGlue_4 : decode (ib f_Rec_setGlue) 4 = .ok (.invokestatic 96, 3) := by decide +kernel
theorem d_Rec_setGlue_7 : decode (ib f_Rec_setGlue) 7 = .ok (.ifCond .eq 13, 3) := by decide +kernel
theorem d_Rec_setGlue_10 : decode (ib f_Rec_setGlue) 10 = .ok (.iload_n 2, 1) := by decide +kernel
theorem d_Rec_setGlue_11 : decode (ib f_Rec_setGlue) 11 = .ok (.iconst 0, 1) := by decide +kernel
theorem d_Rec_setGlue_12 : decode (ib f_Rec_setGlue) 12 = .ok (.bipush 99, 2) := by decide +kernel
theorem d_Rec_setGlue_14 : decode (ib f_Rec_setGlue) 14 = .ok (.invokestatic 96, 3) := by decide +kernel
theorem d_Rec_setGlue_17 : decode (ib f_Rec_setGlue) 17 = .ok (.ifCond .ne 5, 3) := by decide +kernel
theorem d_Rec_setGlue_20 : decode (ib f_Rec_setGlue) 20 = .ok (.iconst 0, 1) := by decide +kernel
theorem d_Rec_setGlue_21 : decode (ib f_Rec_setGlue) 21 = .ok (.ireturn, 1) := by decide +kernel
theorem d_Rec_setGlue_22 : decode (ib f_Rec_setGlue) 22 = .ok (.aload_n 0, 1) := by decide +kernel
theorem d_Rec_setGlue_23 : decode (ib f_Rec_setGlue) 23 = .ok (.getfield 12, 3) := by decide +kernel
theorem d_Rec_setGlue_26 : decode (ib f_Rec_setGlue) 26 = .ok (.getfield 100, 3) := by decide +kernel
theorem d_Rec_setGlue_29 : decode (ib f_Rec_setGlue) 29 = .ok (.iload_n 1, 1) := by decide +kernel
theorem d_Rec_setGlue_30 : decode (ib f_Rec_setGlue) 30 = .ok (.iload_n 2, 1) := by decide +kernel
theorem d_Rec_setGlue_31 : decode (ib f_Rec_setGlue) 31 = .ok (.iastore, 1) := by decide +kernel
theorem d_Rec_setGlue_32 : decode (ib f_Rec_setGlue) 32 = .ok (.iconst 1, 1) := by decide +kernel
theorem d_Rec_setGlue_33 : decode (ib f_Rec_setGlue) 33 = .ok (.ireturn, 1) := by decide +kernel
theorem d_Rec_setSky_0 : decode (ib f_Rec_setSky) 0 = .ok (.iload_n 2, 1) := by decide +kernel
theorem d_Rec_setSky_1 : decode (ib f_Rec_setSky) 1 = .ok (.iconst 0, 1) := by decide +kernel
theorem d_Rec_setSky_2 : decode (ib f_Rec_setSky) 2 = .ok (.bipush 9, 2) := by decide +kernel
theorem d_Rec_setSky_4 : decode (ib f_Rec_setSky) 4 = .ok (.invokestatic 96, 3) := by decide +kernel
theorem d_Rec_setSky_7 : decode (ib f_Rec_setSky) 7 = .ok (.ifCond .ne 5, 3) := by decide +kernel
theorem d_Rec_setSky_10 : decode (ib f_Rec_setSky) 10 = .ok (.iconst 0, 1) := by decide +kernel
theorem d_Rec_setSky_11 : decode (ib f_Rec_setSky) 11 = .ok (.ireturn, 1) := by decide +kernel
theorem d_Rec_setSky_12 : decode (ib f_Rec_setSky) 12 = .ok (.iload_n 1, 1) := by decide +kernel
theorem d_Rec_setSky_13 : decode (ib f_Rec_setSky) 13 = .ok (.iconst 4, 1) := by decide +kernel
theorem d_Rec_setSky_14 : decode (ib f_Rec_setSky) 14 = .ok (.if_icmp .ne 14, 3) := by decide +kernel
theorem d_Rec_setSky_17 : decode (ib f_Rec_setSky) 17 = .ok (.aload_n 0, 1) := by decide +kernel
theorem d_Rec_setSky_18 : decode (ib f_Rec_setSky) 18 = .ok (.getfield 12, 3) := by decide +kernel
theorem d_Rec_setSky_21 : decode (ib f_Rec_setSky) 21 = .ok (.iload_n 2, 1) := by decide +kernel
theorem d_Rec_setSky_22 : decode (ib f_Rec_setSky) 22 = .ok (.putfield 104, 3) := by decide +kernel
theorem d_Rec_setSky_25 : decode (ib f_Rec_setSky) 25 = .ok (.goto 11, 3) := by decide +kernel
theorem d_Rec_setSky_28 : decode (ib f_Rec_setSky) 28 = .ok (.aload_n 0, 1) := by decide +kernel
theorem d_Rec_setSky_29 : decode (ib f_Rec_setSky) 29 = .ok (.getfield 12, 3) := by decide +kernel
theorem d_Rec_setSky_32 : decode (ib f_Rec_setSky) 32 = .ok (.iload_n 2, 1) := by decide +kernel
theorem d_Rec_setSky_33 : decode (ib f_Rec_setSky) 33 = .ok (.putfield 107, 3) := by decide +kernel
theorem d_Rec_setSky_36 : decode (ib f_Rec_setSky) 36 = .ok (.iconst 1, 1) := by decide +kernel
theorem d_Rec_setSky_37 : decode (ib f_Rec_setSky) 37 = .ok (.ireturn, 1) := by decide +kernel
theorem d_Rec_setThing_0 : decode (ib f_Rec_setThing) 0 = .ok (.aload_n 1, 1) := by decide +kernel
theorem d_Rec_setThing_1 : decode (ib f_Rec_setThing) 1 = .ok (.ifnonnull 5, 3) := by decide +kernel
theorem d_Rec_setThing_4 : decode (ib f_Rec_setThing) 4 = .ok (.iconst 0, 1) := by decide +kernel
theorem d_Rec_setThing_5 : decode (ib f_Rec_setThing) 5 = .ok (.ireturn, 1) := by decide +kernel
theorem d_Rec_setThing_6 : decode (ib f_Rec_setThing) 6 = .ok (.iload_n 0, 1) := by decide +kernel
theorem d_Rec_setThing_7 : decode (ib f_Rec_setThing) 7 = .ok (.iconst 1, 1) := by decide +kernel
theorem d_Rec_setThing_8 : decode (ib f_Rec_setThing) 8 = .ok (.if_icmp .ne 21, 3) := by decide +kernel
theorem d_Rec_setThing_11 : decode (ib f_Rec_setThing) 11 = .ok (.iload_n 2, 1) := by decide +kernel
theorem d_Rec_setThing_12 : decode (ib f_Rec_setThing) 12 = .ok (.iconst 1, 1) := by decide +kernel
theorem d_Rec_setThing_13 : decode (ib f_Rec_setThing) 13 = .ok (.bipush 9, 2) := by decide +kernel
theorem d_Rec_setThing_15 : decode (ib f_Rec_setThing) 15 = .ok (.invokestatic 96, 3) := by decide +kernel
theorem d_Rec_setThing_18 : decode (ib f_Rec_setThing) 18 = .ok (.ifCond .eq 11, 3) := by decide +kernel
theorem d_Rec_setThing_21 : decode (ib f_Rec_setThing) 21 = .ok (.aload_n 1, 1) := by decide +kernel
theorem d_Rec_setThing_22 : decode (ib f_Rec_setThing) 22 = .ok (.iload_n 2, 1) := by decide +kernel
theorem d_Rec_setThing_23 : decode (ib f_Rec_setThing) 23 = .ok (.putfield 110, 3) := by decide +kernel
theorem d_Rec_setThing_26 : decode (ib f_Rec_setThing) 26 = .ok (.goto 51, 3) := by decide +kernel
theorem d_Rec_setThing_29 : decode (ib f_Rec_setThing) 29 = .ok (.iload_n 0, 1) := by decide +kernel
theorem d_Rec_setThing_30 : decode (ib f_Rec_setThing) 30 = .ok (.iconst 2, 1) := by decide +kernel
theorem d_Rec_setThing_31 : decode (ib f_Rec_setThing) 31 = .ok (.if_icmp .ne 21, 3) := by decide +kernel
theorem d_Rec_setThing_34 : decode (ib f_Rec_setThing) 34 = .ok (.iload_n 2, 1) := by decide +kernel
theorem d_Rec_setThing_35 : decode (ib f_Rec_setThing) 35 = .ok (.iconst 0, 1) := by decide +kernel
theorem d_Rec_setThing_36 : decode (ib f_Rec_setThing) 36 = .ok (.bipush 9, 2) := by decide +kernel
theorem d_Rec_setThing_38 : decode (ib f_Rec_setThing) 38 = .ok (.invokestatic 96, 3) := by decide +kernel
theorem d_Rec_setThing_41 : decode (ib f_Rec_setThing) 41 = .ok (.ifCond .eq 11, 3) := by decide +kernel
theorem d_Rec_setThing_44 : decode (ib f_Rec_setThing) 44 = .ok (.aload_n 1, 1) := by decide +kernel
theorem d_Rec_setThing_45 : decode (ib f_Rec_setThing) 45 = .ok (.iload_n 2, 1) := by decide +kernel
theorem d_Rec_setThing_46 : decode (ib f_Rec_setThing) 46 = .ok (.putfield 115, 3) := by decide +kernel
theorem d_Rec_setThing_49 : decode (ib f_Rec_setThing) 49 = .ok (.goto 28, 3) := by decide +kernel
theorem d_Rec_setThing_52 : decode (ib f_Rec_setThing) 52 = .ok (.iload_n 0, 1) := by decide +kernel
theorem d_Rec_setThing_53 : decode (ib f_Rec_setThing) 53 = .ok (.iconst 3, 1) := by decide +kernel
theorem d_Rec_setThing_54 : decode (ib f_Rec_setThing) 54 = .ok (.if_icmp .ne 21, 3) := by decide +kernel
theorem d_Rec_setThing_57 : decode (ib f_Rec_setThing) 57 = .ok (.iload_n 2, 1) := by decide +kernel
theorem d_Rec_setThing_58 : decode (ib f_Rec_setThing) 58 = .ok (.iconst 0, 1) := by decide +kernel
theorem d_Rec_setThing_59 : decode (ib f_Rec_setThing) 59 = .ok (.bipush 6, 2) := by decide +kernel
theorem d_Rec_setThing_61 : decode (ib f_Rec_setThing) 61 = .ok (.invokestatic 96, 3) := by decide +kernel
theorem d_Rec_setThing_64 : decode (ib f_Rec_setThing) 64 = .ok (.ifCond .eq 11, 3) := by decide +kernel
theorem d_Rec_setThing_67 : decode (ib f_Rec_setThing) 67 = .ok (.aload_n 1, 1) := by decide +kernel
theorem d_Rec_setThing_68 : decode (ib f_Rec_setThing) 68 = .ok (.iload_n 2, 1) := by decide +kernel
theorem d_Rec_setThing_69 : decode (ib f_Rec_setThing) 69 = .ok (.putfield 118, 3) := by decide +kernel
theorem d_Rec_setThing_72 : decode (ib f_Rec_setThing) 72 = .ok (.goto 5, 3) := by decide +kernel
theorem d_Rec_setThing_75 : decode (ib f_Rec_setThing) 75 = .ok (.iconst 0, 1) := by decide +kernel
theorem d_Rec_setThing_76 : decode (ib f_Rec_setThing) 76 = .ok (.ireturn, 1) := by decide +kernel
theorem d_Rec_setThing_77 : decode (ib f_Rec_setThing) 77 = .ok (.iconst 1, 1) := by decide +kernel
theorem d_Rec_setThing_78 : decode (ib f_Rec_setThing) 78 = .ok (.ireturn, 1) := by decide +kernel
theorem d_Rec_put_0 : decode (ib f_Rec_put) 0 = .ok (.iload_n 1, 1) := by decide +kernel
theorem d_Rec_put_1 : decode (ib f_Rec_put) 1 = .ok (.iconst 0, 1) := by decide +kernel
theorem d_Rec_put_2 : decode (ib f_Rec_put) 2 = .ok (.iconst 5, 1) := by decide +kernel
theorem d_Rec_put_3 : decode (ib f_Rec_put) 3 = .ok (.invokestatic 96, 3) := by decide +kernel
theorem d_Rec_put_6 : decode (ib f_Rec_put) 6 = .ok (.ifCond .eq 23, 3) := by decide +kernel
theorem d_Rec_put_9 : decode (ib f_Rec_put) 9 = .ok (.iload_n 2, 1) := by decide +kernel
theorem d_Rec_put_10 : decode (ib f_Rec_put) 10 = .ok (.iconst 1, 1) := by decide +kernel
theorem d_Rec_put_11 : decode (ib f_Rec_put) 11 = .ok (.bipush 9, 2) := by decide +kernel
theorem d_Rec_put_13 : decode (ib f_Rec_put) 13 = .ok (.invokestatic 96, 3) := by decide +kernel
theorem d_Rec_put_16 : decode (ib f_Rec_put) 16 = .ok (.ifCond .eq 13, 3) := by decide +kernel
theorem d_Rec_put_19 : decode (ib f_Rec_put) 19 = .ok (.iload_n 3, 1) := by decide +kernel
theorem d_Rec_put_20 : decode (ib f_Rec_put) 20 = .ok (.iconst 0, 1) := by decide +kernel
theorem d_Rec_put_21 : decode (ib f_Rec_put) 21 = .ok (.bipush 9, 2) := by decide +kernel
theorem d_Rec_put_23 : decode (ib f_Rec_put) 23 = .ok (.invokestatic 96, 3) := by decide +kernel
theorem d_Rec_put_26 : decode (ib f_Rec_put) 26 = .ok (.ifCond .ne 5, 3) := by decide +kernel
theorem d_Rec_put_29 : decode (ib f_Rec_put) 29 = .ok (.iconst (-1), 1) := by decide +kernel
theorem d_Rec_put_30 : decode (ib f_Rec_put) 30 = .ok (.ireturn, 1) := by decide +kernel
theorem d_Rec_put_31 : decode (ib f_Rec_put) 31 = .ok (.aload_n 0, 1) := by decide +kernel
theorem d_Rec_put_32 : decode (ib f_Rec_put) 32 = .ok (.getfield 12, 3) := by decide +kernel
theorem d_Rec_put_35 : decode (ib f_Rec_put) 35 = .ok (.iload 4, 2) := by decide +kernel
theorem d_Rec_put_37 : decode (ib f_Rec_put) 37 = .ok (.invokevirtual 121, 3) := by decide +kernel
theorem d_Rec_put_40 : decode (ib f_Rec_put) 40 = .ok (.ifCond .ne 5, 3) := by decide +kernel
theorem d_Rec_put_43 : decode (ib f_Rec_put) 43 = .ok (.iconst (-1), 1) := by decide +kernel
theorem d_Rec_put_44 : decode (ib f_Rec_put) 44 = .ok (.ireturn, 1) := by decide +kernel
theorem d_Rec_put_45 : decode (ib f_Rec_put) 45 = .ok (.aload_n 0, 1) := by decide +kernel
theorem d_Rec_put_46 : decode (ib f_Rec_put) 46 = .ok (.invokevirtual 125, 3) := by decide +kernel
theorem d_Rec_put_49 : decode (ib f_Rec_put) 49 = .ok (.aload_n 0, 1) := by decide +kernel
theorem d_Rec_put_50 : decode (ib f_Rec_put) 50 = .ok (.getfield 12, 3) := by decide +kernel
theorem d_Rec_put_53 : decode (ib f_Rec_put) 53 = .ok (.aload_n 0, 1) := by decide +kernel
theorem d_Rec_put_54 : decode (ib f_Rec_put) 54 = .ok (.getfield 12, 3) := by decide +kernel
theorem d_Rec_put_57 : decode (ib f_Rec_put) 57 = .ok (.iload_n 1, 1) := by decide +kernel
theorem d_Rec_put_58 : decode (ib f_Rec_put) 58 = .ok (.iload_n 2, 1) := by decide +kernel
theorem d_Rec_put_59 : decode (ib f_Rec_put) 59 = .ok (.iload_n 3, 1) := by decide +kernel
theorem d_Rec_put_60 : decode (ib f_Rec_put) 60 = .ok (.iload 4, 2) := by decide +kernel
theorem d_Rec_put_62 : decode (ib f_Rec_put) 62 = .ok (.invokevirtual 128, 3) := by decide +kernel
theorem d_Rec_put_65 : decode (ib f_Rec_put) 65 = .ok (.invokevirtual 132, 3) := by decide +kernel
theorem d_Rec_put_68 : decode (ib f_Rec_put) 68 = .ok (.ireturn, 1) := by decide +kernel
theorem d_Rec_act_0 : decode (ib f_Rec_act) 0 = .ok (.iload_n 1, 1) := by decide +kernel
theorem d_Rec_act_1 : decode (ib f_Rec_act) 1 = .ok (.ifCond .ne 28, 3) := by decide +kernel
theorem d_Rec_act_4 : decode (ib f_Rec_act) 4 = .ok (.aload_n 0, 1) := by decide +kernel
theorem d_Rec_act_5 : decode (ib f_Rec_act) 5 = .ok (.getfield 12, 3) := by decide +kernel
theorem d_Rec_act_8 : decode (ib f_Rec_act) 8 = .ok (.iload_n 2, 1) := by decide +kernel
theorem d_Rec_act_9 : decode (ib f_Rec_act) 9 = .ok (.invokevirtual 88, 3) := by decide +kernel
theorem d_Rec_act_12 : decode (ib f_Rec_act) 12 = .ok (.ifnull 17, 3) := by decide +kernel
theorem d_Rec_act_15 : decode (ib f_Rec_act) 15 = .ok (.aload_n 0, 1) := by decide +kernel
theorem d_Rec_act_16 : decode (ib f_Rec_act) 16 = .ok (.invokevirtual 125, 3) := by decide +kernel
theorem d_Rec_act_19 : decode (ib f_Rec_act) 19 = .ok (.aload_n 0, 1) := by decide +kernel
theorem d_Rec_act_20 : decode (ib f_Rec_act) 20 = .ok (.getfield 12, 3) := by decide +kernel
theorem d_Rec_act_23 : decode (ib f_Rec_act) 23 = .ok (.iload_n 2, 1) := by decide +kernel
theorem d_Rec_act_24 : decode (ib f_Rec_act) 24 = .ok (.invokevirtual 136, 3) := by decide +kernel
theorem d_Rec_act_27 : decode (ib f_Rec_act) 27 = .ok (.iconst 1, 1) := by decide +kernel
theorem d_Rec_act_28 : decode (ib f_Rec_act) 28 = .ok (.ireturn, 1) := by decide +kernel
theorem d_Rec_act_29 : decode (ib f_Rec_act) 29 = .ok (.iload_n 1, 1) := by decide +kernel
theorem d_Rec_act_30 : decode (ib f_Rec_act) 30 = .ok (.iconst 1, 1) := by decide +kernel
theorem d_Rec_act_31 : decode (ib f_Rec_act) 31 = .ok (.if_icmp .ne 39, 3) := by decide +kernel
theorem d_Rec_act_34 : decode (ib f_Rec_act) 34 = .ok (.iload_n 2, 1) := by decide +kernel
theorem d_Rec_act_35 : decode (ib f_Rec_act) 35 = .ok (.iconst 0, 1) := by decide +kernel
theorem d_Rec_act_36 : decode (ib f_Rec_act) 36 = .ok (.bipush 59, 2) := by decide +kernel
theorem d_Rec_act_38 : decode (ib f_Rec_act) 38 = .ok (.invokestatic 96, 3) := by decide +kernel
theorem d_Rec_act_41 : decode (ib f_Rec_act) 41 = .ok (.ifCond .eq 29, 3) := by decide +kernel
theorem d_Rec_act_44 : decode (ib f_Rec_act) 44 = .ok (.iload_n 3, 1) := by decide +kernel
theorem d_Rec_act_45 : decode (ib f_Rec_act) 45 = .ok (.iconst 0, 1) := by decide +kernel
theorem d_Rec_act_46 : decode (ib f_Rec_act) 46 = .ok (.bipush 99, 2) := by decide +kernel
theorem d_Rec_act_48 : decode (ib f_Rec_act) 48 = .ok (.invokestatic 96, 3) := by decide +kernel
theorem d_Rec_act_51 : decode (ib f_Rec_act) 51 = .ok (.ifCond .eq 19, 3) := by decide +kernel
theorem d_Rec_act_54 : decode (ib f_Rec_act) 54 = .ok (.aload_n 0, 1) := by decide +kernel
theorem d_Rec_act_55 : decode (ib f_Rec_act) 55 = .ok (.invokevirtual 125, 3) := by decide +kernel
theorem d_Rec_act_58 : decode (ib f_Rec_act) 58 = .ok (.aload_n 0, 1) := by decide +kernel
theorem d_Rec_act_59 : decode (ib f_Rec_act) 59 = .ok (.getfield 12, 3) := by decide +kernel
theorem d_Rec_act_62 : decode (ib f_Rec_act) 62 = .ok (.getfield 100, 3) := by decide +kernel
theorem d_Rec_act_65 : decode (ib f_Rec_act) 65 = .ok (.iload_n 2, 1) := by decide +kernel
theorem d_Rec_act_66 : decode (ib f_Rec_act) 66 = .ok (.iload_n 3, 1) := by decide +kernel
theorem d_Rec_act_67 : decode (ib f_Rec_act) 67 = .ok (.iastore, 1) := by decide +kernel
theorem d_Rec_act_68 : decode (ib f_Rec_act) 68 = .ok (.iconst 1, 1) := by decide +kernel
theorem d_Rec_act_69 : decode (ib f_Rec_act) 69 = .ok (.ireturn, 1) := by decide +kernel
theorem d_Rec_act_70 : decode (ib f_Rec_act) 70 = .ok (.iconst 0, 1) := by decide +kernel
theorem d_Rec_act_71 : decode (ib f_Rec_act) 71 = .ok (.ireturn, 1) := by decide +kernel
theorem d_Rec_days_0 : decode (ib f_Rec_days) 0 = .ok (.iload_n 1, 1) := by decide +kernel
theorem d_Rec_days_1 : decode (ib f_Rec_days) 1 = .ok (.iconst 1, 1) := by decide +kernel
theorem d_Rec_days_2 : decode (ib f_Rec_days) 2 = .ok (.bipush 60, 2) := by decide +kernel
theorem d_Rec_days_4 : decode (ib f_Rec_days) 4 = .ok (.invokestatic 96, 3) := by decide +kernel
theorem d_Rec_days_7 : decode (ib f_Rec_days) 7 = .ok (.ifCond .eq 18, 3) := by decide +kernel
theorem d_Rec_days_10 : decode (ib f_Rec_days) 10 = .ok (.aload_n 0, 1) := by decide +kernel
theorem d_Rec_days_11 : decode (ib f_Rec_days) 11 = .ok (.getfield 12, 3) := by decide +kernel
theorem d_Rec_days_14 : decode (ib f_Rec_days) 14 = .ok (.getfield 140, 3) := by decide +kernel
theorem d_Rec_days_17 : decode (ib f_Rec_days) 17 = .ok (.iload_n 1, 1) := by decide +kernel
theorem d_Rec_days_18 : decode (ib f_Rec_days) 18 = .ok (.iadd, 1) := by decide +kernel
theorem d_Rec_days_19 : decode (ib f_Rec_days) 19 = .ok (.sipush 9999, 3) := by decide +kernel
theorem d_Rec_days_22 : decode (ib f_Rec_days) 22 = .ok (.if_icmp .le 5, 3) := by decide +kernel
theorem d_Rec_days_25 : decode (ib f_Rec_days) 25 = .ok (.iconst (-1), 1) := by decide +kernel
theorem d_Rec_days_26 : decode (ib f_Rec_days) 26 = .ok (.ireturn, 1) := by decide +kernel
theorem d_Rec_days_27 : decode (ib f_Rec_days) 27 = .ok (.aload_n 0, 1) := by decide +kernel
theorem d_Rec_days_28 : decode (ib f_Rec_days) 28 = .ok (.getfield 12, 3) := by decide +kernel
theorem d_Rec_days_31 : decode (ib f_Rec_days) 31 = .ok (.getfield 143, 3) := by decide +kernel
theorem d_Rec_days_34 : decode (ib f_Rec_days) 34 = .ok (.istore_n 2, 1) := by decide +kernel
theorem d_Rec_days_35 : decode (ib f_Rec_days) 35 = .ok (.iconst 0, 1) := by decide +kernel
theorem d_Rec_days_36 : decode (ib f_Rec_days) 36 = .ok (.istore_n 3, 1) := by decide +kernel
theorem d_Rec_days_37 : decode (ib f_Rec_days) 37 = .ok (.iload_n 3, 1) := by decide +kernel
theorem d_Rec_days_38 : decode (ib f_Rec_days) 38 = .ok (.iload_n 1, 1) := by decide +kernel
theorem d_Rec_days_39 : decode (ib f_Rec_days) 39 = .ok (.if_icmp .ge 25, 3) := by decide +kernel
theorem d_Rec_days_42 : decode (ib f_Rec_days) 42 = .ok (.aload_n 0, 1) := by decide +kernel
theorem d_Rec_days_43 : decode (ib f_Rec_days) 43 = .ok (.invokevirtual 125, 3) := by decide +kernel
theorem d_Rec_days_46 : decode (ib f_Rec_days) 46 = .ok (.aload_n 0, 1) := by decide +kernel
theorem d_Rec_days_47 : decode (ib f_Rec_days) 47 = .ok (.getfield 12, 3) := by decide +kernel
theorem d_Rec_days_50 : decode (ib f_Rec_days) 50 = .ok (.aload_n 0, 1) := by decide +kernel
theorem d_Rec_days_51 : decode (ib f_Rec_days) 51 = .ok (.getfield 19, 3) := by decide +kernel
theorem d_Rec_days_54 : decode (ib f_Rec_days) 54 = .ok (.iconst 0, 1) := by decide +kernel
theorem d_Rec_days_55 : decode (ib f_Rec_days) 55 = .ok (.invokevirtual 146, 3) := by decide +kernel
theorem d_Rec_days_58 : decode (ib f_Rec_days) 58 = .ok (.iinc 3 1, 3) := by decide +kernel
theorem d_Rec_days_61 : decode (ib f_Rec_days) 61 = .ok (.goto (-24), 3) := by decide +kernel
theorem d_Rec_days_64 : decode (ib f_Rec_days) 64 = .ok (.aload_n 0, 1) := by decide +kernel
theorem d_Rec_days_65 : decode (ib f_Rec_days) 65 = .ok (.getfield 12, 3) := by decide +kernel
theorem d_Rec_days_68 : decode (ib f_Rec_days) 68 = .ok (.getfield 143, 3) := by decide +kernel
theorem d_Rec_days_71 : decode (ib f_Rec_days) 71 = .ok (.iload_n 2, 1) := by decide +kernel
theorem d_Rec_days_72 : decode (ib f_Rec_days) 72 = .ok (.isub, 1) := by decide +kernel
theorem d_Rec_days_73 : decode (ib f_Rec_days) 73 = .ok (.ireturn, 1) := by decide +kernel
theorem d_Rec_feed_0 : decode (ib f_Rec_feed) 0 = .ok (.aload_n 0, 1) := by decide +kernel
theorem d_Rec_feed_1 : decode (ib f_Rec_feed) 1 = .ok (.getfield 47, 3) := by decide +kernel
theorem d_Rec_feed_4 : decode (ib f_Rec_feed) 4 = .ok (.getfield 150, 3) := by decide +kernel
theorem d_Rec_feed_7 : decode (ib f_Rec_feed) 7 = .ok (.bipush 20, 2) := by decide +kernel
theorem d_Rec_feed_9 : decode (ib f_Rec_feed) 9 = .ok (.iadd, 1) := by decide +kernel
theorem d_Rec_feed_10 : decode (ib f_Rec_feed) 10 = .ok (.sipush 400, 3) := by decide +kernel
theorem d_Rec_feed_13 : decode (ib f_Rec_feed) 13 = .ok (.if_icmp .le 5, 3) := by decide +kernel
theorem d_Rec_feed_16 : decode (ib f_Rec_feed) 16 = .ok (.iconst (-1), 1) := by decide +kernel
theorem d_Rec_feed_17 : decode (ib f_Rec_feed) 17 = .ok (.ireturn, 1) := by decide +kernel
theorem d_Rec_feed_18 : decode (ib f_Rec_feed) 18 = .ok (.aload_n 0, 1) := by decide +kernel
theorem d_Rec_feed_19 : decode (ib f_Rec_feed) 19 = .ok (.getfield 47, 3) := by decide +kernel
theorem d_Rec_feed_22 : decode (ib f_Rec_feed) 22 = .ok (.iload_n 1, 1) := by decide +kernel
theorem d_Rec_feed_23 : decode (ib f_Rec_feed) 23 = .ok (.invokevirtual 153, 3) := by decide +kernel
theorem d_Rec_feed_26 : decode (ib f_Rec_feed) 26 = .ok (.aload_n 0, 1) := by decide +kernel
theorem d_Rec_feed_27 : decode (ib f_Rec_feed) 27 = .ok (.getfield 47, 3) := by decide +kernel
theorem d_Rec_feed_30 : decode (ib f_Rec_feed) 30 = .ok (.iload_n 2, 1) := by decide +kernel
theorem d_Rec_feed_31 : decode (ib f_Rec_feed) 31 = .ok (.invokevirtual 153, 3) := by decide +kernel
theorem d_Rec_feed_34 : decode (ib f_Rec_feed) 34 = .ok (.aload_n 0, 1) := by decide +kernel
theorem d_Rec_feed_35 : decode (ib f_Rec_feed) 35 = .ok (.getfield 47, 3) := by decide +kernel
theorem d_Rec_feed_38 : decode (ib f_Rec_feed) 38 = .ok (.iload_n 3, 1) := by decide +kernel
theorem d_Rec_feed_39 : decode (ib f_Rec_feed) 39 = .ok (.invokevirtual 153, 3) := by decide +kernel
theorem d_Rec_feed_42 : decode (ib f_Rec_feed) 42 = .ok (.aload_n 0, 1) := by decide +kernel
theorem d_Rec_feed_43 : decode (ib f_Rec_feed) 43 = .ok (.getfield 47, 3) := by decide +kernel
theorem d_Rec_feed_46 : decode (ib f_Rec_feed) 46 = .ok (.iload 4, 2) := by decide +kernel
theorem d_Rec_feed_48 : decode (ib f_Rec_feed) 48 = .ok (.invokevirtual 153, 3) := by decide +kernel
theorem d_Rec_feed_51 : decode (ib f_Rec_feed) 51 = .ok (.aload_n 0, 1) := by decide +kernel
theorem d_Rec_feed_52 : decode (ib f_Rec_feed) 52 = .ok (.getfield 47, 3) := by decide +kernel
theorem d_Rec_feed_55 : decode (ib f_Rec_feed) 55 = .ok (.iload 5, 2) := by decide +kernel
theorem d_Rec_feed_57 : decode (ib f_Rec_feed) 57 = .ok (.invokevirtual 153, 3) := by decide +kernel
theorem d_Rec_feed_60 : decode (ib f_Rec_feed) 60 = .ok (.aload_n 0, 1) := by decide +kernel
theorem d_Rec_feed_61 : decode (ib f_Rec_feed) 61 = .ok (.getfield 47, 3) := by decide +kernel
theorem d_Rec_feed_64 : decode (ib f_Rec_feed) 64 = .ok (.getfield 150, 3) := by decide +kernel
theorem d_Rec_feed_67 : decode (ib f_Rec_feed) 67 = .ok (.ireturn, 1) := by decide +kernel
theorem d_Rec_end_0 : decode (ib f_Rec_end) 0 = .ok (.iload_n 1, 1) := by decide +kernel
theorem d_Rec_end_1 : decode (ib f_Rec_end) 1 = .ok (.ifCond .lt 14, 3) := by decide +kernel
theorem d_Rec_end_4 : decode (ib f_Rec_end) 4 = .ok (.iload_n 1, 1) := by decide +kernel
theorem d_Rec_end_5 : decode (ib f_Rec_end) 5 = .ok (.aload_n 0, 1) := by decide +kernel
theorem d_Rec_end_6 : decode (ib f_Rec_end) 6 = .ok (.getfield 47, 3) := by decide +kernel
theorem d_Rec_end_9 : decode (ib f_Rec_end) 9 = .ok (.getfield 150, 3) := by decide +kernel
theorem d_Rec_end_12 : decode (ib f_Rec_end) 12 = .ok (.if_icmp .le 5, 3) := by decide +kernel
theorem d_Rec_end_15 : decode (ib f_Rec_end) 15 = .ok (.iconst 0, 1) := by decide +kernel
theorem d_Rec_end_16 : decode (ib f_Rec_end) 16 = .ok (.ireturn, 1) := by decide +kernel
theorem d_Rec_end_17 : decode (ib f_Rec_end) 17 = .ok (.aload_n 0, 1) := by decide +kernel
theorem d_Rec_end_18 : decode (ib f_Rec_end) 18 = .ok (.getfield 47, 3) := by decide +kernel
theorem d_Rec_end_21 : decode (ib f_Rec_end) 21 = .ok (.iload_n 1, 1) := by decide +kernel
theorem d_Rec_end_22 : decode (ib f_Rec_end) 22 = .ok (.putfield 150, 3) := by decide +kernel
theorem d_Rec_end_25 : decode (ib f_Rec_end) 25 = .ok (.iconst 1, 1) := by decide +kernel
theorem d_Rec_end_26 : decode (ib f_Rec_end) 26 = .ok (.ireturn, 1) := by decide +kernel
theorem d_Rec_text_0 : decode (ib f_Rec_text) 0 = .ok (.aload_n 0, 1) := by decide +kernel
theorem d_Rec_text_1 : decode (ib f_Rec_text) 1 = .ok (.getfield 47, 3) := by decide +kernel
theorem d_Rec_text_4 : decode (ib f_Rec_text) 4 = .ok (.iload_n 1, 1) := by decide +kernel
theorem d_Rec_text_5 : decode (ib f_Rec_text) 5 = .ok (.invokevirtual 156, 3) := by decide +kernel
theorem d_Rec_text_8 : decode (ib f_Rec_text) 8 = .ok (.istore_n 2, 1) := by decide +kernel
theorem d_Rec_text_9 : decode (ib f_Rec_text) 9 = .ok (.iload_n 2, 1) := by decide +kernel
theorem d_Rec_text_10 : decode (ib f_Rec_text) 10 = .ok (.iconst (-1), 1) := by decide +kernel
theorem d_Rec_text_11 : decode (ib f_Rec_text) 11 = .ok (.if_icmp .ne 5, 3) := by decide +kernel
theorem d_Rec_text_14 : decode (ib f_Rec_text) 14 = .ok (.iconst (-1), 1) := by decide +kernel
theorem d_Rec_text_15 : decode (ib f_Rec_text) 15 = .ok (.ireturn, 1) := by decide +kernel
theorem d_Rec_text_16 : decode (ib f_Rec_text) 16 = .ok (.aload_n 0, 1) := by decide +kernel
theorem d_Rec_text_17 : decode (ib f_Rec_text) 17 = .ok (.getfield 19, 3) := by decide +kernel
theorem d_Rec_text_20 : decode (ib f_Rec_text) 20 = .ok (.iload_n 1, 1) := by decide +kernel
theorem d_Rec_text_21 : decode (ib f_Rec_text) 21 = .ok (.aload_n 0, 1) := by decide +kernel
theorem d_Rec_text_22 : decode (ib f_Rec_text) 22 = .ok (.getfield 47, 3) := by decide +kernel
theorem d_Rec_text_25 : decode (ib f_Rec_text) 25 = .ok (.invokevirtual 160, 3) := by decide +kernel
theorem d_Rec_text_28 : decode (ib f_Rec_text) 28 = .ok (.iload_n 1, 1) := by decide +kernel
theorem d_Rec_text_29 : decode (ib f_Rec_text) 29 = .ok (.iconst 1, 1) := by decide +kernel
theorem d_Rec_text_30 : decode (ib f_Rec_text) 30 = .ok (.if_icmp .eq 8, 3) := by decide +kernel
theorem d_Rec_text_33 : decode (ib f_Rec_text) 33 = .ok (.iload_n 1, 1) := by decide +kernel
theorem d_Rec_text_34 : decode (ib f_Rec_text) 34 = .ok (.iconst 2, 1) := by decide +kernel
theorem d_Rec_text_35 : decode (ib f_Rec_text) 35 = .ok (.if_icmp .ne 7, 3) := by decide +kernel
theorem d_Rec_text_38 : decode (ib f_Rec_text) 38 = .ok (.aload_n 0, 1) := by decide +kernel
theorem d_Rec_text_39 : decode (ib f_Rec_text) 39 = .ok (.invokevirtual 78, 3) := by decide +kernel
theorem d_Rec_text_42 : decode (ib f_Rec_text) 42 = .ok (.iload_n 2, 1) := by decide +kernel
theorem d_Rec_text_43 : decode (ib f_Rec_text) 43 = .ok (.ireturn, 1) := by decide +kernel
theorem d_Rec_fault_0 : decode (ib f_Rec_fault) 0 = .ok (.iload_n 1, 1) := by decide +kernel
theorem d_Rec_fault_1 : decode (ib f_Rec_fault) 1 = .ok (.ifCond .ne 13, 3) := by decide +kernel
theorem d_Rec_fault_4 : decode (ib f_Rec_fault) 4 = .ok (.aload_n 0, 1) := by decide +kernel
theorem d_Rec_fault_5 : decode (ib f_Rec_fault) 5 = .ok (.getfield 47, 3) := by decide +kernel
theorem d_Rec_fault_8 : decode (ib f_Rec_fault) 8 = .ok (.getfield 164, 3) := by decide +kernel
theorem d_Rec_fault_11 : decode (ib f_Rec_fault) 11 = .ok (.goto 19, 3) := by decide +kernel
theorem d_Rec_fault_14 : decode (ib f_Rec_fault) 14 = .ok (.iload_n 1, 1) := by decide +kernel
theorem d_Rec_fault_15 : decode (ib f_Rec_fault) 15 = .ok (.iconst 1, 1) := by decide +kernel
theorem d_Rec_fault_16 : decode (ib f_Rec_fault) 16 = .ok (.if_icmp .ne 13, 3) := by decide +kernel
theorem d_Rec_fault_19 : decode (ib f_Rec_fault) 19 = .ok (.aload_n 0, 1) := by decide +kernel
theorem d_Rec_fault_20 : decode (ib f_Rec_fault) 20 = .ok (.getfield 47, 3) := by decide +kernel
theorem d_Rec_fault_23 : decode (ib f_Rec_fault) 23 = .ok (.getfield 167, 3) := by decide +kernel
theorem d_Rec_fault_26 : decode (ib f_Rec_fault) 26 = .ok (.goto 4, 3) := by decide +kernel
theorem d_Rec_fault_29 : decode (ib f_Rec_fault) 29 = .ok (.iconst (-1), 1) := by decide +kernel
theorem d_Rec_fault_30 : decode (ib f_Rec_fault) 30 = .ok (.ireturn, 1) := by decide +kernel
theorem d_Rec_inch_0 : decode (ib f_Rec_inch) 0 = .ok (.iload_n 1, 1) := by decide +kernel
theorem d_Rec_inch_1 : decode (ib f_Rec_inch) 1 = .ok (.iconst 0, 1) := by decide +kernel
theorem d_Rec_inch_2 : decode (ib f_Rec_inch) 2 = .ok (.bipush 59, 2) := by decide +kernel
theorem d_Rec_inch_4 : decode (ib f_Rec_inch) 4 = .ok (.invokestatic 96, 3) := by decide +kernel
theorem d_Rec_inch_7 : decode (ib f_Rec_inch) 7 = .ok (.ifCond .ne 6, 3) := by decide +kernel
theorem d_Rec_inch_10 : decode (ib f_Rec_inch) 10 = .ok (.bipush (-2), 2) := by decide +kernel
theorem d_Rec_inch_12 : decode (ib f_Rec_inch) 12 = .ok (.ireturn, 1) := by decide +kernel
theorem d_Rec_inch_13 : decode (ib f_Rec_inch) 13 = .ok (.iload_n 2, 1) := by decide +kernel
theorem d_Rec_inch_14 : decode (ib f_Rec_inch) 14 = .ok (.tableswitch 56 0 2 #[26, 36, 46], 26) := by decide +kernel
theorem d_Rec_inch_40 : decode (ib f_Rec_inch) 40 = .ok (.aload_n 0, 1) := by decide +kernel
theorem d_Rec_inch_41 : decode (ib f_Rec_inch) 41 = .ok (.getfield 12, 3) := by decide +kernel
theorem d_Rec_inch_44 : decode (ib f_Rec_inch) 44 = .ok (.getfield 100, 3) := by decide +kernel
theorem d_Rec_inch_47 : decode (ib f_Rec_inch) 47 = .ok (.iload_n 1, 1) := by decide +kernel
theorem d_Rec_inch_48 : decode (ib f_Rec_inch) 48 = .ok (.iaload, 1) := by decide +kernel
theorem d_Rec_inch_49 : decode (ib f_Rec_inch) 49 = .ok (.ireturn, 1) := by decide +kernel
theorem d_Rec_inch_50 : decode (ib f_Rec_inch) 50 = .ok (.aload_n 0, 1) := by decide +kernel
theorem d_Rec_inch_51 : decode (ib f_Rec_inch) 51 = .ok (.getfield 12, 3) := by decide +kernel
theorem d_Rec_inch_54 : decode (ib f_Rec_inch) 54 = .ok (.getfield 170, 3) := by decide +kernel
theorem d_Rec_inch_57 : decode (ib f_Rec_inch) 57 = .ok (.iload_n 1, 1) := by decide +kernel
theorem d_Rec_inch_58 : decode (ib f_Rec_inch) 58 = .ok (.iaload, 1) := by decide +kernel
theorem d_Rec_inch_59 : decode (ib f_Rec_inch) 59 = .ok (.ireturn, 1) := by decide +kernel
theorem d_Rec_inch_60 : decode (ib f_Rec_inch) 60 = .ok (.aload_n 0, 1) := by decide +kernel
theorem d_Rec_inch_61 : decode (ib f_Rec_inch) 61 = .ok (.getfield 12, 3) := by decide +kernel
theorem d_Rec_inch_64 : decode (ib f_Rec_inch) 64 = .ok (.getfield 173, 3) := by decide +kernel
theorem d_Rec_inch_67 : decode (ib f_Rec_inch) 67 = .ok (.iload_n 1, 1) := by decide +kernel
theorem d_Rec_inch_68 : decode (ib f_Rec_inch) 68 = .ok (.iaload, 1) := by decide +kernel
theorem d_Rec_inch_69 : decode (ib f_Rec_inch) 69 = .ok (.ireturn, 1) := by decide +kernel
theorem d_Rec_inch_70 : decode (ib f_Rec_inch) 70 = .ok (.bipush (-2), 2) := by decide +kernel
theorem d_Rec_inch_72 : decode (ib f_Rec_inch) 72 = .ok (.ireturn, 1) := by decide +kernel
theorem d_Rec_of_0 : decode (ib f_Rec_of) 0 = .ok (.aload_n 0, 1) := by decide +kernel
theorem d_Rec_of_1 : decode (ib f_Rec_of) 1 = .ok (.getfield 12, 3) := by decide +kernel
theorem d_Rec_of_4 : decode (ib f_Rec_of) 4 = .ok (.iload_n 1, 1) := by decide +kernel
theorem d_Rec_of_5 : decode (ib f_Rec_of) 5 = .ok (.invokevirtual 88, 3) := by decide +kernel
theorem d_Rec_of_8 : decode (ib f_Rec_of) 8 = .ok (.astore_n 3, 1) := by decide +kernel
theorem d_Rec_of_9 : decode (ib f_Rec_of) 9 = .ok (.aload_n 3, 1) := by decide +kernel
theorem d_Rec_of_10 : decode (ib f_Rec_of) 10 = .ok (.ifnonnull 5, 3) := by decide +kernel
theorem d_Rec_of_13 : decode (ib f_Rec_of) 13 = .ok (.iconst (-1), 1) := by decide +kernel
theorem d_Rec_of_14 : decode (ib f_Rec_of) 14 = .ok (.ireturn, 1) := by decide +kernel
theorem d_Rec_of_15 : decode (ib f_Rec_of) 15 = .ok (.iload_n 2, 1) := by decide +kernel
theorem d_Rec_of_16 : decode (ib f_Rec_of) 16 = .ok (.tableswitch 149 0 9 #[56, 61, 66, 71, 76, 81, 86, 103, 120, 137], 56) := by decide +kernel
theorem d_Rec_of_72 : decode (ib f_Rec_of) 72 = .ok (.aload_n 3, 1) := by decide +kernel
theorem d_Rec_of_73 : decode (ib f_Rec_of) 73 = .ok (.getfield 176, 3) := by decide +kernel
theorem d_Rec_of_76 : decode (ib f_Rec_of) 76 = .ok (.ireturn, 1) := by decide +kernel
theorem d_Rec_of_77 : decode (ib f_Rec_of) 77 = .ok (.aload_n 3, 1) := by decide +kernel
theorem d_Rec_of_78 : decode (ib f_Rec_of) 78 = .ok (.getfield 110, 3) := by decide +kernel
theorem d_Rec_of_81 : decode (ib f_Rec_of) 81 = .ok (.ireturn, 1) := by decide +kernel
theorem d_Rec_of_82 : decode (ib f_Rec_of) 82 = .ok (.aload_n 3, 1) := by decide +kernel
theorem d_Rec_of_83 : decode (ib f_Rec_of) 83 = .ok (.getfield 115, 3) := by decide +kernel
theorem d_Rec_of_86 : decode (ib f_Rec_of) 86 = .ok (.ireturn, 1) := by decide +kernel
theorem d_Rec_of_87 : decode (ib f_Rec_of) 87 = .ok (.aload_n 3, 1) := by decide +kernel
theorem d_Rec_of_88 : decode (ib f_Rec_of) 88 = .ok (.getfield 179, 3) := by decide +kernel
theorem d_Rec_of_91 : decode (ib f_Rec_of) 91 = .ok (.ireturn, 1) := by decide +kernel
theorem d_Rec_of_92 : decode (ib f_Rec_of) 92 = .ok (.aload_n 3, 1) := by decide +kernel
theorem d_Rec_of_93 : decode (ib f_Rec_of) 93 = .ok (.getfield 182, 3) := by decide +kernel
theorem d_Rec_of_96 : decode (ib f_Rec_of) 96 = .ok (.ireturn, 1) := by decide +kernel
theorem d_Rec_of_97 : decode (ib f_Rec_of) 97 = .ok (.aload_n 3, 1) := by decide +kernel
theorem d_Rec_of_98 : decode (ib f_Rec_of) 98 = .ok (.getfield 118, 3) := by decide +kernel
theorem d_Rec_of_101 : decode (ib f_Rec_of) 101 = .ok (.ireturn, 1) := by decide +kernel
theorem d_Rec_of_102 : decode (ib f_Rec_of) 102 = .ok (.aload_n 0, 1) := by decide +kernel
theorem d_Rec_of_103 : decode (ib f_Rec_of) 103 = .ok (.getfield 19, 3) := by decide +kernel
theorem d_Rec_of_106 : decode (ib f_Rec_of) 106 = .ok (.getfield 185, 3) := by decide +kernel
theorem d_Rec_of_109 : decode (ib f_Rec_of) 109 = .ok (.iconst 0, 1) := by decide +kernel
theorem d_Rec_of_110 : decode (ib f_Rec_of) 110 = .ok (.aload_n 0, 1) := by decide +kernel
theorem d_Rec_of_111 : decode (ib f_Rec_of) 111 = .ok (.getfield 12, 3) := by decide +kernel
theorem d_Rec_of_114 : decode (ib f_Rec_of) 114 = .ok (.aload_n 3, 1) := by decide +kernel
theorem d_Rec_of_115 : decode (ib f_Rec_of) 115 = .ok (.invokevirtual 189, 3) := by decide +kernel
theorem d_Rec_of_118 : decode (ib f_Rec_of) 118 = .ok (.ireturn, 1) := by decide +kernel
theorem d_Rec_of_119 : decode (ib f_Rec_of) 119 = .ok (.aload_n 0, 1) := by decide +kernel
theorem d_Rec_of_120 : decode (ib f_Rec_of) 120 = .ok (.getfield 19, 3) := by decide +kernel
theorem d_Rec_of_123 : decode (ib f_Rec_of) 123 = .ok (.getfield 185, 3) := by decide +kernel
theorem d_Rec_of_126 : decode (ib f_Rec_of) 126 = .ok (.iconst 1, 1) := by decide +kernel
theorem d_Rec_of_127 : decode (ib f_Rec_of) 127 = .ok (.aload_n 0, 1) := by decide +kernel
theorem d_Rec_of_128 : decode (ib f_Rec_of) 128 = .ok (.getfield 12, 3) := by decide +kernel
theorem d_Rec_of_131 : decode (ib f_Rec_of) 131 = .ok (.aload_n 3, 1) := by decide +kernel
theorem d_Rec_of_132 : decode (ib f_Rec_of) 132 = .ok (.invokevirtual 189, 3) := by decide +kernel
theorem d_Rec_of_135 : decode (ib f_Rec_of) 135 = .ok (.ireturn, 1) := by decide +kernel
theorem d_Rec_of_136 : decode (ib f_Rec_of) 136 = .ok (.aload_n 0, 1) := by decide +kernel
theorem d_Rec_of_137 : decode (ib f_Rec_of) 137 = .ok (.getfield 19, 3) := by decide +kernel
theorem d_Rec_of_140 : decode (ib f_Rec_of) 140 = .ok (.getfield 185, 3) := by decide +kernel
theorem d_Rec_of_143 : decode (ib f_Rec_of) 143 = .ok (.iconst 2, 1) := by decide +kernel
theorem d_Rec_of_144 : decode (ib f_Rec_of) 144 = .ok (.aload_n 0, 1) := by decide +kernel
theorem d_Rec_of_145 : decode (ib f_Rec_of) 145 = .ok (.getfield 12, 3) := by decide +kernel
theorem d_Rec_of_148 : decode (ib f_Rec_of) 148 = .ok (.aload_n 3, 1) := by decide +kernel
theorem d_Rec_of_149 : decode (ib f_Rec_of) 149 = .ok (.invokevirtual 189, 3) := by decide +kernel
theorem d_Rec_of_152 : decode (ib f_Rec_of) 152 = .ok (.ireturn, 1) := by decide +kernel
theorem d_Rec_of_153 : decode (ib f_Rec_of) 153 = .ok (.aload_n 0, 1) := by decide +kernel
theorem d_Rec_of_154 : decode (ib f_Rec_of) 154 = .ok (.getfield 12, 3) := by decide +kernel
theorem d_Rec_of_157 : decode (ib f_Rec_of) 157 = .ok (.aload_n 3, 1) := by decide +kernel
theorem d_Rec_of_158 : decode (ib f_Rec_of) 158 = .ok (.getfield 179, 3) := by decide +kernel
theorem d_Rec_of_161 : decode (ib f_Rec_of) 161 = .ok (.invokevirtual 195, 3) := by decide +kernel
theorem d_Rec_of_164 : decode (ib f_Rec_of) 164 = .ok (.ireturn, 1) := by decide +kernel
theorem d_Rec_of_165 : decode (ib f_Rec_of) 165 = .ok (.iconst (-1), 1) := by decide +kernel
theorem d_Rec_of_166 : decode (ib f_Rec_of) 166 = .ok (.ireturn, 1) := by decide +kernel
theorem d_Rec_book_0 : decode (ib f_Rec_book) 0 = .ok (.iload_n 1, 1) := by decide +kernel
theorem d_Rec_book_1 : decode (ib f_Rec_book) 1 = .ok (.iconst 0, 1) := by decide +kernel
theorem d_Rec_book_2 : decode (ib f_Rec_book) 2 = .ok (.aload_n 0, 1) := by decide +kernel
theorem d_Rec_book_3 : decode (ib f_Rec_book) 3 = .ok (.getfield 12, 3) := by decide +kernel
theorem d_Rec_book_6 : decode (ib f_Rec_book) 6 = .ok (.getfield 198, 3) := by decide +kernel
theorem d_Rec_book_9 : decode (ib f_Rec_book) 9 = .ok (.getfield 202, 3) := by decide +kernel
theorem d_Rec_book_12 : decode (ib f_Rec_book) 12 = .ok (.iconst 1, 1) := by decide +kernel
theorem d_Rec_book_13 : decode (ib f_Rec_book) 13 = .ok (.isub, 1) := by decide +kernel
theorem d_Rec_book_14 : decode (ib f_Rec_book) 14 = .ok (.invokestatic 96, 3) := by decide +kernel
theorem d_Rec_book_17 : decode (ib f_Rec_book) 17 = .ok (.ifCond .eq 12, 3) := by decide +kernel
theorem d_Rec_book_20 : decode (ib f_Rec_book) 20 = .ok (.iload_n 2, 1) := by decide +kernel
theorem d_Rec_book_21 : decode (ib f_Rec_book) 21 = .ok (.iconst 0, 1) := by decide +kernel
theorem d_Rec_book_22 : decode (ib f_Rec_book) 22 = .ok (.iconst 3, 1) := by decide +kernel
theorem d_Rec_book_23 : decode (ib f_Rec_book) 23 = .ok (.invokestatic 96, 3) := by decide +kernel
theorem d_Rec_book_26 : decode (ib f_Rec_book) 26 = .ok (.ifCond .ne 6, 3) := by decide +kernel
theorem d_Rec_book_29 : decode (ib f_Rec_book) 29 = .ok (.bipush (-2), 2) := by decide +kernel
theorem d_Rec_book_31 : decode (ib f_Rec_book) 31 = .ok (.ireturn, 1) := by decide +kernel
theorem d_Rec_book_32 : decode (ib f_Rec_book) 32 = .ok (.aload_n 0, 1) := by decide +kernel
theorem d_Rec_book_33 : decode (ib f_Rec_book) 33 = .ok (.getfield 12, 3) := by decide +kernel
theorem d_Rec_book_36 : decode (ib f_Rec_book) 36 = .ok (.getfield 198, 3) := by decide +kernel
theorem d_Rec_book_39 : decode (ib f_Rec_book) 39 = .ok (.iload_n 1, 1) := by decide +kernel
theorem d_Rec_book_40 : decode (ib f_Rec_book) 40 = .ok (.iload_n 2, 1) := by decide +kernel
theorem d_Rec_book_41 : decode (ib f_Rec_book) 41 = .ok (.invokevirtual 205, 3) := by decide +kernel
theorem d_Rec_book_44 : decode (ib f_Rec_book) 44 = .ok (.ireturn, 1) := by decide +kernel
theorem d_Rec_goes_0 : decode (ib f_Rec_goes) 0 = .ok (.iload_n 1, 1) := by decide +kernel
theorem d_Rec_goes_1 : decode (ib f_Rec_goes) 1 = .ok (.iconst 1, 1) := by decide +kernel
theorem d_Rec_goes_2 : decode (ib f_Rec_goes) 2 = .ok (.bipush 60, 2) := by decide +kernel
theorem d_Rec_goes_4 : decode (ib f_Rec_goes) 4 = .ok (.invokestatic 96, 3) := by decide +kernel
theorem d_Rec_goes_7 : decode (ib f_Rec_goes) 7 = .ok (.ifCond .eq 12, 3) := by decide +kernel
theorem d_Rec_goes_10 : decode (ib f_Rec_goes) 10 = .ok (.iload_n 2, 1) := by decide +kernel
theorem d_Rec_goes_11 : decode (ib f_Rec_goes) 11 = .ok (.iconst 0, 1) := by decide +kernel
theorem d_Rec_goes_12 : decode (ib f_Rec_goes) 12 = .ok (.iconst 3, 1) := by decide +kernel
theorem d_Rec_goes_13 : decode (ib f_Rec_goes) 13 = .ok (.invokestatic 96, 3) := by decide +kernel
theorem d_Rec_goes_16 : decode (ib f_Rec_goes) 16 = .ok (.ifCond .ne 5, 3) := by decide +kernel
theorem d_Rec_goes_19 : decode (ib f_Rec_goes) 19 = .ok (.iconst (-1), 1) := by decide +kernel
theorem d_Rec_goes_20 : decode (ib f_Rec_goes) 20 = .ok (.ireturn, 1) := by decide +kernel
theorem d_Rec_goes_21 : decode (ib f_Rec_goes) 21 = .ok (.aload_n 0, 1) := by decide +kernel
theorem d_Rec_goes_22 : decode (ib f_Rec_goes) 22 = .ok (.getfield 51, 3) := by decide +kernel
theorem d_Rec_goes_25 : decode (ib f_Rec_goes) 25 = .ok (.aload_n 0, 1) := by decide +kernel
theorem d_Rec_goes_26 : decode (ib f_Rec_goes) 26 = .ok (.getfield 12, 3) := by decide +kernel
theorem d_Rec_goes_29 : decode (ib f_Rec_goes) 29 = .ok (.invokevirtual 209, 3) := by decide +kernel
theorem d_Rec_goes_32 : decode (ib f_Rec_goes) 32 = .ok (.iconst 0, 1) := by decide +kernel
theorem d_Rec_goes_33 : decode (ib f_Rec_goes) 33 = .ok (.istore_n 3, 1) := by decide +kernel
theorem d_Rec_goes_34 : decode (ib f_Rec_goes) 34 = .ok (.iload_n 3, 1) := by decide +kernel
theorem d_Rec_goes_35 : decode (ib f_Rec_goes) 35 = .ok (.iload_n 1, 1) := by decide +kernel
theorem d_Rec_goes_36 : decode (ib f_Rec_goes) 36 = .ok (.if_icmp .ge 21, 3) := by decide +kernel
theorem d_Rec_goes_39 : decode (ib f_Rec_goes) 39 = .ok (.aload_n 0, 1) := by decide +kernel
theorem d_Rec_goes_40 : decode (ib f_Rec_goes) 40 = .ok (.getfield 51, 3) := by decide +kernel
theorem d_Rec_goes_43 : decode (ib f_Rec_goes) 43 = .ok (.aload_n 0, 1) := by decide +kernel
theorem d_Rec_goes_44 : decode (ib f_Rec_goes) 44 = .ok (.getfield 19, 3) := by decide +kernel
theorem d_Rec_goes_47 : decode (ib f_Rec_goes) 47 = .ok (.iconst 1, 1) := by decide +kernel
theorem d_Rec_goes_48 : decode (ib f_Rec_goes) 48 = .ok (.invokevirtual 146, 3) := by decide +kernel
theorem d_Rec_goes_51 : decode (ib f_Rec_goes) 51 = .ok (.iinc 3 1, 3) := by decide +kernel
theorem d_Rec_goes_54 : decode (ib f_Rec_goes) 54 = .ok (.goto (-20), 3) := by decide +kernel
theorem d_Rec_goes_57 : decode (ib f_Rec_goes) 57 = .ok (.iload_n 2, 1) := by decide +kernel
theorem d_Rec_goes_58 : decode (ib f_Rec_goes) 58 = .ok (.tableswitch 53 0 2 #[26, 34, 42], 26) := by decide +kernel
theorem d_Rec_goes_84 : decode (ib f_Rec_goes) 84 = .ok (.aload_n 0, 1) := by decide +kernel
theorem d_Rec_goes_85 : decode (ib f_Rec_goes) 85 = .ok (.getfield 51, 3) := by decide +kernel
theorem d_Rec_goes_88 : decode (ib f_Rec_goes) 88 = .ok (.getfield 213, 3) := by decide +kernel
theorem d_Rec_goes_91 : decode (ib f_Rec_goes) 91 = .ok (.ireturn, 1) := by decide +kernel
theorem d_Rec_goes_92 : decode (ib f_Rec_goes) 92 = .ok (.aload_n 0, 1) := by decide +kernel
theorem d_Rec_goes_93 : decode (ib f_Rec_goes) 93 = .ok (.getfield 51, 3) := by decide +kernel
theorem d_Rec_goes_96 : decode (ib f_Rec_goes) 96 = .ok (.getfield 143, 3) := by decide +kernel
theorem d_Rec_goes_99 : decode (ib f_Rec_goes) 99 = .ok (.ireturn, 1) := by decide +kernel
theorem d_Rec_goes_100 : decode (ib f_Rec_goes) 100 = .ok (.aload_n 0, 1) := by decide +kernel
theorem d_Rec_goes_101 : decode (ib f_Rec_goes) 101 = .ok (.getfield 51, 3) := by decide +kernel
theorem d_Rec_goes_104 : decode (ib f_Rec_goes) 104 = .ok (.getfield 170, 3) := by decide +kernel
theorem d_Rec_goes_107 : decode (ib f_Rec_goes) 107 = .ok (.invokestatic 216, 3) := by decide +kernel
theorem d_Rec_goes_110 : decode (ib f_Rec_goes) 110 = .ok (.ireturn, 1) := by decide +kernel
theorem d_Rec_goes_111 : decode (ib f_Rec_goes) 111 = .ok (.aload_n 0, 1) := by decide +kernel
theorem d_Rec_goes_112 : decode (ib f_Rec_goes) 112 = .ok (.getfield 51, 3) := by decide +kernel
theorem d_Rec_goes_115 : decode (ib f_Rec_goes) 115 = .ok (.getfield 100, 3) := by decide +kernel
theorem d_Rec_goes_118 : decode (ib f_Rec_goes) 118 = .ok (.invokestatic 216, 3) := by decide +kernel
theorem d_Rec_goes_121 : decode (ib f_Rec_goes) 121 = .ok (.ireturn, 1) := by decide +kernel
theorem d_Rec_nearest_0 : decode (ib f_Rec_nearest) 0 = .ok (.iconst 0, 1) := by decide +kernel
theorem d_Rec_nearest_1 : decode (ib f_Rec_nearest) 1 = .ok (.istore_n 2, 1) := by decide +kernel
theorem d_Rec_nearest_2 : decode (ib f_Rec_nearest) 2 = .ok (.iload_n 2, 1) := by decide +kernel
theorem d_Rec_nearest_3 : decode (ib f_Rec_nearest) 3 = .ok (.bipush 60, 2) := by decide +kernel
theorem d_Rec_nearest_5 : decode (ib f_Rec_nearest) 5 = .ok (.if_icmp .ge 35, 3) := by decide +kernel
theorem d_Rec_nearest_8 : decode (ib f_Rec_nearest) 8 = .ok (.aload_n 0, 1) := by decide +kernel
theorem d_Rec_nearest_9 : decode (ib f_Rec_nearest) 9 = .ok (.getfield 12, 3) := by decide +kernel
theorem d_Rec_nearest_12 : decode (ib f_Rec_nearest) 12 = .ok (.iload_n 2, 1) := by decide +kernel
theorem d_Rec_nearest_13 : decode (ib f_Rec_nearest) 13 = .ok (.invokevirtual 220, 3) := by decide +kernel
theorem d_Rec_nearest_16 : decode (ib f_Rec_nearest) 16 = .ok (.astore_n 3, 1) := by decide +kernel
theorem d_Rec_nearest_17 : decode (ib f_Rec_nearest) 17 = .ok (.aload_n 3, 1) := by decide +kernel
theorem d_Rec_nearest_18 : decode (ib f_Rec_nearest) 18 = .ok (.ifnull 16, 3) := by decide +kernel
theorem d_Rec_nearest_21 : decode (ib f_Rec_nearest) 21 = .ok (.aload_n 3, 1) := by decide +kernel
theorem d_Rec_nearest_22 : decode (ib f_Rec_nearest) 22 = .ok (.getfield 176, 3) := by decide +kernel
theorem d_Rec_nearest_25 : decode (ib f_Rec_nearest) 25 = .ok (.iload_n 1, 1) := by decide +kernel
theorem d_Rec_nearest_26 : decode (ib f_Rec_nearest) 26 = .ok (.if_icmp .ne 8, 3) := by decide +kernel
theorem d_Rec_nearest_29 : decode (ib f_Rec_nearest) 29 = .ok (.aload_n 3, 1) := by decide +kernel
theorem d_Rec_nearest_30 : decode (ib f_Rec_nearest) 30 = .ok (.getfield 223, 3) := by decide +kernel
theorem d_Rec_nearest_33 : decode (ib f_Rec_nearest) 33 = .ok (.ireturn, 1) := by decide +kernel
theorem d_Rec_nearest_34 : decode (ib f_Rec_nearest) 34 = .ok (.iinc 2 1, 3) := by decide +kernel
theorem d_Rec_nearest_37 : decode (ib f_Rec_nearest) 37 = .ok (.goto (-35), 3) := by decide +kernel
theorem d_Rec_nearest_40 : decode (ib f_Rec_nearest) 40 = .ok (.iconst (-1), 1) := by decide +kernel
theorem d_Rec_nearest_41 : decode (ib f_Rec_nearest) 41 = .ok (.ireturn, 1) := by decide +kernel
theorem d_Rec_heaps_0 : decode (ib f_Rec_heaps) 0 = .ok (.iload_n 1, 1) := by decide +kernel
theorem d_Rec_heaps_1 : decode (ib f_Rec_heaps) 1 = .ok (.iconst 0, 1) := by decide +kernel
theorem d_Rec_heaps_2 : decode (ib f_Rec_heaps) 2 = .ok (.iconst 2, 1) := by decide +kernel
theorem d_Rec_heaps_3 : decode (ib f_Rec_heaps) 3 = .ok (.invokestatic 96, 3) := by decide +kernel
theorem d_Rec_heaps_6 : decode (ib f_Rec_heaps) 6 = .ok (.ifCond .eq 18, 3) := by decide +kernel
theorem d_Rec_heaps_9 : decode (ib f_Rec_heaps) 9 = .ok (.aload_n 0, 1) := by decide +kernel
theorem d_Rec_heaps_10 : decode (ib f_Rec_heaps) 10 = .ok (.getfield 57, 3) := by decide +kernel
theorem d_Rec_heaps_13 : decode (ib f_Rec_heaps) 13 = .ok (.aload_n 0, 1) := by decide +kernel
theorem d_Rec_heaps_14 : decode (ib f_Rec_heaps) 14 = .ok (.getfield 12, 3) := by decide +kernel
theorem d_Rec_heaps_17 : decode (ib f_Rec_heaps) 17 = .ok (.iload_n 1, 1) := by decide +kernel
theorem d_Rec_heaps_18 : decode (ib f_Rec_heaps) 18 = .ok (.invokevirtual 226, 3) := by decide +kernel
theorem d_Rec_heaps_21 : decode (ib f_Rec_heaps) 21 = .ok (.goto 4, 3) := by decide +kernel
theorem d_Rec_heaps_24 : decode (ib f_Rec_heaps) 24 = .ok (.iconst (-1), 1) := by decide +kernel
theorem d_Rec_heaps_25 : decode (ib f_Rec_heaps) 25 = .ok (.ireturn, 1) := by decide +kernel
theorem d_Rec_kind_0 : decode (ib f_Rec_kind) 0 = .ok (.aload_n 0, 1) := by decide +kernel
theorem d_Rec_kind_1 : decode (ib f_Rec_kind) 1 = .ok (.getfield 19, 3) := by decide +kernel
theorem d_Rec_kind_4 : decode (ib f_Rec_kind) 4 = .ok (.getfield 230, 3) := by decide +kernel
theorem d_Rec_kind_7 : decode (ib f_Rec_kind) 7 = .ok (.iload_n 1, 1) := by decide +kernel
theorem d_Rec_kind_8 : decode (ib f_Rec_kind) 8 = .ok (.iconst 0, 1) := by decide +kernel
theorem d_Rec_kind_9 : decode (ib f_Rec_kind) 9 = .ok (.iload_n 1, 1) := by decide +kernel
theorem d_Rec_kind_10 : decode (ib f_Rec_kind) 10 = .ok (.iconst (-1), 1) := by decide +kernel
theorem d_Rec_kind_11 : decode (ib f_Rec_kind) 11 = .ok (.if_icmp .ne 7, 3) := by decide +kernel
theorem d_Rec_kind_14 : decode (ib f_Rec_kind) 14 = .ok (.iconst 1, 1) := by decide +kernel
theorem d_Rec_kind_15 : decode (ib f_Rec_kind) 15 = .ok (.goto 4, 3) := by decide +kernel
theorem d_Rec_kind_18 : decode (ib f_Rec_kind) 18 = .ok (.iconst 0, 1) := by decide +kernel
theorem d_Rec_kind_19 : decode (ib f_Rec_kind) 19 = .ok (.iload_n 1, 1) := by decide +kernel
theorem d_Rec_kind_20 : decode (ib f_Rec_kind) 20 = .ok (.iconst 0, 1) := by decide +kernel
theorem d_Rec_kind_21 : decode (ib f_Rec_kind) 21 = .ok (.iconst 5, 1) := by decide +kernel
theorem d_Rec_kind_22 : decode (ib f_Rec_kind) 22 = .ok (.invokestatic 96, 3) := by decide +kernel
theorem d_Rec_kind_25 : decode (ib f_Rec_kind) 25 = .ok (.invokestatic 233, 3) := by decide +kernel
theorem d_Rec_kind_28 : decode (ib f_Rec_kind) 28 = .ok (.ireturn, 1) := by decide +kernel
theorem d_Rec_says_0 : decode (ib f_Rec_says) 0 = .ok (.iload_n 1, 1) := by decide +kernel
theorem d_Rec_says_1 : decode (ib f_Rec_says) 1 = .ok (.tableswitch 79 0 2 #[27, 47, 67], 27) := by decide +kernel
theorem d_Rec_says_28 : decode (ib f_Rec_says) 28 = .ok (.aload_n 0, 1) := by decide +kernel
theorem d_Rec_says_29 : decode (ib f_Rec_says) 29 = .ok (.getfield 57, 3) := by decide +kernel
theorem d_Rec_says_32 : decode (ib f_Rec_says) 32 = .ok (.aload_n 0, 1) := by decide +kernel
theorem d_Rec_says_33 : decode (ib f_Rec_says) 33 = .ok (.getfield 12, 3) := by decide +kernel
theorem d_Rec_says_36 : decode (ib f_Rec_says) 36 = .ok (.aload_n 0, 1) := by decide +kernel
theorem d_Rec_says_37 : decode (ib f_Rec_says) 37 = .ok (.getfield 19, 3) := by decide +kernel
theorem d_Rec_says_40 : decode (ib f_Rec_says) 40 = .ok (.getfield 230, 3) := by decide +kernel
theorem d_Rec_says_43 : decode (ib f_Rec_says) 43 = .ok (.iconst 0, 1) := by decide +kernel
theorem d_Rec_says_44 : decode (ib f_Rec_says) 44 = .ok (.invokevirtual 237, 3) := by decide +kernel
theorem d_Rec_says_47 : decode (ib f_Rec_says) 47 = .ok (.ireturn, 1) := by decide +kernel
theorem d_Rec_says_48 : decode (ib f_Rec_says) 48 = .ok (.aload_n 0, 1) := by decide +kernel
theorem d_Rec_says_49 : decode (ib f_Rec_says) 49 = .ok (.getfield 57, 3) := by decide +kernel
theorem d_Rec_says_52 : decode (ib f_Rec_says) 52 = .ok (.aload_n 0, 1) := by decide +kernel
theorem d_Rec_says_53 : decode (ib f_Rec_says) 53 = .ok (.getfield 12, 3) := by decide +kernel
theorem d_Rec_says_56 : decode (ib f_Rec_says) 56 = .ok (.aload_n 0, 1) := by decide +kernel
theorem d_Rec_says_57 : decode (ib f_Rec_says) 57 = .ok (.getfield 19, 3) := by decide +kernel
theorem d_Rec_says_60 : decode (ib f_Rec_says) 60 = .ok (.getfield 230, 3) := by decide +kernel
theorem d_Rec_says_63 : decode (ib f_Rec_says) 63 = .ok (.iconst 1, 1) := by decide +kernel
theorem d_Rec_says_64 : decode (ib f_Rec_says) 64 = .ok (.invokevirtual 237, 3) := by decide +kernel
theorem d_Rec_says_67 : decode (ib f_Rec_says) 67 = .ok (.ireturn, 1) := by decide +kernel
theorem d_Rec_says_68 : decode (ib f_Rec_says) 68 = .ok (.aload_n 0, 1) := by decide +kernel
theorem d_Rec_says_69 : decode (ib f_Rec_says) 69 = .ok (.getfield 57, 3) := by decide +kernel
theorem d_Rec_says_72 : decode (ib f_Rec_says) 72 = .ok (.aload_n 0, 1) := by decide +kernel
theorem d_Rec_says_73 : decode (ib f_Rec_says) 73 = .ok (.getfield 12, 3) := by decide +kernel
theorem d_Rec_says_76 : decode (ib f_Rec_says) 76 = .ok (.invokevirtual 241, 3) := by decide +kernel
theorem d_Rec_says_79 : decode (ib f_Rec_says) 79 = .ok (.ireturn, 1) := by decide +kernel
theorem d_Rec_says_80 : decode (ib f_Rec_says) 80 = .ok (.iconst (-1), 1) := by decide +kernel
theorem d_Rec_says_81 : decode (ib f_Rec_says) 81 = .ok (.ireturn, 1) := by decide +kernel
theorem d_Rec_pass_0 : decode (ib f_Rec_pass) 0 = .ok (.iload_n 1, 1) := by decide +kernel
theorem d_Rec_pass_1 : decode (ib f_Rec_pass) 1 = .ok (.iconst 1, 1) := by decide +kernel
theorem d_Rec_pass_2 : decode (ib f_Rec_pass) 2 = .ok (.bipush 59, 2) := by decide +kernel
theorem d_Rec_pass_4 : decode (ib f_Rec_pass) 4 = .ok (.invokestatic 96, 3) := by decide +kernel
theorem d_Rec_pass_7 : decode (ib f_Rec_pass) 7 = .ok (.ifCond .eq 12, 3) := by decide +kernel
theorem d_Rec_pass_10 : decode (ib f_Rec_pass) 10 = .ok (.iload_n 2, 1) := by decide +kernel
theorem d_Rec_pass_11 : decode (ib f_Rec_pass) 11 = .ok (.iconst 0, 1) := by decide +kernel
theorem d_Rec_pass_12 : decode (ib f_Rec_pass) 12 = .ok (.iconst 1, 1) := by decide +kernel
theorem d_Rec_pass_13 : decode (ib f_Rec_pass) 13 = .ok (.invokestatic 96, 3) := by decide +kernel
theorem d_Rec_pass_16 : decode (ib f_Rec_pass) 16 = .ok (.ifCond .ne 5, 3) := by decide +kernel
theorem d_Rec_pass_19 : decode (ib f_Rec_pass) 19 = .ok (.iconst (-1), 1) := by decide +kernel
theorem d_Rec_pass_20 : decode (ib f_Rec_pass) 20 = .ok (.ireturn, 1) := by decide +kernel
theorem d_Rec_pass_21 : decode (ib f_Rec_pass) 21 = .ok (.iconst (-1), 1) := by decide +kernel
theorem d_Rec_pass_22 : decode (ib f_Rec_pass) 22 = .ok (.istore_n 3, 1) := by decide +kernel
theorem d_Rec_pass_23 : decode (ib f_Rec_pass) 23 = .ok (.iconst 0, 1) := by decide +kernel
theorem d_Rec_pass_24 : decode (ib f_Rec_pass) 24 = .ok (.istore 4, 2) := by decide +kernel
theorem d_Rec_pass_26 : decode (ib f_Rec_pass) 26 = .ok (.iconst 0, 1) := by decide +kernel
theorem d_Rec_pass_27 : decode (ib f_Rec_pass) 27 = .ok (.istore 5, 2) := by decide +kernel
theorem d_Rec_pass_29 : decode (ib f_Rec_pass) 29 = .ok (.iconst 0, 1) := by decide +kernel
theorem d_Rec_pass_30 : decode (ib f_Rec_pass) 30 = .ok (.istore 6, 2) := by decide +kernel
theorem d_Rec_pass_32 : decode (ib f_Rec_pass) 32 = .ok (.iload 6, 2) := by decide +kernel
theorem d_Rec_pass_34 : decode (ib f_Rec_pass) 34 = .ok (.bipush 60, 2) := by decide +kernel
theorem d_Rec_pass_36 : decode (ib f_Rec_pass) 36 = .ok (.if_icmp .ge 56, 3) := by decide +kernel
theorem d_Rec_pass_39 : decode (ib f_Rec_pass) 39 = .ok (.aload_n 0, 1) := by decide +kernel
theorem d_Rec_pass_40 : decode (ib f_Rec_pass) 40 = .ok (.getfield 12, 3) := by decide +kernel
theorem d_Rec_pass_43 : decode (ib f_Rec_pass) 43 = .ok (.iload 6, 2) := by decide +kernel
theorem d_Rec_pass_45 : decode (ib f_Rec_pass) 45 = .ok (.invokevirtual 245, 3) := by decide +kernel
theorem d_Rec_pass_48 : decode (ib f_Rec_pass) 48 = .ok (.ifCond .eq 7, 3) := by decide +kernel
theorem d_Rec_pass_51 : decode (ib f_Rec_pass) 51 = .ok (.iconst 0, 1) := by decide +kernel
theorem d_Rec_pass_52 : decode (ib f_Rec_pass) 52 = .ok (.goto 7, 3) := by decide +kernel
theorem d_Rec_pass_55 : decode (ib f_Rec_pass) 55 = .ok (.iload 5, 2) := by decide +kernel
theorem d_Rec_pass_57 : decode (ib f_Rec_pass) 57 = .ok (.iconst 1, 1) := by decide +kernel
theorem d_Rec_pass_58 : decode (ib f_Rec_pass) 58 = .ok (.iadd, 1) := by decide +kernel
theorem d_Rec_pass_59 : decode (ib f_Rec_pass) 59 = .ok (.istore 5, 2) := by decide +kernel
theorem d_Rec_pass_61 : decode (ib f_Rec_pass) 61 = .ok (.iload 5, 2) := by decide +kernel
theorem d_Rec_pass_63 : decode (ib f_Rec_pass) 63 = .ok (.iload_n 1, 1) := by decide +kernel
theorem d_Rec_pass_64 : decode (ib f_Rec_pass) 64 = .ok (.if_icmp .lt 22, 3) := by decide +kernel
theorem d_Rec_pass_67 : decode (ib f_Rec_pass) 67 = .ok (.iload 4, 2) := by decide +kernel
theorem d_Rec_pass_69 : decode (ib f_Rec_pass) 69 = .ok (.ifCond .ne 12, 3) := by decide +kernel
theorem d_Rec_pass_72 : decode (ib f_Rec_pass) 72 = .ok (.iload 6, 2) := by decide +kernel
theorem d_Rec_pass_74 : decode (ib f_Rec_pass) 74 = .ok (.iload_n 1, 1) := by decide +kernel
theorem d_Rec_pass_75 : decode (ib f_Rec_pass) 75 = .ok (.isub, 1) := by decide +kernel
theorem d_Rec_pass_76 : decode (ib f_Rec_pass) 76 = .ok (.iconst 1, 1) := by decide +kernel
theorem d_Rec_pass_77 : decode (ib f_Rec_pass) 77 = .ok (.iadd, 1) := by decide +kernel
theorem d_Rec_pass_78 : decode (ib f_Rec_pass) 78 = .ok (.goto 4, 3) := by decide +kernel
theorem d_Rec_pass_81 : decode (ib f_Rec_pass) 81 = .ok (.iload_n 3, 1) := by decide +kernel
theorem d_Rec_pass_82 : decode (ib f_Rec_pass) 82 = .ok (.istore_n 3, 1) := by decide +kernel
theorem d_Rec_pass_83 : decode (ib f_Rec_pass) 83 = .ok (.iinc 4 1, 3) := by decide +kernel
theorem d_Rec_pass_86 : decode (ib f_Rec_pass) 86 = .ok (.iinc 6 1, 3) := by decide +kernel
theorem d_Rec_pass_89 : decode (ib f_Rec_pass) 89 = .ok (.goto (-57), 3) := by decide +kernel
theorem d_Rec_pass_92 : decode (ib f_Rec_pass) 92 = .ok (.iload_n 2, 1) := by decide +kernel
theorem d_Rec_pass_93 : decode (ib f_Rec_pass) 93 = .ok (.ifCond .ne 7, 3) := by decide +kernel
theorem d_Rec_pass_96 : decode (ib f_Rec_pass) 96 = .ok (.iload_n 3, 1) := by decide +kernel
theorem d_Rec_pass_97 : decode (ib f_Rec_pass) 97 = .ok (.goto 5, 3) := by decide +kernel
theorem d_Rec_pass_100 : decode (ib f_Rec_pass) 100 = .ok (.iload 4, 2) := by decide +kernel
theorem d_Rec_pass_102 : decode (ib f_Rec_pass) 102 = .ok (.ireturn, 1) := by decide +kernel
theorem d_Rec_words_0 : decode (ib f_Rec_words) 0 = .ok (.aload_n 0, 1) := by decide +kernel
theorem d_Rec_words_1 : decode (ib f_Rec_words) 1 = .ok (.getfield 19, 3) := by decide +kernel
theorem d_Rec_words_4 : decode (ib f_Rec_words) 4 = .ok (.getfield 248, 3) := by decide +kernel
theorem d_Rec_words_7 : decode (ib f_Rec_words) 7 = .ok (.iload_n 1, 1) := by decide +kernel
theorem d_Rec_words_8 : decode (ib f_Rec_words) 8 = .ok (.iload_n 2, 1) := by decide +kernel
theorem d_Rec_words_9 : decode (ib f_Rec_words) 9 = .ok (.iload_n 1, 1) := by decide +kernel
theorem d_Rec_words_10 : decode (ib f_Rec_words) 10 = .ok (.iconst (-1), 1) := by decide +kernel
theorem d_Rec_words_11 : decode (ib f_Rec_words) 11 = .ok (.if_icmp .ne 7, 3) := by decide +kernel
theorem d_Rec_words_14 : decode (ib f_Rec_words) 14 = .ok (.iconst 1, 1) := by decide +kernel
theorem d_Rec_words_15 : decode (ib f_Rec_words) 15 = .ok (.goto 4, 3) := by decide +kernel
theorem d_Rec_words_18 : decode (ib f_Rec_words) 18 = .ok (.iconst 0, 1) := by decide +kernel
theorem d_Rec_words_19 : decode (ib f_Rec_words) 19 = .ok (.iload_n 1, 1) := by decide +kernel
theorem d_Rec_words_20 : decode (ib f_Rec_words) 20 = .ok (.iconst 1, 1) := by decide +kernel
theorem d_Rec_words_21 : decode (ib f_Rec_words) 21 = .ok (.bipush 30, 2) := by decide +kernel
theorem d_Rec_words_23 : decode (ib f_Rec_words) 23 = .ok (.invokestatic 96, 3) := by decide +kernel
theorem d_Rec_words_26 : decode (ib f_Rec_words) 26 = .ok (.ifCond .eq 17, 3) := by decide +kernel
theorem d_Rec_words_29 : decode (ib f_Rec_words) 29 = .ok (.iload_n 2, 1) := by decide +kernel
theorem d_Rec_words_30 : decode (ib f_Rec_words) 30 = .ok (.iconst 0, 1) := by decide +kernel
theorem d_Rec_words_31 : decode (ib f_Rec_words) 31 = .ok (.bipush 99, 2) := by decide +kernel
theorem d_Rec_words_33 : decode (ib f_Rec_words) 33 = .ok (.invokestatic 96, 3) := by decide +kernel
theorem d_Rec_words_36 : decode (ib f_Rec_words) 36 = .ok (.ifCond .eq 7, 3) := by decide +kernel
theorem d_Rec_words_39 : decode (ib f_Rec_words) 39 = .ok (.iconst 1, 1) := by decide +kernel
theorem d_Rec_words_40 : decode (ib f_Rec_words) 40 = .ok (.goto 4, 3) := by decide +kernel
theorem d_Rec_words_43 : decode (ib f_Rec_words) 43 = .ok (.iconst 0, 1) := by decide +kernel
theorem d_Rec_words_44 : decode (ib f_Rec_words) 44 = .ok (.invokestatic 233, 3) := by decide +kernel
theorem d_Rec_words_47 : decode (ib f_Rec_words) 47 = .ok (.ireturn, 1) := by decide +kernel
theorem d_Rec_legs_0 : decode (ib f_Rec_legs) 0 = .ok (.iload_n 1, 1) := by decide +kernel
theorem d_Rec_legs_1 : decode (ib f_Rec_legs) 1 = .ok (.iconst 0, 1) := by decide +kernel
theorem d_Rec_legs_2 : decode (ib f_Rec_legs) 2 = .ok (.iconst 1, 1) := by decide +kernel
theorem d_Rec_legs_3 : decode (ib f_Rec_legs) 3 = .ok (.invokestatic 96, 3) := by decide +kernel
theorem d_Rec_legs_6 : decode (ib f_Rec_legs) 6 = .ok (.ifCond .eq 11, 3) := by decide +kernel
theorem d_Rec_legs_9 : decode (ib f_Rec_legs) 9 = .ok (.aload_n 0, 1) := by decide +kernel
theorem d_Rec_legs_10 : decode (ib f_Rec_legs) 10 = .ok (.iload_n 1, 1) := by decide +kernel
theorem d_Rec_legs_11 : decode (ib f_Rec_legs) 11 = .ok (.invokevirtual 251, 3) := by decide +kernel
theorem d_Rec_legs_14 : decode (ib f_Rec_legs) 14 = .ok (.goto 4, 3) := by decide +kernel
theorem d_Rec_legs_17 : decode (ib f_Rec_legs) 17 = .ok (.iconst (-1), 1) := by decide +kernel
