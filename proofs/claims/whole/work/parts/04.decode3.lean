theorem d_Mod_readSum_55 : decode (ib f_Mod_readSum) 55 = .ok (.iconst (-1), 1) := by decide +kernel
theorem d_Mod_readSum_56 : decode (ib f_Mod_readSum) 56 = .ok (.ireturn, 1) := by decide +kernel
theorem d_Mod_readSum_57 : decode (ib f_Mod_readSum) 57 = .ok (.aload_n 0, 1) := by decide +kernel
theorem d_Mod_readSum_58 : decode (ib f_Mod_readSum) 58 = .ok (.iload_n 1, 1) := by decide +kernel
theorem d_Mod_readSum_59 : decode (ib f_Mod_readSum) 59 = .ok (.iconst 0, 1) := by decide +kernel
theorem d_Mod_readSum_60 : decode (ib f_Mod_readSum) 60 = .ok (.invokevirtual 199, 3) := by decide +kernel
theorem d_Mod_readSum_63 : decode (ib f_Mod_readSum) 63 = .ok (.goto (-53), 3) := by decide +kernel
theorem d_Mod_readSum_66 : decode (ib f_Mod_readSum) 66 = .ok (.iconst 0, 1) := by decide +kernel
theorem d_Mod_readSum_67 : decode (ib f_Mod_readSum) 67 = .ok (.ireturn, 1) := by decide +kernel
theorem d_Mod_readCompared_0 : decode (ib f_Mod_readCompared) 0 = .ok (.aload_n 0, 1) := by decide +kernel
theorem d_Mod_readCompared_1 : decode (ib f_Mod_readCompared) 1 = .ok (.invokevirtual 215, 3) := by decide +kernel
theorem d_Mod_readCompared_4 : decode (ib f_Mod_readCompared) 4 = .ok (.iconst (-1), 1) := by decide +kernel
theorem d_Mod_readCompared_5 : decode (ib f_Mod_readCompared) 5 = .ok (.if_icmp .ne 5, 3) := by decide +kernel
theorem d_Mod_readCompared_8 : decode (ib f_Mod_readCompared) 8 = .ok (.iconst (-1), 1) := by decide +kernel
theorem d_Mod_readCompared_9 : decode (ib f_Mod_readCompared) 9 = .ok (.ireturn, 1) := by decide +kernel
theorem d_Mod_readCompared_10 : decode (ib f_Mod_readCompared) 10 = .ok (.aload_n 0, 1) := by decide +kernel
theorem d_Mod_readCompared_11 : decode (ib f_Mod_readCompared) 11 = .ok (.bipush 60, 2) := by decide +kernel
theorem d_Mod_readCompared_13 : decode (ib f_Mod_readCompared) 13 = .ok (.invokevirtual 209, 3) := by decide +kernel
theorem d_Mod_readCompared_16 : decode (ib f_Mod_readCompared) 16 = .ok (.ifCond .ne 27, 3) := by decide +kernel
theorem d_Mod_readCompared_19 : decode (ib f_Mod_readCompared) 19 = .ok (.aload_n 0, 1) := by decide +kernel
theorem d_Mod_readCompared_20 : decode (ib f_Mod_readCompared) 20 = .ok (.bipush 61, 2) := by decide +kernel
theorem d_Mod_readCompared_22 : decode (ib f_Mod_readCompared) 22 = .ok (.invokevirtual 209, 3) := by decide +kernel
theorem d_Mod_readCompared_25 : decode (ib f_Mod_readCompared) 25 = .ok (.ifCond .ne 18, 3) := by decide +kernel
theorem d_Mod_readCompared_28 : decode (ib f_Mod_readCompared) 28 = .ok (.aload_n 0, 1) := by decide +kernel
theorem d_Mod_readCompared_29 : decode (ib f_Mod_readCompared) 29 = .ok (.bipush 62, 2) := by decide +kernel
theorem d_Mod_readCompared_31 : decode (ib f_Mod_readCompared) 31 = .ok (.invokevirtual 209, 3) := by decide +kernel
theorem d_Mod_readCompared_34 : decode (ib f_Mod_readCompared) 34 = .ok (.ifCond .ne 9, 3) := by decide +kernel
theorem d_Mod_readCompared_37 : decode (ib f_Mod_readCompared) 37 = .ok (.aload_n 0, 1) := by decide +kernel
theorem d_Mod_readCompared_38 : decode (ib f_Mod_readCompared) 38 = .ok (.iconst 1, 1) := by decide +kernel
theorem d_Mod_readCompared_39 : decode (ib f_Mod_readCompared) 39 = .ok (.invokevirtual 196, 3) := by decide +kernel
theorem d_Mod_readCompared_42 : decode (ib f_Mod_readCompared) 42 = .ok (.ireturn, 1) := by decide +kernel
theorem d_Mod_readCompared_43 : decode (ib f_Mod_readCompared) 43 = .ok (.aload_n 0, 1) := by decide +kernel
theorem d_Mod_readCompared_44 : decode (ib f_Mod_readCompared) 44 = .ok (.getfield 168, 3) := by decide +kernel
theorem d_Mod_readCompared_47 : decode (ib f_Mod_readCompared) 47 = .ok (.bipush 60, 2) := by decide +kernel
theorem d_Mod_readCompared_49 : decode (ib f_Mod_readCompared) 49 = .ok (.if_icmp .ne 8, 3) := by decide +kernel
theorem d_Mod_readCompared_52 : decode (ib f_Mod_readCompared) 52 = .ok (.bipush 6, 2) := by decide +kernel
theorem d_Mod_readCompared_54 : decode (ib f_Mod_readCompared) 54 = .ok (.goto 19, 3) := by decide +kernel
theorem d_Mod_readCompared_57 : decode (ib f_Mod_readCompared) 57 = .ok (.aload_n 0, 1) := by decide +kernel
theorem d_Mod_readCompared_58 : decode (ib f_Mod_readCompared) 58 = .ok (.getfield 168, 3) := by decide +kernel
theorem d_Mod_readCompared_61 : decode (ib f_Mod_readCompared) 61 = .ok (.bipush 61, 2) := by decide +kernel
theorem d_Mod_readCompared_63 : decode (ib f_Mod_readCompared) 63 = .ok (.if_icmp .ne 8, 3) := by decide +kernel
theorem d_Mod_readCompared_66 : decode (ib f_Mod_readCompared) 66 = .ok (.bipush 7, 2) := by decide +kernel
theorem d_Mod_readCompared_68 : decode (ib f_Mod_readCompared) 68 = .ok (.goto 5, 3) := by decide +kernel
theorem d_Mod_readCompared_71 : decode (ib f_Mod_readCompared) 71 = .ok (.bipush 8, 2) := by decide +kernel
theorem d_Mod_readCompared_73 : decode (ib f_Mod_readCompared) 73 = .ok (.istore_n 1, 1) := by decide +kernel
theorem d_Mod_readCompared_74 : decode (ib f_Mod_readCompared) 74 = .ok (.aload_n 0, 1) := by decide +kernel
theorem d_Mod_readCompared_75 : decode (ib f_Mod_readCompared) 75 = .ok (.invokevirtual 202, 3) := by decide +kernel
theorem d_Mod_readCompared_78 : decode (ib f_Mod_readCompared) 78 = .ok (.aload_n 0, 1) := by decide +kernel
theorem d_Mod_readCompared_79 : decode (ib f_Mod_readCompared) 79 = .ok (.invokevirtual 215, 3) := by decide +kernel
theorem d_Mod_readCompared_82 : decode (ib f_Mod_readCompared) 82 = .ok (.iconst (-1), 1) := by decide +kernel
theorem d_Mod_readCompared_83 : decode (ib f_Mod_readCompared) 83 = .ok (.if_icmp .ne 5, 3) := by decide +kernel
theorem d_Mod_readCompared_86 : decode (ib f_Mod_readCompared) 86 = .ok (.iconst (-1), 1) := by decide +kernel
theorem d_Mod_readCompared_87 : decode (ib f_Mod_readCompared) 87 = .ok (.ireturn, 1) := by decide +kernel
theorem d_Mod_readCompared_88 : decode (ib f_Mod_readCompared) 88 = .ok (.aload_n 0, 1) := by decide +kernel
theorem d_Mod_readCompared_89 : decode (ib f_Mod_readCompared) 89 = .ok (.iload_n 1, 1) := by decide +kernel
theorem d_Mod_readCompared_90 : decode (ib f_Mod_readCompared) 90 = .ok (.iconst 0, 1) := by decide +kernel
theorem d_Mod_readCompared_91 : decode (ib f_Mod_readCompared) 91 = .ok (.invokevirtual 199, 3) := by decide +kernel
theorem d_Mod_readCompared_94 : decode (ib f_Mod_readCompared) 94 = .ok (.iconst 0, 1) := by decide +kernel
theorem d_Mod_readCompared_95 : decode (ib f_Mod_readCompared) 95 = .ok (.ireturn, 1) := by decide +kernel
theorem d_Mod_waits_0 : decode (ib f_Mod_waits) 0 = .ok (.aload_n 0, 1) := by decide +kernel
theorem d_Mod_waits_1 : decode (ib f_Mod_waits) 1 = .ok (.getfield 49, 3) := by decide +kernel
theorem d_Mod_waits_4 : decode (ib f_Mod_waits) 4 = .ok (.aload_n 0, 1) := by decide +kernel
theorem d_Mod_waits_5 : decode (ib f_Mod_waits) 5 = .ok (.getfield 218, 3) := by decide +kernel
theorem d_Mod_waits_8 : decode (ib f_Mod_waits) 8 = .ok (.iload_n 1, 1) := by decide +kernel
theorem d_Mod_waits_9 : decode (ib f_Mod_waits) 9 = .ok (.iastore, 1) := by decide +kernel
theorem d_Mod_waits_10 : decode (ib f_Mod_waits) 10 = .ok (.aload_n 0, 1) := by decide +kernel
theorem d_Mod_waits_11 : decode (ib f_Mod_waits) 11 = .ok (.aload_n 0, 1) := by decide +kernel
theorem d_Mod_waits_12 : decode (ib f_Mod_waits) 12 = .ok (.getfield 218, 3) := by decide +kernel
theorem d_Mod_waits_15 : decode (ib f_Mod_waits) 15 = .ok (.iconst 1, 1) := by decide +kernel
theorem d_Mod_waits_16 : decode (ib f_Mod_waits) 16 = .ok (.iadd, 1) := by decide +kernel
theorem d_Mod_waits_17 : decode (ib f_Mod_waits) 17 = .ok (.putfield 218, 3) := by decide +kernel
theorem d_Mod_waits_20 : decode (ib f_Mod_waits) 20 = .ok (.return_, 1) := by decide +kernel
theorem d_Mod_settles_0 : decode (ib f_Mod_settles) 0 = .ok (.aload_n 0, 1) := by decide +kernel
theorem d_Mod_settles_1 : decode (ib f_Mod_settles) 1 = .ok (.getfield 218, 3) := by decide +kernel
theorem d_Mod_settles_4 : decode (ib f_Mod_settles) 4 = .ok (.ifCond .le 53, 3) := by decide +kernel
theorem d_Mod_settles_7 : decode (ib f_Mod_settles) 7 = .ok (.aload_n 0, 1) := by decide +kernel
theorem d_Mod_settles_8 : decode (ib f_Mod_settles) 8 = .ok (.getfield 49, 3) := by decide +kernel
theorem d_Mod_settles_11 : decode (ib f_Mod_settles) 11 = .ok (.aload_n 0, 1) := by decide +kernel
theorem d_Mod_settles_12 : decode (ib f_Mod_settles) 12 = .ok (.getfield 218, 3) := by decide +kernel
theorem d_Mod_settles_15 : decode (ib f_Mod_settles) 15 = .ok (.iconst 1, 1) := by decide +kernel
theorem d_Mod_settles_16 : decode (ib f_Mod_settles) 16 = .ok (.isub, 1) := by decide +kernel
theorem d_Mod_settles_17 : decode (ib f_Mod_settles) 17 = .ok (.iaload, 1) := by decide +kernel
theorem d_Mod_settles_18 : decode (ib f_Mod_settles) 18 = .ok (.iload_n 1, 1) := by decide +kernel
theorem d_Mod_settles_19 : decode (ib f_Mod_settles) 19 = .ok (.if_icmp .ne 38, 3) := by decide +kernel
theorem d_Mod_settles_22 : decode (ib f_Mod_settles) 22 = .ok (.aload_n 0, 1) := by decide +kernel
theorem d_Mod_settles_23 : decode (ib f_Mod_settles) 23 = .ok (.aload_n 0, 1) := by decide +kernel
theorem d_Mod_settles_24 : decode (ib f_Mod_settles) 24 = .ok (.getfield 218, 3) := by decide +kernel
theorem d_Mod_settles_27 : decode (ib f_Mod_settles) 27 = .ok (.iconst 1, 1) := by decide +kernel
theorem d_Mod_settles_28 : decode (ib f_Mod_settles) 28 = .ok (.isub, 1) := by decide +kernel
theorem d_Mod_settles_29 : decode (ib f_Mod_settles) 29 = .ok (.putfield 218, 3) := by decide +kernel
theorem d_Mod_settles_32 : decode (ib f_Mod_settles) 32 = .ok (.aload_n 0, 1) := by decide +kernel
theorem d_Mod_settles_33 : decode (ib f_Mod_settles) 33 = .ok (.iload_n 1, 1) := by decide +kernel
theorem d_Mod_settles_34 : decode (ib f_Mod_settles) 34 = .ok (.iconst 0, 1) := by decide +kernel
theorem d_Mod_settles_35 : decode (ib f_Mod_settles) 35 = .ok (.invokevirtual 199, 3) := by decide +kernel
theorem d_Mod_settles_38 : decode (ib f_Mod_settles) 38 = .ok (.iload_n 1, 1) := by decide +kernel
theorem d_Mod_settles_39 : decode (ib f_Mod_settles) 39 = .ok (.bipush 9, 2) := by decide +kernel
theorem d_Mod_settles_41 : decode (ib f_Mod_settles) 41 = .ok (.if_icmp .ne (-41), 3) := by decide +kernel
theorem d_Mod_settles_44 : decode (ib f_Mod_settles) 44 = .ok (.aload_n 0, 1) := by decide +kernel
theorem d_Mod_settles_45 : decode (ib f_Mod_settles) 45 = .ok (.aload_n 0, 1) := by decide +kernel
theorem d_Mod_settles_46 : decode (ib f_Mod_settles) 46 = .ok (.getfield 221, 3) := by decide +kernel
theorem d_Mod_settles_49 : decode (ib f_Mod_settles) 49 = .ok (.iconst 1, 1) := by decide +kernel
theorem d_Mod_settles_50 : decode (ib f_Mod_settles) 50 = .ok (.isub, 1) := by decide +kernel
theorem d_Mod_settles_51 : decode (ib f_Mod_settles) 51 = .ok (.putfield 221, 3) := by decide +kernel
theorem d_Mod_settles_54 : decode (ib f_Mod_settles) 54 = .ok (.goto (-54), 3) := by decide +kernel
theorem d_Mod_settles_57 : decode (ib f_Mod_settles) 57 = .ok (.return_, 1) := by decide +kernel
theorem d_Mod_readAny_0 : decode (ib f_Mod_readAny) 0 = .ok (.iconst 0, 1) := by decide +kernel
theorem d_Mod_readAny_1 : decode (ib f_Mod_readAny) 1 = .ok (.istore_n 1, 1) := by decide +kernel
theorem d_Mod_readAny_2 : decode (ib f_Mod_readAny) 2 = .ok (.aload_n 0, 1) := by decide +kernel
theorem d_Mod_readAny_3 : decode (ib f_Mod_readAny) 3 = .ok (.iconst 0, 1) := by decide +kernel
theorem d_Mod_readAny_4 : decode (ib f_Mod_readAny) 4 = .ok (.putfield 218, 3) := by decide +kernel
theorem d_Mod_readAny_7 : decode (ib f_Mod_readAny) 7 = .ok (.iconst 1, 1) := by decide +kernel
theorem d_Mod_readAny_8 : decode (ib f_Mod_readAny) 8 = .ok (.istore_n 2, 1) := by decide +kernel
theorem d_Mod_readAny_9 : decode (ib f_Mod_readAny) 9 = .ok (.iload_n 2, 1) := by decide +kernel
theorem d_Mod_readAny_10 : decode (ib f_Mod_readAny) 10 = .ok (.ifCond .eq 99, 3) := by decide +kernel
theorem d_Mod_readAny_13 : decode (ib f_Mod_readAny) 13 = .ok (.aload_n 0, 1) := by decide +kernel
theorem d_Mod_readAny_14 : decode (ib f_Mod_readAny) 14 = .ok (.bipush 6, 2) := by decide +kernel
theorem d_Mod_readAny_16 : decode (ib f_Mod_readAny) 16 = .ok (.invokevirtual 224, 3) := by decide +kernel
theorem d_Mod_readAny_19 : decode (ib f_Mod_readAny) 19 = .ok (.istore_n 3, 1) := by decide +kernel
theorem d_Mod_readAny_20 : decode (ib f_Mod_readAny) 20 = .ok (.iload_n 3, 1) := by decide +kernel
theorem d_Mod_readAny_21 : decode (ib f_Mod_readAny) 21 = .ok (.ifCond .ne 12, 3) := by decide +kernel
theorem d_Mod_readAny_24 : decode (ib f_Mod_readAny) 24 = .ok (.aload_n 0, 1) := by decide +kernel
theorem d_Mod_readAny_25 : decode (ib f_Mod_readAny) 25 = .ok (.bipush 40, 2) := by decide +kernel
theorem d_Mod_readAny_27 : decode (ib f_Mod_readAny) 27 = .ok (.invokevirtual 209, 3) := by decide +kernel
theorem d_Mod_readAny_30 : decode (ib f_Mod_readAny) 30 = .ok (.ifCond .eq 58, 3) := by decide +kernel
theorem d_Mod_readAny_33 : decode (ib f_Mod_readAny) 33 = .ok (.aload_n 0, 1) := by decide +kernel
theorem d_Mod_readAny_34 : decode (ib f_Mod_readAny) 34 = .ok (.getfield 221, 3) := by decide +kernel
theorem d_Mod_readAny_37 : decode (ib f_Mod_readAny) 37 = .ok (.bipush 8, 2) := by decide +kernel
theorem d_Mod_readAny_39 : decode (ib f_Mod_readAny) 39 = .ok (.if_icmp .ne 9, 3) := by decide +kernel
theorem d_Mod_readAny_42 : decode (ib f_Mod_readAny) 42 = .ok (.aload_n 0, 1) := by decide +kernel
theorem d_Mod_readAny_43 : decode (ib f_Mod_readAny) 43 = .ok (.iconst 3, 1) := by decide +kernel
theorem d_Mod_readAny_44 : decode (ib f_Mod_readAny) 44 = .ok (.invokevirtual 196, 3) := by decide +kernel
theorem d_Mod_readAny_47 : decode (ib f_Mod_readAny) 47 = .ok (.ireturn, 1) := by decide +kernel
theorem d_Mod_readAny_48 : decode (ib f_Mod_readAny) 48 = .ok (.aload_n 0, 1) := by decide +kernel
theorem d_Mod_readAny_49 : decode (ib f_Mod_readAny) 49 = .ok (.aload_n 0, 1) := by decide +kernel
theorem d_Mod_readAny_50 : decode (ib f_Mod_readAny) 50 = .ok (.getfield 221, 3) := by decide +kernel
theorem d_Mod_readAny_53 : decode (ib f_Mod_readAny) 53 = .ok (.iconst 1, 1) := by decide +kernel
theorem d_Mod_readAny_54 : decode (ib f_Mod_readAny) 54 = .ok (.iadd, 1) := by decide +kernel
theorem d_Mod_readAny_55 : decode (ib f_Mod_readAny) 55 = .ok (.putfield 221, 3) := by decide +kernel
theorem d_Mod_readAny_58 : decode (ib f_Mod_readAny) 58 = .ok (.iload_n 3, 1) := by decide +kernel
theorem d_Mod_readAny_59 : decode (ib f_Mod_readAny) 59 = .ok (.ifCond .ne 7, 3) := by decide +kernel
theorem d_Mod_readAny_62 : decode (ib f_Mod_readAny) 62 = .ok (.iload_n 1, 1) := by decide +kernel
theorem d_Mod_readAny_63 : decode (ib f_Mod_readAny) 63 = .ok (.iconst 1, 1) := by decide +kernel
theorem d_Mod_readAny_64 : decode (ib f_Mod_readAny) 64 = .ok (.iadd, 1) := by decide +kernel
theorem d_Mod_readAny_65 : decode (ib f_Mod_readAny) 65 = .ok (.istore_n 1, 1) := by decide +kernel
theorem d_Mod_readAny_66 : decode (ib f_Mod_readAny) 66 = .ok (.aload_n 0, 1) := by decide +kernel
theorem d_Mod_readAny_67 : decode (ib f_Mod_readAny) 67 = .ok (.iload_n 3, 1) := by decide +kernel
theorem d_Mod_readAny_68 : decode (ib f_Mod_readAny) 68 = .ok (.ifCond .eq 8, 3) := by decide +kernel
theorem d_Mod_readAny_71 : decode (ib f_Mod_readAny) 71 = .ok (.bipush 9, 2) := by decide +kernel
theorem d_Mod_readAny_73 : decode (ib f_Mod_readAny) 73 = .ok (.goto 5, 3) := by decide +kernel
theorem d_Mod_readAny_76 : decode (ib f_Mod_readAny) 76 = .ok (.bipush 12, 2) := by decide +kernel
theorem d_Mod_readAny_78 : decode (ib f_Mod_readAny) 78 = .ok (.invokevirtual 227, 3) := by decide +kernel
theorem d_Mod_readAny_81 : decode (ib f_Mod_readAny) 81 = .ok (.aload_n 0, 1) := by decide +kernel
theorem d_Mod_readAny_82 : decode (ib f_Mod_readAny) 82 = .ok (.invokevirtual 202, 3) := by decide +kernel
theorem d_Mod_readAny_85 : decode (ib f_Mod_readAny) 85 = .ok (.goto (-76), 3) := by decide +kernel
theorem d_Mod_readAny_88 : decode (ib f_Mod_readAny) 88 = .ok (.aload_n 0, 1) := by decide +kernel
theorem d_Mod_readAny_89 : decode (ib f_Mod_readAny) 89 = .ok (.invokevirtual 230, 3) := by decide +kernel
theorem d_Mod_readAny_92 : decode (ib f_Mod_readAny) 92 = .ok (.iconst (-1), 1) := by decide +kernel
theorem d_Mod_readAny_93 : decode (ib f_Mod_readAny) 93 = .ok (.if_icmp .ne 5, 3) := by decide +kernel
theorem d_Mod_readAny_96 : decode (ib f_Mod_readAny) 96 = .ok (.iconst (-1), 1) := by decide +kernel
theorem d_Mod_readAny_97 : decode (ib f_Mod_readAny) 97 = .ok (.ireturn, 1) := by decide +kernel
theorem d_Mod_readAny_98 : decode (ib f_Mod_readAny) 98 = .ok (.aload_n 0, 1) := by decide +kernel
theorem d_Mod_readAny_99 : decode (ib f_Mod_readAny) 99 = .ok (.bipush 9, 2) := by decide +kernel
theorem d_Mod_readAny_101 : decode (ib f_Mod_readAny) 101 = .ok (.invokevirtual 233, 3) := by decide +kernel
theorem d_Mod_readAny_104 : decode (ib f_Mod_readAny) 104 = .ok (.iconst 0, 1) := by decide +kernel
theorem d_Mod_readAny_105 : decode (ib f_Mod_readAny) 105 = .ok (.istore_n 2, 1) := by decide +kernel
theorem d_Mod_readAny_106 : decode (ib f_Mod_readAny) 106 = .ok (.goto (-97), 3) := by decide +kernel
theorem d_Mod_readAny_109 : decode (ib f_Mod_readAny) 109 = .ok (.aload_n 0, 1) := by decide +kernel
theorem d_Mod_readAny_110 : decode (ib f_Mod_readAny) 110 = .ok (.iconst 5, 1) := by decide +kernel
theorem d_Mod_readAny_111 : decode (ib f_Mod_readAny) 111 = .ok (.invokevirtual 224, 3) := by decide +kernel
theorem d_Mod_readAny_114 : decode (ib f_Mod_readAny) 114 = .ok (.ifCond .eq 24, 3) := by decide +kernel
theorem d_Mod_readAny_117 : decode (ib f_Mod_readAny) 117 = .ok (.aload_n 0, 1) := by decide +kernel
theorem d_Mod_readAny_118 : decode (ib f_Mod_readAny) 118 = .ok (.bipush 10, 2) := by decide +kernel
theorem d_Mod_readAny_120 : decode (ib f_Mod_readAny) 120 = .ok (.invokevirtual 233, 3) := by decide +kernel
theorem d_Mod_readAny_123 : decode (ib f_Mod_readAny) 123 = .ok (.aload_n 0, 1) := by decide +kernel
theorem d_Mod_readAny_124 : decode (ib f_Mod_readAny) 124 = .ok (.bipush 10, 2) := by decide +kernel
theorem d_Mod_readAny_126 : decode (ib f_Mod_readAny) 126 = .ok (.invokevirtual 227, 3) := by decide +kernel
theorem d_Mod_readAny_129 : decode (ib f_Mod_readAny) 129 = .ok (.aload_n 0, 1) := by decide +kernel
theorem d_Mod_readAny_130 : decode (ib f_Mod_readAny) 130 = .ok (.invokevirtual 202, 3) := by decide +kernel
theorem d_Mod_readAny_133 : decode (ib f_Mod_readAny) 133 = .ok (.iconst 1, 1) := by decide +kernel
theorem d_Mod_readAny_134 : decode (ib f_Mod_readAny) 134 = .ok (.istore_n 2, 1) := by decide +kernel
theorem d_Mod_readAny_135 : decode (ib f_Mod_readAny) 135 = .ok (.goto (-126), 3) := by decide +kernel
theorem d_Mod_readAny_138 : decode (ib f_Mod_readAny) 138 = .ok (.aload_n 0, 1) := by decide +kernel
theorem d_Mod_readAny_139 : decode (ib f_Mod_readAny) 139 = .ok (.iconst 4, 1) := by decide +kernel
theorem d_Mod_readAny_140 : decode (ib f_Mod_readAny) 140 = .ok (.invokevirtual 224, 3) := by decide +kernel
theorem d_Mod_readAny_143 : decode (ib f_Mod_readAny) 143 = .ok (.ifCond .eq 30, 3) := by decide +kernel
theorem d_Mod_readAny_146 : decode (ib f_Mod_readAny) 146 = .ok (.aload_n 0, 1) := by decide +kernel
theorem d_Mod_readAny_147 : decode (ib f_Mod_readAny) 147 = .ok (.bipush 10, 2) := by decide +kernel
theorem d_Mod_readAny_149 : decode (ib f_Mod_readAny) 149 = .ok (.invokevirtual 233, 3) := by decide +kernel
theorem d_Mod_readAny_152 : decode (ib f_Mod_readAny) 152 = .ok (.aload_n 0, 1) := by decide +kernel
theorem d_Mod_readAny_153 : decode (ib f_Mod_readAny) 153 = .ok (.bipush 11, 2) := by decide +kernel
theorem d_Mod_readAny_155 : decode (ib f_Mod_readAny) 155 = .ok (.invokevirtual 233, 3) := by decide +kernel
theorem d_Mod_readAny_158 : decode (ib f_Mod_readAny) 158 = .ok (.aload_n 0, 1) := by decide +kernel
theorem d_Mod_readAny_159 : decode (ib f_Mod_readAny) 159 = .ok (.bipush 11, 2) := by decide +kernel
theorem d_Mod_readAny_161 : decode (ib f_Mod_readAny) 161 = .ok (.invokevirtual 227, 3) := by decide +kernel
theorem d_Mod_readAny_164 : decode (ib f_Mod_readAny) 164 = .ok (.aload_n 0, 1) := by decide +kernel
theorem d_Mod_readAny_165 : decode (ib f_Mod_readAny) 165 = .ok (.invokevirtual 202, 3) := by decide +kernel
theorem d_Mod_readAny_168 : decode (ib f_Mod_readAny) 168 = .ok (.iconst 1, 1) := by decide +kernel
theorem d_Mod_readAny_169 : decode (ib f_Mod_readAny) 169 = .ok (.istore_n 2, 1) := by decide +kernel
theorem d_Mod_readAny_170 : decode (ib f_Mod_readAny) 170 = .ok (.goto (-161), 3) := by decide +kernel
theorem d_Mod_readAny_173 : decode (ib f_Mod_readAny) 173 = .ok (.aload_n 0, 1) := by decide +kernel
theorem d_Mod_readAny_174 : decode (ib f_Mod_readAny) 174 = .ok (.bipush 10, 2) := by decide +kernel
theorem d_Mod_readAny_176 : decode (ib f_Mod_readAny) 176 = .ok (.invokevirtual 233, 3) := by decide +kernel
theorem d_Mod_readAny_179 : decode (ib f_Mod_readAny) 179 = .ok (.aload_n 0, 1) := by decide +kernel
theorem d_Mod_readAny_180 : decode (ib f_Mod_readAny) 180 = .ok (.bipush 11, 2) := by decide +kernel
theorem d_Mod_readAny_182 : decode (ib f_Mod_readAny) 182 = .ok (.invokevirtual 233, 3) := by decide +kernel
theorem d_Mod_readAny_185 : decode (ib f_Mod_readAny) 185 = .ok (.iload_n 1, 1) := by decide +kernel
theorem d_Mod_readAny_186 : decode (ib f_Mod_readAny) 186 = .ok (.ifCond .ne 5, 3) := by decide +kernel
theorem d_Mod_readAny_189 : decode (ib f_Mod_readAny) 189 = .ok (.iconst 0, 1) := by decide +kernel
theorem d_Mod_readAny_190 : decode (ib f_Mod_readAny) 190 = .ok (.ireturn, 1) := by decide +kernel
theorem d_Mod_readAny_191 : decode (ib f_Mod_readAny) 191 = .ok (.aload_n 0, 1) := by decide +kernel
theorem d_Mod_readAny_192 : decode (ib f_Mod_readAny) 192 = .ok (.bipush 41, 2) := by decide +kernel
theorem d_Mod_readAny_194 : decode (ib f_Mod_readAny) 194 = .ok (.invokevirtual 209, 3) := by decide +kernel
theorem d_Mod_readAny_197 : decode (ib f_Mod_readAny) 197 = .ok (.ifCond .ne 9, 3) := by decide +kernel
theorem d_Mod_readAny_200 : decode (ib f_Mod_readAny) 200 = .ok (.aload_n 0, 1) := by decide +kernel
theorem d_Mod_readAny_201 : decode (ib f_Mod_readAny) 201 = .ok (.iconst 1, 1) := by decide +kernel
theorem d_Mod_readAny_202 : decode (ib f_Mod_readAny) 202 = .ok (.invokevirtual 196, 3) := by decide +kernel
theorem d_Mod_readAny_205 : decode (ib f_Mod_readAny) 205 = .ok (.ireturn, 1) := by decide +kernel
theorem d_Mod_readAny_206 : decode (ib f_Mod_readAny) 206 = .ok (.aload_n 0, 1) := by decide +kernel
theorem d_Mod_readAny_207 : decode (ib f_Mod_readAny) 207 = .ok (.aload_n 0, 1) := by decide +kernel
theorem d_Mod_readAny_208 : decode (ib f_Mod_readAny) 208 = .ok (.getfield 218, 3) := by decide +kernel
theorem d_Mod_readAny_211 : decode (ib f_Mod_readAny) 211 = .ok (.iconst 1, 1) := by decide +kernel
theorem d_Mod_readAny_212 : decode (ib f_Mod_readAny) 212 = .ok (.isub, 1) := by decide +kernel
theorem d_Mod_readAny_213 : decode (ib f_Mod_readAny) 213 = .ok (.putfield 218, 3) := by decide +kernel
theorem d_Mod_readAny_216 : decode (ib f_Mod_readAny) 216 = .ok (.iload_n 1, 1) := by decide +kernel
theorem d_Mod_readAny_217 : decode (ib f_Mod_readAny) 217 = .ok (.iconst 1, 1) := by decide +kernel
theorem d_Mod_readAny_218 : decode (ib f_Mod_readAny) 218 = .ok (.isub, 1) := by decide +kernel
theorem d_Mod_readAny_219 : decode (ib f_Mod_readAny) 219 = .ok (.istore_n 1, 1) := by decide +kernel
theorem d_Mod_readAny_220 : decode (ib f_Mod_readAny) 220 = .ok (.aload_n 0, 1) := by decide +kernel
theorem d_Mod_readAny_221 : decode (ib f_Mod_readAny) 221 = .ok (.aload_n 0, 1) := by decide +kernel
theorem d_Mod_readAny_222 : decode (ib f_Mod_readAny) 222 = .ok (.getfield 221, 3) := by decide +kernel
theorem d_Mod_readAny_225 : decode (ib f_Mod_readAny) 225 = .ok (.iconst 1, 1) := by decide +kernel
theorem d_Mod_readAny_226 : decode (ib f_Mod_readAny) 226 = .ok (.isub, 1) := by decide +kernel
theorem d_Mod_readAny_227 : decode (ib f_Mod_readAny) 227 = .ok (.putfield 221, 3) := by decide +kernel
theorem d_Mod_readAny_230 : decode (ib f_Mod_readAny) 230 = .ok (.aload_n 0, 1) := by decide +kernel
theorem d_Mod_readAny_231 : decode (ib f_Mod_readAny) 231 = .ok (.bipush 9, 2) := by decide +kernel
theorem d_Mod_readAny_233 : decode (ib f_Mod_readAny) 233 = .ok (.invokevirtual 233, 3) := by decide +kernel
theorem d_Mod_readAny_236 : decode (ib f_Mod_readAny) 236 = .ok (.aload_n 0, 1) := by decide +kernel
theorem d_Mod_readAny_237 : decode (ib f_Mod_readAny) 237 = .ok (.invokevirtual 202, 3) := by decide +kernel
theorem d_Mod_readAny_240 : decode (ib f_Mod_readAny) 240 = .ok (.goto (-231), 3) := by decide +kernel
theorem d_Mod_isLineWord_0 : decode (ib f_Mod_isLineWord) 0 = .ok (.aload_n 0, 1) := by decide +kernel
theorem d_Mod_isLineWord_1 : decode (ib f_Mod_isLineWord) 1 = .ok (.getfield 165, 3) := by decide +kernel
theorem d_Mod_isLineWord_4 : decode (ib f_Mod_isLineWord) 4 = .ok (.iconst 2, 1) := by decide +kernel
theorem d_Mod_isLineWord_5 : decode (ib f_Mod_isLineWord) 5 = .ok (.if_icmp .ne 20, 3) := by decide +kernel
theorem d_Mod_isLineWord_8 : decode (ib f_Mod_isLineWord) 8 = .ok (.aload_n 0, 1) := by decide +kernel
theorem d_Mod_isLineWord_9 : decode (ib f_Mod_isLineWord) 9 = .ok (.aload_n 0, 1) := by decide +kernel
theorem d_Mod_isLineWord_10 : decode (ib f_Mod_isLineWord) 10 = .ok (.getfield 168, 3) := by decide +kernel
theorem d_Mod_isLineWord_13 : decode (ib f_Mod_isLineWord) 13 = .ok (.iconst 0, 1) := by decide +kernel
theorem d_Mod_isLineWord_14 : decode (ib f_Mod_isLineWord) 14 = .ok (.iconst 2, 1) := by decide +kernel
theorem d_Mod_isLineWord_15 : decode (ib f_Mod_isLineWord) 15 = .ok (.invokevirtual 135, 3) := by decide +kernel
theorem d_Mod_isLineWord_18 : decode (ib f_Mod_isLineWord) 18 = .ok (.ifCond .eq 7, 3) := by decide +kernel
theorem d_Mod_isLineWord_21 : decode (ib f_Mod_isLineWord) 21 = .ok (.iconst 1, 1) := by decide +kernel
theorem d_Mod_isLineWord_22 : decode (ib f_Mod_isLineWord) 22 = .ok (.goto 4, 3) := by decide +kernel
theorem d_Mod_isLineWord_25 : decode (ib f_Mod_isLineWord) 25 = .ok (.iconst 0, 1) := by decide +kernel
theorem d_Mod_isLineWord_26 : decode (ib f_Mod_isLineWord) 26 = .ok (.ireturn, 1) := by decide +kernel
theorem d_Mod_readLaw_0 : decode (ib f_Mod_readLaw) 0 = .ok (.iconst 0, 1) := by decide +kernel
theorem d_Mod_readLaw_1 : decode (ib f_Mod_readLaw) 1 = .ok (.istore_n 1, 1) := by decide +kernel
theorem d_Mod_readLaw_2 : decode (ib f_Mod_readLaw) 2 = .ok (.aload_n 0, 1) := by decide +kernel
theorem d_Mod_readLaw_3 : decode (ib f_Mod_readLaw) 3 = .ok (.invokevirtual 236, 3) := by decide +kernel
theorem d_Mod_readLaw_6 : decode (ib f_Mod_readLaw) 6 = .ok (.ifCond .eq 122, 3) := by decide +kernel
theorem d_Mod_readLaw_9 : decode (ib f_Mod_readLaw) 9 = .ok (.iload_n 1, 1) := by decide +kernel
theorem d_Mod_readLaw_10 : decode (ib f_Mod_readLaw) 10 = .ok (.bipush 16, 2) := by decide +kernel
theorem d_Mod_readLaw_12 : decode (ib f_Mod_readLaw) 12 = .ok (.if_icmp .ne 9, 3) := by decide +kernel
theorem d_Mod_readLaw_15 : decode (ib f_Mod_readLaw) 15 = .ok (.aload_n 0, 1) := by decide +kernel
theorem d_Mod_readLaw_16 : decode (ib f_Mod_readLaw) 16 = .ok (.iconst 3, 1) := by decide +kernel
theorem d_Mod_readLaw_17 : decode (ib f_Mod_readLaw) 17 = .ok (.invokevirtual 196, 3) := by decide +kernel
theorem d_Mod_readLaw_20 : decode (ib f_Mod_readLaw) 20 = .ok (.ireturn, 1) := by decide +kernel
theorem d_Mod_readLaw_21 : decode (ib f_Mod_readLaw) 21 = .ok (.bipush 32, 2) := by decide +kernel
theorem d_Mod_readLaw_23 : decode (ib f_Mod_readLaw) 23 = .ok (.iload_n 1, 1) := by decide +kernel
theorem d_Mod_readLaw_24 : decode (ib f_Mod_readLaw) 24 = .ok (.iadd, 1) := by decide +kernel
theorem d_Mod_readLaw_25 : decode (ib f_Mod_readLaw) 25 = .ok (.istore_n 2, 1) := by decide +kernel
theorem d_Mod_readLaw_26 : decode (ib f_Mod_readLaw) 26 = .ok (.aload_n 0, 1) := by decide +kernel
theorem d_Mod_readLaw_27 : decode (ib f_Mod_readLaw) 27 = .ok (.getfield 31, 3) := by decide +kernel
theorem d_Mod_readLaw_30 : decode (ib f_Mod_readLaw) 30 = .ok (.iload_n 2, 1) := by decide +kernel
theorem d_Mod_readLaw_31 : decode (ib f_Mod_readLaw) 31 = .ok (.aload_n 0, 1) := by decide +kernel
theorem d_Mod_readLaw_32 : decode (ib f_Mod_readLaw) 32 = .ok (.getfield 168, 3) := by decide +kernel
theorem d_Mod_readLaw_35 : decode (ib f_Mod_readLaw) 35 = .ok (.iastore, 1) := by decide +kernel
theorem d_Mod_readLaw_36 : decode (ib f_Mod_readLaw) 36 = .ok (.aload_n 0, 1) := by decide +kernel
theorem d_Mod_readLaw_37 : decode (ib f_Mod_readLaw) 37 = .ok (.invokevirtual 202, 3) := by decide +kernel
theorem d_Mod_readLaw_40 : decode (ib f_Mod_readLaw) 40 = .ok (.aload_n 0, 1) := by decide +kernel
theorem d_Mod_readLaw_41 : decode (ib f_Mod_readLaw) 41 = .ok (.getfield 34, 3) := by decide +kernel
theorem d_Mod_readLaw_44 : decode (ib f_Mod_readLaw) 44 = .ok (.iload_n 2, 1) := by decide +kernel
theorem d_Mod_readLaw_45 : decode (ib f_Mod_readLaw) 45 = .ok (.aload_n 0, 1) := by decide +kernel
theorem d_Mod_readLaw_46 : decode (ib f_Mod_readLaw) 46 = .ok (.getfield 190, 3) := by decide +kernel
theorem d_Mod_readLaw_49 : decode (ib f_Mod_readLaw) 49 = .ok (.iastore, 1) := by decide +kernel
theorem d_Mod_readLaw_50 : decode (ib f_Mod_readLaw) 50 = .ok (.aload_n 0, 1) := by decide +kernel
theorem d_Mod_readLaw_51 : decode (ib f_Mod_readLaw) 51 = .ok (.invokevirtual 215, 3) := by decide +kernel
theorem d_Mod_readLaw_54 : decode (ib f_Mod_readLaw) 54 = .ok (.iconst (-1), 1) := by decide +kernel
theorem d_Mod_readLaw_55 : decode (ib f_Mod_readLaw) 55 = .ok (.if_icmp .ne 5, 3) := by decide +kernel
theorem d_Mod_readLaw_58 : decode (ib f_Mod_readLaw) 58 = .ok (.iconst (-1), 1) := by decide +kernel
theorem d_Mod_readLaw_59 : decode (ib f_Mod_readLaw) 59 = .ok (.ireturn, 1) := by decide +kernel
theorem d_Mod_readLaw_60 : decode (ib f_Mod_readLaw) 60 = .ok (.aload_n 0, 1) := by decide +kernel
theorem d_Mod_readLaw_61 : decode (ib f_Mod_readLaw) 61 = .ok (.getfield 37, 3) := by decide +kernel
theorem d_Mod_readLaw_64 : decode (ib f_Mod_readLaw) 64 = .ok (.iload_n 2, 1) := by decide +kernel
theorem d_Mod_readLaw_65 : decode (ib f_Mod_readLaw) 65 = .ok (.aload_n 0, 1) := by decide +kernel
theorem d_Mod_readLaw_66 : decode (ib f_Mod_readLaw) 66 = .ok (.getfield 190, 3) := by decide +kernel
theorem d_Mod_readLaw_69 : decode (ib f_Mod_readLaw) 69 = .ok (.iastore, 1) := by decide +kernel
theorem d_Mod_readLaw_70 : decode (ib f_Mod_readLaw) 70 = .ok (.aload_n 0, 1) := by decide +kernel
theorem d_Mod_readLaw_71 : decode (ib f_Mod_readLaw) 71 = .ok (.iconst 3, 1) := by decide +kernel
theorem d_Mod_readLaw_72 : decode (ib f_Mod_readLaw) 72 = .ok (.invokevirtual 224, 3) := by decide +kernel
theorem d_Mod_readLaw_75 : decode (ib f_Mod_readLaw) 75 = .ok (.ifCond .eq 17, 3) := by decide +kernel
theorem d_Mod_readLaw_78 : decode (ib f_Mod_readLaw) 78 = .ok (.aload_n 0, 1) := by decide +kernel
theorem d_Mod_readLaw_79 : decode (ib f_Mod_readLaw) 79 = .ok (.invokevirtual 202, 3) := by decide +kernel
theorem d_Mod_readLaw_82 : decode (ib f_Mod_readLaw) 82 = .ok (.aload_n 0, 1) := by decide +kernel
theorem d_Mod_readLaw_83 : decode (ib f_Mod_readLaw) 83 = .ok (.invokevirtual 240, 3) := by decide +kernel
theorem d_Mod_readLaw_86 : decode (ib f_Mod_readLaw) 86 = .ok (.iconst (-1), 1) := by decide +kernel
theorem d_Mod_readLaw_87 : decode (ib f_Mod_readLaw) 87 = .ok (.if_icmp .ne 5, 3) := by decide +kernel
theorem d_Mod_readLaw_90 : decode (ib f_Mod_readLaw) 90 = .ok (.iconst (-1), 1) := by decide +kernel
theorem d_Mod_readLaw_91 : decode (ib f_Mod_readLaw) 91 = .ok (.ireturn, 1) := by decide +kernel
theorem d_Mod_readLaw_92 : decode (ib f_Mod_readLaw) 92 = .ok (.aload_n 0, 1) := by decide +kernel
theorem d_Mod_readLaw_93 : decode (ib f_Mod_readLaw) 93 = .ok (.getfield 40, 3) := by decide +kernel
theorem d_Mod_readLaw_96 : decode (ib f_Mod_readLaw) 96 = .ok (.iload_n 2, 1) := by decide +kernel
theorem d_Mod_readLaw_97 : decode (ib f_Mod_readLaw) 97 = .ok (.aload_n 0, 1) := by decide +kernel
theorem d_Mod_readLaw_98 : decode (ib f_Mod_readLaw) 98 = .ok (.getfield 190, 3) := by decide +kernel
theorem d_Mod_readLaw_101 : decode (ib f_Mod_readLaw) 101 = .ok (.iastore, 1) := by decide +kernel
theorem d_Mod_readLaw_102 : decode (ib f_Mod_readLaw) 102 = .ok (.aload_n 0, 1) := by decide +kernel
theorem d_Mod_readLaw_103 : decode (ib f_Mod_readLaw) 103 = .ok (.bipush 59, 2) := by decide +kernel
theorem d_Mod_readLaw_105 : decode (ib f_Mod_readLaw) 105 = .ok (.invokevirtual 209, 3) := by decide +kernel
theorem d_Mod_readLaw_108 : decode (ib f_Mod_readLaw) 108 = .ok (.ifCond .ne 9, 3) := by decide +kernel
theorem d_Mod_readLaw_111 : decode (ib f_Mod_readLaw) 111 = .ok (.aload_n 0, 1) := by decide +kernel
theorem d_Mod_readLaw_112 : decode (ib f_Mod_readLaw) 112 = .ok (.iconst 1, 1) := by decide +kernel
theorem d_Mod_readLaw_113 : decode (ib f_Mod_readLaw) 113 = .ok (.invokevirtual 196, 3) := by decide +kernel
theorem d_Mod_readLaw_116 : decode (ib f_Mod_readLaw) 116 = .ok (.ireturn, 1) := by decide +kernel
theorem d_Mod_readLaw_117 : decode (ib f_Mod_readLaw) 117 = .ok (.aload_n 0, 1) := by decide +kernel
theorem d_Mod_readLaw_118 : decode (ib f_Mod_readLaw) 118 = .ok (.invokevirtual 202, 3) := by decide +kernel
theorem d_Mod_readLaw_121 : decode (ib f_Mod_readLaw) 121 = .ok (.iload_n 1, 1) := by decide +kernel
theorem d_Mod_readLaw_122 : decode (ib f_Mod_readLaw) 122 = .ok (.iconst 1, 1) := by decide +kernel
theorem d_Mod_readLaw_123 : decode (ib f_Mod_readLaw) 123 = .ok (.iadd, 1) := by decide +kernel
theorem d_Mod_readLaw_124 : decode (ib f_Mod_readLaw) 124 = .ok (.istore_n 1, 1) := by decide +kernel
theorem d_Mod_readLaw_125 : decode (ib f_Mod_readLaw) 125 = .ok (.goto (-123), 3) := by decide +kernel
theorem d_Mod_readLaw_128 : decode (ib f_Mod_readLaw) 128 = .ok (.aload_n 0, 1) := by decide +kernel
theorem d_Mod_readLaw_129 : decode (ib f_Mod_readLaw) 129 = .ok (.getfield 165, 3) := by decide +kernel
theorem d_Mod_readLaw_132 : decode (ib f_Mod_readLaw) 132 = .ok (.ifCond .ne 7, 3) := by decide +kernel
theorem d_Mod_readLaw_135 : decode (ib f_Mod_readLaw) 135 = .ok (.iload_n 1, 1) := by decide +kernel
theorem d_Mod_readLaw_136 : decode (ib f_Mod_readLaw) 136 = .ok (.goto 8, 3) := by decide +kernel
theorem d_Mod_readLaw_139 : decode (ib f_Mod_readLaw) 139 = .ok (.aload_n 0, 1) := by decide +kernel
theorem d_Mod_readLaw_140 : decode (ib f_Mod_readLaw) 140 = .ok (.iconst 1, 1) := by decide +kernel
theorem d_Mod_readLaw_141 : decode (ib f_Mod_readLaw) 141 = .ok (.invokevirtual 196, 3) := by decide +kernel
theorem d_Mod_readLaw_144 : decode (ib f_Mod_readLaw) 144 = .ok (.ireturn, 1) := by decide +kernel
theorem d_Mod_takesLaw_0 : decode (ib f_Mod_takesLaw) 0 = .ok (.iconst 0, 1) := by decide +kernel
theorem d_Mod_takesLaw_1 : decode (ib f_Mod_takesLaw) 1 = .ok (.istore_n 2, 1) := by decide +kernel
theorem d_Mod_takesLaw_2 : decode (ib f_Mod_takesLaw) 2 = .ok (.iload_n 2, 1) := by decide +kernel
theorem d_Mod_takesLaw_3 : decode (ib f_Mod_takesLaw) 3 = .ok (.iload_n 1, 1) := by decide +kernel
theorem d_Mod_takesLaw_4 : decode (ib f_Mod_takesLaw) 4 = .ok (.if_icmp .ge 101, 3) := by decide +kernel
theorem d_Mod_takesLaw_7 : decode (ib f_Mod_takesLaw) 7 = .ok (.aload_n 0, 1) := by decide +kernel
theorem d_Mod_takesLaw_8 : decode (ib f_Mod_takesLaw) 8 = .ok (.getfield 31, 3) := by decide +kernel
theorem d_Mod_takesLaw_11 : decode (ib f_Mod_takesLaw) 11 = .ok (.bipush 16, 2) := by decide +kernel
theorem d_Mod_takesLaw_13 : decode (ib f_Mod_takesLaw) 13 = .ok (.aload_n 0, 1) := by decide +kernel
theorem d_Mod_takesLaw_14 : decode (ib f_Mod_takesLaw) 14 = .ok (.getfield 243, 3) := by decide +kernel
theorem d_Mod_takesLaw_17 : decode (ib f_Mod_takesLaw) 17 = .ok (.imul, 1) := by decide +kernel
theorem d_Mod_takesLaw_18 : decode (ib f_Mod_takesLaw) 18 = .ok (.iload_n 2, 1) := by decide +kernel
theorem d_Mod_takesLaw_19 : decode (ib f_Mod_takesLaw) 19 = .ok (.iadd, 1) := by decide +kernel
theorem d_Mod_takesLaw_20 : decode (ib f_Mod_takesLaw) 20 = .ok (.aload_n 0, 1) := by decide +kernel
theorem d_Mod_takesLaw_21 : decode (ib f_Mod_takesLaw) 21 = .ok (.getfield 31, 3) := by decide +kernel
theorem d_Mod_takesLaw_24 : decode (ib f_Mod_takesLaw) 24 = .ok (.bipush 32, 2) := by decide +kernel
theorem d_Mod_takesLaw_26 : decode (ib f_Mod_takesLaw) 26 = .ok (.iload_n 2, 1) := by decide +kernel
theorem d_Mod_takesLaw_27 : decode (ib f_Mod_takesLaw) 27 = .ok (.iadd, 1) := by decide +kernel
theorem d_Mod_takesLaw_28 : decode (ib f_Mod_takesLaw) 28 = .ok (.iaload, 1) := by decide +kernel
theorem d_Mod_takesLaw_29 : decode (ib f_Mod_takesLaw) 29 = .ok (.iastore, 1) := by decide +kernel
theorem d_Mod_takesLaw_30 : decode (ib f_Mod_takesLaw) 30 = .ok (.aload_n 0, 1) := by decide +kernel
theorem d_Mod_takesLaw_31 : decode (ib f_Mod_takesLaw) 31 = .ok (.getfield 34, 3) := by decide +kernel
theorem d_Mod_takesLaw_34 : decode (ib f_Mod_takesLaw) 34 = .ok (.bipush 16, 2) := by decide +kernel
theorem d_Mod_takesLaw_36 : decode (ib f_Mod_takesLaw) 36 = .ok (.aload_n 0, 1) := by decide +kernel
theorem d_Mod_takesLaw_37 : decode (ib f_Mod_takesLaw) 37 = .ok (.getfield 243, 3) := by decide +kernel
theorem d_Mod_takesLaw_40 : decode (ib f_Mod_takesLaw) 40 = .ok (.imul, 1) := by decide +kernel
theorem d_Mod_takesLaw_41 : decode (ib f_Mod_takesLaw) 41 = .ok (.iload_n 2, 1) := by decide +kernel
theorem d_Mod_takesLaw_42 : decode (ib f_Mod_takesLaw) 42 = .ok (.iadd, 1) := by decide +kernel
theorem d_Mod_takesLaw_43 : decode (ib f_Mod_takesLaw) 43 = .ok (.aload_n 0, 1) := by decide +kernel
theorem d_Mod_takesLaw_44 : decode (ib f_Mod_takesLaw) 44 = .ok (.getfield 34, 3) := by decide +kernel
theorem d_Mod_takesLaw_47 : decode (ib f_Mod_takesLaw) 47 = .ok (.bipush 32, 2) := by decide +kernel
theorem d_Mod_takesLaw_49 : decode (ib f_Mod_takesLaw) 49 = .ok (.iload_n 2, 1) := by decide +kernel
theorem d_Mod_takesLaw_50 : decode (ib f_Mod_takesLaw) 50 = .ok (.iadd, 1) := by decide +kernel
theorem d_Mod_takesLaw_51 : decode (ib f_Mod_takesLaw) 51 = .ok (.iaload, 1) := by decide +kernel
theorem d_Mod_takesLaw_52 : decode (ib f_Mod_takesLaw) 52 = .ok (.iastore, 1) := by decide +kernel
theorem d_Mod_takesLaw_53 : decode (ib f_Mod_takesLaw) 53 = .ok (.aload_n 0, 1) := by decide +kernel
theorem d_Mod_takesLaw_54 : decode (ib f_Mod_takesLaw) 54 = .ok (.getfield 37, 3) := by decide +kernel
theorem d_Mod_takesLaw_57 : decode (ib f_Mod_takesLaw) 57 = .ok (.bipush 16, 2) := by decide +kernel
theorem d_Mod_takesLaw_59 : decode (ib f_Mod_takesLaw) 59 = .ok (.aload_n 0, 1) := by decide +kernel
theorem d_Mod_takesLaw_60 : decode (ib f_Mod_takesLaw) 60 = .ok (.getfield 243, 3) := by decide +kernel
theorem d_Mod_takesLaw_63 : decode (ib f_Mod_takesLaw) 63 = .ok (.imul, 1) := by decide +kernel
theorem d_Mod_takesLaw_64 : decode (ib f_Mod_takesLaw) 64 = .ok (.iload_n 2, 1) := by decide +kernel
theorem d_Mod_takesLaw_65 : decode (ib f_Mod_takesLaw) 65 = .ok (.iadd, 1) := by decide +kernel
theorem d_Mod_takesLaw_66 : decode (ib f_Mod_takesLaw) 66 = .ok (.aload_n 0, 1) := by decide +kernel
theorem d_Mod_takesLaw_67 : decode (ib f_Mod_takesLaw) 67 = .ok (.getfield 37, 3) := by decide +kernel
theorem d_Mod_takesLaw_70 : decode (ib f_Mod_takesLaw) 70 = .ok (.bipush 32, 2) := by decide +kernel
theorem d_Mod_takesLaw_72 : decode (ib f_Mod_takesLaw) 72 = .ok (.iload_n 2, 1) := by decide +kernel
theorem d_Mod_takesLaw_73 : decode (ib f_Mod_takesLaw) 73 = .ok (.iadd, 1) := by decide +kernel
theorem d_Mod_takesLaw_74 : decode (ib f_Mod_takesLaw) 74 = .ok (.iaload, 1) := by decide +kernel
theorem d_Mod_takesLaw_75 : decode (ib f_Mod_takesLaw) 75 = .ok (.iastore, 1) := by decide +kernel
theorem d_Mod_takesLaw_76 : decode (ib f_Mod_takesLaw) 76 = .ok (.aload_n 0, 1) := by decide +kernel
theorem d_Mod_takesLaw_77 : decode (ib f_Mod_takesLaw) 77 = .ok (.getfield 40, 3) := by decide +kernel
theorem d_Mod_takesLaw_80 : decode (ib f_Mod_takesLaw) 80 = .ok (.bipush 16, 2) := by decide +kernel
theorem d_Mod_takesLaw_82 : decode (ib f_Mod_takesLaw) 82 = .ok (.aload_n 0, 1) := by decide +kernel
theorem d_Mod_takesLaw_83 : decode (ib f_Mod_takesLaw) 83 = .ok (.getfield 243, 3) := by decide +kernel
theorem d_Mod_takesLaw_86 : decode (ib f_Mod_takesLaw) 86 = .ok (.imul, 1) := by decide +kernel
theorem d_Mod_takesLaw_87 : decode (ib f_Mod_takesLaw) 87 = .ok (.iload_n 2, 1) := by decide +kernel
theorem d_Mod_takesLaw_88 : decode (ib f_Mod_takesLaw) 88 = .ok (.iadd, 1) := by decide +kernel
theorem d_Mod_takesLaw_89 : decode (ib f_Mod_takesLaw) 89 = .ok (.aload_n 0, 1) := by decide +kernel
theorem d_Mod_takesLaw_90 : decode (ib f_Mod_takesLaw) 90 = .ok (.getfield 40, 3) := by decide +kernel
theorem d_Mod_takesLaw_93 : decode (ib f_Mod_takesLaw) 93 = .ok (.bipush 32, 2) := by decide +kernel
theorem d_Mod_takesLaw_95 : decode (ib f_Mod_takesLaw) 95 = .ok (.iload_n 2, 1) := by decide +kernel
theorem d_Mod_takesLaw_96 : decode (ib f_Mod_takesLaw) 96 = .ok (.iadd, 1) := by decide +kernel
theorem d_Mod_takesLaw_97 : decode (ib f_Mod_takesLaw) 97 = .ok (.iaload, 1) := by decide +kernel
theorem d_Mod_takesLaw_98 : decode (ib f_Mod_takesLaw) 98 = .ok (.iastore, 1) := by decide +kernel
theorem d_Mod_takesLaw_99 : decode (ib f_Mod_takesLaw) 99 = .ok (.iinc 2 1, 3) := by decide +kernel
theorem d_Mod_takesLaw_102 : decode (ib f_Mod_takesLaw) 102 = .ok (.goto (-100), 3) := by decide +kernel
theorem d_Mod_takesLaw_105 : decode (ib f_Mod_takesLaw) 105 = .ok (.iconst 0, 1) := by decide +kernel
theorem d_Mod_takesLaw_106 : decode (ib f_Mod_takesLaw) 106 = .ok (.istore_n 2, 1) := by decide +kernel
theorem d_Mod_takesLaw_107 : decode (ib f_Mod_takesLaw) 107 = .ok (.iload_n 2, 1) := by decide +kernel
theorem d_Mod_takesLaw_108 : decode (ib f_Mod_takesLaw) 108 = .ok (.aload_n 0, 1) := by decide +kernel
theorem d_Mod_takesLaw_109 : decode (ib f_Mod_takesLaw) 109 = .ok (.getfield 190, 3) := by decide +kernel
theorem d_Mod_takesLaw_112 : decode (ib f_Mod_takesLaw) 112 = .ok (.if_icmp .ge 59, 3) := by decide +kernel
theorem d_Mod_takesLaw_115 : decode (ib f_Mod_takesLaw) 115 = .ok (.aload_n 0, 1) := by decide +kernel
theorem d_Mod_takesLaw_116 : decode (ib f_Mod_takesLaw) 116 = .ok (.getfield 43, 3) := by decide +kernel
theorem d_Mod_takesLaw_119 : decode (ib f_Mod_takesLaw) 119 = .ok (.sipush 400, 3) := by decide +kernel
theorem d_Mod_takesLaw_122 : decode (ib f_Mod_takesLaw) 122 = .ok (.aload_n 0, 1) := by decide +kernel
theorem d_Mod_takesLaw_123 : decode (ib f_Mod_takesLaw) 123 = .ok (.getfield 243, 3) := by decide +kernel
theorem d_Mod_takesLaw_126 : decode (ib f_Mod_takesLaw) 126 = .ok (.imul, 1) := by decide +kernel
theorem d_Mod_takesLaw_127 : decode (ib f_Mod_takesLaw) 127 = .ok (.iload_n 2, 1) := by decide +kernel
theorem d_Mod_takesLaw_128 : decode (ib f_Mod_takesLaw) 128 = .ok (.iadd, 1) := by decide +kernel
theorem d_Mod_takesLaw_129 : decode (ib f_Mod_takesLaw) 129 = .ok (.aload_n 0, 1) := by decide +kernel
theorem d_Mod_takesLaw_130 : decode (ib f_Mod_takesLaw) 130 = .ok (.getfield 43, 3) := by decide +kernel
theorem d_Mod_takesLaw_133 : decode (ib f_Mod_takesLaw) 133 = .ok (.sipush 800, 3) := by decide +kernel
theorem d_Mod_takesLaw_136 : decode (ib f_Mod_takesLaw) 136 = .ok (.iload_n 2, 1) := by decide +kernel
theorem d_Mod_takesLaw_137 : decode (ib f_Mod_takesLaw) 137 = .ok (.iadd, 1) := by decide +kernel
theorem d_Mod_takesLaw_138 : decode (ib f_Mod_takesLaw) 138 = .ok (.iaload, 1) := by decide +kernel
theorem d_Mod_takesLaw_139 : decode (ib f_Mod_takesLaw) 139 = .ok (.iastore, 1) := by decide +kernel
theorem d_Mod_takesLaw_140 : decode (ib f_Mod_takesLaw) 140 = .ok (.aload_n 0, 1) := by decide +kernel
theorem d_Mod_takesLaw_141 : decode (ib f_Mod_takesLaw) 141 = .ok (.getfield 46, 3) := by decide +kernel
theorem d_Mod_takesLaw_144 : decode (ib f_Mod_takesLaw) 144 = .ok (.sipush 400, 3) := by decide +kernel
theorem d_Mod_takesLaw_147 : decode (ib f_Mod_takesLaw) 147 = .ok (.aload_n 0, 1) := by decide +kernel
theorem d_Mod_takesLaw_148 : decode (ib f_Mod_takesLaw) 148 = .ok (.getfield 243, 3) := by decide +kernel
theorem d_Mod_takesLaw_151 : decode (ib f_Mod_takesLaw) 151 = .ok (.imul, 1) := by decide +kernel
theorem d_Mod_takesLaw_152 : decode (ib f_Mod_takesLaw) 152 = .ok (.iload_n 2, 1) := by decide +kernel
theorem d_Mod_takesLaw_153 : decode (ib f_Mod_takesLaw) 153 = .ok (.iadd, 1) := by decide +kernel
theorem d_Mod_takesLaw_154 : decode (ib f_Mod_takesLaw) 154 = .ok (.aload_n 0, 1) := by decide +kernel
theorem d_Mod_takesLaw_155 : decode (ib f_Mod_takesLaw) 155 = .ok (.getfield 46, 3) := by decide +kernel
theorem d_Mod_takesLaw_158 : decode (ib f_Mod_takesLaw) 158 = .ok (.sipush 800, 3) := by decide +kernel
theorem d_Mod_takesLaw_161 : decode (ib f_Mod_takesLaw) 161 = .ok (.iload_n 2, 1) := by decide +kernel
theorem d_Mod_takesLaw_162 : decode (ib f_Mod_takesLaw) 162 = .ok (.iadd, 1) := by decide +kernel
theorem d_Mod_takesLaw_163 : decode (ib f_Mod_takesLaw) 163 = .ok (.iaload, 1) := by decide +kernel
theorem d_Mod_takesLaw_164 : decode (ib f_Mod_takesLaw) 164 = .ok (.iastore, 1) := by decide +kernel
theorem d_Mod_takesLaw_165 : decode (ib f_Mod_takesLaw) 165 = .ok (.iinc 2 1, 3) := by decide +kernel
theorem d_Mod_takesLaw_168 : decode (ib f_Mod_takesLaw) 168 = .ok (.goto (-61), 3) := by decide +kernel
theorem d_Mod_takesLaw_171 : decode (ib f_Mod_takesLaw) 171 = .ok (.aload_n 0, 1) := by decide +kernel
theorem d_Mod_takesLaw_172 : decode (ib f_Mod_takesLaw) 172 = .ok (.getfield 28, 3) := by decide +kernel
theorem d_Mod_takesLaw_175 : decode (ib f_Mod_takesLaw) 175 = .ok (.aload_n 0, 1) := by decide +kernel
theorem d_Mod_takesLaw_176 : decode (ib f_Mod_takesLaw) 176 = .ok (.getfield 243, 3) := by decide +kernel
theorem d_Mod_takesLaw_179 : decode (ib f_Mod_takesLaw) 179 = .ok (.iload_n 1, 1) := by decide +kernel
theorem d_Mod_takesLaw_180 : decode (ib f_Mod_takesLaw) 180 = .ok (.iastore, 1) := by decide +kernel
theorem d_Mod_takesLaw_181 : decode (ib f_Mod_takesLaw) 181 = .ok (.return_, 1) := by decide +kernel
theorem d_Mod_readNumber_0 : decode (ib f_Mod_readNumber) 0 = .ok (.aload_n 0, 1) := by decide +kernel
theorem d_Mod_readNumber_1 : decode (ib f_Mod_readNumber) 1 = .ok (.getfield 165, 3) := by decide +kernel
theorem d_Mod_readNumber_4 : decode (ib f_Mod_readNumber) 4 = .ok (.iconst 3, 1) := by decide +kernel
theorem d_Mod_readNumber_5 : decode (ib f_Mod_readNumber) 5 = .ok (.if_icmp .eq 9, 3) := by decide +kernel
theorem d_Mod_readNumber_8 : decode (ib f_Mod_readNumber) 8 = .ok (.aload_n 0, 1) := by decide +kernel
theorem d_Mod_readNumber_9 : decode (ib f_Mod_readNumber) 9 = .ok (.iconst 1, 1) := by decide +kernel
theorem d_Mod_readNumber_10 : decode (ib f_Mod_readNumber) 10 = .ok (.invokevirtual 196, 3) := by decide +kernel
theorem d_Mod_readNumber_13 : decode (ib f_Mod_readNumber) 13 = .ok (.ireturn, 1) := by decide +kernel
theorem d_Mod_readNumber_14 : decode (ib f_Mod_readNumber) 14 = .ok (.aload_n 0, 1) := by decide +kernel
theorem d_Mod_readNumber_15 : decode (ib f_Mod_readNumber) 15 = .ok (.aload_n 0, 1) := by decide +kernel
theorem d_Mod_readNumber_16 : decode (ib f_Mod_readNumber) 16 = .ok (.getfield 168, 3) := by decide +kernel
theorem d_Mod_readNumber_19 : decode (ib f_Mod_readNumber) 19 = .ok (.iload_n 1, 1) := by decide +kernel
theorem d_Mod_readNumber_20 : decode (ib f_Mod_readNumber) 20 = .ok (.iload_n 2, 1) := by decide +kernel
theorem d_Mod_readNumber_21 : decode (ib f_Mod_readNumber) 21 = .ok (.invokevirtual 135, 3) := by decide +kernel
theorem d_Mod_readNumber_24 : decode (ib f_Mod_readNumber) 24 = .ok (.ifCond .ne 9, 3) := by decide +kernel
theorem d_Mod_readNumber_27 : decode (ib f_Mod_readNumber) 27 = .ok (.aload_n 0, 1) := by decide +kernel
theorem d_Mod_readNumber_28 : decode (ib f_Mod_readNumber) 28 = .ok (.iconst 2, 1) := by decide +kernel
theorem d_Mod_readNumber_29 : decode (ib f_Mod_readNumber) 29 = .ok (.invokevirtual 196, 3) := by decide +kernel
theorem d_Mod_readNumber_32 : decode (ib f_Mod_readNumber) 32 = .ok (.ireturn, 1) := by decide +kernel
theorem d_Mod_readNumber_33 : decode (ib f_Mod_readNumber) 33 = .ok (.aload_n 0, 1) := by decide +kernel
theorem d_Mod_readNumber_34 : decode (ib f_Mod_readNumber) 34 = .ok (.getfield 168, 3) := by decide +kernel
theorem d_Mod_readNumber_37 : decode (ib f_Mod_readNumber) 37 = .ok (.istore_n 3, 1) := by decide +kernel
theorem d_Mod_readNumber_38 : decode (ib f_Mod_readNumber) 38 = .ok (.aload_n 0, 1) := by decide +kernel
theorem d_Mod_readNumber_39 : decode (ib f_Mod_readNumber) 39 = .ok (.invokevirtual 202, 3) := by decide +kernel
theorem d_Mod_readNumber_42 : decode (ib f_Mod_readNumber) 42 = .ok (.iload_n 3, 1) := by decide +kernel
theorem d_Mod_readNumber_43 : decode (ib f_Mod_readNumber) 43 = .ok (.ireturn, 1) := by decide +kernel
theorem d_Mod_readMark_0 : decode (ib f_Mod_readMark) 0 = .ok (.aload_n 0, 1) := by decide +kernel
theorem d_Mod_readMark_1 : decode (ib f_Mod_readMark) 1 = .ok (.iload_n 1, 1) := by decide +kernel
theorem d_Mod_readMark_2 : decode (ib f_Mod_readMark) 2 = .ok (.invokevirtual 209, 3) := by decide +kernel
theorem d_Mod_readMark_5 : decode (ib f_Mod_readMark) 5 = .ok (.ifCond .ne 9, 3) := by decide +kernel
theorem d_Mod_readMark_8 : decode (ib f_Mod_readMark) 8 = .ok (.aload_n 0, 1) := by decide +kernel
theorem d_Mod_readMark_9 : decode (ib f_Mod_readMark) 9 = .ok (.iconst 1, 1) := by decide +kernel
theorem d_Mod_readMark_10 : decode (ib f_Mod_readMark) 10 = .ok (.invokevirtual 196, 3) := by decide +kernel
theorem d_Mod_readMark_13 : decode (ib f_Mod_readMark) 13 = .ok (.ireturn, 1) := by decide +kernel
theorem d_Mod_readMark_14 : decode (ib f_Mod_readMark) 14 = .ok (.aload_n 0, 1) := by decide +kernel
theorem d_Mod_readMark_15 : decode (ib f_Mod_readMark) 15 = .ok (.invokevirtual 202, 3) := by decide +kernel
theorem d_Mod_readMark_18 : decode (ib f_Mod_readMark) 18 = .ok (.iconst 0, 1) := by decide +kernel
theorem d_Mod_readMark_19 : decode (ib f_Mod_readMark) 19 = .ok (.ireturn, 1) := by decide +kernel
theorem d_Mod_readTold_0 : decode (ib f_Mod_readTold) 0 = .ok (.aload_n 0, 1) := by decide +kernel
theorem d_Mod_readTold_1 : decode (ib f_Mod_readTold) 1 = .ok (.iload_n 1, 1) := by decide +kernel
theorem d_Mod_readTold_2 : decode (ib f_Mod_readTold) 2 = .ok (.invokevirtual 224, 3) := by decide +kernel
theorem d_Mod_readTold_5 : decode (ib f_Mod_readTold) 5 = .ok (.ifCond .ne 9, 3) := by decide +kernel
theorem d_Mod_readTold_8 : decode (ib f_Mod_readTold) 8 = .ok (.aload_n 0, 1) := by decide +kernel
theorem d_Mod_readTold_9 : decode (ib f_Mod_readTold) 9 = .ok (.iconst 1, 1) := by decide +kernel
theorem d_Mod_readTold_10 : decode (ib f_Mod_readTold) 10 = .ok (.invokevirtual 196, 3) := by decide +kernel
theorem d_Mod_readTold_13 : decode (ib f_Mod_readTold) 13 = .ok (.ireturn, 1) := by decide +kernel
theorem d_Mod_readTold_14 : decode (ib f_Mod_readTold) 14 = .ok (.aload_n 0, 1) := by decide +kernel
theorem d_Mod_readTold_15 : decode (ib f_Mod_readTold) 15 = .ok (.invokevirtual 202, 3) := by decide +kernel
theorem d_Mod_readTold_18 : decode (ib f_Mod_readTold) 18 = .ok (.aload_n 0, 1) := by decide +kernel
theorem d_Mod_readTold_19 : decode (ib f_Mod_readTold) 19 = .ok (.iload_n 2, 1) := by decide +kernel
theorem d_Mod_readTold_20 : decode (ib f_Mod_readTold) 20 = .ok (.iload_n 3, 1) := by decide +kernel
theorem d_Mod_readTold_21 : decode (ib f_Mod_readTold) 21 = .ok (.invokevirtual 246, 3) := by decide +kernel
theorem d_Mod_readTold_24 : decode (ib f_Mod_readTold) 24 = .ok (.ireturn, 1) := by decide +kernel
theorem d_Mod_readFlightLine_0 : decode (ib f_Mod_readFlightLine) 0 = .ok (.aload_n 0, 1) := by decide +kernel
theorem d_Mod_readFlightLine_1 : decode (ib f_Mod_readFlightLine) 1 = .ok (.getfield 56, 3) := by decide +kernel
theorem d_Mod_readFlightLine_4 : decode (ib f_Mod_readFlightLine) 4 = .ok (.iload_n 1, 1) := by decide +kernel
theorem d_Mod_readFlightLine_5 : decode (ib f_Mod_readFlightLine) 5 = .ok (.aload_n 0, 1) := by decide +kernel
theorem d_Mod_readFlightLine_6 : decode (ib f_Mod_readFlightLine) 6 = .ok (.bipush 18, 2) := by decide +kernel
theorem d_Mod_readFlightLine_8 : decode (ib f_Mod_readFlightLine) 8 = .ok (.iconst 0, 1) := by decide +kernel
theorem d_Mod_readFlightLine_9 : decode (ib f_Mod_readFlightLine) 9 = .ok (.sipush 999, 3) := by decide +kernel
theorem d_Mod_readFlightLine_12 : decode (ib f_Mod_readFlightLine) 12 = .ok (.invokevirtual 249, 3) := by decide +kernel
theorem d_Mod_readFlightLine_15 : decode (ib f_Mod_readFlightLine) 15 = .ok (.iastore, 1) := by decide +kernel
theorem d_Mod_readFlightLine_16 : decode (ib f_Mod_readFlightLine) 16 = .ok (.aload_n 0, 1) := by decide +kernel
theorem d_Mod_readFlightLine_17 : decode (ib f_Mod_readFlightLine) 17 = .ok (.getfield 56, 3) := by decide +kernel
theorem d_Mod_readFlightLine_20 : decode (ib f_Mod_readFlightLine) 20 = .ok (.iload_n 1, 1) := by decide +kernel
theorem d_Mod_readFlightLine_21 : decode (ib f_Mod_readFlightLine) 21 = .ok (.iaload, 1) := by decide +kernel
theorem d_Mod_readFlightLine_22 : decode (ib f_Mod_readFlightLine) 22 = .ok (.iconst (-1), 1) := by decide +kernel
theorem d_Mod_readFlightLine_23 : decode (ib f_Mod_readFlightLine) 23 = .ok (.if_icmp .ne 5, 3) := by decide +kernel
theorem d_Mod_readFlightLine_26 : decode (ib f_Mod_readFlightLine) 26 = .ok (.iconst (-1), 1) := by decide +kernel
theorem d_Mod_readFlightLine_27 : decode (ib f_Mod_readFlightLine) 27 = .ok (.ireturn, 1) := by decide +kernel
theorem d_Mod_readFlightLine_28 : decode (ib f_Mod_readFlightLine) 28 = .ok (.aload_n 0, 1) := by decide +kernel
theorem d_Mod_readFlightLine_29 : decode (ib f_Mod_readFlightLine) 29 = .ok (.getfield 165, 3) := by decide +kernel
theorem d_Mod_readFlightLine_32 : decode (ib f_Mod_readFlightLine) 32 = .ok (.iconst 2, 1) := by decide +kernel
theorem d_Mod_readFlightLine_33 : decode (ib f_Mod_readFlightLine) 33 = .ok (.if_icmp .ne 18, 3) := by decide +kernel
theorem d_Mod_readFlightLine_36 : decode (ib f_Mod_readFlightLine) 36 = .ok (.aload_n 0, 1) := by decide +kernel
theorem d_Mod_readFlightLine_37 : decode (ib f_Mod_readFlightLine) 37 = .ok (.aload_n 0, 1) := by decide +kernel
theorem d_Mod_readFlightLine_38 : decode (ib f_Mod_readFlightLine) 38 = .ok (.getfield 168, 3) := by decide +kernel
theorem d_Mod_readFlightLine_41 : decode (ib f_Mod_readFlightLine) 41 = .ok (.bipush 19, 2) := by decide +kernel
theorem d_Mod_readFlightLine_43 : decode (ib f_Mod_readFlightLine) 43 = .ok (.bipush 24, 2) := by decide +kernel
theorem d_Mod_readFlightLine_45 : decode (ib f_Mod_readFlightLine) 45 = .ok (.invokevirtual 135, 3) := by decide +kernel
theorem d_Mod_readFlightLine_48 : decode (ib f_Mod_readFlightLine) 48 = .ok (.ifCond .ne 9, 3) := by decide +kernel
theorem d_Mod_readFlightLine_51 : decode (ib f_Mod_readFlightLine) 51 = .ok (.aload_n 0, 1) := by decide +kernel
theorem d_Mod_readFlightLine_52 : decode (ib f_Mod_readFlightLine) 52 = .ok (.iconst 1, 1) := by decide +kernel
theorem d_Mod_readFlightLine_53 : decode (ib f_Mod_readFlightLine) 53 = .ok (.invokevirtual 196, 3) := by decide +kernel
theorem d_Mod_readFlightLine_56 : decode (ib f_Mod_readFlightLine) 56 = .ok (.ireturn, 1) := by decide +kernel
theorem d_Mod_readFlightLine_57 : decode (ib f_Mod_readFlightLine) 57 = .ok (.aload_n 0, 1) := by decide +kernel
theorem d_Mod_readFlightLine_58 : decode (ib f_Mod_readFlightLine) 58 = .ok (.getfield 56, 3) := by decide +kernel
theorem d_Mod_readFlightLine_61 : decode (ib f_Mod_readFlightLine) 61 = .ok (.iload_n 1, 1) := by decide +kernel
theorem d_Mod_readFlightLine_62 : decode (ib f_Mod_readFlightLine) 62 = .ok (.iconst 1, 1) := by decide +kernel
theorem d_Mod_readFlightLine_63 : decode (ib f_Mod_readFlightLine) 63 = .ok (.iadd, 1) := by decide +kernel
theorem d_Mod_readFlightLine_64 : decode (ib f_Mod_readFlightLine) 64 = .ok (.aload_n 0, 1) := by decide +kernel
theorem d_Mod_readFlightLine_65 : decode (ib f_Mod_readFlightLine) 65 = .ok (.getfield 168, 3) := by decide +kernel
theorem d_Mod_readFlightLine_68 : decode (ib f_Mod_readFlightLine) 68 = .ok (.bipush 19, 2) := by decide +kernel
theorem d_Mod_readFlightLine_70 : decode (ib f_Mod_readFlightLine) 70 = .ok (.isub, 1) := by decide +kernel
theorem d_Mod_readFlightLine_71 : decode (ib f_Mod_readFlightLine) 71 = .ok (.iastore, 1) := by decide +kernel
theorem d_Mod_readFlightLine_72 : decode (ib f_Mod_readFlightLine) 72 = .ok (.aload_n 0, 1) := by decide +kernel
theorem d_Mod_readFlightLine_73 : decode (ib f_Mod_readFlightLine) 73 = .ok (.invokevirtual 202, 3) := by decide +kernel
theorem d_Mod_readFlightLine_76 : decode (ib f_Mod_readFlightLine) 76 = .ok (.aload_n 0, 1) := by decide +kernel
theorem d_Mod_readFlightLine_77 : decode (ib f_Mod_readFlightLine) 77 = .ok (.getfield 56, 3) := by decide +kernel
theorem d_Mod_readFlightLine_80 : decode (ib f_Mod_readFlightLine) 80 = .ok (.iload_n 1, 1) := by decide +kernel
theorem d_Mod_readFlightLine_81 : decode (ib f_Mod_readFlightLine) 81 = .ok (.iconst 2, 1) := by decide +kernel
theorem d_Mod_readFlightLine_82 : decode (ib f_Mod_readFlightLine) 82 = .ok (.iadd, 1) := by decide +kernel
theorem d_Mod_readFlightLine_83 : decode (ib f_Mod_readFlightLine) 83 = .ok (.aload_n 0, 1) := by decide +kernel
theorem d_Mod_readFlightLine_84 : decode (ib f_Mod_readFlightLine) 84 = .ok (.iconst 1, 1) := by decide +kernel
theorem d_Mod_readFlightLine_85 : decode (ib f_Mod_readFlightLine) 85 = .ok (.bipush 9, 2) := by decide +kernel
theorem d_Mod_readFlightLine_87 : decode (ib f_Mod_readFlightLine) 87 = .ok (.invokevirtual 246, 3) := by decide +kernel
theorem d_Mod_readFlightLine_90 : decode (ib f_Mod_readFlightLine) 90 = .ok (.iastore, 1) := by decide +kernel
theorem d_Mod_readFlightLine_91 : decode (ib f_Mod_readFlightLine) 91 = .ok (.aload_n 0, 1) := by decide +kernel
theorem d_Mod_readFlightLine_92 : decode (ib f_Mod_readFlightLine) 92 = .ok (.getfield 56, 3) := by decide +kernel
theorem d_Mod_readFlightLine_95 : decode (ib f_Mod_readFlightLine) 95 = .ok (.iload_n 1, 1) := by decide +kernel
theorem d_Mod_readFlightLine_96 : decode (ib f_Mod_readFlightLine) 96 = .ok (.iconst 2, 1) := by decide +kernel
theorem d_Mod_readFlightLine_97 : decode (ib f_Mod_readFlightLine) 97 = .ok (.iadd, 1) := by decide +kernel
theorem d_Mod_readFlightLine_98 : decode (ib f_Mod_readFlightLine) 98 = .ok (.iaload, 1) := by decide +kernel
theorem d_Mod_readFlightLine_99 : decode (ib f_Mod_readFlightLine) 99 = .ok (.iconst (-1), 1) := by decide +kernel
theorem d_Mod_readFlightLine_100 : decode (ib f_Mod_readFlightLine) 100 = .ok (.if_icmp .ne 5, 3) := by decide +kernel
theorem d_Mod_readFlightLine_103 : decode (ib f_Mod_readFlightLine) 103 = .ok (.iconst (-1), 1) := by decide +kernel
theorem d_Mod_readFlightLine_104 : decode (ib f_Mod_readFlightLine) 104 = .ok (.ireturn, 1) := by decide +kernel
theorem d_Mod_readFlightLine_105 : decode (ib f_Mod_readFlightLine) 105 = .ok (.aload_n 0, 1) := by decide +kernel
theorem d_Mod_readFlightLine_106 : decode (ib f_Mod_readFlightLine) 106 = .ok (.getfield 56, 3) := by decide +kernel
theorem d_Mod_readFlightLine_109 : decode (ib f_Mod_readFlightLine) 109 = .ok (.iload_n 1, 1) := by decide +kernel
theorem d_Mod_readFlightLine_110 : decode (ib f_Mod_readFlightLine) 110 = .ok (.iconst 3, 1) := by decide +kernel
theorem d_Mod_readFlightLine_111 : decode (ib f_Mod_readFlightLine) 111 = .ok (.iadd, 1) := by decide +kernel
theorem d_Mod_readFlightLine_112 : decode (ib f_Mod_readFlightLine) 112 = .ok (.aload_n 0, 1) := by decide +kernel
theorem d_Mod_readFlightLine_113 : decode (ib f_Mod_readFlightLine) 113 = .ok (.iconst 0, 1) := by decide +kernel
theorem d_Mod_readFlightLine_114 : decode (ib f_Mod_readFlightLine) 114 = .ok (.bipush 9, 2) := by decide +kernel
theorem d_Mod_readFlightLine_116 : decode (ib f_Mod_readFlightLine) 116 = .ok (.invokevirtual 246, 3) := by decide +kernel
theorem d_Mod_readFlightLine_119 : decode (ib f_Mod_readFlightLine) 119 = .ok (.iastore, 1) := by decide +kernel
theorem d_Mod_readFlightLine_120 : decode (ib f_Mod_readFlightLine) 120 = .ok (.aload_n 0, 1) := by decide +kernel
theorem d_Mod_readFlightLine_121 : decode (ib f_Mod_readFlightLine) 121 = .ok (.getfield 56, 3) := by decide +kernel
theorem d_Mod_readFlightLine_124 : decode (ib f_Mod_readFlightLine) 124 = .ok (.iload_n 1, 1) := by decide +kernel
theorem d_Mod_readFlightLine_125 : decode (ib f_Mod_readFlightLine) 125 = .ok (.iconst 3, 1) := by decide +kernel
theorem d_Mod_readFlightLine_126 : decode (ib f_Mod_readFlightLine) 126 = .ok (.iadd, 1) := by decide +kernel
theorem d_Mod_readFlightLine_127 : decode (ib f_Mod_readFlightLine) 127 = .ok (.iaload, 1) := by decide +kernel
theorem d_Mod_readFlightLine_128 : decode (ib f_Mod_readFlightLine) 128 = .ok (.iconst (-1), 1) := by decide +kernel
theorem d_Mod_readFlightLine_129 : decode (ib f_Mod_readFlightLine) 129 = .ok (.if_icmp .ne 5, 3) := by decide +kernel
theorem d_Mod_readFlightLine_132 : decode (ib f_Mod_readFlightLine) 132 = .ok (.iconst (-1), 1) := by decide +kernel
theorem d_Mod_readFlightLine_133 : decode (ib f_Mod_readFlightLine) 133 = .ok (.ireturn, 1) := by decide +kernel
theorem d_Mod_readFlightLine_134 : decode (ib f_Mod_readFlightLine) 134 = .ok (.aload_n 0, 1) := by decide +kernel
theorem d_Mod_readFlightLine_135 : decode (ib f_Mod_readFlightLine) 135 = .ok (.getfield 56, 3) := by decide +kernel
theorem d_Mod_readFlightLine_138 : decode (ib f_Mod_readFlightLine) 138 = .ok (.iload_n 1, 1) := by decide +kernel
theorem d_Mod_readFlightLine_139 : decode (ib f_Mod_readFlightLine) 139 = .ok (.iconst 4, 1) := by decide +kernel
theorem d_Mod_readFlightLine_140 : decode (ib f_Mod_readFlightLine) 140 = .ok (.iadd, 1) := by decide +kernel
theorem d_Mod_readFlightLine_141 : decode (ib f_Mod_readFlightLine) 141 = .ok (.aload_n 0, 1) := by decide +kernel
theorem d_Mod_readFlightLine_142 : decode (ib f_Mod_readFlightLine) 142 = .ok (.bipush 25, 2) := by decide +kernel
theorem d_Mod_readFlightLine_144 : decode (ib f_Mod_readFlightLine) 144 = .ok (.iconst 0, 1) := by decide +kernel
theorem d_Mod_readFlightLine_145 : decode (ib f_Mod_readFlightLine) 145 = .ok (.bipush 59, 2) := by decide +kernel
theorem d_Mod_readFlightLine_147 : decode (ib f_Mod_readFlightLine) 147 = .ok (.invokevirtual 249, 3) := by decide +kernel
theorem d_Mod_readFlightLine_150 : decode (ib f_Mod_readFlightLine) 150 = .ok (.iastore, 1) := by decide +kernel
theorem d_Mod_readFlightLine_151 : decode (ib f_Mod_readFlightLine) 151 = .ok (.aload_n 0, 1) := by decide +kernel
theorem d_Mod_readFlightLine_152 : decode (ib f_Mod_readFlightLine) 152 = .ok (.getfield 56, 3) := by decide +kernel
theorem d_Mod_readFlightLine_155 : decode (ib f_Mod_readFlightLine) 155 = .ok (.iload_n 1, 1) := by decide +kernel
theorem d_Mod_readFlightLine_156 : decode (ib f_Mod_readFlightLine) 156 = .ok (.iconst 4, 1) := by decide +kernel
theorem d_Mod_readFlightLine_157 : decode (ib f_Mod_readFlightLine) 157 = .ok (.iadd, 1) := by decide +kernel
theorem d_Mod_readFlightLine_158 : decode (ib f_Mod_readFlightLine) 158 = .ok (.iaload, 1) := by decide +kernel
theorem d_Mod_readFlightLine_159 : decode (ib f_Mod_readFlightLine) 159 = .ok (.iconst (-1), 1) := by decide +kernel
theorem d_Mod_readFlightLine_160 : decode (ib f_Mod_readFlightLine) 160 = .ok (.if_icmp .ne 7, 3) := by decide +kernel
theorem d_Mod_readFlightLine_163 : decode (ib f_Mod_readFlightLine) 163 = .ok (.iconst (-1), 1) := by decide +kernel
theorem d_Mod_readFlightLine_164 : decode (ib f_Mod_readFlightLine) 164 = .ok (.goto 9, 3) := by decide +kernel
theorem d_Mod_readFlightLine_167 : decode (ib f_Mod_readFlightLine) 167 = .ok (.aload_n 0, 1) := by decide +kernel
theorem d_Mod_readFlightLine_168 : decode (ib f_Mod_readFlightLine) 168 = .ok (.bipush 59, 2) := by decide +kernel
theorem d_Mod_readFlightLine_170 : decode (ib f_Mod_readFlightLine) 170 = .ok (.invokevirtual 252, 3) := by decide +kernel
theorem d_Mod_readFlightLine_173 : decode (ib f_Mod_readFlightLine) 173 = .ok (.ireturn, 1) := by decide +kernel
theorem d_Mod_readFlight_0 : decode (ib f_Mod_readFlight) 0 = .ok (.iconst 0, 1) := by decide +kernel
theorem d_Mod_readFlight_1 : decode (ib f_Mod_readFlight) 1 = .ok (.istore_n 1, 1) := by decide +kernel
theorem d_Mod_readFlight_2 : decode (ib f_Mod_readFlight) 2 = .ok (.aload_n 0, 1) := by decide +kernel
theorem d_Mod_readFlight_3 : decode (ib f_Mod_readFlight) 3 = .ok (.bipush 18, 2) := by decide +kernel
theorem d_Mod_readFlight_5 : decode (ib f_Mod_readFlight) 5 = .ok (.invokevirtual 224, 3) := by decide +kernel
theorem d_Mod_readFlight_8 : decode (ib f_Mod_readFlight) 8 = .ok (.ifCond .eq 38, 3) := by decide +kernel
theorem d_Mod_readFlight_11 : decode (ib f_Mod_readFlight) 11 = .ok (.iload_n 1, 1) := by decide +kernel
theorem d_Mod_readFlight_12 : decode (ib f_Mod_readFlight) 12 = .ok (.bipush 16, 2) := by decide +kernel
theorem d_Mod_readFlight_14 : decode (ib f_Mod_readFlight) 14 = .ok (.if_icmp .ne 9, 3) := by decide +kernel
theorem d_Mod_readFlight_17 : decode (ib f_Mod_readFlight) 17 = .ok (.aload_n 0, 1) := by decide +kernel
theorem d_Mod_readFlight_18 : decode (ib f_Mod_readFlight) 18 = .ok (.iconst 3, 1) := by decide +kernel
theorem d_Mod_readFlight_19 : decode (ib f_Mod_readFlight) 19 = .ok (.invokevirtual 196, 3) := by decide +kernel
theorem d_Mod_readFlight_22 : decode (ib f_Mod_readFlight) 22 = .ok (.ireturn, 1) := by decide +kernel
theorem d_Mod_readFlight_23 : decode (ib f_Mod_readFlight) 23 = .ok (.aload_n 0, 1) := by decide +kernel
theorem d_Mod_readFlight_24 : decode (ib f_Mod_readFlight) 24 = .ok (.bipush 80, 2) := by decide +kernel
theorem d_Mod_readFlight_26 : decode (ib f_Mod_readFlight) 26 = .ok (.iconst 5, 1) := by decide +kernel
theorem d_Mod_readFlight_27 : decode (ib f_Mod_readFlight) 27 = .ok (.iload_n 1, 1) := by decide +kernel
theorem d_Mod_readFlight_28 : decode (ib f_Mod_readFlight) 28 = .ok (.imul, 1) := by decide +kernel
theorem d_Mod_readFlight_29 : decode (ib f_Mod_readFlight) 29 = .ok (.iadd, 1) := by decide +kernel
theorem d_Mod_readFlight_30 : decode (ib f_Mod_readFlight) 30 = .ok (.invokevirtual 255, 3) := by decide +kernel
theorem d_Mod_readFlight_33 : decode (ib f_Mod_readFlight) 33 = .ok (.iconst (-1), 1) := by decide +kernel
theorem d_Mod_readFlight_34 : decode (ib f_Mod_readFlight) 34 = .ok (.if_icmp .ne 5, 3) := by decide +kernel
theorem d_Mod_readFlight_37 : decode (ib f_Mod_readFlight) 37 = .ok (.iconst (-1), 1) := by decide +kernel
theorem d_Mod_readFlight_38 : decode (ib f_Mod_readFlight) 38 = .ok (.ireturn, 1) := by decide +kernel
theorem d_Mod_readFlight_39 : decode (ib f_Mod_readFlight) 39 = .ok (.iload_n 1, 1) := by decide +kernel
theorem d_Mod_readFlight_40 : decode (ib f_Mod_readFlight) 40 = .ok (.iconst 1, 1) := by decide +kernel
theorem d_Mod_readFlight_41 : decode (ib f_Mod_readFlight) 41 = .ok (.iadd, 1) := by decide +kernel
theorem d_Mod_readFlight_42 : decode (ib f_Mod_readFlight) 42 = .ok (.istore_n 1, 1) := by decide +kernel
theorem d_Mod_readFlight_43 : decode (ib f_Mod_readFlight) 43 = .ok (.goto (-41), 3) := by decide +kernel
theorem d_Mod_readFlight_46 : decode (ib f_Mod_readFlight) 46 = .ok (.aload_n 0, 1) := by decide +kernel
theorem d_Mod_readFlight_47 : decode (ib f_Mod_readFlight) 47 = .ok (.getfield 165, 3) := by decide +kernel
theorem d_Mod_readFlight_50 : decode (ib f_Mod_readFlight) 50 = .ok (.ifCond .ne 7, 3) := by decide +kernel
theorem d_Mod_readFlight_53 : decode (ib f_Mod_readFlight) 53 = .ok (.iload_n 1, 1) := by decide +kernel
theorem d_Mod_readFlight_54 : decode (ib f_Mod_readFlight) 54 = .ok (.goto 8, 3) := by decide +kernel
theorem d_Mod_readFlight_57 : decode (ib f_Mod_readFlight) 57 = .ok (.aload_n 0, 1) := by decide +kernel
theorem d_Mod_readFlight_58 : decode (ib f_Mod_readFlight) 58 = .ok (.iconst 1, 1) := by decide +kernel
theorem d_Mod_readFlight_59 : decode (ib f_Mod_readFlight) 59 = .ok (.invokevirtual 196, 3) := by decide +kernel
theorem d_Mod_readFlight_62 : decode (ib f_Mod_readFlight) 62 = .ok (.ireturn, 1) := by decide +kernel
theorem d_Mod_kindOfDeed_0 : decode (ib f_Mod_kindOfDeed) 0 = .ok (.aload_n 0, 1) := by decide +kernel
theorem d_Mod_kindOfDeed_1 : decode (ib f_Mod_kindOfDeed) 1 = .ok (.bipush 14, 2) := by decide +kernel
theorem d_Mod_kindOfDeed_3 : decode (ib f_Mod_kindOfDeed) 3 = .ok (.invokevirtual 224, 3) := by decide +kernel
theorem d_Mod_kindOfDeed_6 : decode (ib f_Mod_kindOfDeed) 6 = .ok (.ifCond .eq 5, 3) := by decide +kernel
theorem d_Mod_kindOfDeed_9 : decode (ib f_Mod_kindOfDeed) 9 = .ok (.iconst 0, 1) := by decide +kernel
theorem d_Mod_kindOfDeed_10 : decode (ib f_Mod_kindOfDeed) 10 = .ok (.ireturn, 1) := by decide +kernel
theorem d_Mod_kindOfDeed_11 : decode (ib f_Mod_kindOfDeed) 11 = .ok (.aload_n 0, 1) := by decide +kernel
theorem d_Mod_kindOfDeed_12 : decode (ib f_Mod_kindOfDeed) 12 = .ok (.bipush 15, 2) := by decide +kernel
theorem d_Mod_kindOfDeed_14 : decode (ib f_Mod_kindOfDeed) 14 = .ok (.invokevirtual 224, 3) := by decide +kernel
theorem d_Mod_kindOfDeed_17 : decode (ib f_Mod_kindOfDeed) 17 = .ok (.ifCond .eq 5, 3) := by decide +kernel
theorem d_Mod_kindOfDeed_20 : decode (ib f_Mod_kindOfDeed) 20 = .ok (.iconst 1, 1) := by decide +kernel
theorem d_Mod_kindOfDeed_21 : decode (ib f_Mod_kindOfDeed) 21 = .ok (.ireturn, 1) := by decide +kernel
theorem d_Mod_kindOfDeed_22 : decode (ib f_Mod_kindOfDeed) 22 = .ok (.aload_n 0, 1) := by decide +kernel
theorem d_Mod_kindOfDeed_23 : decode (ib f_Mod_kindOfDeed) 23 = .ok (.bipush 26, 2) := by decide +kernel
theorem d_Mod_kindOfDeed_25 : decode (ib f_Mod_kindOfDeed) 25 = .ok (.invokevirtual 224, 3) := by decide +kernel
theorem d_Mod_kindOfDeed_28 : decode (ib f_Mod_kindOfDeed) 28 = .ok (.ifCond .eq 7, 3) := by decide +kernel
theorem d_Mod_kindOfDeed_31 : decode (ib f_Mod_kindOfDeed) 31 = .ok (.iconst 2, 1) := by decide +kernel
theorem d_Mod_kindOfDeed_32 : decode (ib f_Mod_kindOfDeed) 32 = .ok (.goto 17, 3) := by decide +kernel
theorem d_Mod_kindOfDeed_35 : decode (ib f_Mod_kindOfDeed) 35 = .ok (.aload_n 0, 1) := by decide +kernel
theorem d_Mod_kindOfDeed_36 : decode (ib f_Mod_kindOfDeed) 36 = .ok (.bipush 27, 2) := by decide +kernel
theorem d_Mod_kindOfDeed_38 : decode (ib f_Mod_kindOfDeed) 38 = .ok (.invokevirtual 224, 3) := by decide +kernel
theorem d_Mod_kindOfDeed_41 : decode (ib f_Mod_kindOfDeed) 41 = .ok (.ifCond .eq 7, 3) := by decide +kernel
theorem d_Mod_kindOfDeed_44 : decode (ib f_Mod_kindOfDeed) 44 = .ok (.iconst 3, 1) := by decide +kernel
theorem d_Mod_kindOfDeed_45 : decode (ib f_Mod_kindOfDeed) 45 = .ok (.goto 4, 3) := by decide +kernel
theorem d_Mod_kindOfDeed_48 : decode (ib f_Mod_kindOfDeed) 48 = .ok (.iconst (-1), 1) := by decide +kernel
theorem d_Mod_kindOfDeed_49 : decode (ib f_Mod_kindOfDeed) 49 = .ok (.ireturn, 1) := by decide +kernel
theorem d_Mod_readDeed_0 : decode (ib f_Mod_readDeed) 0 = .ok (.aload_n 0, 1) := by decide +kernel
theorem d_Mod_readDeed_1 : decode (ib f_Mod_readDeed) 1 = .ok (.getfield 59, 3) := by decide +kernel
theorem d_Mod_readDeed_4 : decode (ib f_Mod_readDeed) 4 = .ok (.iload_n 1, 1) := by decide +kernel
theorem d_Mod_readDeed_5 : decode (ib f_Mod_readDeed) 5 = .ok (.aload_n 0, 1) := by decide +kernel
theorem d_Mod_readDeed_6 : decode (ib f_Mod_readDeed) 6 = .ok (.bipush 18, 2) := by decide +kernel
theorem d_Mod_readDeed_8 : decode (ib f_Mod_readDeed) 8 = .ok (.iconst 0, 1) := by decide +kernel
theorem d_Mod_readDeed_9 : decode (ib f_Mod_readDeed) 9 = .ok (.sipush 999, 3) := by decide +kernel
theorem d_Mod_readDeed_12 : decode (ib f_Mod_readDeed) 12 = .ok (.invokevirtual 249, 3) := by decide +kernel
theorem d_Mod_readDeed_15 : decode (ib f_Mod_readDeed) 15 = .ok (.iastore, 1) := by decide +kernel
theorem d_Mod_readDeed_16 : decode (ib f_Mod_readDeed) 16 = .ok (.aload_n 0, 1) := by decide +kernel
theorem d_Mod_readDeed_17 : decode (ib f_Mod_readDeed) 17 = .ok (.getfield 59, 3) := by decide +kernel
theorem d_Mod_readDeed_20 : decode (ib f_Mod_readDeed) 20 = .ok (.iload_n 1, 1) := by decide +kernel
theorem d_Mod_readDeed_21 : decode (ib f_Mod_readDeed) 21 = .ok (.iaload, 1) := by decide +kernel
theorem d_Mod_readDeed_22 : decode (ib f_Mod_readDeed) 22 = .ok (.iconst (-1), 1) := by decide +kernel
theorem d_Mod_readDeed_23 : decode (ib f_Mod_readDeed) 23 = .ok (.if_icmp .ne 5, 3) := by decide +kernel
theorem d_Mod_readDeed_26 : decode (ib f_Mod_readDeed) 26 = .ok (.iconst (-1), 1) := by decide +kernel
theorem d_Mod_readDeed_27 : decode (ib f_Mod_readDeed) 27 = .ok (.ireturn, 1) := by decide +kernel
theorem d_Mod_readDeed_28 : decode (ib f_Mod_readDeed) 28 = .ok (.aload_n 0, 1) := by decide +kernel
theorem d_Mod_readDeed_29 : decode (ib f_Mod_readDeed) 29 = .ok (.invokevirtual 258, 3) := by decide +kernel
theorem d_Mod_readDeed_32 : decode (ib f_Mod_readDeed) 32 = .ok (.istore_n 2, 1) := by decide +kernel
theorem d_Mod_readDeed_33 : decode (ib f_Mod_readDeed) 33 = .ok (.iload_n 2, 1) := by decide +kernel
theorem d_Mod_readDeed_34 : decode (ib f_Mod_readDeed) 34 = .ok (.iconst (-1), 1) := by decide +kernel
theorem d_Mod_readDeed_35 : decode (ib f_Mod_readDeed) 35 = .ok (.if_icmp .ne 9, 3) := by decide +kernel
theorem d_Mod_readDeed_38 : decode (ib f_Mod_readDeed) 38 = .ok (.aload_n 0, 1) := by decide +kernel
theorem d_Mod_readDeed_39 : decode (ib f_Mod_readDeed) 39 = .ok (.iconst 1, 1) := by decide +kernel
theorem d_Mod_readDeed_40 : decode (ib f_Mod_readDeed) 40 = .ok (.invokevirtual 196, 3) := by decide +kernel
theorem d_Mod_readDeed_43 : decode (ib f_Mod_readDeed) 43 = .ok (.ireturn, 1) := by decide +kernel
theorem d_Mod_readDeed_44 : decode (ib f_Mod_readDeed) 44 = .ok (.aload_n 0, 1) := by decide +kernel
theorem d_Mod_readDeed_45 : decode (ib f_Mod_readDeed) 45 = .ok (.invokevirtual 202, 3) := by decide +kernel
theorem d_Mod_readDeed_48 : decode (ib f_Mod_readDeed) 48 = .ok (.aload_n 0, 1) := by decide +kernel
theorem d_Mod_readDeed_49 : decode (ib f_Mod_readDeed) 49 = .ok (.getfield 59, 3) := by decide +kernel
theorem d_Mod_readDeed_52 : decode (ib f_Mod_readDeed) 52 = .ok (.iload_n 1, 1) := by decide +kernel
theorem d_Mod_readDeed_53 : decode (ib f_Mod_readDeed) 53 = .ok (.iconst 1, 1) := by decide +kernel
theorem d_Mod_readDeed_54 : decode (ib f_Mod_readDeed) 54 = .ok (.iadd, 1) := by decide +kernel
theorem d_Mod_readDeed_55 : decode (ib f_Mod_readDeed) 55 = .ok (.iload_n 2, 1) := by decide +kernel
theorem d_Mod_readDeed_56 : decode (ib f_Mod_readDeed) 56 = .ok (.iastore, 1) := by decide +kernel
theorem d_Mod_readDeed_57 : decode (ib f_Mod_readDeed) 57 = .ok (.aload_n 0, 1) := by decide +kernel
theorem d_Mod_readDeed_58 : decode (ib f_Mod_readDeed) 58 = .ok (.getfield 59, 3) := by decide +kernel
theorem d_Mod_readDeed_61 : decode (ib f_Mod_readDeed) 61 = .ok (.iload_n 1, 1) := by decide +kernel
theorem d_Mod_readDeed_62 : decode (ib f_Mod_readDeed) 62 = .ok (.iconst 2, 1) := by decide +kernel
theorem d_Mod_readDeed_63 : decode (ib f_Mod_readDeed) 63 = .ok (.iadd, 1) := by decide +kernel
theorem d_Mod_readDeed_64 : decode (ib f_Mod_readDeed) 64 = .ok (.aload_n 0, 1) := by decide +kernel
theorem d_Mod_readDeed_65 : decode (ib f_Mod_readDeed) 65 = .ok (.iload_n 2, 1) := by decide +kernel
theorem d_Mod_readDeed_66 : decode (ib f_Mod_readDeed) 66 = .ok (.iconst 3, 1) := by decide +kernel
theorem d_Mod_readDeed_67 : decode (ib f_Mod_readDeed) 67 = .ok (.if_icmp .ne 7, 3) := by decide +kernel
theorem d_Mod_readDeed_70 : decode (ib f_Mod_readDeed) 70 = .ok (.iconst 1, 1) := by decide +kernel
theorem d_Mod_readDeed_71 : decode (ib f_Mod_readDeed) 71 = .ok (.goto 4, 3) := by decide +kernel
theorem d_Mod_readDeed_74 : decode (ib f_Mod_readDeed) 74 = .ok (.iconst 0, 1) := by decide +kernel
theorem d_Mod_readDeed_75 : decode (ib f_Mod_readDeed) 75 = .ok (.iload_n 2, 1) := by decide +kernel
theorem d_Mod_readDeed_76 : decode (ib f_Mod_readDeed) 76 = .ok (.iconst 2, 1) := by decide +kernel
theorem d_Mod_readDeed_77 : decode (ib f_Mod_readDeed) 77 = .ok (.if_icmp .ne 8, 3) := by decide +kernel
theorem d_Mod_readDeed_80 : decode (ib f_Mod_readDeed) 80 = .ok (.bipush 59, 2) := by decide +kernel
theorem d_Mod_readDeed_82 : decode (ib f_Mod_readDeed) 82 = .ok (.goto 15, 3) := by decide +kernel
theorem d_Mod_readDeed_85 : decode (ib f_Mod_readDeed) 85 = .ok (.iload_n 2, 1) := by decide +kernel
theorem d_Mod_readDeed_86 : decode (ib f_Mod_readDeed) 86 = .ok (.iconst 3, 1) := by decide +kernel
theorem d_Mod_readDeed_87 : decode (ib f_Mod_readDeed) 87 = .ok (.if_icmp .ne 8, 3) := by decide +kernel
theorem d_Mod_readDeed_90 : decode (ib f_Mod_readDeed) 90 = .ok (.bipush 99, 2) := by decide +kernel
theorem d_Mod_readDeed_92 : decode (ib f_Mod_readDeed) 92 = .ok (.goto 5, 3) := by decide +kernel
theorem d_Mod_readDeed_95 : decode (ib f_Mod_readDeed) 95 = .ok (.bipush 9, 2) := by decide +kernel
theorem d_Mod_readDeed_97 : decode (ib f_Mod_readDeed) 97 = .ok (.invokevirtual 246, 3) := by decide +kernel
theorem d_Mod_readDeed_100 : decode (ib f_Mod_readDeed) 100 = .ok (.iastore, 1) := by decide +kernel
theorem d_Mod_readDeed_101 : decode (ib f_Mod_readDeed) 101 = .ok (.aload_n 0, 1) := by decide +kernel
theorem d_Mod_readDeed_102 : decode (ib f_Mod_readDeed) 102 = .ok (.getfield 59, 3) := by decide +kernel
theorem d_Mod_readDeed_105 : decode (ib f_Mod_readDeed) 105 = .ok (.iload_n 1, 1) := by decide +kernel
theorem d_Mod_readDeed_106 : decode (ib f_Mod_readDeed) 106 = .ok (.iconst 2, 1) := by decide +kernel
theorem d_Mod_readDeed_107 : decode (ib f_Mod_readDeed) 107 = .ok (.iadd, 1) := by decide +kernel
theorem d_Mod_readDeed_108 : decode (ib f_Mod_readDeed) 108 = .ok (.iaload, 1) := by decide +kernel
theorem d_Mod_readDeed_109 : decode (ib f_Mod_readDeed) 109 = .ok (.iconst (-1), 1) := by decide +kernel
theorem d_Mod_readDeed_110 : decode (ib f_Mod_readDeed) 110 = .ok (.if_icmp .ne 5, 3) := by decide +kernel
theorem d_Mod_readDeed_113 : decode (ib f_Mod_readDeed) 113 = .ok (.iconst (-1), 1) := by decide +kernel
theorem d_Mod_readDeed_114 : decode (ib f_Mod_readDeed) 114 = .ok (.ireturn, 1) := by decide +kernel
theorem d_Mod_readDeed_115 : decode (ib f_Mod_readDeed) 115 = .ok (.aload_n 0, 1) := by decide +kernel
theorem d_Mod_readDeed_116 : decode (ib f_Mod_readDeed) 116 = .ok (.getfield 59, 3) := by decide +kernel
theorem d_Mod_readDeed_119 : decode (ib f_Mod_readDeed) 119 = .ok (.iload_n 1, 1) := by decide +kernel
theorem d_Mod_readDeed_120 : decode (ib f_Mod_readDeed) 120 = .ok (.iconst 3, 1) := by decide +kernel
theorem d_Mod_readDeed_121 : decode (ib f_Mod_readDeed) 121 = .ok (.iadd, 1) := by decide +kernel
theorem d_Mod_readDeed_122 : decode (ib f_Mod_readDeed) 122 = .ok (.iload_n 2, 1) := by decide +kernel
theorem d_Mod_readDeed_123 : decode (ib f_Mod_readDeed) 123 = .ok (.iconst 2, 1) := by decide +kernel
theorem d_Mod_readDeed_124 : decode (ib f_Mod_readDeed) 124 = .ok (.if_icmp .ne 13, 3) := by decide +kernel
theorem d_Mod_readDeed_127 : decode (ib f_Mod_readDeed) 127 = .ok (.aload_n 0, 1) := by decide +kernel
theorem d_Mod_readDeed_128 : decode (ib f_Mod_readDeed) 128 = .ok (.iconst 0, 1) := by decide +kernel
theorem d_Mod_readDeed_129 : decode (ib f_Mod_readDeed) 129 = .ok (.bipush 99, 2) := by decide +kernel
theorem d_Mod_readDeed_131 : decode (ib f_Mod_readDeed) 131 = .ok (.invokevirtual 246, 3) := by decide +kernel
theorem d_Mod_readDeed_134 : decode (ib f_Mod_readDeed) 134 = .ok (.goto 4, 3) := by decide +kernel
theorem d_Mod_readDeed_137 : decode (ib f_Mod_readDeed) 137 = .ok (.iconst 0, 1) := by decide +kernel
theorem d_Mod_readDeed_138 : decode (ib f_Mod_readDeed) 138 = .ok (.iastore, 1) := by decide +kernel
theorem d_Mod_readDeed_139 : decode (ib f_Mod_readDeed) 139 = .ok (.aload_n 0, 1) := by decide +kernel
theorem d_Mod_readDeed_140 : decode (ib f_Mod_readDeed) 140 = .ok (.getfield 59, 3) := by decide +kernel
theorem d_Mod_readDeed_143 : decode (ib f_Mod_readDeed) 143 = .ok (.iload_n 1, 1) := by decide +kernel
theorem d_Mod_readDeed_144 : decode (ib f_Mod_readDeed) 144 = .ok (.iconst 3, 1) := by decide +kernel
theorem d_Mod_readDeed_145 : decode (ib f_Mod_readDeed) 145 = .ok (.iadd, 1) := by decide +kernel
theorem d_Mod_readDeed_146 : decode (ib f_Mod_readDeed) 146 = .ok (.iaload, 1) := by decide +kernel
theorem d_Mod_readDeed_147 : decode (ib f_Mod_readDeed) 147 = .ok (.iconst (-1), 1) := by decide +kernel
theorem d_Mod_readDeed_148 : decode (ib f_Mod_readDeed) 148 = .ok (.if_icmp .ne 7, 3) := by decide +kernel
theorem d_Mod_readDeed_151 : decode (ib f_Mod_readDeed) 151 = .ok (.iconst (-1), 1) := by decide +kernel
theorem d_Mod_readDeed_152 : decode (ib f_Mod_readDeed) 152 = .ok (.goto 9, 3) := by decide +kernel
theorem d_Mod_readDeed_155 : decode (ib f_Mod_readDeed) 155 = .ok (.aload_n 0, 1) := by decide +kernel
theorem d_Mod_readDeed_156 : decode (ib f_Mod_readDeed) 156 = .ok (.bipush 59, 2) := by decide +kernel
theorem d_Mod_readDeed_158 : decode (ib f_Mod_readDeed) 158 = .ok (.invokevirtual 252, 3) := by decide +kernel
theorem d_Mod_readDeed_161 : decode (ib f_Mod_readDeed) 161 = .ok (.ireturn, 1) := by decide +kernel
theorem d_Mod_readSky_0 : decode (ib f_Mod_readSky) 0 = .ok (.iconst 0, 1) := by decide +kernel
theorem d_Mod_readSky_1 : decode (ib f_Mod_readSky) 1 = .ok (.istore_n 1, 1) := by decide +kernel
theorem d_Mod_readSky_2 : decode (ib f_Mod_readSky) 2 = .ok (.aload_n 0, 1) := by decide +kernel
theorem d_Mod_readSky_3 : decode (ib f_Mod_readSky) 3 = .ok (.bipush 18, 2) := by decide +kernel
theorem d_Mod_readSky_5 : decode (ib f_Mod_readSky) 5 = .ok (.invokevirtual 224, 3) := by decide +kernel
theorem d_Mod_readSky_8 : decode (ib f_Mod_readSky) 8 = .ok (.ifCond .eq 38, 3) := by decide +kernel
theorem d_Mod_readSky_11 : decode (ib f_Mod_readSky) 11 = .ok (.iload_n 1, 1) := by decide +kernel
theorem d_Mod_readSky_12 : decode (ib f_Mod_readSky) 12 = .ok (.bipush 16, 2) := by decide +kernel
theorem d_Mod_readSky_14 : decode (ib f_Mod_readSky) 14 = .ok (.if_icmp .ne 9, 3) := by decide +kernel
theorem d_Mod_readSky_17 : decode (ib f_Mod_readSky) 17 = .ok (.aload_n 0, 1) := by decide +kernel
theorem d_Mod_readSky_18 : decode (ib f_Mod_readSky) 18 = .ok (.iconst 3, 1) := by decide +kernel
theorem d_Mod_readSky_19 : decode (ib f_Mod_readSky) 19 = .ok (.invokevirtual 196, 3) := by decide +kernel
theorem d_Mod_readSky_22 : decode (ib f_Mod_readSky) 22 = .ok (.ireturn, 1) := by decide +kernel
theorem d_Mod_readSky_23 : decode (ib f_Mod_readSky) 23 = .ok (.aload_n 0, 1) := by decide +kernel
theorem d_Mod_readSky_24 : decode (ib f_Mod_readSky) 24 = .ok (.bipush 64, 2) := by decide +kernel
theorem d_Mod_readSky_26 : decode (ib f_Mod_readSky) 26 = .ok (.iconst 4, 1) := by decide +kernel
theorem d_Mod_readSky_27 : decode (ib f_Mod_readSky) 27 = .ok (.iload_n 1, 1) := by decide +kernel
theorem d_Mod_readSky_28 : decode (ib f_Mod_readSky) 28 = .ok (.imul, 1) := by decide +kernel
theorem d_Mod_readSky_29 : decode (ib f_Mod_readSky) 29 = .ok (.iadd, 1) := by decide +kernel
theorem d_Mod_readSky_30 : decode (ib f_Mod_readSky) 30 = .ok (.invokevirtual 261, 3) := by decide +kernel
theorem d_Mod_readSky_33 : decode (ib f_Mod_readSky) 33 = .ok (.iconst (-1), 1) := by decide +kernel
theorem d_Mod_readSky_34 : decode (ib f_Mod_readSky) 34 = .ok (.if_icmp .ne 5, 3) := by decide +kernel
theorem d_Mod_readSky_37 : decode (ib f_Mod_readSky) 37 = .ok (.iconst (-1), 1) := by decide +kernel
theorem d_Mod_readSky_38 : decode (ib f_Mod_readSky) 38 = .ok (.ireturn, 1) := by decide +kernel
theorem d_Mod_readSky_39 : decode (ib f_Mod_readSky) 39 = .ok (.iload_n 1, 1) := by decide +kernel
theorem d_Mod_readSky_40 : decode (ib f_Mod_readSky) 40 = .ok (.iconst 1, 1) := by decide +kernel
theorem d_Mod_readSky_41 : decode (ib f_Mod_readSky) 41 = .ok (.iadd, 1) := by decide +kernel
theorem d_Mod_readSky_42 : decode (ib f_Mod_readSky) 42 = .ok (.istore_n 1, 1) := by decide +kernel
theorem d_Mod_readSky_43 : decode (ib f_Mod_readSky) 43 = .ok (.goto (-41), 3) := by decide +kernel
theorem d_Mod_readSky_46 : decode (ib f_Mod_readSky) 46 = .ok (.aload_n 0, 1) := by decide +kernel
theorem d_Mod_readSky_47 : decode (ib f_Mod_readSky) 47 = .ok (.getfield 165, 3) := by decide +kernel
theorem d_Mod_readSky_50 : decode (ib f_Mod_readSky) 50 = .ok (.ifCond .ne 7, 3) := by decide +kernel
theorem d_Mod_readSky_53 : decode (ib f_Mod_readSky) 53 = .ok (.iload_n 1, 1) := by decide +kernel
theorem d_Mod_readSky_54 : decode (ib f_Mod_readSky) 54 = .ok (.goto 8, 3) := by decide +kernel
theorem d_Mod_readSky_57 : decode (ib f_Mod_readSky) 57 = .ok (.aload_n 0, 1) := by decide +kernel
theorem d_Mod_readSky_58 : decode (ib f_Mod_readSky) 58 = .ok (.iconst 1, 1) := by decide +kernel
theorem d_Mod_readSky_59 : decode (ib f_Mod_readSky) 59 = .ok (.invokevirtual 196, 3) := by decide +kernel
theorem d_Mod_readSky_62 : decode (ib f_Mod_readSky) 62 = .ok (.ireturn, 1) := by decide +kernel
theorem d_Mod_readStrip_0 : decode (ib f_Mod_readStrip) 0 = .ok (.aload_n 0, 1) := by decide +kernel
theorem d_Mod_readStrip_1 : decode (ib f_Mod_readStrip) 1 = .ok (.bipush 28, 2) := by decide +kernel
theorem d_Mod_readStrip_3 : decode (ib f_Mod_readStrip) 3 = .ok (.iconst 0, 1) := by decide +kernel
theorem d_Mod_readStrip_4 : decode (ib f_Mod_readStrip) 4 = .ok (.bipush 11, 2) := by decide +kernel
theorem d_Mod_readStrip_6 : decode (ib f_Mod_readStrip) 6 = .ok (.invokevirtual 249, 3) := by decide +kernel
theorem d_Mod_readStrip_9 : decode (ib f_Mod_readStrip) 9 = .ok (.istore_n 1, 1) := by decide +kernel
theorem d_Mod_readStrip_10 : decode (ib f_Mod_readStrip) 10 = .ok (.iload_n 1, 1) := by decide +kernel
theorem d_Mod_readStrip_11 : decode (ib f_Mod_readStrip) 11 = .ok (.iconst (-1), 1) := by decide +kernel
theorem d_Mod_readStrip_12 : decode (ib f_Mod_readStrip) 12 = .ok (.if_icmp .ne 5, 3) := by decide +kernel
theorem d_Mod_readStrip_15 : decode (ib f_Mod_readStrip) 15 = .ok (.iconst (-1), 1) := by decide +kernel
theorem d_Mod_readStrip_16 : decode (ib f_Mod_readStrip) 16 = .ok (.ireturn, 1) := by decide +kernel
theorem d_Mod_readStrip_17 : decode (ib f_Mod_readStrip) 17 = .ok (.aload_n 0, 1) := by decide +kernel
theorem d_Mod_readStrip_18 : decode (ib f_Mod_readStrip) 18 = .ok (.bipush 18, 2) := by decide +kernel
theorem d_Mod_readStrip_20 : decode (ib f_Mod_readStrip) 20 = .ok (.invokevirtual 224, 3) := by decide +kernel
theorem d_Mod_readStrip_23 : decode (ib f_Mod_readStrip) 23 = .ok (.ifCond .ne 9, 3) := by decide +kernel
theorem d_Mod_readStrip_26 : decode (ib f_Mod_readStrip) 26 = .ok (.aload_n 0, 1) := by decide +kernel
theorem d_Mod_readStrip_27 : decode (ib f_Mod_readStrip) 27 = .ok (.iconst 1, 1) := by decide +kernel
theorem d_Mod_readStrip_28 : decode (ib f_Mod_readStrip) 28 = .ok (.invokevirtual 196, 3) := by decide +kernel
theorem d_Mod_readStrip_31 : decode (ib f_Mod_readStrip) 31 = .ok (.ireturn, 1) := by decide +kernel
theorem d_Mod_readStrip_32 : decode (ib f_Mod_readStrip) 32 = .ok (.aload_n 0, 1) := by decide +kernel
theorem d_Mod_readStrip_33 : decode (ib f_Mod_readStrip) 33 = .ok (.invokevirtual 202, 3) := by decide +kernel
theorem d_Mod_readStrip_36 : decode (ib f_Mod_readStrip) 36 = .ok (.aload_n 0, 1) := by decide +kernel
theorem d_Mod_readStrip_37 : decode (ib f_Mod_readStrip) 37 = .ok (.bipush 28, 2) := by decide +kernel
theorem d_Mod_readStrip_39 : decode (ib f_Mod_readStrip) 39 = .ok (.invokevirtual 224, 3) := by decide +kernel
theorem d_Mod_readStrip_42 : decode (ib f_Mod_readStrip) 42 = .ok (.ifCond .ne 9, 3) := by decide +kernel
theorem d_Mod_readStrip_45 : decode (ib f_Mod_readStrip) 45 = .ok (.aload_n 0, 1) := by decide +kernel
theorem d_Mod_readStrip_46 : decode (ib f_Mod_readStrip) 46 = .ok (.iconst 1, 1) := by decide +kernel
theorem d_Mod_readStrip_47 : decode (ib f_Mod_readStrip) 47 = .ok (.invokevirtual 196, 3) := by decide +kernel
theorem d_Mod_readStrip_50 : decode (ib f_Mod_readStrip) 50 = .ok (.ireturn, 1) := by decide +kernel
theorem d_Mod_readStrip_51 : decode (ib f_Mod_readStrip) 51 = .ok (.aload_n 0, 1) := by decide +kernel
theorem d_Mod_readStrip_52 : decode (ib f_Mod_readStrip) 52 = .ok (.invokevirtual 202, 3) := by decide +kernel
theorem d_Mod_readStrip_55 : decode (ib f_Mod_readStrip) 55 = .ok (.aload_n 0, 1) := by decide +kernel
theorem d_Mod_readStrip_56 : decode (ib f_Mod_readStrip) 56 = .ok (.getfield 165, 3) := by decide +kernel
theorem d_Mod_readStrip_59 : decode (ib f_Mod_readStrip) 59 = .ok (.iconst 3, 1) := by decide +kernel
theorem d_Mod_readStrip_60 : decode (ib f_Mod_readStrip) 60 = .ok (.if_icmp .ne 17, 3) := by decide +kernel
theorem d_Mod_readStrip_63 : decode (ib f_Mod_readStrip) 63 = .ok (.aload_n 0, 1) := by decide +kernel
theorem d_Mod_readStrip_64 : decode (ib f_Mod_readStrip) 64 = .ok (.getfield 168, 3) := by decide +kernel
theorem d_Mod_readStrip_67 : decode (ib f_Mod_readStrip) 67 = .ok (.iload_n 1, 1) := by decide +kernel
theorem d_Mod_readStrip_68 : decode (ib f_Mod_readStrip) 68 = .ok (.if_icmp .ne 9, 3) := by decide +kernel
theorem d_Mod_readStrip_71 : decode (ib f_Mod_readStrip) 71 = .ok (.aload_n 0, 1) := by decide +kernel
theorem d_Mod_readStrip_72 : decode (ib f_Mod_readStrip) 72 = .ok (.iconst 2, 1) := by decide +kernel
theorem d_Mod_readStrip_73 : decode (ib f_Mod_readStrip) 73 = .ok (.invokevirtual 196, 3) := by decide +kernel
theorem d_Mod_readStrip_76 : decode (ib f_Mod_readStrip) 76 = .ok (.ireturn, 1) := by decide +kernel
theorem d_Mod_readStrip_77 : decode (ib f_Mod_readStrip) 77 = .ok (.aload_n 0, 1) := by decide +kernel
theorem d_Mod_readStrip_78 : decode (ib f_Mod_readStrip) 78 = .ok (.iconst 0, 1) := by decide +kernel
theorem d_Mod_readStrip_79 : decode (ib f_Mod_readStrip) 79 = .ok (.bipush 11, 2) := by decide +kernel
theorem d_Mod_readStrip_81 : decode (ib f_Mod_readStrip) 81 = .ok (.invokevirtual 246, 3) := by decide +kernel
theorem d_Mod_readStrip_84 : decode (ib f_Mod_readStrip) 84 = .ok (.istore_n 2, 1) := by decide +kernel
theorem d_Mod_readStrip_85 : decode (ib f_Mod_readStrip) 85 = .ok (.iload_n 2, 1) := by decide +kernel
theorem d_Mod_readStrip_86 : decode (ib f_Mod_readStrip) 86 = .ok (.iconst (-1), 1) := by decide +kernel
theorem d_Mod_readStrip_87 : decode (ib f_Mod_readStrip) 87 = .ok (.if_icmp .ne 5, 3) := by decide +kernel
theorem d_Mod_readStrip_90 : decode (ib f_Mod_readStrip) 90 = .ok (.iconst (-1), 1) := by decide +kernel
theorem d_Mod_readStrip_91 : decode (ib f_Mod_readStrip) 91 = .ok (.ireturn, 1) := by decide +kernel
theorem d_Mod_readStrip_92 : decode (ib f_Mod_readStrip) 92 = .ok (.aload_n 0, 1) := by decide +kernel
theorem d_Mod_readStrip_93 : decode (ib f_Mod_readStrip) 93 = .ok (.getfield 62, 3) := by decide +kernel
theorem d_Mod_readStrip_96 : decode (ib f_Mod_readStrip) 96 = .ok (.bipush 12, 2) := by decide +kernel
theorem d_Mod_readStrip_98 : decode (ib f_Mod_readStrip) 98 = .ok (.iload_n 1, 1) := by decide +kernel
theorem d_Mod_readStrip_99 : decode (ib f_Mod_readStrip) 99 = .ok (.iadd, 1) := by decide +kernel
theorem d_Mod_readStrip_100 : decode (ib f_Mod_readStrip) 100 = .ok (.aload_n 0, 1) := by decide +kernel
theorem d_Mod_readStrip_101 : decode (ib f_Mod_readStrip) 101 = .ok (.getfield 62, 3) := by decide +kernel
theorem d_Mod_readStrip_104 : decode (ib f_Mod_readStrip) 104 = .ok (.bipush 12, 2) := by decide +kernel
theorem d_Mod_readStrip_106 : decode (ib f_Mod_readStrip) 106 = .ok (.iload_n 1, 1) := by decide +kernel
theorem d_Mod_readStrip_107 : decode (ib f_Mod_readStrip) 107 = .ok (.iadd, 1) := by decide +kernel
theorem d_Mod_readStrip_108 : decode (ib f_Mod_readStrip) 108 = .ok (.iaload, 1) := by decide +kernel
theorem d_Mod_readStrip_109 : decode (ib f_Mod_readStrip) 109 = .ok (.iconst 1, 1) := by decide +kernel
theorem d_Mod_readStrip_110 : decode (ib f_Mod_readStrip) 110 = .ok (.iload_n 2, 1) := by decide +kernel
theorem d_Mod_readStrip_111 : decode (ib f_Mod_readStrip) 111 = .ok (.ishl, 1) := by decide +kernel
theorem d_Mod_readStrip_112 : decode (ib f_Mod_readStrip) 112 = .ok (.ior, 1) := by decide +kernel
theorem d_Mod_readStrip_113 : decode (ib f_Mod_readStrip) 113 = .ok (.iastore, 1) := by decide +kernel
theorem d_Mod_readStrip_114 : decode (ib f_Mod_readStrip) 114 = .ok (.aload_n 0, 1) := by decide +kernel
theorem d_Mod_readStrip_115 : decode (ib f_Mod_readStrip) 115 = .ok (.bipush 59, 2) := by decide +kernel
theorem d_Mod_readStrip_117 : decode (ib f_Mod_readStrip) 117 = .ok (.invokevirtual 252, 3) := by decide +kernel
theorem d_Mod_readStrip_120 : decode (ib f_Mod_readStrip) 120 = .ok (.ireturn, 1) := by decide +kernel
theorem d_Mod_readStrips_0 : decode (ib f_Mod_readStrips) 0 = .ok (.iconst 0, 1) := by decide +kernel
theorem d_Mod_readStrips_1 : decode (ib f_Mod_readStrips) 1 = .ok (.istore_n 1, 1) := by decide +kernel
theorem d_Mod_readStrips_2 : decode (ib f_Mod_readStrips) 2 = .ok (.iload_n 1, 1) := by decide +kernel
theorem d_Mod_readStrips_3 : decode (ib f_Mod_readStrips) 3 = .ok (.bipush 12, 2) := by decide +kernel
theorem d_Mod_readStrips_5 : decode (ib f_Mod_readStrips) 5 = .ok (.if_icmp .ge 19, 3) := by decide +kernel
theorem d_Mod_readStrips_8 : decode (ib f_Mod_readStrips) 8 = .ok (.aload_n 0, 1) := by decide +kernel
theorem d_Mod_readStrips_9 : decode (ib f_Mod_readStrips) 9 = .ok (.getfield 62, 3) := by decide +kernel
theorem d_Mod_readStrips_12 : decode (ib f_Mod_readStrips) 12 = .ok (.bipush 12, 2) := by decide +kernel
theorem d_Mod_readStrips_14 : decode (ib f_Mod_readStrips) 14 = .ok (.iload_n 1, 1) := by decide +kernel
theorem d_Mod_readStrips_15 : decode (ib f_Mod_readStrips) 15 = .ok (.iadd, 1) := by decide +kernel
theorem d_Mod_readStrips_16 : decode (ib f_Mod_readStrips) 16 = .ok (.iconst 0, 1) := by decide +kernel
theorem d_Mod_readStrips_17 : decode (ib f_Mod_readStrips) 17 = .ok (.iastore, 1) := by decide +kernel
theorem d_Mod_readStrips_18 : decode (ib f_Mod_readStrips) 18 = .ok (.iinc 1 1, 3) := by decide +kernel
theorem d_Mod_readStrips_21 : decode (ib f_Mod_readStrips) 21 = .ok (.goto (-19), 3) := by decide +kernel
theorem d_Mod_readStrips_24 : decode (ib f_Mod_readStrips) 24 = .ok (.iconst 0, 1) := by decide +kernel
theorem d_Mod_readStrips_25 : decode (ib f_Mod_readStrips) 25 = .ok (.istore_n 1, 1) := by decide +kernel
theorem d_Mod_readStrips_26 : decode (ib f_Mod_readStrips) 26 = .ok (.aload_n 0, 1) := by decide +kernel
theorem d_Mod_readStrips_27 : decode (ib f_Mod_readStrips) 27 = .ok (.bipush 28, 2) := by decide +kernel
theorem d_Mod_readStrips_29 : decode (ib f_Mod_readStrips) 29 = .ok (.invokevirtual 224, 3) := by decide +kernel
theorem d_Mod_readStrips_32 : decode (ib f_Mod_readStrips) 32 = .ok (.ifCond .eq 32, 3) := by decide +kernel
theorem d_Mod_readStrips_35 : decode (ib f_Mod_readStrips) 35 = .ok (.iload_n 1, 1) := by decide +kernel
theorem d_Mod_readStrips_36 : decode (ib f_Mod_readStrips) 36 = .ok (.bipush 16, 2) := by decide +kernel
theorem d_Mod_readStrips_38 : decode (ib f_Mod_readStrips) 38 = .ok (.if_icmp .ne 9, 3) := by decide +kernel
theorem d_Mod_readStrips_41 : decode (ib f_Mod_readStrips) 41 = .ok (.aload_n 0, 1) := by decide +kernel
theorem d_Mod_readStrips_42 : decode (ib f_Mod_readStrips) 42 = .ok (.iconst 3, 1) := by decide +kernel
theorem d_Mod_readStrips_43 : decode (ib f_Mod_readStrips) 43 = .ok (.invokevirtual 196, 3) := by decide +kernel
theorem d_Mod_readStrips_46 : decode (ib f_Mod_readStrips) 46 = .ok (.ireturn, 1) := by decide +kernel
theorem d_Mod_readStrips_47 : decode (ib f_Mod_readStrips) 47 = .ok (.aload_n 0, 1) := by decide +kernel
theorem d_Mod_readStrips_48 : decode (ib f_Mod_readStrips) 48 = .ok (.invokevirtual 264, 3) := by decide +kernel
theorem d_Mod_readStrips_51 : decode (ib f_Mod_readStrips) 51 = .ok (.iconst (-1), 1) := by decide +kernel
theorem d_Mod_readStrips_52 : decode (ib f_Mod_readStrips) 52 = .ok (.if_icmp .ne 5, 3) := by decide +kernel
theorem d_Mod_readStrips_55 : decode (ib f_Mod_readStrips) 55 = .ok (.iconst (-1), 1) := by decide +kernel
theorem d_Mod_readStrips_56 : decode (ib f_Mod_readStrips) 56 = .ok (.ireturn, 1) := by decide +kernel
theorem d_Mod_readStrips_57 : decode (ib f_Mod_readStrips) 57 = .ok (.iload_n 1, 1) := by decide +kernel
theorem d_Mod_readStrips_58 : decode (ib f_Mod_readStrips) 58 = .ok (.iconst 1, 1) := by decide +kernel
theorem d_Mod_readStrips_59 : decode (ib f_Mod_readStrips) 59 = .ok (.iadd, 1) := by decide +kernel
theorem d_Mod_readStrips_60 : decode (ib f_Mod_readStrips) 60 = .ok (.istore_n 1, 1) := by decide +kernel
theorem d_Mod_readStrips_61 : decode (ib f_Mod_readStrips) 61 = .ok (.goto (-35), 3) := by decide +kernel
theorem d_Mod_readStrips_64 : decode (ib f_Mod_readStrips) 64 = .ok (.aload_n 0, 1) := by decide +kernel
theorem d_Mod_readStrips_65 : decode (ib f_Mod_readStrips) 65 = .ok (.getfield 165, 3) := by decide +kernel
theorem d_Mod_readStrips_68 : decode (ib f_Mod_readStrips) 68 = .ok (.ifCond .ne 7, 3) := by decide +kernel
theorem d_Mod_readStrips_71 : decode (ib f_Mod_readStrips) 71 = .ok (.iload_n 1, 1) := by decide +kernel
theorem d_Mod_readStrips_72 : decode (ib f_Mod_readStrips) 72 = .ok (.goto 8, 3) := by decide +kernel
theorem d_Mod_readStrips_75 : decode (ib f_Mod_readStrips) 75 = .ok (.aload_n 0, 1) := by decide +kernel
theorem d_Mod_readStrips_76 : decode (ib f_Mod_readStrips) 76 = .ok (.iconst 1, 1) := by decide +kernel
theorem d_Mod_readStrips_77 : decode (ib f_Mod_readStrips) 77 = .ok (.invokevirtual 196, 3) := by decide +kernel
theorem d_Mod_readStrips_80 : decode (ib f_Mod_readStrips) 80 = .ok (.ireturn, 1) := by decide +kernel
theorem d_Mod_readsText_0 : decode (ib f_Mod_readsText) 0 = .ok (.aload_n 0, 1) := by decide +kernel
theorem d_Mod_readsText_1 : decode (ib f_Mod_readsText) 1 = .ok (.iconst 0, 1) := by decide +kernel
theorem d_Mod_readsText_2 : decode (ib f_Mod_readsText) 2 = .ok (.putfield 243, 3) := by decide +kernel
theorem d_Mod_readsText_5 : decode (ib f_Mod_readsText) 5 = .ok (.aload_n 0, 1) := by decide +kernel
theorem d_Mod_readsText_6 : decode (ib f_Mod_readsText) 6 = .ok (.invokevirtual 202, 3) := by decide +kernel
theorem d_Mod_readsText_9 : decode (ib f_Mod_readsText) 9 = .ok (.iload_n 1, 1) := by decide +kernel
theorem d_Mod_readsText_10 : decode (ib f_Mod_readsText) 10 = .ok (.iconst 1, 1) := by decide +kernel
theorem d_Mod_readsText_11 : decode (ib f_Mod_readsText) 11 = .ok (.if_icmp .ne 8, 3) := by decide +kernel
theorem d_Mod_readsText_14 : decode (ib f_Mod_readsText) 14 = .ok (.aload_n 0, 1) := by decide +kernel
theorem d_Mod_readsText_15 : decode (ib f_Mod_readsText) 15 = .ok (.invokevirtual 267, 3) := by decide +kernel
theorem d_Mod_readsText_18 : decode (ib f_Mod_readsText) 18 = .ok (.ireturn, 1) := by decide +kernel
theorem d_Mod_readsText_19 : decode (ib f_Mod_readsText) 19 = .ok (.iload_n 1, 1) := by decide +kernel
theorem d_Mod_readsText_20 : decode (ib f_Mod_readsText) 20 = .ok (.iconst 2, 1) := by decide +kernel
theorem d_Mod_readsText_21 : decode (ib f_Mod_readsText) 21 = .ok (.if_icmp .ne 8, 3) := by decide +kernel
theorem d_Mod_readsText_24 : decode (ib f_Mod_readsText) 24 = .ok (.aload_n 0, 1) := by decide +kernel
theorem d_Mod_readsText_25 : decode (ib f_Mod_readsText) 25 = .ok (.invokevirtual 270, 3) := by decide +kernel
theorem d_Mod_readsText_28 : decode (ib f_Mod_readsText) 28 = .ok (.ireturn, 1) := by decide +kernel
theorem d_Mod_readsText_29 : decode (ib f_Mod_readsText) 29 = .ok (.iload_n 1, 1) := by decide +kernel
theorem d_Mod_readsText_30 : decode (ib f_Mod_readsText) 30 = .ok (.iconst 3, 1) := by decide +kernel
theorem d_Mod_readsText_31 : decode (ib f_Mod_readsText) 31 = .ok (.if_icmp .ne 10, 3) := by decide +kernel
theorem d_Mod_readsText_34 : decode (ib f_Mod_readsText) 34 = .ok (.aload_n 0, 1) := by decide +kernel
theorem d_Mod_readsText_35 : decode (ib f_Mod_readsText) 35 = .ok (.invokevirtual 273, 3) := by decide +kernel
theorem d_Mod_readsText_38 : decode (ib f_Mod_readsText) 38 = .ok (.goto 7, 3) := by decide +kernel
theorem d_Mod_readsText_41 : decode (ib f_Mod_readsText) 41 = .ok (.aload_n 0, 1) := by decide +kernel
theorem d_Mod_readsText_42 : decode (ib f_Mod_readsText) 42 = .ok (.invokevirtual 276, 3) := by decide +kernel
theorem d_Mod_readsText_45 : decode (ib f_Mod_readsText) 45 = .ok (.ireturn, 1) := by decide +kernel
theorem d_Mod_takesOther_0 : decode (ib f_Mod_takesOther) 0 = .ok (.iload_n 1, 1) := by decide +kernel
theorem d_Mod_takesOther_1 : decode (ib f_Mod_takesOther) 1 = .ok (.iconst 3, 1) := by decide +kernel
theorem d_Mod_takesOther_2 : decode (ib f_Mod_takesOther) 2 = .ok (.if_icmp .ne 38, 3) := by decide +kernel
theorem d_Mod_takesOther_5 : decode (ib f_Mod_takesOther) 5 = .ok (.iconst 0, 1) := by decide +kernel
theorem d_Mod_takesOther_6 : decode (ib f_Mod_takesOther) 6 = .ok (.istore_n 3, 1) := by decide +kernel
theorem d_Mod_takesOther_7 : decode (ib f_Mod_takesOther) 7 = .ok (.iload_n 3, 1) := by decide +kernel
theorem d_Mod_takesOther_8 : decode (ib f_Mod_takesOther) 8 = .ok (.bipush 12, 2) := by decide +kernel
theorem d_Mod_takesOther_10 : decode (ib f_Mod_takesOther) 10 = .ok (.if_icmp .ge 24, 3) := by decide +kernel
theorem d_Mod_takesOther_13 : decode (ib f_Mod_takesOther) 13 = .ok (.aload_n 0, 1) := by decide +kernel
theorem d_Mod_takesOther_14 : decode (ib f_Mod_takesOther) 14 = .ok (.getfield 62, 3) := by decide +kernel
theorem d_Mod_takesOther_17 : decode (ib f_Mod_takesOther) 17 = .ok (.iload_n 3, 1) := by decide +kernel
theorem d_Mod_takesOther_18 : decode (ib f_Mod_takesOther) 18 = .ok (.aload_n 0, 1) := by decide +kernel
theorem d_Mod_takesOther_19 : decode (ib f_Mod_takesOther) 19 = .ok (.getfield 62, 3) := by decide +kernel
theorem d_Mod_takesOther_22 : decode (ib f_Mod_takesOther) 22 = .ok (.bipush 12, 2) := by decide +kernel
theorem d_Mod_takesOther_24 : decode (ib f_Mod_takesOther) 24 = .ok (.iload_n 3, 1) := by decide +kernel
theorem d_Mod_takesOther_25 : decode (ib f_Mod_takesOther) 25 = .ok (.iadd, 1) := by decide +kernel
theorem d_Mod_takesOther_26 : decode (ib f_Mod_takesOther) 26 = .ok (.iaload, 1) := by decide +kernel
theorem d_Mod_takesOther_27 : decode (ib f_Mod_takesOther) 27 = .ok (.iastore, 1) := by decide +kernel
theorem d_Mod_takesOther_28 : decode (ib f_Mod_takesOther) 28 = .ok (.iinc 3 1, 3) := by decide +kernel
theorem d_Mod_takesOther_31 : decode (ib f_Mod_takesOther) 31 = .ok (.goto (-24), 3) := by decide +kernel
theorem d_Mod_takesOther_34 : decode (ib f_Mod_takesOther) 34 = .ok (.aload_n 0, 1) := by decide +kernel
theorem d_Mod_takesOther_35 : decode (ib f_Mod_takesOther) 35 = .ok (.iload_n 2, 1) := by decide +kernel
theorem d_Mod_takesOther_36 : decode (ib f_Mod_takesOther) 36 = .ok (.putfield 279, 3) := by decide +kernel
theorem d_Mod_takesOther_39 : decode (ib f_Mod_takesOther) 39 = .ok (.return_, 1) := by decide +kernel
theorem d_Mod_takesOther_40 : decode (ib f_Mod_takesOther) 40 = .ok (.iload_n 1, 1) := by decide +kernel
theorem d_Mod_takesOther_41 : decode (ib f_Mod_takesOther) 41 = .ok (.iconst 1, 1) := by decide +kernel
theorem d_Mod_takesOther_42 : decode (ib f_Mod_takesOther) 42 = .ok (.if_icmp .ne 41, 3) := by decide +kernel
theorem d_Mod_takesOther_45 : decode (ib f_Mod_takesOther) 45 = .ok (.iconst 0, 1) := by decide +kernel
theorem d_Mod_takesOther_46 : decode (ib f_Mod_takesOther) 46 = .ok (.istore_n 3, 1) := by decide +kernel
theorem d_Mod_takesOther_47 : decode (ib f_Mod_takesOther) 47 = .ok (.iload_n 3, 1) := by decide +kernel
theorem d_Mod_takesOther_48 : decode (ib f_Mod_takesOther) 48 = .ok (.iconst 5, 1) := by decide +kernel
theorem d_Mod_takesOther_49 : decode (ib f_Mod_takesOther) 49 = .ok (.iload_n 2, 1) := by decide +kernel
theorem d_Mod_takesOther_50 : decode (ib f_Mod_takesOther) 50 = .ok (.imul, 1) := by decide +kernel
theorem d_Mod_takesOther_51 : decode (ib f_Mod_takesOther) 51 = .ok (.if_icmp .ge 24, 3) := by decide +kernel
theorem d_Mod_takesOther_54 : decode (ib f_Mod_takesOther) 54 = .ok (.aload_n 0, 1) := by decide +kernel
theorem d_Mod_takesOther_55 : decode (ib f_Mod_takesOther) 55 = .ok (.getfield 56, 3) := by decide +kernel
theorem d_Mod_takesOther_58 : decode (ib f_Mod_takesOther) 58 = .ok (.iload_n 3, 1) := by decide +kernel
theorem d_Mod_takesOther_59 : decode (ib f_Mod_takesOther) 59 = .ok (.aload_n 0, 1) := by decide +kernel
theorem d_Mod_takesOther_60 : decode (ib f_Mod_takesOther) 60 = .ok (.getfield 56, 3) := by decide +kernel
theorem d_Mod_takesOther_63 : decode (ib f_Mod_takesOther) 63 = .ok (.bipush 80, 2) := by decide +kernel
theorem d_Mod_takesOther_65 : decode (ib f_Mod_takesOther) 65 = .ok (.iload_n 3, 1) := by decide +kernel
theorem d_Mod_takesOther_66 : decode (ib f_Mod_takesOther) 66 = .ok (.iadd, 1) := by decide +kernel
theorem d_Mod_takesOther_67 : decode (ib f_Mod_takesOther) 67 = .ok (.iaload, 1) := by decide +kernel
theorem d_Mod_takesOther_68 : decode (ib f_Mod_takesOther) 68 = .ok (.iastore, 1) := by decide +kernel
theorem d_Mod_takesOther_69 : decode (ib f_Mod_takesOther) 69 = .ok (.iinc 3 1, 3) := by decide +kernel
theorem d_Mod_takesOther_72 : decode (ib f_Mod_takesOther) 72 = .ok (.goto (-25), 3) := by decide +kernel
theorem d_Mod_takesOther_75 : decode (ib f_Mod_takesOther) 75 = .ok (.aload_n 0, 1) := by decide +kernel
theorem d_Mod_takesOther_76 : decode (ib f_Mod_takesOther) 76 = .ok (.iload_n 2, 1) := by decide +kernel
theorem d_Mod_takesOther_77 : decode (ib f_Mod_takesOther) 77 = .ok (.putfield 282, 3) := by decide +kernel
theorem d_Mod_takesOther_80 : decode (ib f_Mod_takesOther) 80 = .ok (.goto 38, 3) := by decide +kernel
theorem d_Mod_takesOther_83 : decode (ib f_Mod_takesOther) 83 = .ok (.iconst 0, 1) := by decide +kernel
theorem d_Mod_takesOther_84 : decode (ib f_Mod_takesOther) 84 = .ok (.istore_n 3, 1) := by decide +kernel
theorem d_Mod_takesOther_85 : decode (ib f_Mod_takesOther) 85 = .ok (.iload_n 3, 1) := by decide +kernel
theorem d_Mod_takesOther_86 : decode (ib f_Mod_takesOther) 86 = .ok (.iconst 4, 1) := by decide +kernel
theorem d_Mod_takesOther_87 : decode (ib f_Mod_takesOther) 87 = .ok (.iload_n 2, 1) := by decide +kernel
theorem d_Mod_takesOther_88 : decode (ib f_Mod_takesOther) 88 = .ok (.imul, 1) := by decide +kernel
theorem d_Mod_takesOther_89 : decode (ib f_Mod_takesOther) 89 = .ok (.if_icmp .ge 24, 3) := by decide +kernel
theorem d_Mod_takesOther_92 : decode (ib f_Mod_takesOther) 92 = .ok (.aload_n 0, 1) := by decide +kernel
theorem d_Mod_takesOther_93 : decode (ib f_Mod_takesOther) 93 = .ok (.getfield 59, 3) := by decide +kernel
theorem d_Mod_takesOther_96 : decode (ib f_Mod_takesOther) 96 = .ok (.iload_n 3, 1) := by decide +kernel
theorem d_Mod_takesOther_97 : decode (ib f_Mod_takesOther) 97 = .ok (.aload_n 0, 1) := by decide +kernel
theorem d_Mod_takesOther_98 : decode (ib f_Mod_takesOther) 98 = .ok (.getfield 59, 3) := by decide +kernel
theorem d_Mod_takesOther_101 : decode (ib f_Mod_takesOther) 101 = .ok (.bipush 64, 2) := by decide +kernel
theorem d_Mod_takesOther_103 : decode (ib f_Mod_takesOther) 103 = .ok (.iload_n 3, 1) := by decide +kernel
theorem d_Mod_takesOther_104 : decode (ib f_Mod_takesOther) 104 = .ok (.iadd, 1) := by decide +kernel
theorem d_Mod_takesOther_105 : decode (ib f_Mod_takesOther) 105 = .ok (.iaload, 1) := by decide +kernel
theorem d_Mod_takesOther_106 : decode (ib f_Mod_takesOther) 106 = .ok (.iastore, 1) := by decide +kernel
theorem d_Mod_takesOther_107 : decode (ib f_Mod_takesOther) 107 = .ok (.iinc 3 1, 3) := by decide +kernel
theorem d_Mod_takesOther_110 : decode (ib f_Mod_takesOther) 110 = .ok (.goto (-25), 3) := by decide +kernel
theorem d_Mod_takesOther_113 : decode (ib f_Mod_takesOther) 113 = .ok (.aload_n 0, 1) := by decide +kernel
theorem d_Mod_takesOther_114 : decode (ib f_Mod_takesOther) 114 = .ok (.iload_n 2, 1) := by decide +kernel
theorem d_Mod_takesOther_115 : decode (ib f_Mod_takesOther) 115 = .ok (.putfield 285, 3) := by decide +kernel
theorem d_Mod_takesOther_118 : decode (ib f_Mod_takesOther) 118 = .ok (.aload_n 0, 1) := by decide +kernel
theorem d_Mod_takesOther_119 : decode (ib f_Mod_takesOther) 119 = .ok (.iconst 0, 1) := by decide +kernel
theorem d_Mod_takesOther_120 : decode (ib f_Mod_takesOther) 120 = .ok (.putfield 111, 3) := by decide +kernel
theorem d_Mod_takesOther_123 : decode (ib f_Mod_takesOther) 123 = .ok (.return_, 1) := by decide +kernel
theorem d_Mod_text_0 : decode (ib f_Mod_text) 0 = .ok (.aload_n 0, 1) := by decide +kernel
theorem d_Mod_text_1 : decode (ib f_Mod_text) 1 = .ok (.iconst 0, 1) := by decide +kernel
theorem d_Mod_text_2 : decode (ib f_Mod_text) 2 = .ok (.putfield 107, 3) := by decide +kernel
theorem d_Mod_text_5 : decode (ib f_Mod_text) 5 = .ok (.aload_n 0, 1) := by decide +kernel
theorem d_Mod_text_6 : decode (ib f_Mod_text) 6 = .ok (.iconst 0, 1) := by decide +kernel
theorem d_Mod_text_7 : decode (ib f_Mod_text) 7 = .ok (.putfield 288, 3) := by decide +kernel
theorem d_Mod_text_10 : decode (ib f_Mod_text) 10 = .ok (.aload_n 0, 1) := by decide +kernel
theorem d_Mod_text_11 : decode (ib f_Mod_text) 11 = .ok (.iconst (-1), 1) := by decide +kernel
theorem d_Mod_text_12 : decode (ib f_Mod_text) 12 = .ok (.putfield 52, 3) := by decide +kernel
theorem d_Mod_text_15 : decode (ib f_Mod_text) 15 = .ok (.aload_n 0, 1) := by decide +kernel
theorem d_Mod_text_16 : decode (ib f_Mod_text) 16 = .ok (.iconst 0, 1) := by decide +kernel
theorem d_Mod_text_17 : decode (ib f_Mod_text) 17 = .ok (.putfield 156, 3) := by decide +kernel
theorem d_Mod_text_20 : decode (ib f_Mod_text) 20 = .ok (.aload_n 0, 1) := by decide +kernel
theorem d_Mod_text_21 : decode (ib f_Mod_text) 21 = .ok (.iconst 0, 1) := by decide +kernel
theorem d_Mod_text_22 : decode (ib f_Mod_text) 22 = .ok (.putfield 190, 3) := by decide +kernel
theorem d_Mod_text_25 : decode (ib f_Mod_text) 25 = .ok (.aload_n 0, 1) := by decide +kernel
theorem d_Mod_text_26 : decode (ib f_Mod_text) 26 = .ok (.iconst 0, 1) := by decide +kernel
theorem d_Mod_text_27 : decode (ib f_Mod_text) 27 = .ok (.putfield 221, 3) := by decide +kernel
theorem d_Mod_text_30 : decode (ib f_Mod_text) 30 = .ok (.iconst (-1), 1) := by decide +kernel
theorem d_Mod_text_31 : decode (ib f_Mod_text) 31 = .ok (.istore_n 2, 1) := by decide +kernel
theorem d_Mod_text_32 : decode (ib f_Mod_text) 32 = .ok (.aload_n 0, 1) := by decide +kernel
theorem d_Mod_text_33 : decode (ib f_Mod_text) 33 = .ok (.iload_n 1, 1) := by decide +kernel
theorem d_Mod_text_34 : decode (ib f_Mod_text) 34 = .ok (.iconst 0, 1) := by decide +kernel
theorem d_Mod_text_35 : decode (ib f_Mod_text) 35 = .ok (.iconst 3, 1) := by decide +kernel
theorem d_Mod_text_36 : decode (ib f_Mod_text) 36 = .ok (.invokevirtual 135, 3) := by decide +kernel
theorem d_Mod_text_39 : decode (ib f_Mod_text) 39 = .ok (.ifCond .eq 30, 3) := by decide +kernel
theorem d_Mod_text_42 : decode (ib f_Mod_text) 42 = .ok (.aload_n 0, 1) := by decide +kernel
theorem d_Mod_text_43 : decode (ib f_Mod_text) 43 = .ok (.iload_n 1, 1) := by decide +kernel
theorem d_Mod_text_44 : decode (ib f_Mod_text) 44 = .ok (.invokevirtual 291, 3) := by decide +kernel
theorem d_Mod_text_47 : decode (ib f_Mod_text) 47 = .ok (.istore_n 2, 1) := by decide +kernel
theorem d_Mod_text_48 : decode (ib f_Mod_text) 48 = .ok (.iload_n 2, 1) := by decide +kernel
theorem d_Mod_text_49 : decode (ib f_Mod_text) 49 = .ok (.iconst (-1), 1) := by decide +kernel
theorem d_Mod_text_50 : decode (ib f_Mod_text) 50 = .ok (.if_icmp .ne 19, 3) := by decide +kernel
theorem d_Mod_text_53 : decode (ib f_Mod_text) 53 = .ok (.aload_n 0, 1) := by decide +kernel
theorem d_Mod_text_54 : decode (ib f_Mod_text) 54 = .ok (.aload_n 0, 1) := by decide +kernel
theorem d_Mod_text_55 : decode (ib f_Mod_text) 55 = .ok (.getfield 184, 3) := by decide +kernel
theorem d_Mod_text_58 : decode (ib f_Mod_text) 58 = .ok (.putfield 288, 3) := by decide +kernel
theorem d_Mod_text_61 : decode (ib f_Mod_text) 61 = .ok (.aload_n 0, 1) := by decide +kernel
theorem d_Mod_text_62 : decode (ib f_Mod_text) 62 = .ok (.aload_n 0, 1) := by decide +kernel
theorem d_Mod_text_63 : decode (ib f_Mod_text) 63 = .ok (.getfield 187, 3) := by decide +kernel
theorem d_Mod_text_66 : decode (ib f_Mod_text) 66 = .ok (.putfield 52, 3) := by decide +kernel
theorem d_Mod_text_69 : decode (ib f_Mod_text) 69 = .ok (.aload_n 0, 1) := by decide +kernel
theorem d_Mod_text_70 : decode (ib f_Mod_text) 70 = .ok (.iconst 0, 1) := by decide +kernel
theorem d_Mod_text_71 : decode (ib f_Mod_text) 71 = .ok (.putfield 149, 3) := by decide +kernel
theorem d_Mod_text_74 : decode (ib f_Mod_text) 74 = .ok (.iload_n 2, 1) := by decide +kernel
theorem d_Mod_text_75 : decode (ib f_Mod_text) 75 = .ok (.iconst (-1), 1) := by decide +kernel
theorem d_Mod_text_76 : decode (ib f_Mod_text) 76 = .ok (.if_icmp .ne 5, 3) := by decide +kernel
theorem d_Mod_text_79 : decode (ib f_Mod_text) 79 = .ok (.iconst (-1), 1) := by decide +kernel
theorem d_Mod_text_80 : decode (ib f_Mod_text) 80 = .ok (.ireturn, 1) := by decide +kernel
theorem d_Mod_text_81 : decode (ib f_Mod_text) 81 = .ok (.iload_n 1, 1) := by decide +kernel
theorem d_Mod_text_82 : decode (ib f_Mod_text) 82 = .ok (.ifCond .ne 11, 3) := by decide +kernel
theorem d_Mod_text_85 : decode (ib f_Mod_text) 85 = .ok (.aload_n 0, 1) := by decide +kernel
theorem d_Mod_text_86 : decode (ib f_Mod_text) 86 = .ok (.iload_n 2, 1) := by decide +kernel
theorem d_Mod_text_87 : decode (ib f_Mod_text) 87 = .ok (.invokevirtual 294, 3) := by decide +kernel
theorem d_Mod_text_90 : decode (ib f_Mod_text) 90 = .ok (.goto 9, 3) := by decide +kernel
theorem d_Mod_text_93 : decode (ib f_Mod_text) 93 = .ok (.aload_n 0, 1) := by decide +kernel
theorem d_Mod_text_94 : decode (ib f_Mod_text) 94 = .ok (.iload_n 1, 1) := by decide +kernel
theorem d_Mod_text_95 : decode (ib f_Mod_text) 95 = .ok (.iload_n 2, 1) := by decide +kernel
theorem d_Mod_text_96 : decode (ib f_Mod_text) 96 = .ok (.invokevirtual 297, 3) := by decide +kernel
theorem d_Mod_text_99 : decode (ib f_Mod_text) 99 = .ok (.iload_n 2, 1) := by decide +kernel
theorem d_Mod_text_100 : decode (ib f_Mod_text) 100 = .ok (.ireturn, 1) := by decide +kernel
theorem d_Mod_fault_0 : decode (ib f_Mod_fault) 0 = .ok (.aload_n 0, 1) := by decide +kernel
theorem d_Mod_fault_1 : decode (ib f_Mod_fault) 1 = .ok (.iconst 0, 1) := by decide +kernel
theorem d_Mod_fault_2 : decode (ib f_Mod_fault) 2 = .ok (.putfield 107, 3) := by decide +kernel
theorem d_Mod_fault_5 : decode (ib f_Mod_fault) 5 = .ok (.iload_n 1, 1) := by decide +kernel
theorem d_Mod_fault_6 : decode (ib f_Mod_fault) 6 = .ok (.ifCond .ne 10, 3) := by decide +kernel
theorem d_Mod_fault_9 : decode (ib f_Mod_fault) 9 = .ok (.aload_n 0, 1) := by decide +kernel
theorem d_Mod_fault_10 : decode (ib f_Mod_fault) 10 = .ok (.getfield 288, 3) := by decide +kernel
theorem d_Mod_fault_13 : decode (ib f_Mod_fault) 13 = .ok (.goto 16, 3) := by decide +kernel
theorem d_Mod_fault_16 : decode (ib f_Mod_fault) 16 = .ok (.iload_n 1, 1) := by decide +kernel
theorem d_Mod_fault_17 : decode (ib f_Mod_fault) 17 = .ok (.iconst 1, 1) := by decide +kernel
theorem d_Mod_fault_18 : decode (ib f_Mod_fault) 18 = .ok (.if_icmp .ne 10, 3) := by decide +kernel
theorem d_Mod_fault_21 : decode (ib f_Mod_fault) 21 = .ok (.aload_n 0, 1) := by decide +kernel
theorem d_Mod_fault_22 : decode (ib f_Mod_fault) 22 = .ok (.getfield 52, 3) := by decide +kernel
theorem d_Mod_fault_25 : decode (ib f_Mod_fault) 25 = .ok (.goto 4, 3) := by decide +kernel
theorem d_Mod_fault_28 : decode (ib f_Mod_fault) 28 = .ok (.iconst (-1), 1) := by decide +kernel
theorem d_Mod_fault_29 : decode (ib f_Mod_fault) 29 = .ok (.ireturn, 1) := by decide +kernel
theorem d_Mod_twoOf_0 : decode (ib f_Mod_twoOf) 0 = .ok (.iload_n 1, 1) := by decide +kernel
theorem d_Mod_twoOf_1 : decode (ib f_Mod_twoOf) 1 = .ok (.iconst 2, 1) := by decide +kernel
theorem d_Mod_twoOf_2 : decode (ib f_Mod_twoOf) 2 = .ok (.if_icmp .ne 7, 3) := by decide +kernel
theorem d_Mod_twoOf_5 : decode (ib f_Mod_twoOf) 5 = .ok (.iload_n 2, 1) := by decide +kernel
theorem d_Mod_twoOf_6 : decode (ib f_Mod_twoOf) 6 = .ok (.iload_n 3, 1) := by decide +kernel
theorem d_Mod_twoOf_7 : decode (ib f_Mod_twoOf) 7 = .ok (.iadd, 1) := by decide +kernel
theorem d_Mod_twoOf_8 : decode (ib f_Mod_twoOf) 8 = .ok (.ireturn, 1) := by decide +kernel
theorem d_Mod_twoOf_9 : decode (ib f_Mod_twoOf) 9 = .ok (.iload_n 1, 1) := by decide +kernel
theorem d_Mod_twoOf_10 : decode (ib f_Mod_twoOf) 10 = .ok (.iconst 3, 1) := by decide +kernel
theorem d_Mod_twoOf_11 : decode (ib f_Mod_twoOf) 11 = .ok (.if_icmp .ne 7, 3) := by decide +kernel
theorem d_Mod_twoOf_14 : decode (ib f_Mod_twoOf) 14 = .ok (.iload_n 2, 1) := by decide +kernel
theorem d_Mod_twoOf_15 : decode (ib f_Mod_twoOf) 15 = .ok (.iload_n 3, 1) := by decide +kernel
theorem d_Mod_twoOf_16 : decode (ib f_Mod_twoOf) 16 = .ok (.isub, 1) := by decide +kernel
theorem d_Mod_twoOf_17 : decode (ib f_Mod_twoOf) 17 = .ok (.ireturn, 1) := by decide +kernel
theorem d_Mod_twoOf_18 : decode (ib f_Mod_twoOf) 18 = .ok (.iload_n 1, 1) := by decide +kernel
theorem d_Mod_twoOf_19 : decode (ib f_Mod_twoOf) 19 = .ok (.iconst 4, 1) := by decide +kernel
theorem d_Mod_twoOf_20 : decode (ib f_Mod_twoOf) 20 = .ok (.if_icmp .ne 7, 3) := by decide +kernel
theorem d_Mod_twoOf_23 : decode (ib f_Mod_twoOf) 23 = .ok (.iload_n 2, 1) := by decide +kernel
theorem d_Mod_twoOf_24 : decode (ib f_Mod_twoOf) 24 = .ok (.iload_n 3, 1) := by decide +kernel
theorem d_Mod_twoOf_25 : decode (ib f_Mod_twoOf) 25 = .ok (.imul, 1) := by decide +kernel
theorem d_Mod_twoOf_26 : decode (ib f_Mod_twoOf) 26 = .ok (.ireturn, 1) := by decide +kernel
theorem d_Mod_twoOf_27 : decode (ib f_Mod_twoOf) 27 = .ok (.iload_n 1, 1) := by decide +kernel
theorem d_Mod_twoOf_28 : decode (ib f_Mod_twoOf) 28 = .ok (.iconst 5, 1) := by decide +kernel
theorem d_Mod_twoOf_29 : decode (ib f_Mod_twoOf) 29 = .ok (.if_icmp .ne 7, 3) := by decide +kernel
theorem d_Mod_twoOf_32 : decode (ib f_Mod_twoOf) 32 = .ok (.iload_n 2, 1) := by decide +kernel
theorem d_Mod_twoOf_33 : decode (ib f_Mod_twoOf) 33 = .ok (.iload_n 3, 1) := by decide +kernel
theorem d_Mod_twoOf_34 : decode (ib f_Mod_twoOf) 34 = .ok (.idiv, 1) := by decide +kernel
theorem d_Mod_twoOf_35 : decode (ib f_Mod_twoOf) 35 = .ok (.ireturn, 1) := by decide +kernel
theorem d_Mod_twoOf_36 : decode (ib f_Mod_twoOf) 36 = .ok (.iload_n 1, 1) := by decide +kernel
theorem d_Mod_twoOf_37 : decode (ib f_Mod_twoOf) 37 = .ok (.bipush 6, 2) := by decide +kernel
theorem d_Mod_twoOf_39 : decode (ib f_Mod_twoOf) 39 = .ok (.if_icmp .ne 14, 3) := by decide +kernel
theorem d_Mod_twoOf_42 : decode (ib f_Mod_twoOf) 42 = .ok (.iload_n 2, 1) := by decide +kernel
theorem d_Mod_twoOf_43 : decode (ib f_Mod_twoOf) 43 = .ok (.iload_n 3, 1) := by decide +kernel
theorem d_Mod_twoOf_44 : decode (ib f_Mod_twoOf) 44 = .ok (.if_icmp .ge 7, 3) := by decide +kernel
theorem d_Mod_twoOf_47 : decode (ib f_Mod_twoOf) 47 = .ok (.iconst 1, 1) := by decide +kernel
theorem d_Mod_twoOf_48 : decode (ib f_Mod_twoOf) 48 = .ok (.goto 4, 3) := by decide +kernel
theorem d_Mod_twoOf_51 : decode (ib f_Mod_twoOf) 51 = .ok (.iconst 0, 1) := by decide +kernel
theorem d_Mod_twoOf_52 : decode (ib f_Mod_twoOf) 52 = .ok (.ireturn, 1) := by decide +kernel
theorem d_Mod_twoOf_53 : decode (ib f_Mod_twoOf) 53 = .ok (.iload_n 1, 1) := by decide +kernel
theorem d_Mod_twoOf_54 : decode (ib f_Mod_twoOf) 54 = .ok (.bipush 7, 2) := by decide +kernel
theorem d_Mod_twoOf_56 : decode (ib f_Mod_twoOf) 56 = .ok (.if_icmp .ne 14, 3) := by decide +kernel
theorem d_Mod_twoOf_59 : decode (ib f_Mod_twoOf) 59 = .ok (.iload_n 2, 1) := by decide +kernel
theorem d_Mod_twoOf_60 : decode (ib f_Mod_twoOf) 60 = .ok (.iload_n 3, 1) := by decide +kernel
theorem d_Mod_twoOf_61 : decode (ib f_Mod_twoOf) 61 = .ok (.if_icmp .ne 7, 3) := by decide +kernel
theorem d_Mod_twoOf_64 : decode (ib f_Mod_twoOf) 64 = .ok (.iconst 1, 1) := by decide +kernel
theorem d_Mod_twoOf_65 : decode (ib f_Mod_twoOf) 65 = .ok (.goto 4, 3) := by decide +kernel
theorem d_Mod_twoOf_68 : decode (ib f_Mod_twoOf) 68 = .ok (.iconst 0, 1) := by decide +kernel
theorem d_Mod_twoOf_69 : decode (ib f_Mod_twoOf) 69 = .ok (.ireturn, 1) := by decide +kernel
theorem d_Mod_twoOf_70 : decode (ib f_Mod_twoOf) 70 = .ok (.iload_n 1, 1) := by decide +kernel
theorem d_Mod_twoOf_71 : decode (ib f_Mod_twoOf) 71 = .ok (.bipush 8, 2) := by decide +kernel
theorem d_Mod_twoOf_73 : decode (ib f_Mod_twoOf) 73 = .ok (.if_icmp .ne 14, 3) := by decide +kernel
theorem d_Mod_twoOf_76 : decode (ib f_Mod_twoOf) 76 = .ok (.iload_n 2, 1) := by decide +kernel
theorem d_Mod_twoOf_77 : decode (ib f_Mod_twoOf) 77 = .ok (.iload_n 3, 1) := by decide +kernel
theorem d_Mod_twoOf_78 : decode (ib f_Mod_twoOf) 78 = .ok (.if_icmp .le 7, 3) := by decide +kernel
theorem d_Mod_twoOf_81 : decode (ib f_Mod_twoOf) 81 = .ok (.iconst 1, 1) := by decide +kernel
theorem d_Mod_twoOf_82 : decode (ib f_Mod_twoOf) 82 = .ok (.goto 4, 3) := by decide +kernel
theorem d_Mod_twoOf_85 : decode (ib f_Mod_twoOf) 85 = .ok (.iconst 0, 1) := by decide +kernel
theorem d_Mod_twoOf_86 : decode (ib f_Mod_twoOf) 86 = .ok (.ireturn, 1) := by decide +kernel
theorem d_Mod_twoOf_87 : decode (ib f_Mod_twoOf) 87 = .ok (.iload_n 1, 1) := by decide +kernel
theorem d_Mod_twoOf_88 : decode (ib f_Mod_twoOf) 88 = .ok (.bipush 10, 2) := by decide +kernel
theorem d_Mod_twoOf_90 : decode (ib f_Mod_twoOf) 90 = .ok (.if_icmp .ne 9, 3) := by decide +kernel
theorem d_Mod_twoOf_93 : decode (ib f_Mod_twoOf) 93 = .ok (.iload_n 2, 1) := by decide +kernel
theorem d_Mod_twoOf_94 : decode (ib f_Mod_twoOf) 94 = .ok (.iload_n 3, 1) := by decide +kernel
theorem d_Mod_twoOf_95 : decode (ib f_Mod_twoOf) 95 = .ok (.imul, 1) := by decide +kernel
theorem d_Mod_twoOf_96 : decode (ib f_Mod_twoOf) 96 = .ok (.goto 14, 3) := by decide +kernel
theorem d_Mod_twoOf_99 : decode (ib f_Mod_twoOf) 99 = .ok (.iload_n 2, 1) := by decide +kernel
theorem d_Mod_twoOf_100 : decode (ib f_Mod_twoOf) 100 = .ok (.iload_n 3, 1) := by decide +kernel
theorem d_Mod_twoOf_101 : decode (ib f_Mod_twoOf) 101 = .ok (.iadd, 1) := by decide +kernel
theorem d_Mod_twoOf_102 : decode (ib f_Mod_twoOf) 102 = .ok (.ifCond .le 7, 3) := by decide +kernel
theorem d_Mod_twoOf_105 : decode (ib f_Mod_twoOf) 105 = .ok (.iconst 1, 1) := by decide +kernel
theorem d_Mod_twoOf_106 : decode (ib f_Mod_twoOf) 106 = .ok (.goto 4, 3) := by decide +kernel
theorem d_Mod_twoOf_109 : decode (ib f_Mod_twoOf) 109 = .ok (.iconst 0, 1) := by decide +kernel
theorem d_Mod_twoOf_110 : decode (ib f_Mod_twoOf) 110 = .ok (.ireturn, 1) := by decide +kernel
theorem d_Mod_runs_0 : decode (ib f_Mod_runs) 0 = .ok (.iconst 0, 1) := by decide +kernel
theorem d_Mod_runs_1 : decode (ib f_Mod_runs) 1 = .ok (.istore 4, 2) := by decide +kernel
theorem d_Mod_runs_3 : decode (ib f_Mod_runs) 3 = .ok (.sipush 400, 3) := by decide +kernel
theorem d_Mod_runs_6 : decode (ib f_Mod_runs) 6 = .ok (.iload_n 1, 1) := by decide +kernel
theorem d_Mod_runs_7 : decode (ib f_Mod_runs) 7 = .ok (.imul, 1) := by decide +kernel
theorem d_Mod_runs_8 : decode (ib f_Mod_runs) 8 = .ok (.iload_n 2, 1) := by decide +kernel
theorem d_Mod_runs_9 : decode (ib f_Mod_runs) 9 = .ok (.iadd, 1) := by decide +kernel
theorem d_Mod_runs_10 : decode (ib f_Mod_runs) 10 = .ok (.istore 5, 2) := by decide +kernel
theorem d_Mod_runs_12 : decode (ib f_Mod_runs) 12 = .ok (.iload 5, 2) := by decide +kernel
theorem d_Mod_runs_14 : decode (ib f_Mod_runs) 14 = .ok (.sipush 400, 3) := by decide +kernel
theorem d_Mod_runs_17 : decode (ib f_Mod_runs) 17 = .ok (.iload_n 1, 1) := by decide +kernel
theorem d_Mod_runs_18 : decode (ib f_Mod_runs) 18 = .ok (.imul, 1) := by decide +kernel
theorem d_Mod_runs_19 : decode (ib f_Mod_runs) 19 = .ok (.iload_n 3, 1) := by decide +kernel
theorem d_Mod_runs_20 : decode (ib f_Mod_runs) 20 = .ok (.iadd, 1) := by decide +kernel
theorem d_Mod_runs_21 : decode (ib f_Mod_runs) 21 = .ok (.if_icmp .ge 155, 3) := by decide +kernel
theorem d_Mod_runs_24 : decode (ib f_Mod_runs) 24 = .ok (.aload_n 0, 1) := by decide +kernel
theorem d_Mod_runs_25 : decode (ib f_Mod_runs) 25 = .ok (.getfield 43, 3) := by decide +kernel
theorem d_Mod_runs_28 : decode (ib f_Mod_runs) 28 = .ok (.iload 5, 2) := by decide +kernel
theorem d_Mod_runs_30 : decode (ib f_Mod_runs) 30 = .ok (.iaload, 1) := by decide +kernel
theorem d_Mod_runs_31 : decode (ib f_Mod_runs) 31 = .ok (.ifCond .eq 14, 3) := by decide +kernel
theorem d_Mod_runs_34 : decode (ib f_Mod_runs) 34 = .ok (.aload_n 0, 1) := by decide +kernel
theorem d_Mod_runs_35 : decode (ib f_Mod_runs) 35 = .ok (.getfield 43, 3) := by decide +kernel
theorem d_Mod_runs_38 : decode (ib f_Mod_runs) 38 = .ok (.iload 5, 2) := by decide +kernel
theorem d_Mod_runs_40 : decode (ib f_Mod_runs) 40 = .ok (.iaload, 1) := by decide +kernel
theorem d_Mod_runs_41 : decode (ib f_Mod_runs) 41 = .ok (.iconst 1, 1) := by decide +kernel
theorem d_Mod_runs_42 : decode (ib f_Mod_runs) 42 = .ok (.if_icmp .ne 51, 3) := by decide +kernel
theorem d_Mod_runs_45 : decode (ib f_Mod_runs) 45 = .ok (.aload_n 0, 1) := by decide +kernel
theorem d_Mod_runs_46 : decode (ib f_Mod_runs) 46 = .ok (.getfield 68, 3) := by decide +kernel
theorem d_Mod_runs_49 : decode (ib f_Mod_runs) 49 = .ok (.iload 4, 2) := by decide +kernel
theorem d_Mod_runs_51 : decode (ib f_Mod_runs) 51 = .ok (.aload_n 0, 1) := by decide +kernel
theorem d_Mod_runs_52 : decode (ib f_Mod_runs) 52 = .ok (.getfield 43, 3) := by decide +kernel
theorem d_Mod_runs_55 : decode (ib f_Mod_runs) 55 = .ok (.iload 5, 2) := by decide +kernel
theorem d_Mod_runs_57 : decode (ib f_Mod_runs) 57 = .ok (.iaload, 1) := by decide +kernel
theorem d_Mod_runs_58 : decode (ib f_Mod_runs) 58 = .ok (.ifCond .ne 13, 3) := by decide +kernel
theorem d_Mod_runs_61 : decode (ib f_Mod_runs) 61 = .ok (.aload_n 0, 1) := by decide +kernel
theorem d_Mod_runs_62 : decode (ib f_Mod_runs) 62 = .ok (.getfield 46, 3) := by decide +kernel
theorem d_Mod_runs_65 : decode (ib f_Mod_runs) 65 = .ok (.iload 5, 2) := by decide +kernel
theorem d_Mod_runs_67 : decode (ib f_Mod_runs) 67 = .ok (.iaload, 1) := by decide +kernel
theorem d_Mod_runs_68 : decode (ib f_Mod_runs) 68 = .ok (.goto 15, 3) := by decide +kernel
theorem d_Mod_runs_71 : decode (ib f_Mod_runs) 71 = .ok (.aload_n 0, 1) := by decide +kernel
theorem d_Mod_runs_72 : decode (ib f_Mod_runs) 72 = .ok (.getfield 65, 3) := by decide +kernel
theorem d_Mod_runs_75 : decode (ib f_Mod_runs) 75 = .ok (.aload_n 0, 1) := by decide +kernel
theorem d_Mod_runs_76 : decode (ib f_Mod_runs) 76 = .ok (.getfield 46, 3) := by decide +kernel
theorem d_Mod_runs_79 : decode (ib f_Mod_runs) 79 = .ok (.iload 5, 2) := by decide +kernel
theorem d_Mod_runs_81 : decode (ib f_Mod_runs) 81 = .ok (.iaload, 1) := by decide +kernel
theorem d_Mod_runs_82 : decode (ib f_Mod_runs) 82 = .ok (.iaload, 1) := by decide +kernel
theorem d_Mod_runs_83 : decode (ib f_Mod_runs) 83 = .ok (.iastore, 1) := by decide +kernel
theorem d_Mod_runs_84 : decode (ib f_Mod_runs) 84 = .ok (.iload 4, 2) := by decide +kernel
theorem d_Mod_runs_86 : decode (ib f_Mod_runs) 86 = .ok (.iconst 1, 1) := by decide +kernel
theorem d_Mod_runs_87 : decode (ib f_Mod_runs) 87 = .ok (.iadd, 1) := by decide +kernel
theorem d_Mod_runs_88 : decode (ib f_Mod_runs) 88 = .ok (.istore 4, 2) := by decide +kernel
theorem d_Mod_runs_90 : decode (ib f_Mod_runs) 90 = .ok (.goto 80, 3) := by decide +kernel
theorem d_Mod_runs_93 : decode (ib f_Mod_runs) 93 = .ok (.aload_n 0, 1) := by decide +kernel
theorem d_Mod_runs_94 : decode (ib f_Mod_runs) 94 = .ok (.getfield 43, 3) := by decide +kernel
theorem d_Mod_runs_97 : decode (ib f_Mod_runs) 97 = .ok (.iload 5, 2) := by decide +kernel
theorem d_Mod_runs_99 : decode (ib f_Mod_runs) 99 = .ok (.iaload, 1) := by decide +kernel
theorem d_Mod_runs_100 : decode (ib f_Mod_runs) 100 = .ok (.bipush 9, 2) := by decide +kernel
theorem d_Mod_runs_102 : decode (ib f_Mod_runs) 102 = .ok (.if_icmp .ne 26, 3) := by decide +kernel
theorem d_Mod_runs_105 : decode (ib f_Mod_runs) 105 = .ok (.aload_n 0, 1) := by decide +kernel
theorem d_Mod_runs_106 : decode (ib f_Mod_runs) 106 = .ok (.getfield 68, 3) := by decide +kernel
theorem d_Mod_runs_109 : decode (ib f_Mod_runs) 109 = .ok (.iload 4, 2) := by decide +kernel
theorem d_Mod_runs_111 : decode (ib f_Mod_runs) 111 = .ok (.iconst 1, 1) := by decide +kernel
theorem d_Mod_runs_112 : decode (ib f_Mod_runs) 112 = .ok (.isub, 1) := by decide +kernel
theorem d_Mod_runs_113 : decode (ib f_Mod_runs) 113 = .ok (.iconst 1, 1) := by decide +kernel
theorem d_Mod_runs_114 : decode (ib f_Mod_runs) 114 = .ok (.aload_n 0, 1) := by decide +kernel
theorem d_Mod_runs_115 : decode (ib f_Mod_runs) 115 = .ok (.getfield 68, 3) := by decide +kernel
theorem d_Mod_runs_118 : decode (ib f_Mod_runs) 118 = .ok (.iload 4, 2) := by decide +kernel
theorem d_Mod_runs_120 : decode (ib f_Mod_runs) 120 = .ok (.iconst 1, 1) := by decide +kernel
theorem d_Mod_runs_121 : decode (ib f_Mod_runs) 121 = .ok (.isub, 1) := by decide +kernel
theorem d_Mod_runs_122 : decode (ib f_Mod_runs) 122 = .ok (.iaload, 1) := by decide +kernel
theorem d_Mod_runs_123 : decode (ib f_Mod_runs) 123 = .ok (.isub, 1) := by decide +kernel
theorem d_Mod_runs_124 : decode (ib f_Mod_runs) 124 = .ok (.iastore, 1) := by decide +kernel
theorem d_Mod_runs_125 : decode (ib f_Mod_runs) 125 = .ok (.goto 45, 3) := by decide +kernel
theorem d_Mod_runs_128 : decode (ib f_Mod_runs) 128 = .ok (.iload 4, 2) := by decide +kernel
theorem d_Mod_runs_130 : decode (ib f_Mod_runs) 130 = .ok (.iconst 1, 1) := by decide +kernel
theorem d_Mod_runs_131 : decode (ib f_Mod_runs) 131 = .ok (.isub, 1) := by decide +kernel
theorem d_Mod_runs_132 : decode (ib f_Mod_runs) 132 = .ok (.istore 4, 2) := by decide +kernel
theorem d_Mod_runs_134 : decode (ib f_Mod_runs) 134 = .ok (.aload_n 0, 1) := by decide +kernel
theorem d_Mod_runs_135 : decode (ib f_Mod_runs) 135 = .ok (.getfield 68, 3) := by decide +kernel
theorem d_Mod_runs_138 : decode (ib f_Mod_runs) 138 = .ok (.iload 4, 2) := by decide +kernel
theorem d_Mod_runs_140 : decode (ib f_Mod_runs) 140 = .ok (.iconst 1, 1) := by decide +kernel
theorem d_Mod_runs_141 : decode (ib f_Mod_runs) 141 = .ok (.isub, 1) := by decide +kernel
theorem d_Mod_runs_142 : decode (ib f_Mod_runs) 142 = .ok (.aload_n 0, 1) := by decide +kernel
theorem d_Mod_runs_143 : decode (ib f_Mod_runs) 143 = .ok (.aload_n 0, 1) := by decide +kernel
theorem d_Mod_runs_144 : decode (ib f_Mod_runs) 144 = .ok (.getfield 43, 3) := by decide +kernel
theorem d_Mod_runs_147 : decode (ib f_Mod_runs) 147 = .ok (.iload 5, 2) := by decide +kernel
theorem d_Mod_runs_149 : decode (ib f_Mod_runs) 149 = .ok (.iaload, 1) := by decide +kernel
theorem d_Mod_runs_150 : decode (ib f_Mod_runs) 150 = .ok (.aload_n 0, 1) := by decide +kernel
theorem d_Mod_runs_151 : decode (ib f_Mod_runs) 151 = .ok (.getfield 68, 3) := by decide +kernel
theorem d_Mod_runs_154 : decode (ib f_Mod_runs) 154 = .ok (.iload 4, 2) := by decide +kernel
theorem d_Mod_runs_156 : decode (ib f_Mod_runs) 156 = .ok (.iconst 1, 1) := by decide +kernel
theorem d_Mod_runs_157 : decode (ib f_Mod_runs) 157 = .ok (.isub, 1) := by decide +kernel
theorem d_Mod_runs_158 : decode (ib f_Mod_runs) 158 = .ok (.iaload, 1) := by decide +kernel
theorem d_Mod_runs_159 : decode (ib f_Mod_runs) 159 = .ok (.aload_n 0, 1) := by decide +kernel
theorem d_Mod_runs_160 : decode (ib f_Mod_runs) 160 = .ok (.getfield 68, 3) := by decide +kernel
theorem d_Mod_runs_163 : decode (ib f_Mod_runs) 163 = .ok (.iload 4, 2) := by decide +kernel
theorem d_Mod_runs_165 : decode (ib f_Mod_runs) 165 = .ok (.iaload, 1) := by decide +kernel
theorem d_Mod_runs_166 : decode (ib f_Mod_runs) 166 = .ok (.invokevirtual 300, 3) := by decide +kernel
theorem d_Mod_runs_169 : decode (ib f_Mod_runs) 169 = .ok (.iastore, 1) := by decide +kernel
theorem d_Mod_runs_170 : decode (ib f_Mod_runs) 170 = .ok (.iinc 5 1, 3) := by decide +kernel
theorem d_Mod_runs_173 : decode (ib f_Mod_runs) 173 = .ok (.goto (-161), 3) := by decide +kernel
theorem d_Mod_runs_176 : decode (ib f_Mod_runs) 176 = .ok (.aload_n 0, 1) := by decide +kernel
theorem d_Mod_runs_177 : decode (ib f_Mod_runs) 177 = .ok (.getfield 68, 3) := by decide +kernel
theorem d_Mod_runs_180 : decode (ib f_Mod_runs) 180 = .ok (.iconst 0, 1) := by decide +kernel
theorem d_Mod_runs_181 : decode (ib f_Mod_runs) 181 = .ok (.iaload, 1) := by decide +kernel
theorem d_Mod_runs_182 : decode (ib f_Mod_runs) 182 = .ok (.ireturn, 1) := by decide +kernel
theorem d_Mod_lineOf_0 : decode (ib f_Mod_lineOf) 0 = .ok (.iconst 0, 1) := by decide +kernel
theorem d_Mod_lineOf_1 : decode (ib f_Mod_lineOf) 1 = .ok (.istore_n 2, 1) := by decide +kernel
theorem d_Mod_lineOf_2 : decode (ib f_Mod_lineOf) 2 = .ok (.iload_n 2, 1) := by decide +kernel
theorem d_Mod_lineOf_3 : decode (ib f_Mod_lineOf) 3 = .ok (.aload_n 0, 1) := by decide +kernel
theorem d_Mod_lineOf_4 : decode (ib f_Mod_lineOf) 4 = .ok (.getfield 28, 3) := by decide +kernel
theorem d_Mod_lineOf_7 : decode (ib f_Mod_lineOf) 7 = .ok (.iconst 0, 1) := by decide +kernel
theorem d_Mod_lineOf_8 : decode (ib f_Mod_lineOf) 8 = .ok (.iaload, 1) := by decide +kernel
theorem d_Mod_lineOf_9 : decode (ib f_Mod_lineOf) 9 = .ok (.if_icmp .ge 56, 3) := by decide +kernel
theorem d_Mod_lineOf_12 : decode (ib f_Mod_lineOf) 12 = .ok (.aload_n 0, 1) := by decide +kernel
theorem d_Mod_lineOf_13 : decode (ib f_Mod_lineOf) 13 = .ok (.getfield 31, 3) := by decide +kernel
theorem d_Mod_lineOf_16 : decode (ib f_Mod_lineOf) 16 = .ok (.iload_n 2, 1) := by decide +kernel
theorem d_Mod_lineOf_17 : decode (ib f_Mod_lineOf) 17 = .ok (.iaload, 1) := by decide +kernel
theorem d_Mod_lineOf_18 : decode (ib f_Mod_lineOf) 18 = .ok (.iload_n 1, 1) := by decide +kernel
theorem d_Mod_lineOf_19 : decode (ib f_Mod_lineOf) 19 = .ok (.if_icmp .ne 40, 3) := by decide +kernel
theorem d_Mod_lineOf_22 : decode (ib f_Mod_lineOf) 22 = .ok (.aload_n 0, 1) := by decide +kernel
theorem d_Mod_lineOf_23 : decode (ib f_Mod_lineOf) 23 = .ok (.getfield 37, 3) := by decide +kernel
theorem d_Mod_lineOf_26 : decode (ib f_Mod_lineOf) 26 = .ok (.iload_n 2, 1) := by decide +kernel
theorem d_Mod_lineOf_27 : decode (ib f_Mod_lineOf) 27 = .ok (.iaload, 1) := by decide +kernel
theorem d_Mod_lineOf_28 : decode (ib f_Mod_lineOf) 28 = .ok (.aload_n 0, 1) := by decide +kernel
theorem d_Mod_lineOf_29 : decode (ib f_Mod_lineOf) 29 = .ok (.getfield 40, 3) := by decide +kernel
theorem d_Mod_lineOf_32 : decode (ib f_Mod_lineOf) 32 = .ok (.iload_n 2, 1) := by decide +kernel
theorem d_Mod_lineOf_33 : decode (ib f_Mod_lineOf) 33 = .ok (.iaload, 1) := by decide +kernel
theorem d_Mod_lineOf_34 : decode (ib f_Mod_lineOf) 34 = .ok (.if_icmp .eq 23, 3) := by decide +kernel
theorem d_Mod_lineOf_37 : decode (ib f_Mod_lineOf) 37 = .ok (.aload_n 0, 1) := by decide +kernel
theorem d_Mod_lineOf_38 : decode (ib f_Mod_lineOf) 38 = .ok (.iconst 0, 1) := by decide +kernel
theorem d_Mod_lineOf_39 : decode (ib f_Mod_lineOf) 39 = .ok (.aload_n 0, 1) := by decide +kernel
theorem d_Mod_lineOf_40 : decode (ib f_Mod_lineOf) 40 = .ok (.getfield 37, 3) := by decide +kernel
theorem d_Mod_lineOf_43 : decode (ib f_Mod_lineOf) 43 = .ok (.iload_n 2, 1) := by decide +kernel
theorem d_Mod_lineOf_44 : decode (ib f_Mod_lineOf) 44 = .ok (.iaload, 1) := by decide +kernel
theorem d_Mod_lineOf_45 : decode (ib f_Mod_lineOf) 45 = .ok (.aload_n 0, 1) := by decide +kernel
theorem d_Mod_lineOf_46 : decode (ib f_Mod_lineOf) 46 = .ok (.getfield 40, 3) := by decide +kernel
theorem d_Mod_lineOf_49 : decode (ib f_Mod_lineOf) 49 = .ok (.iload_n 2, 1) := by decide +kernel
theorem d_Mod_lineOf_50 : decode (ib f_Mod_lineOf) 50 = .ok (.iaload, 1) := by decide +kernel
theorem d_Mod_lineOf_51 : decode (ib f_Mod_lineOf) 51 = .ok (.invokevirtual 303, 3) := by decide +kernel
theorem d_Mod_lineOf_54 : decode (ib f_Mod_lineOf) 54 = .ok (.ifCond .eq 5, 3) := by decide +kernel
theorem d_Mod_lineOf_57 : decode (ib f_Mod_lineOf) 57 = .ok (.iload_n 2, 1) := by decide +kernel
theorem d_Mod_lineOf_58 : decode (ib f_Mod_lineOf) 58 = .ok (.ireturn, 1) := by decide +kernel
theorem d_Mod_lineOf_59 : decode (ib f_Mod_lineOf) 59 = .ok (.iinc 2 1, 3) := by decide +kernel
theorem d_Mod_lineOf_62 : decode (ib f_Mod_lineOf) 62 = .ok (.goto (-60), 3) := by decide +kernel
theorem d_Mod_lineOf_65 : decode (ib f_Mod_lineOf) 65 = .ok (.iconst (-1), 1) := by decide +kernel
theorem d_Mod_lineOf_66 : decode (ib f_Mod_lineOf) 66 = .ok (.ireturn, 1) := by decide +kernel
theorem d_Mod_nearTo_0 : decode (ib f_Mod_nearTo) 0 = .ok (.iconst 0, 1) := by decide +kernel
theorem d_Mod_nearTo_1 : decode (ib f_Mod_nearTo) 1 = .ok (.istore_n 2, 1) := by decide +kernel
theorem d_Mod_nearTo_2 : decode (ib f_Mod_nearTo) 2 = .ok (.iconst 0, 1) := by decide +kernel
theorem d_Mod_nearTo_3 : decode (ib f_Mod_nearTo) 3 = .ok (.istore_n 3, 1) := by decide +kernel
theorem d_Mod_nearTo_4 : decode (ib f_Mod_nearTo) 4 = .ok (.iload_n 3, 1) := by decide +kernel
theorem d_Mod_nearTo_5 : decode (ib f_Mod_nearTo) 5 = .ok (.aload_n 0, 1) := by decide +kernel
theorem d_Mod_nearTo_6 : decode (ib f_Mod_nearTo) 6 = .ok (.getfield 7, 3) := by decide +kernel
theorem d_Mod_nearTo_9 : decode (ib f_Mod_nearTo) 9 = .ok (.bipush 8, 2) := by decide +kernel
theorem d_Mod_nearTo_11 : decode (ib f_Mod_nearTo) 11 = .ok (.iaload, 1) := by decide +kernel
theorem d_Mod_nearTo_12 : decode (ib f_Mod_nearTo) 12 = .ok (.if_icmp .ge 45, 3) := by decide +kernel
theorem d_Mod_nearTo_15 : decode (ib f_Mod_nearTo) 15 = .ok (.aload_n 0, 1) := by decide +kernel
theorem d_Mod_nearTo_16 : decode (ib f_Mod_nearTo) 16 = .ok (.aload_n 0, 1) := by decide +kernel
theorem d_Mod_nearTo_17 : decode (ib f_Mod_nearTo) 17 = .ok (.getfield 7, 3) := by decide +kernel
theorem d_Mod_nearTo_20 : decode (ib f_Mod_nearTo) 20 = .ok (.aload_n 0, 1) := by decide +kernel
theorem d_Mod_nearTo_21 : decode (ib f_Mod_nearTo) 21 = .ok (.iload_n 3, 1) := by decide +kernel
theorem d_Mod_nearTo_22 : decode (ib f_Mod_nearTo) 22 = .ok (.invokevirtual 124, 3) := by decide +kernel
theorem d_Mod_nearTo_25 : decode (ib f_Mod_nearTo) 25 = .ok (.iconst 4, 1) := by decide +kernel
theorem d_Mod_nearTo_26 : decode (ib f_Mod_nearTo) 26 = .ok (.iadd, 1) := by decide +kernel
theorem d_Mod_nearTo_27 : decode (ib f_Mod_nearTo) 27 = .ok (.iaload, 1) := by decide +kernel
theorem d_Mod_nearTo_28 : decode (ib f_Mod_nearTo) 28 = .ok (.iload_n 1, 1) := by decide +kernel
theorem d_Mod_nearTo_29 : decode (ib f_Mod_nearTo) 29 = .ok (.invokevirtual 306, 3) := by decide +kernel
theorem d_Mod_nearTo_32 : decode (ib f_Mod_nearTo) 32 = .ok (.istore 4, 2) := by decide +kernel
theorem d_Mod_nearTo_34 : decode (ib f_Mod_nearTo) 34 = .ok (.iload 4, 2) := by decide +kernel
theorem d_Mod_nearTo_36 : decode (ib f_Mod_nearTo) 36 = .ok (.iconst 1, 1) := by decide +kernel
theorem d_Mod_nearTo_37 : decode (ib f_Mod_nearTo) 37 = .ok (.if_icmp .eq 10, 3) := by decide +kernel
theorem d_Mod_nearTo_40 : decode (ib f_Mod_nearTo) 40 = .ok (.iload 4, 2) := by decide +kernel
theorem d_Mod_nearTo_42 : decode (ib f_Mod_nearTo) 42 = .ok (.bipush 10, 2) := by decide +kernel
theorem d_Mod_nearTo_44 : decode (ib f_Mod_nearTo) 44 = .ok (.if_icmp .ne 7, 3) := by decide +kernel
theorem d_Mod_nearTo_47 : decode (ib f_Mod_nearTo) 47 = .ok (.iload_n 2, 1) := by decide +kernel
theorem d_Mod_nearTo_48 : decode (ib f_Mod_nearTo) 48 = .ok (.iconst 1, 1) := by decide +kernel
theorem d_Mod_nearTo_49 : decode (ib f_Mod_nearTo) 49 = .ok (.iadd, 1) := by decide +kernel
theorem d_Mod_nearTo_50 : decode (ib f_Mod_nearTo) 50 = .ok (.istore_n 2, 1) := by decide +kernel
theorem d_Mod_nearTo_51 : decode (ib f_Mod_nearTo) 51 = .ok (.iinc 3 1, 3) := by decide +kernel
theorem d_Mod_nearTo_54 : decode (ib f_Mod_nearTo) 54 = .ok (.goto (-50), 3) := by decide +kernel
theorem d_Mod_nearTo_57 : decode (ib f_Mod_nearTo) 57 = .ok (.iload_n 2, 1) := by decide +kernel
theorem d_Mod_nearTo_58 : decode (ib f_Mod_nearTo) 58 = .ok (.ireturn, 1) := by decide +kernel
theorem d_Mod_asks_0 : decode (ib f_Mod_asks) 0 = .ok (.aload_n 0, 1) := by decide +kernel
theorem d_Mod_asks_1 : decode (ib f_Mod_asks) 1 = .ok (.getfield 65, 3) := by decide +kernel
theorem d_Mod_asks_4 : decode (ib f_Mod_asks) 4 = .ok (.iconst 0, 1) := by decide +kernel
theorem d_Mod_asks_5 : decode (ib f_Mod_asks) 5 = .ok (.iload_n 1, 1) := by decide +kernel
theorem d_Mod_asks_6 : decode (ib f_Mod_asks) 6 = .ok (.iastore, 1) := by decide +kernel
theorem d_Mod_asks_7 : decode (ib f_Mod_asks) 7 = .ok (.aload_n 0, 1) := by decide +kernel
theorem d_Mod_asks_8 : decode (ib f_Mod_asks) 8 = .ok (.getfield 65, 3) := by decide +kernel
theorem d_Mod_asks_11 : decode (ib f_Mod_asks) 11 = .ok (.iconst 1, 1) := by decide +kernel
theorem d_Mod_asks_12 : decode (ib f_Mod_asks) 12 = .ok (.iload_n 2, 1) := by decide +kernel
theorem d_Mod_asks_13 : decode (ib f_Mod_asks) 13 = .ok (.iastore, 1) := by decide +kernel
theorem d_Mod_asks_14 : decode (ib f_Mod_asks) 14 = .ok (.aload_n 0, 1) := by decide +kernel
theorem d_Mod_asks_15 : decode (ib f_Mod_asks) 15 = .ok (.getfield 65, 3) := by decide +kernel
theorem d_Mod_asks_18 : decode (ib f_Mod_asks) 18 = .ok (.iconst 2, 1) := by decide +kernel
theorem d_Mod_asks_19 : decode (ib f_Mod_asks) 19 = .ok (.iload_n 3, 1) := by decide +kernel
theorem d_Mod_asks_20 : decode (ib f_Mod_asks) 20 = .ok (.iastore, 1) := by decide +kernel
theorem d_Mod_asks_21 : decode (ib f_Mod_asks) 21 = .ok (.aload_n 0, 1) := by decide +kernel
theorem d_Mod_asks_22 : decode (ib f_Mod_asks) 22 = .ok (.getfield 65, 3) := by decide +kernel
theorem d_Mod_asks_25 : decode (ib f_Mod_asks) 25 = .ok (.iconst 3, 1) := by decide +kernel
theorem d_Mod_asks_26 : decode (ib f_Mod_asks) 26 = .ok (.iload 4, 2) := by decide +kernel
theorem d_Mod_asks_28 : decode (ib f_Mod_asks) 28 = .ok (.iastore, 1) := by decide +kernel
theorem d_Mod_asks_29 : decode (ib f_Mod_asks) 29 = .ok (.aload_n 0, 1) := by decide +kernel
theorem d_Mod_asks_30 : decode (ib f_Mod_asks) 30 = .ok (.getfield 65, 3) := by decide +kernel
theorem d_Mod_asks_33 : decode (ib f_Mod_asks) 33 = .ok (.iconst 4, 1) := by decide +kernel
theorem d_Mod_asks_34 : decode (ib f_Mod_asks) 34 = .ok (.aload_n 0, 1) := by decide +kernel
theorem d_Mod_asks_35 : decode (ib f_Mod_asks) 35 = .ok (.iload 4, 2) := by decide +kernel
theorem d_Mod_asks_37 : decode (ib f_Mod_asks) 37 = .ok (.invokevirtual 309, 3) := by decide +kernel
theorem d_Mod_asks_40 : decode (ib f_Mod_asks) 40 = .ok (.iastore, 1) := by decide +kernel
theorem d_Mod_asks_41 : decode (ib f_Mod_asks) 41 = .ok (.aload_n 0, 1) := by decide +kernel
theorem d_Mod_asks_42 : decode (ib f_Mod_asks) 42 = .ok (.getfield 65, 3) := by decide +kernel
theorem d_Mod_asks_45 : decode (ib f_Mod_asks) 45 = .ok (.iconst 5, 1) := by decide +kernel
theorem d_Mod_asks_46 : decode (ib f_Mod_asks) 46 = .ok (.iload 5, 2) := by decide +kernel
theorem d_Mod_asks_48 : decode (ib f_Mod_asks) 48 = .ok (.iastore, 1) := by decide +kernel
theorem d_Mod_asks_49 : decode (ib f_Mod_asks) 49 = .ok (.aload_n 0, 1) := by decide +kernel
theorem d_Mod_asks_50 : decode (ib f_Mod_asks) 50 = .ok (.getfield 65, 3) := by decide +kernel
theorem d_Mod_asks_53 : decode (ib f_Mod_asks) 53 = .ok (.bipush 6, 2) := by decide +kernel
theorem d_Mod_asks_55 : decode (ib f_Mod_asks) 55 = .ok (.iload 6, 2) := by decide +kernel
theorem d_Mod_asks_57 : decode (ib f_Mod_asks) 57 = .ok (.iastore, 1) := by decide +kernel
theorem d_Mod_asks_58 : decode (ib f_Mod_asks) 58 = .ok (.aload_n 0, 1) := by decide +kernel
theorem d_Mod_asks_59 : decode (ib f_Mod_asks) 59 = .ok (.getfield 65, 3) := by decide +kernel
theorem d_Mod_asks_62 : decode (ib f_Mod_asks) 62 = .ok (.bipush 7, 2) := by decide +kernel
theorem d_Mod_asks_64 : decode (ib f_Mod_asks) 64 = .ok (.aload_n 0, 1) := by decide +kernel
theorem d_Mod_asks_65 : decode (ib f_Mod_asks) 65 = .ok (.getfield 7, 3) := by decide +kernel
theorem d_Mod_asks_68 : decode (ib f_Mod_asks) 68 = .ok (.iconst 3, 1) := by decide +kernel
theorem d_Mod_asks_69 : decode (ib f_Mod_asks) 69 = .ok (.iaload, 1) := by decide +kernel
theorem d_Mod_asks_70 : decode (ib f_Mod_asks) 70 = .ok (.iastore, 1) := by decide +kernel
theorem d_Mod_asks_71 : decode (ib f_Mod_asks) 71 = .ok (.aload_n 0, 1) := by decide +kernel
theorem d_Mod_asks_72 : decode (ib f_Mod_asks) 72 = .ok (.getfield 65, 3) := by decide +kernel
theorem d_Mod_asks_75 : decode (ib f_Mod_asks) 75 = .ok (.bipush 8, 2) := by decide +kernel
theorem d_Mod_asks_77 : decode (ib f_Mod_asks) 77 = .ok (.aload_n 0, 1) := by decide +kernel
theorem d_Mod_asks_78 : decode (ib f_Mod_asks) 78 = .ok (.getfield 7, 3) := by decide +kernel
theorem d_Mod_asks_81 : decode (ib f_Mod_asks) 81 = .ok (.iconst 4, 1) := by decide +kernel
theorem d_Mod_asks_82 : decode (ib f_Mod_asks) 82 = .ok (.iaload, 1) := by decide +kernel
theorem d_Mod_asks_83 : decode (ib f_Mod_asks) 83 = .ok (.iastore, 1) := by decide +kernel
theorem d_Mod_asks_84 : decode (ib f_Mod_asks) 84 = .ok (.aload_n 0, 1) := by decide +kernel
theorem d_Mod_asks_85 : decode (ib f_Mod_asks) 85 = .ok (.getfield 65, 3) := by decide +kernel
theorem d_Mod_asks_88 : decode (ib f_Mod_asks) 88 = .ok (.bipush 9, 2) := by decide +kernel
theorem d_Mod_asks_90 : decode (ib f_Mod_asks) 90 = .ok (.aload_n 0, 1) := by decide +kernel
theorem d_Mod_asks_91 : decode (ib f_Mod_asks) 91 = .ok (.iload 4, 2) := by decide +kernel
theorem d_Mod_asks_93 : decode (ib f_Mod_asks) 93 = .ok (.invokevirtual 312, 3) := by decide +kernel
theorem d_Mod_asks_96 : decode (ib f_Mod_asks) 96 = .ok (.iastore, 1) := by decide +kernel
theorem d_Mod_asks_97 : decode (ib f_Mod_asks) 97 = .ok (.aload_n 0, 1) := by decide +kernel
theorem d_Mod_asks_98 : decode (ib f_Mod_asks) 98 = .ok (.getfield 65, 3) := by decide +kernel
theorem d_Mod_asks_101 : decode (ib f_Mod_asks) 101 = .ok (.bipush 10, 2) := by decide +kernel
theorem d_Mod_asks_103 : decode (ib f_Mod_asks) 103 = .ok (.aload_n 0, 1) := by decide +kernel
theorem d_Mod_asks_104 : decode (ib f_Mod_asks) 104 = .ok (.getfield 7, 3) := by decide +kernel
theorem d_Mod_asks_107 : decode (ib f_Mod_asks) 107 = .ok (.iconst 0, 1) := by decide +kernel
theorem d_Mod_asks_108 : decode (ib f_Mod_asks) 108 = .ok (.iaload, 1) := by decide +kernel
theorem d_Mod_asks_109 : decode (ib f_Mod_asks) 109 = .ok (.iastore, 1) := by decide +kernel
theorem d_Mod_asks_110 : decode (ib f_Mod_asks) 110 = .ok (.return_, 1) := by decide +kernel
theorem d_Mod_asksOf_0 : decode (ib f_Mod_asksOf) 0 = .ok (.aload_n 0, 1) := by decide +kernel
theorem d_Mod_asksOf_1 : decode (ib f_Mod_asksOf) 1 = .ok (.iload_n 1, 1) := by decide +kernel
theorem d_Mod_asksOf_2 : decode (ib f_Mod_asksOf) 2 = .ok (.invokevirtual 124, 3) := by decide +kernel
theorem d_Mod_asksOf_5 : decode (ib f_Mod_asksOf) 5 = .ok (.istore_n 2, 1) := by decide +kernel
theorem d_Mod_asksOf_6 : decode (ib f_Mod_asksOf) 6 = .ok (.aload_n 0, 1) := by decide +kernel
theorem d_Mod_asksOf_7 : decode (ib f_Mod_asksOf) 7 = .ok (.aload_n 0, 1) := by decide +kernel
theorem d_Mod_asksOf_8 : decode (ib f_Mod_asksOf) 8 = .ok (.getfield 7, 3) := by decide +kernel
theorem d_Mod_asksOf_11 : decode (ib f_Mod_asksOf) 11 = .ok (.iload_n 2, 1) := by decide +kernel
theorem d_Mod_asksOf_12 : decode (ib f_Mod_asksOf) 12 = .ok (.iconst 1, 1) := by decide +kernel
theorem d_Mod_asksOf_13 : decode (ib f_Mod_asksOf) 13 = .ok (.iadd, 1) := by decide +kernel
theorem d_Mod_asksOf_14 : decode (ib f_Mod_asksOf) 14 = .ok (.iaload, 1) := by decide +kernel
theorem d_Mod_asksOf_15 : decode (ib f_Mod_asksOf) 15 = .ok (.aload_n 0, 1) := by decide +kernel
theorem d_Mod_asksOf_16 : decode (ib f_Mod_asksOf) 16 = .ok (.getfield 7, 3) := by decide +kernel
theorem d_Mod_asksOf_19 : decode (ib f_Mod_asksOf) 19 = .ok (.iload_n 2, 1) := by decide +kernel
theorem d_Mod_asksOf_20 : decode (ib f_Mod_asksOf) 20 = .ok (.iconst 2, 1) := by decide +kernel
theorem d_Mod_asksOf_21 : decode (ib f_Mod_asksOf) 21 = .ok (.iadd, 1) := by decide +kernel
theorem d_Mod_asksOf_22 : decode (ib f_Mod_asksOf) 22 = .ok (.iaload, 1) := by decide +kernel
theorem d_Mod_asksOf_23 : decode (ib f_Mod_asksOf) 23 = .ok (.aload_n 0, 1) := by decide +kernel
theorem d_Mod_asksOf_24 : decode (ib f_Mod_asksOf) 24 = .ok (.getfield 7, 3) := by decide +kernel
theorem d_Mod_asksOf_27 : decode (ib f_Mod_asksOf) 27 = .ok (.iload_n 2, 1) := by decide +kernel
theorem d_Mod_asksOf_28 : decode (ib f_Mod_asksOf) 28 = .ok (.iconst 3, 1) := by decide +kernel
theorem d_Mod_asksOf_29 : decode (ib f_Mod_asksOf) 29 = .ok (.iadd, 1) := by decide +kernel
theorem d_Mod_asksOf_30 : decode (ib f_Mod_asksOf) 30 = .ok (.iaload, 1) := by decide +kernel
theorem d_Mod_asksOf_31 : decode (ib f_Mod_asksOf) 31 = .ok (.aload_n 0, 1) := by decide +kernel
theorem d_Mod_asksOf_32 : decode (ib f_Mod_asksOf) 32 = .ok (.getfield 7, 3) := by decide +kernel
theorem d_Mod_asksOf_35 : decode (ib f_Mod_asksOf) 35 = .ok (.iload_n 2, 1) := by decide +kernel
theorem d_Mod_asksOf_36 : decode (ib f_Mod_asksOf) 36 = .ok (.iconst 4, 1) := by decide +kernel
theorem d_Mod_asksOf_37 : decode (ib f_Mod_asksOf) 37 = .ok (.iadd, 1) := by decide +kernel
theorem d_Mod_asksOf_38 : decode (ib f_Mod_asksOf) 38 = .ok (.iaload, 1) := by decide +kernel
theorem d_Mod_asksOf_39 : decode (ib f_Mod_asksOf) 39 = .ok (.aload_n 0, 1) := by decide +kernel
theorem d_Mod_asksOf_40 : decode (ib f_Mod_asksOf) 40 = .ok (.getfield 7, 3) := by decide +kernel
theorem d_Mod_asksOf_43 : decode (ib f_Mod_asksOf) 43 = .ok (.iload_n 2, 1) := by decide +kernel
theorem d_Mod_asksOf_44 : decode (ib f_Mod_asksOf) 44 = .ok (.iconst 5, 1) := by decide +kernel
theorem d_Mod_asksOf_45 : decode (ib f_Mod_asksOf) 45 = .ok (.iadd, 1) := by decide +kernel
theorem d_Mod_asksOf_46 : decode (ib f_Mod_asksOf) 46 = .ok (.iaload, 1) := by decide +kernel
theorem d_Mod_asksOf_47 : decode (ib f_Mod_asksOf) 47 = .ok (.aload_n 0, 1) := by decide +kernel
theorem d_Mod_asksOf_48 : decode (ib f_Mod_asksOf) 48 = .ok (.getfield 7, 3) := by decide +kernel
theorem d_Mod_asksOf_51 : decode (ib f_Mod_asksOf) 51 = .ok (.iload_n 2, 1) := by decide +kernel
theorem d_Mod_asksOf_52 : decode (ib f_Mod_asksOf) 52 = .ok (.bipush 6, 2) := by decide +kernel
theorem d_Mod_asksOf_54 : decode (ib f_Mod_asksOf) 54 = .ok (.iadd, 1) := by decide +kernel
theorem d_Mod_asksOf_55 : decode (ib f_Mod_asksOf) 55 = .ok (.iaload, 1) := by decide +kernel
theorem d_Mod_asksOf_56 : decode (ib f_Mod_asksOf) 56 = .ok (.invokevirtual 315, 3) := by decide +kernel
theorem d_Mod_asksOf_59 : decode (ib f_Mod_asksOf) 59 = .ok (.return_, 1) := by decide +kernel
theorem d_Mod_lawTells_0 : decode (ib f_Mod_lawTells) 0 = .ok (.aload_n 0, 1) := by decide +kernel
theorem d_Mod_lawTells_1 : decode (ib f_Mod_lawTells) 1 = .ok (.iload_n 1, 1) := by decide +kernel
theorem d_Mod_lawTells_2 : decode (ib f_Mod_lawTells) 2 = .ok (.invokevirtual 319, 3) := by decide +kernel
theorem d_Mod_lawTells_5 : decode (ib f_Mod_lawTells) 5 = .ok (.istore 4, 2) := by decide +kernel
theorem d_Mod_lawTells_7 : decode (ib f_Mod_lawTells) 7 = .ok (.aload_n 0, 1) := by decide +kernel
theorem d_Mod_lawTells_8 : decode (ib f_Mod_lawTells) 8 = .ok (.iload 4, 2) := by decide +kernel
theorem d_Mod_lawTells_10 : decode (ib f_Mod_lawTells) 10 = .ok (.iconst (-1), 1) := by decide +kernel
theorem d_Mod_lawTells_11 : decode (ib f_Mod_lawTells) 11 = .ok (.if_icmp .ne 7, 3) := by decide +kernel
theorem d_Mod_lawTells_14 : decode (ib f_Mod_lawTells) 14 = .ok (.iload_n 2, 1) := by decide +kernel
theorem d_Mod_lawTells_15 : decode (ib f_Mod_lawTells) 15 = .ok (.goto 22, 3) := by decide +kernel
theorem d_Mod_lawTells_18 : decode (ib f_Mod_lawTells) 18 = .ok (.aload_n 0, 1) := by decide +kernel
theorem d_Mod_lawTells_19 : decode (ib f_Mod_lawTells) 19 = .ok (.iconst 0, 1) := by decide +kernel
theorem d_Mod_lawTells_20 : decode (ib f_Mod_lawTells) 20 = .ok (.aload_n 0, 1) := by decide +kernel
theorem d_Mod_lawTells_21 : decode (ib f_Mod_lawTells) 21 = .ok (.getfield 34, 3) := by decide +kernel
theorem d_Mod_lawTells_24 : decode (ib f_Mod_lawTells) 24 = .ok (.iload 4, 2) := by decide +kernel
theorem d_Mod_lawTells_26 : decode (ib f_Mod_lawTells) 26 = .ok (.iaload, 1) := by decide +kernel
theorem d_Mod_lawTells_27 : decode (ib f_Mod_lawTells) 27 = .ok (.aload_n 0, 1) := by decide +kernel
theorem d_Mod_lawTells_28 : decode (ib f_Mod_lawTells) 28 = .ok (.getfield 37, 3) := by decide +kernel
theorem d_Mod_lawTells_31 : decode (ib f_Mod_lawTells) 31 = .ok (.iload 4, 2) := by decide +kernel
theorem d_Mod_lawTells_33 : decode (ib f_Mod_lawTells) 33 = .ok (.iaload, 1) := by decide +kernel
theorem d_Mod_lawTells_34 : decode (ib f_Mod_lawTells) 34 = .ok (.invokevirtual 303, 3) := by decide +kernel
theorem d_Mod_lawTells_37 : decode (ib f_Mod_lawTells) 37 = .ok (.iconst 0, 1) := by decide +kernel
theorem d_Mod_lawTells_38 : decode (ib f_Mod_lawTells) 38 = .ok (.iload_n 3, 1) := by decide +kernel
theorem d_Mod_lawTells_39 : decode (ib f_Mod_lawTells) 39 = .ok (.invokevirtual 120, 3) := by decide +kernel
theorem d_Mod_lawTells_42 : decode (ib f_Mod_lawTells) 42 = .ok (.ireturn, 1) := by decide +kernel
theorem d_Mod_sticksNow_0 : decode (ib f_Mod_sticksNow) 0 = .ok (.aload_n 0, 1) := by decide +kernel
theorem d_Mod_sticksNow_1 : decode (ib f_Mod_sticksNow) 1 = .ok (.iconst 0, 1) := by decide +kernel
theorem d_Mod_sticksNow_2 : decode (ib f_Mod_sticksNow) 2 = .ok (.bipush 10, 2) := by decide +kernel
theorem d_Mod_sticksNow_4 : decode (ib f_Mod_sticksNow) 4 = .ok (.aload_n 0, 1) := by decide +kernel
theorem d_Mod_sticksNow_5 : decode (ib f_Mod_sticksNow) 5 = .ok (.getfield 65, 3) := by decide +kernel
theorem d_Mod_sticksNow_8 : decode (ib f_Mod_sticksNow) 8 = .ok (.iconst 4, 1) := by decide +kernel
theorem d_Mod_sticksNow_9 : decode (ib f_Mod_sticksNow) 9 = .ok (.iaload, 1) := by decide +kernel
theorem d_Mod_sticksNow_10 : decode (ib f_Mod_sticksNow) 10 = .ok (.imul, 1) := by decide +kernel
theorem d_Mod_sticksNow_11 : decode (ib f_Mod_sticksNow) 11 = .ok (.bipush 50, 2) := by decide +kernel
theorem d_Mod_sticksNow_13 : decode (ib f_Mod_sticksNow) 13 = .ok (.aload_n 0, 1) := by decide +kernel
theorem d_Mod_sticksNow_14 : decode (ib f_Mod_sticksNow) 14 = .ok (.getfield 7, 3) := by decide +kernel
theorem d_Mod_sticksNow_17 : decode (ib f_Mod_sticksNow) 17 = .ok (.iconst 3, 1) := by decide +kernel
theorem d_Mod_sticksNow_18 : decode (ib f_Mod_sticksNow) 18 = .ok (.iaload, 1) := by decide +kernel
theorem d_Mod_sticksNow_19 : decode (ib f_Mod_sticksNow) 19 = .ok (.imul, 1) := by decide +kernel
theorem d_Mod_sticksNow_20 : decode (ib f_Mod_sticksNow) 20 = .ok (.isub, 1) := by decide +kernel
theorem d_Mod_sticksNow_21 : decode (ib f_Mod_sticksNow) 21 = .ok (.sipush 1000, 3) := by decide +kernel
theorem d_Mod_sticksNow_24 : decode (ib f_Mod_sticksNow) 24 = .ok (.invokevirtual 322, 3) := by decide +kernel
theorem d_Mod_sticksNow_27 : decode (ib f_Mod_sticksNow) 27 = .ok (.ireturn, 1) := by decide +kernel
theorem d_Mod_freesOf_0 : decode (ib f_Mod_freesOf) 0 = .ok (.aload_n 0, 1) := by decide +kernel
theorem d_Mod_freesOf_1 : decode (ib f_Mod_freesOf) 1 = .ok (.iload_n 1, 1) := by decide +kernel
theorem d_Mod_freesOf_2 : decode (ib f_Mod_freesOf) 2 = .ok (.invokevirtual 325, 3) := by decide +kernel
theorem d_Mod_freesOf_5 : decode (ib f_Mod_freesOf) 5 = .ok (.aload_n 0, 1) := by decide +kernel
theorem d_Mod_freesOf_6 : decode (ib f_Mod_freesOf) 6 = .ok (.iconst 1, 1) := by decide +kernel
theorem d_Mod_freesOf_7 : decode (ib f_Mod_freesOf) 7 = .ok (.bipush 20, 2) := by decide +kernel
theorem d_Mod_freesOf_9 : decode (ib f_Mod_freesOf) 9 = .ok (.aload_n 0, 1) := by decide +kernel
theorem d_Mod_freesOf_10 : decode (ib f_Mod_freesOf) 10 = .ok (.getfield 65, 3) := by decide +kernel
theorem d_Mod_freesOf_13 : decode (ib f_Mod_freesOf) 13 = .ok (.iconst 2, 1) := by decide +kernel
theorem d_Mod_freesOf_14 : decode (ib f_Mod_freesOf) 14 = .ok (.iaload, 1) := by decide +kernel
theorem d_Mod_freesOf_15 : decode (ib f_Mod_freesOf) 15 = .ok (.imul, 1) := by decide +kernel
theorem d_Mod_freesOf_16 : decode (ib f_Mod_freesOf) 16 = .ok (.bipush 10, 2) := by decide +kernel
theorem d_Mod_freesOf_18 : decode (ib f_Mod_freesOf) 18 = .ok (.aload_n 0, 1) := by decide +kernel
theorem d_Mod_freesOf_19 : decode (ib f_Mod_freesOf) 19 = .ok (.getfield 7, 3) := by decide +kernel
theorem d_Mod_freesOf_22 : decode (ib f_Mod_freesOf) 22 = .ok (.iconst 3, 1) := by decide +kernel
theorem d_Mod_freesOf_23 : decode (ib f_Mod_freesOf) 23 = .ok (.iaload, 1) := by decide +kernel
theorem d_Mod_freesOf_24 : decode (ib f_Mod_freesOf) 24 = .ok (.imul, 1) := by decide +kernel
theorem d_Mod_freesOf_25 : decode (ib f_Mod_freesOf) 25 = .ok (.iadd, 1) := by decide +kernel
theorem d_Mod_freesOf_26 : decode (ib f_Mod_freesOf) 26 = .ok (.iconst 2, 1) := by decide +kernel
theorem d_Mod_freesOf_27 : decode (ib f_Mod_freesOf) 27 = .ok (.aload_n 0, 1) := by decide +kernel
theorem d_Mod_freesOf_28 : decode (ib f_Mod_freesOf) 28 = .ok (.getfield 65, 3) := by decide +kernel
theorem d_Mod_freesOf_31 : decode (ib f_Mod_freesOf) 31 = .ok (.iconst 4, 1) := by decide +kernel
theorem d_Mod_freesOf_32 : decode (ib f_Mod_freesOf) 32 = .ok (.iaload, 1) := by decide +kernel
theorem d_Mod_freesOf_33 : decode (ib f_Mod_freesOf) 33 = .ok (.imul, 1) := by decide +kernel
theorem d_Mod_freesOf_34 : decode (ib f_Mod_freesOf) 34 = .ok (.isub, 1) := by decide +kernel
theorem d_Mod_freesOf_35 : decode (ib f_Mod_freesOf) 35 = .ok (.sipush 1000, 3) := by decide +kernel
theorem d_Mod_freesOf_38 : decode (ib f_Mod_freesOf) 38 = .ok (.invokevirtual 322, 3) := by decide +kernel
theorem d_Mod_freesOf_41 : decode (ib f_Mod_freesOf) 41 = .ok (.ireturn, 1) := by decide +kernel
theorem d_Mod_slidesOf_0 : decode (ib f_Mod_slidesOf) 0 = .ok (.aload_n 0, 1) := by decide +kernel
theorem d_Mod_slidesOf_1 : decode (ib f_Mod_slidesOf) 1 = .ok (.iload_n 1, 1) := by decide +kernel
theorem d_Mod_slidesOf_2 : decode (ib f_Mod_slidesOf) 2 = .ok (.invokevirtual 325, 3) := by decide +kernel
theorem d_Mod_slidesOf_5 : decode (ib f_Mod_slidesOf) 5 = .ok (.aload_n 0, 1) := by decide +kernel
theorem d_Mod_slidesOf_6 : decode (ib f_Mod_slidesOf) 6 = .ok (.iconst 2, 1) := by decide +kernel
theorem d_Mod_slidesOf_7 : decode (ib f_Mod_slidesOf) 7 = .ok (.aload_n 0, 1) := by decide +kernel
theorem d_Mod_slidesOf_8 : decode (ib f_Mod_slidesOf) 8 = .ok (.getfield 7, 3) := by decide +kernel
theorem d_Mod_slidesOf_11 : decode (ib f_Mod_slidesOf) 11 = .ok (.iconst 4, 1) := by decide +kernel
theorem d_Mod_slidesOf_12 : decode (ib f_Mod_slidesOf) 12 = .ok (.iaload, 1) := by decide +kernel
theorem d_Mod_slidesOf_13 : decode (ib f_Mod_slidesOf) 13 = .ok (.iconst 4, 1) := by decide +kernel
theorem d_Mod_slidesOf_14 : decode (ib f_Mod_slidesOf) 14 = .ok (.idiv, 1) := by decide +kernel
theorem d_Mod_slidesOf_15 : decode (ib f_Mod_slidesOf) 15 = .ok (.bipush 9, 2) := by decide +kernel
theorem d_Mod_slidesOf_17 : decode (ib f_Mod_slidesOf) 17 = .ok (.invokevirtual 322, 3) := by decide +kernel
theorem d_Mod_slidesOf_20 : decode (ib f_Mod_slidesOf) 20 = .ok (.ireturn, 1) := by decide +kernel
theorem d_Mod_notes_0 : decode (ib f_Mod_notes) 0 = .ok (.aload_n 0, 1) := by decide +kernel
theorem d_Mod_notes_1 : decode (ib f_Mod_notes) 1 = .ok (.getfield 114, 3) := by decide +kernel
theorem d_Mod_notes_4 : decode (ib f_Mod_notes) 4 = .ok (.ifCond .ne 15, 3) := by decide +kernel
theorem d_Mod_notes_7 : decode (ib f_Mod_notes) 7 = .ok (.aload_n 0, 1) := by decide +kernel
theorem d_Mod_notes_8 : decode (ib f_Mod_notes) 8 = .ok (.getfield 7, 3) := by decide +kernel
theorem d_Mod_notes_11 : decode (ib f_Mod_notes) 11 = .ok (.iconst 2, 1) := by decide +kernel
theorem d_Mod_notes_12 : decode (ib f_Mod_notes) 12 = .ok (.iaload, 1) := by decide +kernel
theorem d_Mod_notes_13 : decode (ib f_Mod_notes) 13 = .ok (.sipush 150, 3) := by decide +kernel
theorem d_Mod_notes_16 : decode (ib f_Mod_notes) 16 = .ok (.if_icmp .ne 4, 3) := by decide +kernel
theorem d_Mod_notes_19 : decode (ib f_Mod_notes) 19 = .ok (.return_, 1) := by decide +kernel
theorem d_Mod_notes_20 : decode (ib f_Mod_notes) 20 = .ok (.iconst 4, 1) := by decide +kernel
theorem d_Mod_notes_21 : decode (ib f_Mod_notes) 21 = .ok (.aload_n 0, 1) := by decide +kernel
theorem d_Mod_notes_22 : decode (ib f_Mod_notes) 22 = .ok (.getfield 7, 3) := by decide +kernel
theorem d_Mod_notes_25 : decode (ib f_Mod_notes) 25 = .ok (.iconst 2, 1) := by decide +kernel
theorem d_Mod_notes_26 : decode (ib f_Mod_notes) 26 = .ok (.iaload, 1) := by decide +kernel
theorem d_Mod_notes_27 : decode (ib f_Mod_notes) 27 = .ok (.imul, 1) := by decide +kernel
theorem d_Mod_notes_28 : decode (ib f_Mod_notes) 28 = .ok (.istore 4, 2) := by decide +kernel
theorem d_Mod_notes_30 : decode (ib f_Mod_notes) 30 = .ok (.aload_n 0, 1) := by decide +kernel
theorem d_Mod_notes_31 : decode (ib f_Mod_notes) 31 = .ok (.getfield 19, 3) := by decide +kernel
theorem d_Mod_notes_34 : decode (ib f_Mod_notes) 34 = .ok (.iload 4, 2) := by decide +kernel
theorem d_Mod_notes_36 : decode (ib f_Mod_notes) 36 = .ok (.aload_n 0, 1) := by decide +kernel
theorem d_Mod_notes_37 : decode (ib f_Mod_notes) 37 = .ok (.getfield 7, 3) := by decide +kernel
theorem d_Mod_notes_40 : decode (ib f_Mod_notes) 40 = .ok (.iconst 0, 1) := by decide +kernel
theorem d_Mod_notes_41 : decode (ib f_Mod_notes) 41 = .ok (.iaload, 1) := by decide +kernel
theorem d_Mod_notes_42 : decode (ib f_Mod_notes) 42 = .ok (.iastore, 1) := by decide +kernel
theorem d_Mod_notes_43 : decode (ib f_Mod_notes) 43 = .ok (.aload_n 0, 1) := by decide +kernel
theorem d_Mod_notes_44 : decode (ib f_Mod_notes) 44 = .ok (.getfield 19, 3) := by decide +kernel
theorem d_Mod_notes_47 : decode (ib f_Mod_notes) 47 = .ok (.iload 4, 2) := by decide +kernel
theorem d_Mod_notes_49 : decode (ib f_Mod_notes) 49 = .ok (.iconst 1, 1) := by decide +kernel
theorem d_Mod_notes_50 : decode (ib f_Mod_notes) 50 = .ok (.iadd, 1) := by decide +kernel
theorem d_Mod_notes_51 : decode (ib f_Mod_notes) 51 = .ok (.iload_n 1, 1) := by decide +kernel
theorem d_Mod_notes_52 : decode (ib f_Mod_notes) 52 = .ok (.iastore, 1) := by decide +kernel
theorem d_Mod_notes_53 : decode (ib f_Mod_notes) 53 = .ok (.aload_n 0, 1) := by decide +kernel
theorem d_Mod_notes_54 : decode (ib f_Mod_notes) 54 = .ok (.getfield 19, 3) := by decide +kernel
theorem d_Mod_notes_57 : decode (ib f_Mod_notes) 57 = .ok (.iload 4, 2) := by decide +kernel
theorem d_Mod_notes_59 : decode (ib f_Mod_notes) 59 = .ok (.iconst 2, 1) := by decide +kernel
theorem d_Mod_notes_60 : decode (ib f_Mod_notes) 60 = .ok (.iadd, 1) := by decide +kernel
theorem d_Mod_notes_61 : decode (ib f_Mod_notes) 61 = .ok (.iload_n 2, 1) := by decide +kernel
theorem d_Mod_notes_62 : decode (ib f_Mod_notes) 62 = .ok (.iastore, 1) := by decide +kernel
theorem d_Mod_notes_63 : decode (ib f_Mod_notes) 63 = .ok (.aload_n 0, 1) := by decide +kernel
theorem d_Mod_notes_64 : decode (ib f_Mod_notes) 64 = .ok (.getfield 19, 3) := by decide +kernel
theorem d_Mod_notes_67 : decode (ib f_Mod_notes) 67 = .ok (.iload 4, 2) := by decide +kernel
theorem d_Mod_notes_69 : decode (ib f_Mod_notes) 69 = .ok (.iconst 3, 1) := by decide +kernel
theorem d_Mod_notes_70 : decode (ib f_Mod_notes) 70 = .ok (.iadd, 1) := by decide +kernel
theorem d_Mod_notes_71 : decode (ib f_Mod_notes) 71 = .ok (.iload_n 3, 1) := by decide +kernel
theorem d_Mod_notes_72 : decode (ib f_Mod_notes) 72 = .ok (.iastore, 1) := by decide +kernel
theorem d_Mod_notes_73 : decode (ib f_Mod_notes) 73 = .ok (.aload_n 0, 1) := by decide +kernel
theorem d_Mod_notes_74 : decode (ib f_Mod_notes) 74 = .ok (.getfield 7, 3) := by decide +kernel
theorem d_Mod_notes_77 : decode (ib f_Mod_notes) 77 = .ok (.iconst 2, 1) := by decide +kernel
theorem d_Mod_notes_78 : decode (ib f_Mod_notes) 78 = .ok (.aload_n 0, 1) := by decide +kernel
theorem d_Mod_notes_79 : decode (ib f_Mod_notes) 79 = .ok (.getfield 7, 3) := by decide +kernel
theorem d_Mod_notes_82 : decode (ib f_Mod_notes) 82 = .ok (.iconst 2, 1) := by decide +kernel
theorem d_Mod_notes_83 : decode (ib f_Mod_notes) 83 = .ok (.iaload, 1) := by decide +kernel
theorem d_Mod_notes_84 : decode (ib f_Mod_notes) 84 = .ok (.iconst 1, 1) := by decide +kernel
theorem d_Mod_notes_85 : decode (ib f_Mod_notes) 85 = .ok (.iadd, 1) := by decide +kernel
theorem d_Mod_notes_86 : decode (ib f_Mod_notes) 86 = .ok (.iastore, 1) := by decide +kernel
theorem d_Mod_notes_87 : decode (ib f_Mod_notes) 87 = .ok (.return_, 1) := by decide +kernel
theorem d_Mod_isStuck_0 : decode (ib f_Mod_isStuck) 0 = .ok (.aload_n 0, 1) := by decide +kernel
theorem d_Mod_isStuck_1 : decode (ib f_Mod_isStuck) 1 = .ok (.aload_n 0, 1) := by decide +kernel
theorem d_Mod_isStuck_2 : decode (ib f_Mod_isStuck) 2 = .ok (.getfield 7, 3) := by decide +kernel
theorem d_Mod_isStuck_5 : decode (ib f_Mod_isStuck) 5 = .ok (.bipush 8, 2) := by decide +kernel
theorem d_Mod_isStuck_7 : decode (ib f_Mod_isStuck) 7 = .ok (.iaload, 1) := by decide +kernel
theorem d_Mod_isStuck_8 : decode (ib f_Mod_isStuck) 8 = .ok (.invokevirtual 124, 3) := by decide +kernel
theorem d_Mod_isStuck_11 : decode (ib f_Mod_isStuck) 11 = .ok (.istore 5, 2) := by decide +kernel
theorem d_Mod_isStuck_13 : decode (ib f_Mod_isStuck) 13 = .ok (.aload_n 0, 1) := by decide +kernel
theorem d_Mod_isStuck_14 : decode (ib f_Mod_isStuck) 14 = .ok (.getfield 7, 3) := by decide +kernel
theorem d_Mod_isStuck_17 : decode (ib f_Mod_isStuck) 17 = .ok (.iload 5, 2) := by decide +kernel
theorem d_Mod_isStuck_19 : decode (ib f_Mod_isStuck) 19 = .ok (.iconst 0, 1) := by decide +kernel
theorem d_Mod_isStuck_20 : decode (ib f_Mod_isStuck) 20 = .ok (.iadd, 1) := by decide +kernel
theorem d_Mod_isStuck_21 : decode (ib f_Mod_isStuck) 21 = .ok (.aload_n 0, 1) := by decide +kernel
theorem d_Mod_isStuck_22 : decode (ib f_Mod_isStuck) 22 = .ok (.getfield 7, 3) := by decide +kernel
theorem d_Mod_isStuck_25 : decode (ib f_Mod_isStuck) 25 = .ok (.iconst 5, 1) := by decide +kernel
theorem d_Mod_isStuck_26 : decode (ib f_Mod_isStuck) 26 = .ok (.iaload, 1) := by decide +kernel
theorem d_Mod_isStuck_27 : decode (ib f_Mod_isStuck) 27 = .ok (.iastore, 1) := by decide +kernel
theorem d_Mod_isStuck_28 : decode (ib f_Mod_isStuck) 28 = .ok (.aload_n 0, 1) := by decide +kernel
theorem d_Mod_isStuck_29 : decode (ib f_Mod_isStuck) 29 = .ok (.getfield 7, 3) := by decide +kernel
theorem d_Mod_isStuck_32 : decode (ib f_Mod_isStuck) 32 = .ok (.iload 5, 2) := by decide +kernel
theorem d_Mod_isStuck_34 : decode (ib f_Mod_isStuck) 34 = .ok (.iconst 1, 1) := by decide +kernel
theorem d_Mod_isStuck_35 : decode (ib f_Mod_isStuck) 35 = .ok (.iadd, 1) := by decide +kernel
theorem d_Mod_isStuck_36 : decode (ib f_Mod_isStuck) 36 = .ok (.iload_n 1, 1) := by decide +kernel
theorem d_Mod_isStuck_37 : decode (ib f_Mod_isStuck) 37 = .ok (.iastore, 1) := by decide +kernel
theorem d_Mod_isStuck_38 : decode (ib f_Mod_isStuck) 38 = .ok (.aload_n 0, 1) := by decide +kernel
theorem d_Mod_isStuck_39 : decode (ib f_Mod_isStuck) 39 = .ok (.getfield 7, 3) := by decide +kernel
theorem d_Mod_isStuck_42 : decode (ib f_Mod_isStuck) 42 = .ok (.iload 5, 2) := by decide +kernel
theorem d_Mod_isStuck_44 : decode (ib f_Mod_isStuck) 44 = .ok (.iconst 2, 1) := by decide +kernel
theorem d_Mod_isStuck_45 : decode (ib f_Mod_isStuck) 45 = .ok (.iadd, 1) := by decide +kernel
theorem d_Mod_isStuck_46 : decode (ib f_Mod_isStuck) 46 = .ok (.iload_n 2, 1) := by decide +kernel
theorem d_Mod_isStuck_47 : decode (ib f_Mod_isStuck) 47 = .ok (.iastore, 1) := by decide +kernel
theorem d_Mod_isStuck_48 : decode (ib f_Mod_isStuck) 48 = .ok (.aload_n 0, 1) := by decide +kernel
theorem d_Mod_isStuck_49 : decode (ib f_Mod_isStuck) 49 = .ok (.getfield 7, 3) := by decide +kernel
theorem d_Mod_isStuck_52 : decode (ib f_Mod_isStuck) 52 = .ok (.iload 5, 2) := by decide +kernel
theorem d_Mod_isStuck_54 : decode (ib f_Mod_isStuck) 54 = .ok (.iconst 3, 1) := by decide +kernel
theorem d_Mod_isStuck_55 : decode (ib f_Mod_isStuck) 55 = .ok (.iadd, 1) := by decide +kernel
theorem d_Mod_isStuck_56 : decode (ib f_Mod_isStuck) 56 = .ok (.iload_n 3, 1) := by decide +kernel
theorem d_Mod_isStuck_57 : decode (ib f_Mod_isStuck) 57 = .ok (.iastore, 1) := by decide +kernel
theorem d_Mod_isStuck_58 : decode (ib f_Mod_isStuck) 58 = .ok (.aload_n 0, 1) := by decide +kernel
theorem d_Mod_isStuck_59 : decode (ib f_Mod_isStuck) 59 = .ok (.getfield 7, 3) := by decide +kernel
theorem d_Mod_isStuck_62 : decode (ib f_Mod_isStuck) 62 = .ok (.iload 5, 2) := by decide +kernel
theorem d_Mod_isStuck_64 : decode (ib f_Mod_isStuck) 64 = .ok (.iconst 4, 1) := by decide +kernel
theorem d_Mod_isStuck_65 : decode (ib f_Mod_isStuck) 65 = .ok (.iadd, 1) := by decide +kernel
theorem d_Mod_isStuck_66 : decode (ib f_Mod_isStuck) 66 = .ok (.iload 4, 2) := by decide +kernel
theorem d_Mod_isStuck_68 : decode (ib f_Mod_isStuck) 68 = .ok (.iastore, 1) := by decide +kernel
theorem d_Mod_isStuck_69 : decode (ib f_Mod_isStuck) 69 = .ok (.aload_n 0, 1) := by decide +kernel
theorem d_Mod_isStuck_70 : decode (ib f_Mod_isStuck) 70 = .ok (.getfield 7, 3) := by decide +kernel
theorem d_Mod_isStuck_73 : decode (ib f_Mod_isStuck) 73 = .ok (.iload 5, 2) := by decide +kernel
theorem d_Mod_isStuck_75 : decode (ib f_Mod_isStuck) 75 = .ok (.iconst 5, 1) := by decide +kernel
theorem d_Mod_isStuck_76 : decode (ib f_Mod_isStuck) 76 = .ok (.iadd, 1) := by decide +kernel
theorem d_Mod_isStuck_77 : decode (ib f_Mod_isStuck) 77 = .ok (.iconst 0, 1) := by decide +kernel
theorem d_Mod_isStuck_78 : decode (ib f_Mod_isStuck) 78 = .ok (.iastore, 1) := by decide +kernel
theorem d_Mod_isStuck_79 : decode (ib f_Mod_isStuck) 79 = .ok (.aload_n 0, 1) := by decide +kernel
theorem d_Mod_isStuck_80 : decode (ib f_Mod_isStuck) 80 = .ok (.getfield 7, 3) := by decide +kernel
theorem d_Mod_isStuck_83 : decode (ib f_Mod_isStuck) 83 = .ok (.iload 5, 2) := by decide +kernel
theorem d_Mod_isStuck_85 : decode (ib f_Mod_isStuck) 85 = .ok (.bipush 6, 2) := by decide +kernel
theorem d_Mod_isStuck_87 : decode (ib f_Mod_isStuck) 87 = .ok (.iadd, 1) := by decide +kernel
theorem d_Mod_isStuck_88 : decode (ib f_Mod_isStuck) 88 = .ok (.bipush 6, 2) := by decide +kernel
theorem d_Mod_isStuck_90 : decode (ib f_Mod_isStuck) 90 = .ok (.iastore, 1) := by decide +kernel
theorem d_Mod_isStuck_91 : decode (ib f_Mod_isStuck) 91 = .ok (.aload_n 0, 1) := by decide +kernel
theorem d_Mod_isStuck_92 : decode (ib f_Mod_isStuck) 92 = .ok (.getfield 7, 3) := by decide +kernel
theorem d_Mod_isStuck_95 : decode (ib f_Mod_isStuck) 95 = .ok (.bipush 8, 2) := by decide +kernel
theorem d_Mod_isStuck_97 : decode (ib f_Mod_isStuck) 97 = .ok (.aload_n 0, 1) := by decide +kernel
theorem d_Mod_isStuck_98 : decode (ib f_Mod_isStuck) 98 = .ok (.getfield 7, 3) := by decide +kernel
theorem d_Mod_isStuck_101 : decode (ib f_Mod_isStuck) 101 = .ok (.bipush 8, 2) := by decide +kernel
theorem d_Mod_isStuck_103 : decode (ib f_Mod_isStuck) 103 = .ok (.iaload, 1) := by decide +kernel
theorem d_Mod_isStuck_104 : decode (ib f_Mod_isStuck) 104 = .ok (.iconst 1, 1) := by decide +kernel
theorem d_Mod_isStuck_105 : decode (ib f_Mod_isStuck) 105 = .ok (.iadd, 1) := by decide +kernel
theorem d_Mod_isStuck_106 : decode (ib f_Mod_isStuck) 106 = .ok (.iastore, 1) := by decide +kernel
theorem d_Mod_isStuck_107 : decode (ib f_Mod_isStuck) 107 = .ok (.aload_n 0, 1) := by decide +kernel
theorem d_Mod_isStuck_108 : decode (ib f_Mod_isStuck) 108 = .ok (.getfield 7, 3) := by decide +kernel
theorem d_Mod_isStuck_111 : decode (ib f_Mod_isStuck) 111 = .ok (.iconst 5, 1) := by decide +kernel
theorem d_Mod_isStuck_112 : decode (ib f_Mod_isStuck) 112 = .ok (.aload_n 0, 1) := by decide +kernel
theorem d_Mod_isStuck_113 : decode (ib f_Mod_isStuck) 113 = .ok (.getfield 7, 3) := by decide +kernel
theorem d_Mod_isStuck_116 : decode (ib f_Mod_isStuck) 116 = .ok (.iconst 5, 1) := by decide +kernel
theorem d_Mod_isStuck_117 : decode (ib f_Mod_isStuck) 117 = .ok (.iaload, 1) := by decide +kernel
theorem d_Mod_isStuck_118 : decode (ib f_Mod_isStuck) 118 = .ok (.iconst 1, 1) := by decide +kernel
theorem d_Mod_isStuck_119 : decode (ib f_Mod_isStuck) 119 = .ok (.iadd, 1) := by decide +kernel
theorem d_Mod_isStuck_120 : decode (ib f_Mod_isStuck) 120 = .ok (.iastore, 1) := by decide +kernel
theorem d_Mod_isStuck_121 : decode (ib f_Mod_isStuck) 121 = .ok (.aload_n 0, 1) := by decide +kernel
theorem d_Mod_isStuck_122 : decode (ib f_Mod_isStuck) 122 = .ok (.iconst 0, 1) := by decide +kernel
theorem d_Mod_isStuck_123 : decode (ib f_Mod_isStuck) 123 = .ok (.aload_n 0, 1) := by decide +kernel
theorem d_Mod_isStuck_124 : decode (ib f_Mod_isStuck) 124 = .ok (.getfield 7, 3) := by decide +kernel
theorem d_Mod_isStuck_127 : decode (ib f_Mod_isStuck) 127 = .ok (.iload 5, 2) := by decide +kernel
theorem d_Mod_isStuck_129 : decode (ib f_Mod_isStuck) 129 = .ok (.iaload, 1) := by decide +kernel
theorem d_Mod_isStuck_130 : decode (ib f_Mod_isStuck) 130 = .ok (.iload 4, 2) := by decide +kernel
theorem d_Mod_isStuck_132 : decode (ib f_Mod_isStuck) 132 = .ok (.invokevirtual 328, 3) := by decide +kernel
theorem d_Mod_isStuck_135 : decode (ib f_Mod_isStuck) 135 = .ok (.aload_n 0, 1) := by decide +kernel
theorem d_Mod_isStuck_136 : decode (ib f_Mod_isStuck) 136 = .ok (.getfield 7, 3) := by decide +kernel
theorem d_Mod_isStuck_139 : decode (ib f_Mod_isStuck) 139 = .ok (.iload 5, 2) := by decide +kernel
theorem d_Mod_isStuck_141 : decode (ib f_Mod_isStuck) 141 = .ok (.iaload, 1) := by decide +kernel
theorem d_Mod_isStuck_142 : decode (ib f_Mod_isStuck) 142 = .ok (.ireturn, 1) := by decide +kernel
theorem d_Mod_isGone_0 : decode (ib f_Mod_isGone) 0 = .ok (.aload_n 0, 1) := by decide +kernel
theorem d_Mod_isGone_1 : decode (ib f_Mod_isGone) 1 = .ok (.getfield 7, 3) := by decide +kernel
theorem d_Mod_isGone_4 : decode (ib f_Mod_isGone) 4 = .ok (.bipush 8, 2) := by decide +kernel
theorem d_Mod_isGone_6 : decode (ib f_Mod_isGone) 6 = .ok (.aload_n 0, 1) := by decide +kernel
theorem d_Mod_isGone_7 : decode (ib f_Mod_isGone) 7 = .ok (.getfield 7, 3) := by decide +kernel
theorem d_Mod_isGone_10 : decode (ib f_Mod_isGone) 10 = .ok (.bipush 8, 2) := by decide +kernel
theorem d_Mod_isGone_12 : decode (ib f_Mod_isGone) 12 = .ok (.iaload, 1) := by decide +kernel
theorem d_Mod_isGone_13 : decode (ib f_Mod_isGone) 13 = .ok (.iconst 1, 1) := by decide +kernel
theorem d_Mod_isGone_14 : decode (ib f_Mod_isGone) 14 = .ok (.isub, 1) := by decide +kernel
theorem d_Mod_isGone_15 : decode (ib f_Mod_isGone) 15 = .ok (.iastore, 1) := by decide +kernel
theorem d_Mod_isGone_16 : decode (ib f_Mod_isGone) 16 = .ok (.aload_n 0, 1) := by decide +kernel
theorem d_Mod_isGone_17 : decode (ib f_Mod_isGone) 17 = .ok (.iload_n 1, 1) := by decide +kernel
theorem d_Mod_isGone_18 : decode (ib f_Mod_isGone) 18 = .ok (.invokevirtual 124, 3) := by decide +kernel
theorem d_Mod_isGone_21 : decode (ib f_Mod_isGone) 21 = .ok (.istore_n 2, 1) := by decide +kernel
theorem d_Mod_isGone_22 : decode (ib f_Mod_isGone) 22 = .ok (.iload_n 2, 1) := by decide +kernel
theorem d_Mod_isGone_23 : decode (ib f_Mod_isGone) 23 = .ok (.aload_n 0, 1) := by decide +kernel
theorem d_Mod_isGone_24 : decode (ib f_Mod_isGone) 24 = .ok (.aload_n 0, 1) := by decide +kernel
theorem d_Mod_isGone_25 : decode (ib f_Mod_isGone) 25 = .ok (.getfield 7, 3) := by decide +kernel
theorem d_Mod_isGone_28 : decode (ib f_Mod_isGone) 28 = .ok (.bipush 8, 2) := by decide +kernel
theorem d_Mod_isGone_30 : decode (ib f_Mod_isGone) 30 = .ok (.iaload, 1) := by decide +kernel
theorem d_Mod_isGone_31 : decode (ib f_Mod_isGone) 31 = .ok (.invokevirtual 124, 3) := by decide +kernel
theorem d_Mod_isGone_34 : decode (ib f_Mod_isGone) 34 = .ok (.if_icmp .ge 24, 3) := by decide +kernel
theorem d_Mod_isGone_37 : decode (ib f_Mod_isGone) 37 = .ok (.aload_n 0, 1) := by decide +kernel
theorem d_Mod_isGone_38 : decode (ib f_Mod_isGone) 38 = .ok (.getfield 7, 3) := by decide +kernel
theorem d_Mod_isGone_41 : decode (ib f_Mod_isGone) 41 = .ok (.iload_n 2, 1) := by decide +kernel
theorem d_Mod_isGone_42 : decode (ib f_Mod_isGone) 42 = .ok (.aload_n 0, 1) := by decide +kernel
theorem d_Mod_isGone_43 : decode (ib f_Mod_isGone) 43 = .ok (.getfield 7, 3) := by decide +kernel
theorem d_Mod_isGone_46 : decode (ib f_Mod_isGone) 46 = .ok (.iload_n 2, 1) := by decide +kernel
theorem d_Mod_isGone_47 : decode (ib f_Mod_isGone) 47 = .ok (.bipush 7, 2) := by decide +kernel
theorem d_Mod_isGone_49 : decode (ib f_Mod_isGone) 49 = .ok (.iadd, 1) := by decide +kernel
theorem d_Mod_isGone_50 : decode (ib f_Mod_isGone) 50 = .ok (.iaload, 1) := by decide +kernel
theorem d_Mod_isGone_51 : decode (ib f_Mod_isGone) 51 = .ok (.iastore, 1) := by decide +kernel
theorem d_Mod_isGone_52 : decode (ib f_Mod_isGone) 52 = .ok (.iinc 2 1, 3) := by decide +kernel
theorem d_Mod_isGone_55 : decode (ib f_Mod_isGone) 55 = .ok (.goto (-33), 3) := by decide +kernel
theorem d_Mod_isGone_58 : decode (ib f_Mod_isGone) 58 = .ok (.return_, 1) := by decide +kernel
theorem d_Mod_comesUp_0 : decode (ib f_Mod_comesUp) 0 = .ok (.aload_n 0, 1) := by decide +kernel
theorem d_Mod_comesUp_1 : decode (ib f_Mod_comesUp) 1 = .ok (.iload 4, 2) := by decide +kernel
theorem d_Mod_comesUp_3 : decode (ib f_Mod_comesUp) 3 = .ok (.invokevirtual 332, 3) := by decide +kernel
theorem d_Mod_comesUp_6 : decode (ib f_Mod_comesUp) 6 = .ok (.ifCond .ne 15, 3) := by decide +kernel
theorem d_Mod_comesUp_9 : decode (ib f_Mod_comesUp) 9 = .ok (.aload_n 0, 1) := by decide +kernel
theorem d_Mod_comesUp_10 : decode (ib f_Mod_comesUp) 10 = .ok (.getfield 7, 3) := by decide +kernel
theorem d_Mod_comesUp_13 : decode (ib f_Mod_comesUp) 13 = .ok (.bipush 8, 2) := by decide +kernel
theorem d_Mod_comesUp_15 : decode (ib f_Mod_comesUp) 15 = .ok (.iaload, 1) := by decide +kernel
theorem d_Mod_comesUp_16 : decode (ib f_Mod_comesUp) 16 = .ok (.bipush 20, 2) := by decide +kernel
theorem d_Mod_comesUp_18 : decode (ib f_Mod_comesUp) 18 = .ok (.if_icmp .ne 4, 3) := by decide +kernel
theorem d_Mod_comesUp_21 : decode (ib f_Mod_comesUp) 21 = .ok (.return_, 1) := by decide +kernel
theorem d_Mod_comesUp_22 : decode (ib f_Mod_comesUp) 22 = .ok (.aload_n 0, 1) := by decide +kernel
theorem d_Mod_comesUp_23 : decode (ib f_Mod_comesUp) 23 = .ok (.iload_n 1, 1) := by decide +kernel
theorem d_Mod_comesUp_24 : decode (ib f_Mod_comesUp) 24 = .ok (.iload_n 2, 1) := by decide +kernel
theorem d_Mod_comesUp_25 : decode (ib f_Mod_comesUp) 25 = .ok (.iload_n 3, 1) := by decide +kernel
theorem d_Mod_comesUp_26 : decode (ib f_Mod_comesUp) 26 = .ok (.iload 4, 2) := by decide +kernel
theorem d_Mod_comesUp_28 : decode (ib f_Mod_comesUp) 28 = .ok (.iconst 0, 1) := by decide +kernel
theorem d_Mod_comesUp_29 : decode (ib f_Mod_comesUp) 29 = .ok (.bipush 6, 2) := by decide +kernel
theorem d_Mod_comesUp_31 : decode (ib f_Mod_comesUp) 31 = .ok (.invokevirtual 315, 3) := by decide +kernel
theorem d_Mod_comesUp_34 : decode (ib f_Mod_comesUp) 34 = .ok (.aload_n 0, 1) := by decide +kernel
theorem d_Mod_comesUp_35 : decode (ib f_Mod_comesUp) 35 = .ok (.invokevirtual 335, 3) := by decide +kernel
theorem d_Mod_comesUp_38 : decode (ib f_Mod_comesUp) 38 = .ok (.istore 5, 2) := by decide +kernel
theorem d_Mod_comesUp_40 : decode (ib f_Mod_comesUp) 40 = .ok (.aload_n 0, 1) := by decide +kernel
theorem d_Mod_comesUp_41 : decode (ib f_Mod_comesUp) 41 = .ok (.getfield 114, 3) := by decide +kernel
theorem d_Mod_comesUp_44 : decode (ib f_Mod_comesUp) 44 = .ok (.ifCond .eq 16, 3) := by decide +kernel
theorem d_Mod_comesUp_47 : decode (ib f_Mod_comesUp) 47 = .ok (.iconst 2, 1) := by decide +kernel
theorem d_Mod_comesUp_48 : decode (ib f_Mod_comesUp) 48 = .ok (.iload 5, 2) := by decide +kernel
theorem d_Mod_comesUp_50 : decode (ib f_Mod_comesUp) 50 = .ok (.imul, 1) := by decide +kernel
theorem d_Mod_comesUp_51 : decode (ib f_Mod_comesUp) 51 = .ok (.sipush 1000, 3) := by decide +kernel
theorem d_Mod_comesUp_54 : decode (ib f_Mod_comesUp) 54 = .ok (.if_icmp .ge 27, 3) := by decide +kernel
theorem d_Mod_comesUp_57 : decode (ib f_Mod_comesUp) 57 = .ok (.goto 15, 3) := by decide +kernel
theorem d_Mod_comesUp_60 : decode (ib f_Mod_comesUp) 60 = .ok (.aload_n 0, 1) := by decide +kernel
theorem d_Mod_comesUp_61 : decode (ib f_Mod_comesUp) 61 = .ok (.sipush 1000, 3) := by decide +kernel
theorem d_Mod_comesUp_64 : decode (ib f_Mod_comesUp) 64 = .ok (.invokevirtual 338, 3) := by decide +kernel
theorem d_Mod_comesUp_67 : decode (ib f_Mod_comesUp) 67 = .ok (.iload 5, 2) := by decide +kernel
theorem d_Mod_comesUp_69 : decode (ib f_Mod_comesUp) 69 = .ok (.if_icmp .lt 12, 3) := by decide +kernel
theorem d_Mod_comesUp_72 : decode (ib f_Mod_comesUp) 72 = .ok (.aload_n 0, 1) := by decide +kernel
theorem d_Mod_comesUp_73 : decode (ib f_Mod_comesUp) 73 = .ok (.iconst 1, 1) := by decide +kernel
theorem d_Mod_comesUp_74 : decode (ib f_Mod_comesUp) 74 = .ok (.iconst (-1), 1) := by decide +kernel
theorem d_Mod_comesUp_75 : decode (ib f_Mod_comesUp) 75 = .ok (.iload 4, 2) := by decide +kernel
theorem d_Mod_comesUp_77 : decode (ib f_Mod_comesUp) 77 = .ok (.invokevirtual 328, 3) := by decide +kernel
theorem d_Mod_comesUp_80 : decode (ib f_Mod_comesUp) 80 = .ok (.return_, 1) := by decide +kernel
theorem d_Mod_comesUp_81 : decode (ib f_Mod_comesUp) 81 = .ok (.aload_n 0, 1) := by decide +kernel
theorem d_Mod_comesUp_82 : decode (ib f_Mod_comesUp) 82 = .ok (.iload_n 1, 1) := by decide +kernel
theorem d_Mod_comesUp_83 : decode (ib f_Mod_comesUp) 83 = .ok (.iload_n 2, 1) := by decide +kernel
theorem d_Mod_comesUp_84 : decode (ib f_Mod_comesUp) 84 = .ok (.iload_n 3, 1) := by decide +kernel
theorem d_Mod_comesUp_85 : decode (ib f_Mod_comesUp) 85 = .ok (.iload 4, 2) := by decide +kernel
theorem d_Mod_comesUp_87 : decode (ib f_Mod_comesUp) 87 = .ok (.invokevirtual 341, 3) := by decide +kernel
theorem d_Mod_comesUp_90 : decode (ib f_Mod_comesUp) 90 = .ok (.pop, 1) := by decide +kernel
theorem d_Mod_comesUp_91 : decode (ib f_Mod_comesUp) 91 = .ok (.aload_n 0, 1) := by decide +kernel
theorem d_Mod_comesUp_92 : decode (ib f_Mod_comesUp) 92 = .ok (.iload 4, 2) := by decide +kernel
theorem d_Mod_comesUp_94 : decode (ib f_Mod_comesUp) 94 = .ok (.aload_n 0, 1) := by decide +kernel
theorem d_Mod_comesUp_95 : decode (ib f_Mod_comesUp) 95 = .ok (.iload 4, 2) := by decide +kernel
theorem d_Mod_comesUp_97 : decode (ib f_Mod_comesUp) 97 = .ok (.invokevirtual 309, 3) := by decide +kernel
theorem d_Mod_comesUp_100 : decode (ib f_Mod_comesUp) 100 = .ok (.iload_n 2, 1) := by decide +kernel
theorem d_Mod_comesUp_101 : decode (ib f_Mod_comesUp) 101 = .ok (.isub, 1) := by decide +kernel
theorem d_Mod_comesUp_102 : decode (ib f_Mod_comesUp) 102 = .ok (.invokevirtual 145, 3) := by decide +kernel
theorem d_Mod_comesUp_105 : decode (ib f_Mod_comesUp) 105 = .ok (.return_, 1) := by decide +kernel
theorem d_Mod_put_0 : decode (ib f_Mod_put) 0 = .ok (.aload_n 0, 1) := by decide +kernel
theorem d_Mod_put_1 : decode (ib f_Mod_put) 1 = .ok (.iconst 0, 1) := by decide +kernel
theorem d_Mod_put_2 : decode (ib f_Mod_put) 2 = .ok (.putfield 107, 3) := by decide +kernel
theorem d_Mod_put_5 : decode (ib f_Mod_put) 5 = .ok (.aload_n 0, 1) := by decide +kernel
theorem d_Mod_put_6 : decode (ib f_Mod_put) 6 = .ok (.iload_n 1, 1) := by decide +kernel
theorem d_Mod_put_7 : decode (ib f_Mod_put) 7 = .ok (.iconst 0, 1) := by decide +kernel
theorem d_Mod_put_8 : decode (ib f_Mod_put) 8 = .ok (.iconst 5, 1) := by decide +kernel
theorem d_Mod_put_9 : decode (ib f_Mod_put) 9 = .ok (.invokevirtual 135, 3) := by decide +kernel
theorem d_Mod_put_12 : decode (ib f_Mod_put) 12 = .ok (.ifCond .eq 55, 3) := by decide +kernel
theorem d_Mod_put_15 : decode (ib f_Mod_put) 15 = .ok (.aload_n 0, 1) := by decide +kernel
theorem d_Mod_put_16 : decode (ib f_Mod_put) 16 = .ok (.iload_n 2, 1) := by decide +kernel
theorem d_Mod_put_17 : decode (ib f_Mod_put) 17 = .ok (.iconst 1, 1) := by decide +kernel
theorem d_Mod_put_18 : decode (ib f_Mod_put) 18 = .ok (.bipush 9, 2) := by decide +kernel
theorem d_Mod_put_20 : decode (ib f_Mod_put) 20 = .ok (.invokevirtual 135, 3) := by decide +kernel
theorem d_Mod_put_23 : decode (ib f_Mod_put) 23 = .ok (.ifCond .eq 44, 3) := by decide +kernel
theorem d_Mod_put_26 : decode (ib f_Mod_put) 26 = .ok (.aload_n 0, 1) := by decide +kernel
theorem d_Mod_put_27 : decode (ib f_Mod_put) 27 = .ok (.iload_n 3, 1) := by decide +kernel
theorem d_Mod_put_28 : decode (ib f_Mod_put) 28 = .ok (.iconst 0, 1) := by decide +kernel
theorem d_Mod_put_29 : decode (ib f_Mod_put) 29 = .ok (.bipush 9, 2) := by decide +kernel
theorem d_Mod_put_31 : decode (ib f_Mod_put) 31 = .ok (.invokevirtual 135, 3) := by decide +kernel
theorem d_Mod_put_34 : decode (ib f_Mod_put) 34 = .ok (.ifCond .eq 33, 3) := by decide +kernel
theorem d_Mod_put_37 : decode (ib f_Mod_put) 37 = .ok (.aload_n 0, 1) := by decide +kernel
theorem d_Mod_put_38 : decode (ib f_Mod_put) 38 = .ok (.iload 4, 2) := by decide +kernel
theorem d_Mod_put_40 : decode (ib f_Mod_put) 40 = .ok (.invokevirtual 131, 3) := by decide +kernel
theorem d_Mod_put_43 : decode (ib f_Mod_put) 43 = .ok (.ifCond .eq 24, 3) := by decide +kernel
theorem d_Mod_put_46 : decode (ib f_Mod_put) 46 = .ok (.aload_n 0, 1) := by decide +kernel
theorem d_Mod_put_47 : decode (ib f_Mod_put) 47 = .ok (.iload 4, 2) := by decide +kernel
theorem d_Mod_put_49 : decode (ib f_Mod_put) 49 = .ok (.invokevirtual 332, 3) := by decide +kernel
theorem d_Mod_put_52 : decode (ib f_Mod_put) 52 = .ok (.ifCond .ne 15, 3) := by decide +kernel
theorem d_Mod_put_55 : decode (ib f_Mod_put) 55 = .ok (.aload_n 0, 1) := by decide +kernel
theorem d_Mod_put_56 : decode (ib f_Mod_put) 56 = .ok (.getfield 7, 3) := by decide +kernel
theorem d_Mod_put_59 : decode (ib f_Mod_put) 59 = .ok (.bipush 8, 2) := by decide +kernel
theorem d_Mod_put_61 : decode (ib f_Mod_put) 61 = .ok (.iaload, 1) := by decide +kernel
theorem d_Mod_put_62 : decode (ib f_Mod_put) 62 = .ok (.bipush 20, 2) := by decide +kernel
theorem d_Mod_put_64 : decode (ib f_Mod_put) 64 = .ok (.if_icmp .ne 5, 3) := by decide +kernel
theorem d_Mod_put_67 : decode (ib f_Mod_put) 67 = .ok (.iconst (-1), 1) := by decide +kernel
theorem d_Mod_put_68 : decode (ib f_Mod_put) 68 = .ok (.ireturn, 1) := by decide +kernel
theorem d_Mod_put_69 : decode (ib f_Mod_put) 69 = .ok (.aload_n 0, 1) := by decide +kernel
theorem d_Mod_put_70 : decode (ib f_Mod_put) 70 = .ok (.invokevirtual 345, 3) := by decide +kernel
theorem d_Mod_put_73 : decode (ib f_Mod_put) 73 = .ok (.aload_n 0, 1) := by decide +kernel
theorem d_Mod_put_74 : decode (ib f_Mod_put) 74 = .ok (.iload_n 1, 1) := by decide +kernel
theorem d_Mod_put_75 : decode (ib f_Mod_put) 75 = .ok (.iload_n 2, 1) := by decide +kernel
theorem d_Mod_put_76 : decode (ib f_Mod_put) 76 = .ok (.iload_n 3, 1) := by decide +kernel
theorem d_Mod_put_77 : decode (ib f_Mod_put) 77 = .ok (.iload 4, 2) := by decide +kernel
theorem d_Mod_put_79 : decode (ib f_Mod_put) 79 = .ok (.invokevirtual 341, 3) := by decide +kernel
theorem d_Mod_put_82 : decode (ib f_Mod_put) 82 = .ok (.ireturn, 1) := by decide +kernel
theorem d_Mod_act_0 : decode (ib f_Mod_act) 0 = .ok (.aload_n 0, 1) := by decide +kernel
theorem d_Mod_act_1 : decode (ib f_Mod_act) 1 = .ok (.iconst 0, 1) := by decide +kernel
theorem d_Mod_act_2 : decode (ib f_Mod_act) 2 = .ok (.putfield 107, 3) := by decide +kernel
theorem d_Mod_act_5 : decode (ib f_Mod_act) 5 = .ok (.iload_n 1, 1) := by decide +kernel
theorem d_Mod_act_6 : decode (ib f_Mod_act) 6 = .ok (.ifCond .ne 12, 3) := by decide +kernel
theorem d_Mod_act_9 : decode (ib f_Mod_act) 9 = .ok (.aload_n 0, 1) := by decide +kernel
theorem d_Mod_act_10 : decode (ib f_Mod_act) 10 = .ok (.iload_n 2, 1) := by decide +kernel
theorem d_Mod_act_11 : decode (ib f_Mod_act) 11 = .ok (.invokevirtual 139, 3) := by decide +kernel
theorem d_Mod_act_14 : decode (ib f_Mod_act) 14 = .ok (.iconst (-1), 1) := by decide +kernel
theorem d_Mod_act_15 : decode (ib f_Mod_act) 15 = .ok (.if_icmp .eq 37, 3) := by decide +kernel
theorem d_Mod_act_18 : decode (ib f_Mod_act) 18 = .ok (.iload_n 1, 1) := by decide +kernel
theorem d_Mod_act_19 : decode (ib f_Mod_act) 19 = .ok (.iconst 1, 1) := by decide +kernel
theorem d_Mod_act_20 : decode (ib f_Mod_act) 20 = .ok (.if_icmp .ne 22, 3) := by decide +kernel
theorem d_Mod_act_23 : decode (ib f_Mod_act) 23 = .ok (.aload_n 0, 1) := by decide +kernel
theorem d_Mod_act_24 : decode (ib f_Mod_act) 24 = .ok (.iload_n 2, 1) := by decide +kernel
theorem d_Mod_act_25 : decode (ib f_Mod_act) 25 = .ok (.invokevirtual 131, 3) := by decide +kernel
theorem d_Mod_act_28 : decode (ib f_Mod_act) 28 = .ok (.ifCond .eq 24, 3) := by decide +kernel
theorem d_Mod_act_31 : decode (ib f_Mod_act) 31 = .ok (.aload_n 0, 1) := by decide +kernel
theorem d_Mod_act_32 : decode (ib f_Mod_act) 32 = .ok (.iload_n 3, 1) := by decide +kernel
theorem d_Mod_act_33 : decode (ib f_Mod_act) 33 = .ok (.iconst 0, 1) := by decide +kernel
theorem d_Mod_act_34 : decode (ib f_Mod_act) 34 = .ok (.bipush 99, 2) := by decide +kernel
theorem d_Mod_act_36 : decode (ib f_Mod_act) 36 = .ok (.invokevirtual 135, 3) := by decide +kernel
theorem d_Mod_act_39 : decode (ib f_Mod_act) 39 = .ok (.ifCond .eq 13, 3) := by decide +kernel
theorem d_Mod_act_42 : decode (ib f_Mod_act) 42 = .ok (.aload_n 0, 1) := by decide +kernel
theorem d_Mod_act_43 : decode (ib f_Mod_act) 43 = .ok (.iload_n 1, 1) := by decide +kernel
theorem d_Mod_act_44 : decode (ib f_Mod_act) 44 = .ok (.iconst 0, 1) := by decide +kernel
theorem d_Mod_act_45 : decode (ib f_Mod_act) 45 = .ok (.iconst 1, 1) := by decide +kernel
theorem d_Mod_act_46 : decode (ib f_Mod_act) 46 = .ok (.invokevirtual 135, 3) := by decide +kernel
theorem d_Mod_act_49 : decode (ib f_Mod_act) 49 = .ok (.ifCond .ne 5, 3) := by decide +kernel
theorem d_Mod_act_52 : decode (ib f_Mod_act) 52 = .ok (.iconst 0, 1) := by decide +kernel
theorem d_Mod_act_53 : decode (ib f_Mod_act) 53 = .ok (.ireturn, 1) := by decide +kernel
theorem d_Mod_act_54 : decode (ib f_Mod_act) 54 = .ok (.aload_n 0, 1) := by decide +kernel
theorem d_Mod_act_55 : decode (ib f_Mod_act) 55 = .ok (.invokevirtual 345, 3) := by decide +kernel
theorem d_Mod_act_58 : decode (ib f_Mod_act) 58 = .ok (.iload_n 1, 1) := by decide +kernel
theorem d_Mod_act_59 : decode (ib f_Mod_act) 59 = .ok (.iconst 1, 1) := by decide +kernel
theorem d_Mod_act_60 : decode (ib f_Mod_act) 60 = .ok (.if_icmp .ne 11, 3) := by decide +kernel
theorem d_Mod_act_63 : decode (ib f_Mod_act) 63 = .ok (.aload_n 0, 1) := by decide +kernel
theorem d_Mod_act_64 : decode (ib f_Mod_act) 64 = .ok (.iload_n 2, 1) := by decide +kernel
theorem d_Mod_act_65 : decode (ib f_Mod_act) 65 = .ok (.iload_n 3, 1) := by decide +kernel
theorem d_Mod_act_66 : decode (ib f_Mod_act) 66 = .ok (.invokevirtual 145, 3) := by decide +kernel
theorem d_Mod_act_69 : decode (ib f_Mod_act) 69 = .ok (.iconst 1, 1) := by decide +kernel
theorem d_Mod_act_70 : decode (ib f_Mod_act) 70 = .ok (.ireturn, 1) := by decide +kernel
theorem d_Mod_act_71 : decode (ib f_Mod_act) 71 = .ok (.aload_n 0, 1) := by decide +kernel
theorem d_Mod_act_72 : decode (ib f_Mod_act) 72 = .ok (.iload_n 2, 1) := by decide +kernel
theorem d_Mod_act_73 : decode (ib f_Mod_act) 73 = .ok (.invokevirtual 139, 3) := by decide +kernel
theorem d_Mod_act_76 : decode (ib f_Mod_act) 76 = .ok (.istore 4, 2) := by decide +kernel
theorem d_Mod_act_78 : decode (ib f_Mod_act) 78 = .ok (.aload_n 0, 1) := by decide +kernel
theorem d_Mod_act_79 : decode (ib f_Mod_act) 79 = .ok (.getfield 7, 3) := by decide +kernel
theorem d_Mod_act_82 : decode (ib f_Mod_act) 82 = .ok (.bipush 7, 2) := by decide +kernel
theorem d_Mod_act_84 : decode (ib f_Mod_act) 84 = .ok (.aload_n 0, 1) := by decide +kernel
theorem d_Mod_act_85 : decode (ib f_Mod_act) 85 = .ok (.getfield 7, 3) := by decide +kernel
theorem d_Mod_act_88 : decode (ib f_Mod_act) 88 = .ok (.bipush 7, 2) := by decide +kernel
theorem d_Mod_act_90 : decode (ib f_Mod_act) 90 = .ok (.iaload, 1) := by decide +kernel
theorem d_Mod_act_91 : decode (ib f_Mod_act) 91 = .ok (.iconst 1, 1) := by decide +kernel
theorem d_Mod_act_92 : decode (ib f_Mod_act) 92 = .ok (.iadd, 1) := by decide +kernel
theorem d_Mod_act_93 : decode (ib f_Mod_act) 93 = .ok (.iastore, 1) := by decide +kernel
theorem d_Mod_act_94 : decode (ib f_Mod_act) 94 = .ok (.aload_n 0, 1) := by decide +kernel
theorem d_Mod_act_95 : decode (ib f_Mod_act) 95 = .ok (.iconst 5, 1) := by decide +kernel
theorem d_Mod_act_96 : decode (ib f_Mod_act) 96 = .ok (.iload_n 2, 1) := by decide +kernel
theorem d_Mod_act_97 : decode (ib f_Mod_act) 97 = .ok (.aload_n 0, 1) := by decide +kernel
theorem d_Mod_act_98 : decode (ib f_Mod_act) 98 = .ok (.getfield 7, 3) := by decide +kernel
theorem d_Mod_act_101 : decode (ib f_Mod_act) 101 = .ok (.aload_n 0, 1) := by decide +kernel
theorem d_Mod_act_102 : decode (ib f_Mod_act) 102 = .ok (.iload 4, 2) := by decide +kernel
theorem d_Mod_act_104 : decode (ib f_Mod_act) 104 = .ok (.invokevirtual 124, 3) := by decide +kernel
theorem d_Mod_act_107 : decode (ib f_Mod_act) 107 = .ok (.iconst 4, 1) := by decide +kernel
theorem d_Mod_act_108 : decode (ib f_Mod_act) 108 = .ok (.iadd, 1) := by decide +kernel
theorem d_Mod_act_109 : decode (ib f_Mod_act) 109 = .ok (.iaload, 1) := by decide +kernel
theorem d_Mod_act_110 : decode (ib f_Mod_act) 110 = .ok (.invokevirtual 328, 3) := by decide +kernel
theorem d_Mod_act_113 : decode (ib f_Mod_act) 113 = .ok (.aload_n 0, 1) := by decide +kernel
theorem d_Mod_act_114 : decode (ib f_Mod_act) 114 = .ok (.iload 4, 2) := by decide +kernel
theorem d_Mod_act_116 : decode (ib f_Mod_act) 116 = .ok (.invokevirtual 348, 3) := by decide +kernel
theorem d_Mod_act_119 : decode (ib f_Mod_act) 119 = .ok (.iconst 1, 1) := by decide +kernel
theorem d_Mod_act_120 : decode (ib f_Mod_act) 120 = .ok (.ireturn, 1) := by decide +kernel
theorem d_Mod_does_0 : decode (ib f_Mod_does) 0 = .ok (.aload_n 0, 1) := by decide +kernel
theorem d_Mod_does_1 : decode (ib f_Mod_does) 1 = .ok (.getfield 59, 3) := by decide +kernel
theorem d_Mod_does_4 : decode (ib f_Mod_does) 4 = .ok (.iload_n 1, 1) := by decide +kernel
theorem d_Mod_does_5 : decode (ib f_Mod_does) 5 = .ok (.iconst 1, 1) := by decide +kernel
theorem d_Mod_does_6 : decode (ib f_Mod_does) 6 = .ok (.iadd, 1) := by decide +kernel
theorem d_Mod_does_7 : decode (ib f_Mod_does) 7 = .ok (.iaload, 1) := by decide +kernel
theorem d_Mod_does_8 : decode (ib f_Mod_does) 8 = .ok (.istore_n 2, 1) := by decide +kernel
theorem d_Mod_does_9 : decode (ib f_Mod_does) 9 = .ok (.aload_n 0, 1) := by decide +kernel
theorem d_Mod_does_10 : decode (ib f_Mod_does) 10 = .ok (.getfield 59, 3) := by decide +kernel
theorem d_Mod_does_13 : decode (ib f_Mod_does) 13 = .ok (.iload_n 1, 1) := by decide +kernel
theorem d_Mod_does_14 : decode (ib f_Mod_does) 14 = .ok (.iconst 2, 1) := by decide +kernel
theorem d_Mod_does_15 : decode (ib f_Mod_does) 15 = .ok (.iadd, 1) := by decide +kernel
theorem d_Mod_does_16 : decode (ib f_Mod_does) 16 = .ok (.iaload, 1) := by decide +kernel
theorem d_Mod_does_17 : decode (ib f_Mod_does) 17 = .ok (.istore_n 3, 1) := by decide +kernel
theorem d_Mod_does_18 : decode (ib f_Mod_does) 18 = .ok (.iload_n 2, 1) := by decide +kernel
theorem d_Mod_does_19 : decode (ib f_Mod_does) 19 = .ok (.ifCond .ne 10, 3) := by decide +kernel
theorem d_Mod_does_22 : decode (ib f_Mod_does) 22 = .ok (.aload_n 0, 1) := by decide +kernel
theorem d_Mod_does_23 : decode (ib f_Mod_does) 23 = .ok (.getfield 7, 3) := by decide +kernel
theorem d_Mod_does_26 : decode (ib f_Mod_does) 26 = .ok (.iconst 3, 1) := by decide +kernel
theorem d_Mod_does_27 : decode (ib f_Mod_does) 27 = .ok (.iload_n 3, 1) := by decide +kernel
theorem d_Mod_does_28 : decode (ib f_Mod_does) 28 = .ok (.iastore, 1) := by decide +kernel
theorem d_Mod_does_29 : decode (ib f_Mod_does) 29 = .ok (.iload_n 2, 1) := by decide +kernel
theorem d_Mod_does_30 : decode (ib f_Mod_does) 30 = .ok (.iconst 1, 1) := by decide +kernel
theorem d_Mod_does_31 : decode (ib f_Mod_does) 31 = .ok (.if_icmp .ne 10, 3) := by decide +kernel
theorem d_Mod_does_34 : decode (ib f_Mod_does) 34 = .ok (.aload_n 0, 1) := by decide +kernel
theorem d_Mod_does_35 : decode (ib f_Mod_does) 35 = .ok (.getfield 7, 3) := by decide +kernel
theorem d_Mod_does_38 : decode (ib f_Mod_does) 38 = .ok (.iconst 4, 1) := by decide +kernel
theorem d_Mod_does_39 : decode (ib f_Mod_does) 39 = .ok (.iload_n 3, 1) := by decide +kernel
theorem d_Mod_does_40 : decode (ib f_Mod_does) 40 = .ok (.iastore, 1) := by decide +kernel
theorem d_Mod_does_41 : decode (ib f_Mod_does) 41 = .ok (.iload_n 2, 1) := by decide +kernel
theorem d_Mod_does_42 : decode (ib f_Mod_does) 42 = .ok (.iconst 2, 1) := by decide +kernel
theorem d_Mod_does_43 : decode (ib f_Mod_does) 43 = .ok (.if_icmp .ne 16, 3) := by decide +kernel
theorem d_Mod_does_46 : decode (ib f_Mod_does) 46 = .ok (.aload_n 0, 1) := by decide +kernel
theorem d_Mod_does_47 : decode (ib f_Mod_does) 47 = .ok (.iload_n 3, 1) := by decide +kernel
theorem d_Mod_does_48 : decode (ib f_Mod_does) 48 = .ok (.aload_n 0, 1) := by decide +kernel
theorem d_Mod_does_49 : decode (ib f_Mod_does) 49 = .ok (.getfield 59, 3) := by decide +kernel
theorem d_Mod_does_52 : decode (ib f_Mod_does) 52 = .ok (.iload_n 1, 1) := by decide +kernel
theorem d_Mod_does_53 : decode (ib f_Mod_does) 53 = .ok (.iconst 3, 1) := by decide +kernel
theorem d_Mod_does_54 : decode (ib f_Mod_does) 54 = .ok (.iadd, 1) := by decide +kernel
theorem d_Mod_does_55 : decode (ib f_Mod_does) 55 = .ok (.iaload, 1) := by decide +kernel
theorem d_Mod_does_56 : decode (ib f_Mod_does) 56 = .ok (.invokevirtual 145, 3) := by decide +kernel
theorem d_Mod_does_59 : decode (ib f_Mod_does) 59 = .ok (.iconst 0, 1) := by decide +kernel
theorem d_Mod_does_60 : decode (ib f_Mod_does) 60 = .ok (.istore 4, 2) := by decide +kernel
theorem d_Mod_does_62 : decode (ib f_Mod_does) 62 = .ok (.iload 4, 2) := by decide +kernel
theorem d_Mod_does_64 : decode (ib f_Mod_does) 64 = .ok (.bipush 60, 2) := by decide +kernel
theorem d_Mod_does_66 : decode (ib f_Mod_does) 66 = .ok (.if_icmp .ge 28, 3) := by decide +kernel
theorem d_Mod_does_69 : decode (ib f_Mod_does) 69 = .ok (.iload_n 2, 1) := by decide +kernel
theorem d_Mod_does_70 : decode (ib f_Mod_does) 70 = .ok (.iconst 3, 1) := by decide +kernel
theorem d_Mod_does_71 : decode (ib f_Mod_does) 71 = .ok (.if_icmp .ne 23, 3) := by decide +kernel
theorem d_Mod_does_74 : decode (ib f_Mod_does) 74 = .ok (.aload_n 0, 1) := by decide +kernel
theorem d_Mod_does_75 : decode (ib f_Mod_does) 75 = .ok (.iload 4, 2) := by decide +kernel
theorem d_Mod_does_77 : decode (ib f_Mod_does) 77 = .ok (.aload_n 0, 1) := by decide +kernel
theorem d_Mod_does_78 : decode (ib f_Mod_does) 78 = .ok (.iload 4, 2) := by decide +kernel
theorem d_Mod_does_80 : decode (ib f_Mod_does) 80 = .ok (.invokevirtual 309, 3) := by decide +kernel
theorem d_Mod_does_83 : decode (ib f_Mod_does) 83 = .ok (.iload_n 3, 1) := by decide +kernel
theorem d_Mod_does_84 : decode (ib f_Mod_does) 84 = .ok (.isub, 1) := by decide +kernel
theorem d_Mod_does_85 : decode (ib f_Mod_does) 85 = .ok (.invokevirtual 145, 3) := by decide +kernel
theorem d_Mod_does_88 : decode (ib f_Mod_does) 88 = .ok (.iinc 4 1, 3) := by decide +kernel
theorem d_Mod_does_91 : decode (ib f_Mod_does) 91 = .ok (.goto (-29), 3) := by decide +kernel
theorem d_Mod_does_94 : decode (ib f_Mod_does) 94 = .ok (.return_, 1) := by decide +kernel
theorem d_Mod_isFreed_0 : decode (ib f_Mod_isFreed) 0 = .ok (.aload_n 0, 1) := by decide +kernel
theorem d_Mod_isFreed_1 : decode (ib f_Mod_isFreed) 1 = .ok (.iload_n 1, 1) := by decide +kernel
theorem d_Mod_isFreed_2 : decode (ib f_Mod_isFreed) 2 = .ok (.invokevirtual 124, 3) := by decide +kernel
theorem d_Mod_isFreed_5 : decode (ib f_Mod_isFreed) 5 = .ok (.istore_n 2, 1) := by decide +kernel
theorem d_Mod_isFreed_6 : decode (ib f_Mod_isFreed) 6 = .ok (.aload_n 0, 1) := by decide +kernel
theorem d_Mod_isFreed_7 : decode (ib f_Mod_isFreed) 7 = .ok (.iload_n 1, 1) := by decide +kernel
theorem d_Mod_isFreed_8 : decode (ib f_Mod_isFreed) 8 = .ok (.invokevirtual 351, 3) := by decide +kernel
theorem d_Mod_isFreed_11 : decode (ib f_Mod_isFreed) 11 = .ok (.istore_n 3, 1) := by decide +kernel
theorem d_Mod_isFreed_12 : decode (ib f_Mod_isFreed) 12 = .ok (.aload_n 0, 1) := by decide +kernel
theorem d_Mod_isFreed_13 : decode (ib f_Mod_isFreed) 13 = .ok (.getfield 114, 3) := by decide +kernel
theorem d_Mod_isFreed_16 : decode (ib f_Mod_isFreed) 16 = .ok (.ifCond .eq 20, 3) := by decide +kernel
theorem d_Mod_isFreed_19 : decode (ib f_Mod_isFreed) 19 = .ok (.iconst 2, 1) := by decide +kernel
theorem d_Mod_isFreed_20 : decode (ib f_Mod_isFreed) 20 = .ok (.iload_n 3, 1) := by decide +kernel
theorem d_Mod_isFreed_21 : decode (ib f_Mod_isFreed) 21 = .ok (.imul, 1) := by decide +kernel
theorem d_Mod_isFreed_22 : decode (ib f_Mod_isFreed) 22 = .ok (.sipush 1000, 3) := by decide +kernel
theorem d_Mod_isFreed_25 : decode (ib f_Mod_isFreed) 25 = .ok (.if_icmp .lt 7, 3) := by decide +kernel
theorem d_Mod_isFreed_28 : decode (ib f_Mod_isFreed) 28 = .ok (.iconst 1, 1) := by decide +kernel
theorem d_Mod_isFreed_29 : decode (ib f_Mod_isFreed) 29 = .ok (.goto 27, 3) := by decide +kernel
theorem d_Mod_isFreed_32 : decode (ib f_Mod_isFreed) 32 = .ok (.iconst 0, 1) := by decide +kernel
theorem d_Mod_isFreed_33 : decode (ib f_Mod_isFreed) 33 = .ok (.goto 23, 3) := by decide +kernel
theorem d_Mod_isFreed_36 : decode (ib f_Mod_isFreed) 36 = .ok (.iload_n 3, 1) := by decide +kernel
theorem d_Mod_isFreed_37 : decode (ib f_Mod_isFreed) 37 = .ok (.ifCond .le 18, 3) := by decide +kernel
theorem d_Mod_isFreed_40 : decode (ib f_Mod_isFreed) 40 = .ok (.aload_n 0, 1) := by decide +kernel
theorem d_Mod_isFreed_41 : decode (ib f_Mod_isFreed) 41 = .ok (.sipush 1000, 3) := by decide +kernel
theorem d_Mod_isFreed_44 : decode (ib f_Mod_isFreed) 44 = .ok (.invokevirtual 338, 3) := by decide +kernel
theorem d_Mod_isFreed_47 : decode (ib f_Mod_isFreed) 47 = .ok (.iload_n 3, 1) := by decide +kernel
theorem d_Mod_isFreed_48 : decode (ib f_Mod_isFreed) 48 = .ok (.if_icmp .ge 7, 3) := by decide +kernel
theorem d_Mod_isFreed_51 : decode (ib f_Mod_isFreed) 51 = .ok (.iconst 1, 1) := by decide +kernel
theorem d_Mod_isFreed_52 : decode (ib f_Mod_isFreed) 52 = .ok (.goto 4, 3) := by decide +kernel
theorem d_Mod_isFreed_55 : decode (ib f_Mod_isFreed) 55 = .ok (.iconst 0, 1) := by decide +kernel
theorem d_Mod_isFreed_56 : decode (ib f_Mod_isFreed) 56 = .ok (.istore 4, 2) := by decide +kernel
theorem d_Mod_isFreed_58 : decode (ib f_Mod_isFreed) 58 = .ok (.iload 4, 2) := by decide +kernel
theorem d_Mod_isFreed_60 : decode (ib f_Mod_isFreed) 60 = .ok (.ifCond .ne 5, 3) := by decide +kernel
theorem d_Mod_isFreed_63 : decode (ib f_Mod_isFreed) 63 = .ok (.iconst 0, 1) := by decide +kernel
theorem d_Mod_isFreed_64 : decode (ib f_Mod_isFreed) 64 = .ok (.ireturn, 1) := by decide +kernel
theorem d_Mod_isFreed_65 : decode (ib f_Mod_isFreed) 65 = .ok (.aload_n 0, 1) := by decide +kernel
theorem d_Mod_isFreed_66 : decode (ib f_Mod_isFreed) 66 = .ok (.getfield 7, 3) := by decide +kernel
theorem d_Mod_isFreed_69 : decode (ib f_Mod_isFreed) 69 = .ok (.iload_n 2, 1) := by decide +kernel
theorem d_Mod_isFreed_70 : decode (ib f_Mod_isFreed) 70 = .ok (.bipush 6, 2) := by decide +kernel
theorem d_Mod_isFreed_72 : decode (ib f_Mod_isFreed) 72 = .ok (.iadd, 1) := by decide +kernel
theorem d_Mod_isFreed_73 : decode (ib f_Mod_isFreed) 73 = .ok (.iaload, 1) := by decide +kernel
theorem d_Mod_isFreed_74 : decode (ib f_Mod_isFreed) 74 = .ok (.iconst 1, 1) := by decide +kernel
theorem d_Mod_isFreed_75 : decode (ib f_Mod_isFreed) 75 = .ok (.if_icmp .le 101, 3) := by decide +kernel
theorem d_Mod_isFreed_78 : decode (ib f_Mod_isFreed) 78 = .ok (.aload_n 0, 1) := by decide +kernel
theorem d_Mod_isFreed_79 : decode (ib f_Mod_isFreed) 79 = .ok (.getfield 7, 3) := by decide +kernel
theorem d_Mod_isFreed_82 : decode (ib f_Mod_isFreed) 82 = .ok (.iload_n 2, 1) := by decide +kernel
theorem d_Mod_isFreed_83 : decode (ib f_Mod_isFreed) 83 = .ok (.bipush 6, 2) := by decide +kernel
theorem d_Mod_isFreed_85 : decode (ib f_Mod_isFreed) 85 = .ok (.iadd, 1) := by decide +kernel
theorem d_Mod_isFreed_86 : decode (ib f_Mod_isFreed) 86 = .ok (.aload_n 0, 1) := by decide +kernel
theorem d_Mod_isFreed_87 : decode (ib f_Mod_isFreed) 87 = .ok (.getfield 7, 3) := by decide +kernel
theorem d_Mod_isFreed_90 : decode (ib f_Mod_isFreed) 90 = .ok (.iload_n 2, 1) := by decide +kernel
theorem d_Mod_isFreed_91 : decode (ib f_Mod_isFreed) 91 = .ok (.bipush 6, 2) := by decide +kernel
theorem d_Mod_isFreed_93 : decode (ib f_Mod_isFreed) 93 = .ok (.iadd, 1) := by decide +kernel
theorem d_Mod_isFreed_94 : decode (ib f_Mod_isFreed) 94 = .ok (.iaload, 1) := by decide +kernel
theorem d_Mod_isFreed_95 : decode (ib f_Mod_isFreed) 95 = .ok (.iconst 1, 1) := by decide +kernel
theorem d_Mod_isFreed_96 : decode (ib f_Mod_isFreed) 96 = .ok (.isub, 1) := by decide +kernel
theorem d_Mod_isFreed_97 : decode (ib f_Mod_isFreed) 97 = .ok (.iastore, 1) := by decide +kernel
theorem d_Mod_isFreed_98 : decode (ib f_Mod_isFreed) 98 = .ok (.aload_n 0, 1) := by decide +kernel
theorem d_Mod_isFreed_99 : decode (ib f_Mod_isFreed) 99 = .ok (.getfield 7, 3) := by decide +kernel
theorem d_Mod_isFreed_102 : decode (ib f_Mod_isFreed) 102 = .ok (.bipush 70, 2) := by decide +kernel
theorem d_Mod_isFreed_104 : decode (ib f_Mod_isFreed) 104 = .ok (.aload_n 0, 1) := by decide +kernel
theorem d_Mod_isFreed_105 : decode (ib f_Mod_isFreed) 105 = .ok (.getfield 7, 3) := by decide +kernel
theorem d_Mod_isFreed_108 : decode (ib f_Mod_isFreed) 108 = .ok (.iload_n 2, 1) := by decide +kernel
theorem d_Mod_isFreed_109 : decode (ib f_Mod_isFreed) 109 = .ok (.iconst 4, 1) := by decide +kernel
theorem d_Mod_isFreed_110 : decode (ib f_Mod_isFreed) 110 = .ok (.iadd, 1) := by decide +kernel
theorem d_Mod_isFreed_111 : decode (ib f_Mod_isFreed) 111 = .ok (.iaload, 1) := by decide +kernel
theorem d_Mod_isFreed_112 : decode (ib f_Mod_isFreed) 112 = .ok (.iadd, 1) := by decide +kernel
theorem d_Mod_isFreed_113 : decode (ib f_Mod_isFreed) 113 = .ok (.aload_n 0, 1) := by decide +kernel
theorem d_Mod_isFreed_114 : decode (ib f_Mod_isFreed) 114 = .ok (.getfield 7, 3) := by decide +kernel
theorem d_Mod_isFreed_117 : decode (ib f_Mod_isFreed) 117 = .ok (.bipush 70, 2) := by decide +kernel
theorem d_Mod_isFreed_119 : decode (ib f_Mod_isFreed) 119 = .ok (.aload_n 0, 1) := by decide +kernel
theorem d_Mod_isFreed_120 : decode (ib f_Mod_isFreed) 120 = .ok (.getfield 7, 3) := by decide +kernel
theorem d_Mod_isFreed_123 : decode (ib f_Mod_isFreed) 123 = .ok (.iload_n 2, 1) := by decide +kernel
theorem d_Mod_isFreed_124 : decode (ib f_Mod_isFreed) 124 = .ok (.iconst 4, 1) := by decide +kernel
theorem d_Mod_isFreed_125 : decode (ib f_Mod_isFreed) 125 = .ok (.iadd, 1) := by decide +kernel
theorem d_Mod_isFreed_126 : decode (ib f_Mod_isFreed) 126 = .ok (.iaload, 1) := by decide +kernel
theorem d_Mod_isFreed_127 : decode (ib f_Mod_isFreed) 127 = .ok (.iadd, 1) := by decide +kernel
theorem d_Mod_isFreed_128 : decode (ib f_Mod_isFreed) 128 = .ok (.iaload, 1) := by decide +kernel
theorem d_Mod_isFreed_129 : decode (ib f_Mod_isFreed) 129 = .ok (.iconst 1, 1) := by decide +kernel
theorem d_Mod_isFreed_130 : decode (ib f_Mod_isFreed) 130 = .ok (.iadd, 1) := by decide +kernel
theorem d_Mod_isFreed_131 : decode (ib f_Mod_isFreed) 131 = .ok (.iastore, 1) := by decide +kernel
theorem d_Mod_isFreed_132 : decode (ib f_Mod_isFreed) 132 = .ok (.aload_n 0, 1) := by decide +kernel
theorem d_Mod_isFreed_133 : decode (ib f_Mod_isFreed) 133 = .ok (.getfield 7, 3) := by decide +kernel
theorem d_Mod_isFreed_136 : decode (ib f_Mod_isFreed) 136 = .ok (.iload_n 2, 1) := by decide +kernel
theorem d_Mod_isFreed_137 : decode (ib f_Mod_isFreed) 137 = .ok (.iconst 3, 1) := by decide +kernel
theorem d_Mod_isFreed_138 : decode (ib f_Mod_isFreed) 138 = .ok (.iadd, 1) := by decide +kernel
theorem d_Mod_isFreed_139 : decode (ib f_Mod_isFreed) 139 = .ok (.aload_n 0, 1) := by decide +kernel
theorem d_Mod_isFreed_140 : decode (ib f_Mod_isFreed) 140 = .ok (.iconst 0, 1) := by decide +kernel
theorem d_Mod_isFreed_141 : decode (ib f_Mod_isFreed) 141 = .ok (.aload_n 0, 1) := by decide +kernel
theorem d_Mod_isFreed_142 : decode (ib f_Mod_isFreed) 142 = .ok (.getfield 7, 3) := by decide +kernel
theorem d_Mod_isFreed_145 : decode (ib f_Mod_isFreed) 145 = .ok (.iload_n 2, 1) := by decide +kernel
theorem d_Mod_isFreed_146 : decode (ib f_Mod_isFreed) 146 = .ok (.iconst 3, 1) := by decide +kernel
theorem d_Mod_isFreed_147 : decode (ib f_Mod_isFreed) 147 = .ok (.iadd, 1) := by decide +kernel
theorem d_Mod_isFreed_148 : decode (ib f_Mod_isFreed) 148 = .ok (.iaload, 1) := by decide +kernel
theorem d_Mod_isFreed_149 : decode (ib f_Mod_isFreed) 149 = .ok (.iconst 1, 1) := by decide +kernel
theorem d_Mod_isFreed_150 : decode (ib f_Mod_isFreed) 150 = .ok (.isub, 1) := by decide +kernel
theorem d_Mod_isFreed_151 : decode (ib f_Mod_isFreed) 151 = .ok (.invokevirtual 354, 3) := by decide +kernel
theorem d_Mod_isFreed_154 : decode (ib f_Mod_isFreed) 154 = .ok (.iastore, 1) := by decide +kernel
theorem d_Mod_isFreed_155 : decode (ib f_Mod_isFreed) 155 = .ok (.aload_n 0, 1) := by decide +kernel
theorem d_Mod_isFreed_156 : decode (ib f_Mod_isFreed) 156 = .ok (.iconst 2, 1) := by decide +kernel
theorem d_Mod_isFreed_157 : decode (ib f_Mod_isFreed) 157 = .ok (.aload_n 0, 1) := by decide +kernel
theorem d_Mod_isFreed_158 : decode (ib f_Mod_isFreed) 158 = .ok (.getfield 7, 3) := by decide +kernel
theorem d_Mod_isFreed_161 : decode (ib f_Mod_isFreed) 161 = .ok (.iload_n 2, 1) := by decide +kernel
theorem d_Mod_isFreed_162 : decode (ib f_Mod_isFreed) 162 = .ok (.iaload, 1) := by decide +kernel
theorem d_Mod_isFreed_163 : decode (ib f_Mod_isFreed) 163 = .ok (.aload_n 0, 1) := by decide +kernel
theorem d_Mod_isFreed_164 : decode (ib f_Mod_isFreed) 164 = .ok (.getfield 7, 3) := by decide +kernel
theorem d_Mod_isFreed_167 : decode (ib f_Mod_isFreed) 167 = .ok (.iload_n 2, 1) := by decide +kernel
theorem d_Mod_isFreed_168 : decode (ib f_Mod_isFreed) 168 = .ok (.iconst 4, 1) := by decide +kernel
theorem d_Mod_isFreed_169 : decode (ib f_Mod_isFreed) 169 = .ok (.iadd, 1) := by decide +kernel
theorem d_Mod_isFreed_170 : decode (ib f_Mod_isFreed) 170 = .ok (.iaload, 1) := by decide +kernel
theorem d_Mod_isFreed_171 : decode (ib f_Mod_isFreed) 171 = .ok (.invokevirtual 328, 3) := by decide +kernel
theorem d_Mod_isFreed_174 : decode (ib f_Mod_isFreed) 174 = .ok (.iconst 0, 1) := by decide +kernel
theorem d_Mod_isFreed_175 : decode (ib f_Mod_isFreed) 175 = .ok (.ireturn, 1) := by decide +kernel
theorem d_Mod_isFreed_176 : decode (ib f_Mod_isFreed) 176 = .ok (.aload_n 0, 1) := by decide +kernel
theorem d_Mod_isFreed_177 : decode (ib f_Mod_isFreed) 177 = .ok (.getfield 7, 3) := by decide +kernel
theorem d_Mod_isFreed_180 : decode (ib f_Mod_isFreed) 180 = .ok (.bipush 6, 2) := by decide +kernel
theorem d_Mod_isFreed_182 : decode (ib f_Mod_isFreed) 182 = .ok (.aload_n 0, 1) := by decide +kernel
theorem d_Mod_isFreed_183 : decode (ib f_Mod_isFreed) 183 = .ok (.getfield 7, 3) := by decide +kernel
theorem d_Mod_isFreed_186 : decode (ib f_Mod_isFreed) 186 = .ok (.bipush 6, 2) := by decide +kernel
theorem d_Mod_isFreed_188 : decode (ib f_Mod_isFreed) 188 = .ok (.iaload, 1) := by decide +kernel
theorem d_Mod_isFreed_189 : decode (ib f_Mod_isFreed) 189 = .ok (.iconst 1, 1) := by decide +kernel
theorem d_Mod_isFreed_190 : decode (ib f_Mod_isFreed) 190 = .ok (.iadd, 1) := by decide +kernel
theorem d_Mod_isFreed_191 : decode (ib f_Mod_isFreed) 191 = .ok (.iastore, 1) := by decide +kernel
theorem d_Mod_isFreed_192 : decode (ib f_Mod_isFreed) 192 = .ok (.aload_n 0, 1) := by decide +kernel
theorem d_Mod_isFreed_193 : decode (ib f_Mod_isFreed) 193 = .ok (.iconst 3, 1) := by decide +kernel
theorem d_Mod_isFreed_194 : decode (ib f_Mod_isFreed) 194 = .ok (.aload_n 0, 1) := by decide +kernel
theorem d_Mod_isFreed_195 : decode (ib f_Mod_isFreed) 195 = .ok (.getfield 7, 3) := by decide +kernel
theorem d_Mod_isFreed_198 : decode (ib f_Mod_isFreed) 198 = .ok (.iload_n 2, 1) := by decide +kernel
theorem d_Mod_isFreed_199 : decode (ib f_Mod_isFreed) 199 = .ok (.iaload, 1) := by decide +kernel
theorem d_Mod_isFreed_200 : decode (ib f_Mod_isFreed) 200 = .ok (.aload_n 0, 1) := by decide +kernel
theorem d_Mod_isFreed_201 : decode (ib f_Mod_isFreed) 201 = .ok (.getfield 7, 3) := by decide +kernel
theorem d_Mod_isFreed_204 : decode (ib f_Mod_isFreed) 204 = .ok (.iload_n 2, 1) := by decide +kernel
theorem d_Mod_isFreed_205 : decode (ib f_Mod_isFreed) 205 = .ok (.iconst 4, 1) := by decide +kernel
theorem d_Mod_isFreed_206 : decode (ib f_Mod_isFreed) 206 = .ok (.iadd, 1) := by decide +kernel
theorem d_Mod_isFreed_207 : decode (ib f_Mod_isFreed) 207 = .ok (.iaload, 1) := by decide +kernel
theorem d_Mod_isFreed_208 : decode (ib f_Mod_isFreed) 208 = .ok (.invokevirtual 328, 3) := by decide +kernel
theorem d_Mod_isFreed_211 : decode (ib f_Mod_isFreed) 211 = .ok (.aload_n 0, 1) := by decide +kernel
theorem d_Mod_isFreed_212 : decode (ib f_Mod_isFreed) 212 = .ok (.iload_n 1, 1) := by decide +kernel
theorem d_Mod_isFreed_213 : decode (ib f_Mod_isFreed) 213 = .ok (.invokevirtual 348, 3) := by decide +kernel
theorem d_Mod_isFreed_216 : decode (ib f_Mod_isFreed) 216 = .ok (.iconst 1, 1) := by decide +kernel
theorem d_Mod_isFreed_217 : decode (ib f_Mod_isFreed) 217 = .ok (.ireturn, 1) := by decide +kernel
theorem d_Mod_fallsOff_0 : decode (ib f_Mod_fallsOff) 0 = .ok (.aload_n 0, 1) := by decide +kernel
theorem d_Mod_fallsOff_1 : decode (ib f_Mod_fallsOff) 1 = .ok (.iload_n 1, 1) := by decide +kernel
theorem d_Mod_fallsOff_2 : decode (ib f_Mod_fallsOff) 2 = .ok (.invokevirtual 124, 3) := by decide +kernel
theorem d_Mod_fallsOff_5 : decode (ib f_Mod_fallsOff) 5 = .ok (.istore_n 2, 1) := by decide +kernel
theorem d_Mod_fallsOff_6 : decode (ib f_Mod_fallsOff) 6 = .ok (.aload_n 0, 1) := by decide +kernel
theorem d_Mod_fallsOff_7 : decode (ib f_Mod_fallsOff) 7 = .ok (.iload_n 1, 1) := by decide +kernel
theorem d_Mod_fallsOff_8 : decode (ib f_Mod_fallsOff) 8 = .ok (.invokevirtual 357, 3) := by decide +kernel
theorem d_Mod_fallsOff_11 : decode (ib f_Mod_fallsOff) 11 = .ok (.istore_n 3, 1) := by decide +kernel
theorem d_Mod_fallsOff_12 : decode (ib f_Mod_fallsOff) 12 = .ok (.iconst 0, 1) := by decide +kernel
theorem d_Mod_fallsOff_13 : decode (ib f_Mod_fallsOff) 13 = .ok (.istore 4, 2) := by decide +kernel
theorem d_Mod_fallsOff_15 : decode (ib f_Mod_fallsOff) 15 = .ok (.iload 4, 2) := by decide +kernel
theorem d_Mod_fallsOff_17 : decode (ib f_Mod_fallsOff) 17 = .ok (.iload_n 3, 1) := by decide +kernel
theorem d_Mod_fallsOff_18 : decode (ib f_Mod_fallsOff) 18 = .ok (.if_icmp .ge 87, 3) := by decide +kernel
theorem d_Mod_fallsOff_21 : decode (ib f_Mod_fallsOff) 21 = .ok (.aload_n 0, 1) := by decide +kernel
theorem d_Mod_fallsOff_22 : decode (ib f_Mod_fallsOff) 22 = .ok (.getfield 7, 3) := by decide +kernel
theorem d_Mod_fallsOff_25 : decode (ib f_Mod_fallsOff) 25 = .ok (.iload_n 2, 1) := by decide +kernel
theorem d_Mod_fallsOff_26 : decode (ib f_Mod_fallsOff) 26 = .ok (.iconst 4, 1) := by decide +kernel
theorem d_Mod_fallsOff_27 : decode (ib f_Mod_fallsOff) 27 = .ok (.iadd, 1) := by decide +kernel
theorem d_Mod_fallsOff_28 : decode (ib f_Mod_fallsOff) 28 = .ok (.iaload, 1) := by decide +kernel
theorem d_Mod_fallsOff_29 : decode (ib f_Mod_fallsOff) 29 = .ok (.istore 5, 2) := by decide +kernel
theorem d_Mod_fallsOff_31 : decode (ib f_Mod_fallsOff) 31 = .ok (.iload 5, 2) := by decide +kernel
theorem d_Mod_fallsOff_33 : decode (ib f_Mod_fallsOff) 33 = .ok (.bipush 59, 2) := by decide +kernel
theorem d_Mod_fallsOff_35 : decode (ib f_Mod_fallsOff) 35 = .ok (.if_icmp .ne 39, 3) := by decide +kernel
theorem d_Mod_fallsOff_38 : decode (ib f_Mod_fallsOff) 38 = .ok (.aload_n 0, 1) := by decide +kernel
theorem d_Mod_fallsOff_39 : decode (ib f_Mod_fallsOff) 39 = .ok (.getfield 7, 3) := by decide +kernel
theorem d_Mod_fallsOff_42 : decode (ib f_Mod_fallsOff) 42 = .ok (.bipush 6, 2) := by decide +kernel
theorem d_Mod_fallsOff_44 : decode (ib f_Mod_fallsOff) 44 = .ok (.aload_n 0, 1) := by decide +kernel
theorem d_Mod_fallsOff_45 : decode (ib f_Mod_fallsOff) 45 = .ok (.getfield 7, 3) := by decide +kernel
theorem d_Mod_fallsOff_48 : decode (ib f_Mod_fallsOff) 48 = .ok (.bipush 6, 2) := by decide +kernel
theorem d_Mod_fallsOff_50 : decode (ib f_Mod_fallsOff) 50 = .ok (.iaload, 1) := by decide +kernel
theorem d_Mod_fallsOff_51 : decode (ib f_Mod_fallsOff) 51 = .ok (.iconst 1, 1) := by decide +kernel
theorem d_Mod_fallsOff_52 : decode (ib f_Mod_fallsOff) 52 = .ok (.iadd, 1) := by decide +kernel
theorem d_Mod_fallsOff_53 : decode (ib f_Mod_fallsOff) 53 = .ok (.iastore, 1) := by decide +kernel
theorem d_Mod_fallsOff_54 : decode (ib f_Mod_fallsOff) 54 = .ok (.aload_n 0, 1) := by decide +kernel
theorem d_Mod_fallsOff_55 : decode (ib f_Mod_fallsOff) 55 = .ok (.iconst 4, 1) := by decide +kernel
theorem d_Mod_fallsOff_56 : decode (ib f_Mod_fallsOff) 56 = .ok (.aload_n 0, 1) := by decide +kernel
theorem d_Mod_fallsOff_57 : decode (ib f_Mod_fallsOff) 57 = .ok (.getfield 7, 3) := by decide +kernel
theorem d_Mod_fallsOff_60 : decode (ib f_Mod_fallsOff) 60 = .ok (.iload_n 2, 1) := by decide +kernel
theorem d_Mod_fallsOff_61 : decode (ib f_Mod_fallsOff) 61 = .ok (.iaload, 1) := by decide +kernel
theorem d_Mod_fallsOff_62 : decode (ib f_Mod_fallsOff) 62 = .ok (.iload 5, 2) := by decide +kernel
theorem d_Mod_fallsOff_64 : decode (ib f_Mod_fallsOff) 64 = .ok (.invokevirtual 328, 3) := by decide +kernel
theorem d_Mod_fallsOff_67 : decode (ib f_Mod_fallsOff) 67 = .ok (.aload_n 0, 1) := by decide +kernel
theorem d_Mod_fallsOff_68 : decode (ib f_Mod_fallsOff) 68 = .ok (.iload_n 1, 1) := by decide +kernel
theorem d_Mod_fallsOff_69 : decode (ib f_Mod_fallsOff) 69 = .ok (.invokevirtual 348, 3) := by decide +kernel
theorem d_Mod_fallsOff_72 : decode (ib f_Mod_fallsOff) 72 = .ok (.iconst 1, 1) := by decide +kernel
theorem d_Mod_fallsOff_73 : decode (ib f_Mod_fallsOff) 73 = .ok (.ireturn, 1) := by decide +kernel
theorem d_Mod_fallsOff_74 : decode (ib f_Mod_fallsOff) 74 = .ok (.aload_n 0, 1) := by decide +kernel
theorem d_Mod_fallsOff_75 : decode (ib f_Mod_fallsOff) 75 = .ok (.iload 5, 2) := by decide +kernel
theorem d_Mod_fallsOff_77 : decode (ib f_Mod_fallsOff) 77 = .ok (.iconst 1, 1) := by decide +kernel
theorem d_Mod_fallsOff_78 : decode (ib f_Mod_fallsOff) 78 = .ok (.iadd, 1) := by decide +kernel
theorem d_Mod_fallsOff_79 : decode (ib f_Mod_fallsOff) 79 = .ok (.invokevirtual 332, 3) := by decide +kernel
theorem d_Mod_fallsOff_82 : decode (ib f_Mod_fallsOff) 82 = .ok (.ifCond .eq 5, 3) := by decide +kernel
theorem d_Mod_fallsOff_85 : decode (ib f_Mod_fallsOff) 85 = .ok (.iconst 0, 1) := by decide +kernel
theorem d_Mod_fallsOff_86 : decode (ib f_Mod_fallsOff) 86 = .ok (.ireturn, 1) := by decide +kernel
theorem d_Mod_fallsOff_87 : decode (ib f_Mod_fallsOff) 87 = .ok (.aload_n 0, 1) := by decide +kernel
theorem d_Mod_fallsOff_88 : decode (ib f_Mod_fallsOff) 88 = .ok (.getfield 7, 3) := by decide +kernel
theorem d_Mod_fallsOff_91 : decode (ib f_Mod_fallsOff) 91 = .ok (.iload_n 2, 1) := by decide +kernel
theorem d_Mod_fallsOff_92 : decode (ib f_Mod_fallsOff) 92 = .ok (.iconst 4, 1) := by decide +kernel
theorem d_Mod_fallsOff_93 : decode (ib f_Mod_fallsOff) 93 = .ok (.iadd, 1) := by decide +kernel
theorem d_Mod_fallsOff_94 : decode (ib f_Mod_fallsOff) 94 = .ok (.iload 5, 2) := by decide +kernel
theorem d_Mod_fallsOff_96 : decode (ib f_Mod_fallsOff) 96 = .ok (.iconst 1, 1) := by decide +kernel
theorem d_Mod_fallsOff_97 : decode (ib f_Mod_fallsOff) 97 = .ok (.iadd, 1) := by decide +kernel
theorem d_Mod_fallsOff_98 : decode (ib f_Mod_fallsOff) 98 = .ok (.iastore, 1) := by decide +kernel
theorem d_Mod_fallsOff_99 : decode (ib f_Mod_fallsOff) 99 = .ok (.iinc 4 1, 3) := by decide +kernel
theorem d_Mod_fallsOff_102 : decode (ib f_Mod_fallsOff) 102 = .ok (.goto (-87), 3) := by decide +kernel
theorem d_Mod_fallsOff_105 : decode (ib f_Mod_fallsOff) 105 = .ok (.iconst 0, 1) := by decide +kernel
theorem d_Mod_fallsOff_106 : decode (ib f_Mod_fallsOff) 106 = .ok (.ireturn, 1) := by decide +kernel
theorem d_Mod_evening_0 : decode (ib f_Mod_evening) 0 = .ok (.iconst 0, 1) := by decide +kernel
theorem d_Mod_evening_1 : decode (ib f_Mod_evening) 1 = .ok (.istore_n 1, 1) := by decide +kernel
theorem d_Mod_evening_2 : decode (ib f_Mod_evening) 2 = .ok (.iload_n 1, 1) := by decide +kernel
theorem d_Mod_evening_3 : decode (ib f_Mod_evening) 3 = .ok (.aload_n 0, 1) := by decide +kernel
theorem d_Mod_evening_4 : decode (ib f_Mod_evening) 4 = .ok (.getfield 7, 3) := by decide +kernel
theorem d_Mod_evening_7 : decode (ib f_Mod_evening) 7 = .ok (.bipush 8, 2) := by decide +kernel
theorem d_Mod_evening_9 : decode (ib f_Mod_evening) 9 = .ok (.iaload, 1) := by decide +kernel
theorem d_Mod_evening_10 : decode (ib f_Mod_evening) 10 = .ok (.if_icmp .ge 42, 3) := by decide +kernel
theorem d_Mod_evening_13 : decode (ib f_Mod_evening) 13 = .ok (.aload_n 0, 1) := by decide +kernel
theorem d_Mod_evening_14 : decode (ib f_Mod_evening) 14 = .ok (.getfield 7, 3) := by decide +kernel
theorem d_Mod_evening_17 : decode (ib f_Mod_evening) 17 = .ok (.aload_n 0, 1) := by decide +kernel
theorem d_Mod_evening_18 : decode (ib f_Mod_evening) 18 = .ok (.iload_n 1, 1) := by decide +kernel
theorem d_Mod_evening_19 : decode (ib f_Mod_evening) 19 = .ok (.invokevirtual 124, 3) := by decide +kernel
theorem d_Mod_evening_22 : decode (ib f_Mod_evening) 22 = .ok (.iconst 5, 1) := by decide +kernel
theorem d_Mod_evening_23 : decode (ib f_Mod_evening) 23 = .ok (.iadd, 1) := by decide +kernel
theorem d_Mod_evening_24 : decode (ib f_Mod_evening) 24 = .ok (.aload_n 0, 1) := by decide +kernel
theorem d_Mod_evening_25 : decode (ib f_Mod_evening) 25 = .ok (.sipush 999, 3) := by decide +kernel
theorem d_Mod_evening_28 : decode (ib f_Mod_evening) 28 = .ok (.aload_n 0, 1) := by decide +kernel
theorem d_Mod_evening_29 : decode (ib f_Mod_evening) 29 = .ok (.getfield 7, 3) := by decide +kernel
theorem d_Mod_evening_32 : decode (ib f_Mod_evening) 32 = .ok (.aload_n 0, 1) := by decide +kernel
theorem d_Mod_evening_33 : decode (ib f_Mod_evening) 33 = .ok (.iload_n 1, 1) := by decide +kernel
theorem d_Mod_evening_34 : decode (ib f_Mod_evening) 34 = .ok (.invokevirtual 124, 3) := by decide +kernel
theorem d_Mod_evening_37 : decode (ib f_Mod_evening) 37 = .ok (.iconst 5, 1) := by decide +kernel
theorem d_Mod_evening_38 : decode (ib f_Mod_evening) 38 = .ok (.iadd, 1) := by decide +kernel
theorem d_Mod_evening_39 : decode (ib f_Mod_evening) 39 = .ok (.iaload, 1) := by decide +kernel
theorem d_Mod_evening_40 : decode (ib f_Mod_evening) 40 = .ok (.iconst 1, 1) := by decide +kernel
theorem d_Mod_evening_41 : decode (ib f_Mod_evening) 41 = .ok (.iadd, 1) := by decide +kernel
theorem d_Mod_evening_42 : decode (ib f_Mod_evening) 42 = .ok (.invokevirtual 360, 3) := by decide +kernel
theorem d_Mod_evening_45 : decode (ib f_Mod_evening) 45 = .ok (.iastore, 1) := by decide +kernel
theorem d_Mod_evening_46 : decode (ib f_Mod_evening) 46 = .ok (.iinc 1 1, 3) := by decide +kernel
theorem d_Mod_evening_49 : decode (ib f_Mod_evening) 49 = .ok (.goto (-47), 3) := by decide +kernel
theorem d_Mod_evening_52 : decode (ib f_Mod_evening) 52 = .ok (.iconst 0, 1) := by decide +kernel
theorem d_Mod_evening_53 : decode (ib f_Mod_evening) 53 = .ok (.istore_n 1, 1) := by decide +kernel
theorem d_Mod_evening_54 : decode (ib f_Mod_evening) 54 = .ok (.iload_n 1, 1) := by decide +kernel
theorem d_Mod_evening_55 : decode (ib f_Mod_evening) 55 = .ok (.bipush 60, 2) := by decide +kernel
theorem d_Mod_evening_57 : decode (ib f_Mod_evening) 57 = .ok (.if_icmp .ge 39, 3) := by decide +kernel
theorem d_Mod_evening_60 : decode (ib f_Mod_evening) 60 = .ok (.aload_n 0, 1) := by decide +kernel
theorem d_Mod_evening_61 : decode (ib f_Mod_evening) 61 = .ok (.getfield 7, 3) := by decide +kernel
theorem d_Mod_evening_64 : decode (ib f_Mod_evening) 64 = .ok (.iconst 4, 1) := by decide +kernel
theorem d_Mod_evening_65 : decode (ib f_Mod_evening) 65 = .ok (.iaload, 1) := by decide +kernel
theorem d_Mod_evening_66 : decode (ib f_Mod_evening) 66 = .ok (.iconst 4, 1) := by decide +kernel
theorem d_Mod_evening_67 : decode (ib f_Mod_evening) 67 = .ok (.if_icmp .le 29, 3) := by decide +kernel
theorem d_Mod_evening_70 : decode (ib f_Mod_evening) 70 = .ok (.aload_n 0, 1) := by decide +kernel
theorem d_Mod_evening_71 : decode (ib f_Mod_evening) 71 = .ok (.iload_n 1, 1) := by decide +kernel
theorem d_Mod_evening_72 : decode (ib f_Mod_evening) 72 = .ok (.invokevirtual 332, 3) := by decide +kernel
theorem d_Mod_evening_75 : decode (ib f_Mod_evening) 75 = .ok (.ifCond .ne 15, 3) := by decide +kernel
theorem d_Mod_evening_78 : decode (ib f_Mod_evening) 78 = .ok (.aload_n 0, 1) := by decide +kernel
theorem d_Mod_evening_79 : decode (ib f_Mod_evening) 79 = .ok (.iload_n 1, 1) := by decide +kernel
theorem d_Mod_evening_80 : decode (ib f_Mod_evening) 80 = .ok (.aload_n 0, 1) := by decide +kernel
theorem d_Mod_evening_81 : decode (ib f_Mod_evening) 81 = .ok (.iload_n 1, 1) := by decide +kernel
theorem d_Mod_evening_82 : decode (ib f_Mod_evening) 82 = .ok (.invokevirtual 309, 3) := by decide +kernel
theorem d_Mod_evening_85 : decode (ib f_Mod_evening) 85 = .ok (.iconst 1, 1) := by decide +kernel
theorem d_Mod_evening_86 : decode (ib f_Mod_evening) 86 = .ok (.isub, 1) := by decide +kernel
theorem d_Mod_evening_87 : decode (ib f_Mod_evening) 87 = .ok (.invokevirtual 145, 3) := by decide +kernel
theorem d_Mod_evening_90 : decode (ib f_Mod_evening) 90 = .ok (.iinc 1 1, 3) := by decide +kernel
theorem d_Mod_evening_93 : decode (ib f_Mod_evening) 93 = .ok (.goto (-39), 3) := by decide +kernel
theorem d_Mod_evening_96 : decode (ib f_Mod_evening) 96 = .ok (.aload_n 0, 1) := by decide +kernel
theorem d_Mod_evening_97 : decode (ib f_Mod_evening) 97 = .ok (.getfield 7, 3) := by decide +kernel
theorem d_Mod_evening_100 : decode (ib f_Mod_evening) 100 = .ok (.iconst 0, 1) := by decide +kernel
theorem d_Mod_evening_101 : decode (ib f_Mod_evening) 101 = .ok (.aload_n 0, 1) := by decide +kernel
theorem d_Mod_evening_102 : decode (ib f_Mod_evening) 102 = .ok (.getfield 7, 3) := by decide +kernel
theorem d_Mod_evening_105 : decode (ib f_Mod_evening) 105 = .ok (.iconst 0, 1) := by decide +kernel
theorem d_Mod_evening_106 : decode (ib f_Mod_evening) 106 = .ok (.iaload, 1) := by decide +kernel
theorem d_Mod_evening_107 : decode (ib f_Mod_evening) 107 = .ok (.iconst 1, 1) := by decide +kernel
theorem d_Mod_evening_108 : decode (ib f_Mod_evening) 108 = .ok (.iadd, 1) := by decide +kernel
theorem d_Mod_evening_109 : decode (ib f_Mod_evening) 109 = .ok (.iastore, 1) := by decide +kernel
theorem d_Mod_evening_110 : decode (ib f_Mod_evening) 110 = .ok (.return_, 1) := by decide +kernel
theorem d_Mod_goesBy_0 : decode (ib f_Mod_goesBy) 0 = .ok (.iconst 0, 1) := by decide +kernel
theorem d_Mod_goesBy_1 : decode (ib f_Mod_goesBy) 1 = .ok (.istore_n 1, 1) := by decide +kernel
theorem d_Mod_goesBy_2 : decode (ib f_Mod_goesBy) 2 = .ok (.iload_n 1, 1) := by decide +kernel
theorem d_Mod_goesBy_3 : decode (ib f_Mod_goesBy) 3 = .ok (.iconst 4, 1) := by decide +kernel
theorem d_Mod_goesBy_4 : decode (ib f_Mod_goesBy) 4 = .ok (.aload_n 0, 1) := by decide +kernel
theorem d_Mod_goesBy_5 : decode (ib f_Mod_goesBy) 5 = .ok (.getfield 285, 3) := by decide +kernel
theorem d_Mod_goesBy_8 : decode (ib f_Mod_goesBy) 8 = .ok (.imul, 1) := by decide +kernel
theorem d_Mod_goesBy_9 : decode (ib f_Mod_goesBy) 9 = .ok (.if_icmp .ge 30, 3) := by decide +kernel
theorem d_Mod_goesBy_12 : decode (ib f_Mod_goesBy) 12 = .ok (.aload_n 0, 1) := by decide +kernel
theorem d_Mod_goesBy_13 : decode (ib f_Mod_goesBy) 13 = .ok (.getfield 59, 3) := by decide +kernel
theorem d_Mod_goesBy_16 : decode (ib f_Mod_goesBy) 16 = .ok (.iload_n 1, 1) := by decide +kernel
theorem d_Mod_goesBy_17 : decode (ib f_Mod_goesBy) 17 = .ok (.iaload, 1) := by decide +kernel
theorem d_Mod_goesBy_18 : decode (ib f_Mod_goesBy) 18 = .ok (.aload_n 0, 1) := by decide +kernel
theorem d_Mod_goesBy_19 : decode (ib f_Mod_goesBy) 19 = .ok (.getfield 7, 3) := by decide +kernel
theorem d_Mod_goesBy_22 : decode (ib f_Mod_goesBy) 22 = .ok (.iconst 0, 1) := by decide +kernel
theorem d_Mod_goesBy_23 : decode (ib f_Mod_goesBy) 23 = .ok (.iaload, 1) := by decide +kernel
theorem d_Mod_goesBy_24 : decode (ib f_Mod_goesBy) 24 = .ok (.if_icmp .ne 8, 3) := by decide +kernel
theorem d_Mod_goesBy_27 : decode (ib f_Mod_goesBy) 27 = .ok (.aload_n 0, 1) := by decide +kernel
theorem d_Mod_goesBy_28 : decode (ib f_Mod_goesBy) 28 = .ok (.iload_n 1, 1) := by decide +kernel
theorem d_Mod_goesBy_29 : decode (ib f_Mod_goesBy) 29 = .ok (.invokevirtual 363, 3) := by decide +kernel
theorem d_Mod_goesBy_32 : decode (ib f_Mod_goesBy) 32 = .ok (.iload_n 1, 1) := by decide +kernel
theorem d_Mod_goesBy_33 : decode (ib f_Mod_goesBy) 33 = .ok (.iconst 4, 1) := by decide +kernel
theorem d_Mod_goesBy_34 : decode (ib f_Mod_goesBy) 34 = .ok (.iadd, 1) := by decide +kernel
theorem d_Mod_goesBy_35 : decode (ib f_Mod_goesBy) 35 = .ok (.istore_n 1, 1) := by decide +kernel
theorem d_Mod_goesBy_36 : decode (ib f_Mod_goesBy) 36 = .ok (.goto (-34), 3) := by decide +kernel
theorem d_Mod_goesBy_39 : decode (ib f_Mod_goesBy) 39 = .ok (.iconst 0, 1) := by decide +kernel
theorem d_Mod_goesBy_40 : decode (ib f_Mod_goesBy) 40 = .ok (.istore_n 1, 1) := by decide +kernel
theorem d_Mod_goesBy_41 : decode (ib f_Mod_goesBy) 41 = .ok (.iload_n 1, 1) := by decide +kernel
theorem d_Mod_goesBy_42 : decode (ib f_Mod_goesBy) 42 = .ok (.iconst 5, 1) := by decide +kernel
theorem d_Mod_goesBy_43 : decode (ib f_Mod_goesBy) 43 = .ok (.aload_n 0, 1) := by decide +kernel
theorem d_Mod_goesBy_44 : decode (ib f_Mod_goesBy) 44 = .ok (.getfield 282, 3) := by decide +kernel
theorem d_Mod_goesBy_47 : decode (ib f_Mod_goesBy) 47 = .ok (.imul, 1) := by decide +kernel
theorem d_Mod_goesBy_48 : decode (ib f_Mod_goesBy) 48 = .ok (.if_icmp .ge 61, 3) := by decide +kernel
theorem d_Mod_goesBy_51 : decode (ib f_Mod_goesBy) 51 = .ok (.aload_n 0, 1) := by decide +kernel
theorem d_Mod_goesBy_52 : decode (ib f_Mod_goesBy) 52 = .ok (.getfield 56, 3) := by decide +kernel
theorem d_Mod_goesBy_55 : decode (ib f_Mod_goesBy) 55 = .ok (.iload_n 1, 1) := by decide +kernel
theorem d_Mod_goesBy_56 : decode (ib f_Mod_goesBy) 56 = .ok (.iaload, 1) := by decide +kernel
theorem d_Mod_goesBy_57 : decode (ib f_Mod_goesBy) 57 = .ok (.aload_n 0, 1) := by decide +kernel
theorem d_Mod_goesBy_58 : decode (ib f_Mod_goesBy) 58 = .ok (.getfield 7, 3) := by decide +kernel
theorem d_Mod_goesBy_61 : decode (ib f_Mod_goesBy) 61 = .ok (.iconst 0, 1) := by decide +kernel
theorem d_Mod_goesBy_62 : decode (ib f_Mod_goesBy) 62 = .ok (.iaload, 1) := by decide +kernel
theorem d_Mod_goesBy_63 : decode (ib f_Mod_goesBy) 63 = .ok (.if_icmp .ne 39, 3) := by decide +kernel
theorem d_Mod_goesBy_66 : decode (ib f_Mod_goesBy) 66 = .ok (.aload_n 0, 1) := by decide +kernel
theorem d_Mod_goesBy_67 : decode (ib f_Mod_goesBy) 67 = .ok (.aload_n 0, 1) := by decide +kernel
theorem d_Mod_goesBy_68 : decode (ib f_Mod_goesBy) 68 = .ok (.getfield 56, 3) := by decide +kernel
theorem d_Mod_goesBy_71 : decode (ib f_Mod_goesBy) 71 = .ok (.iload_n 1, 1) := by decide +kernel
theorem d_Mod_goesBy_72 : decode (ib f_Mod_goesBy) 72 = .ok (.iconst 1, 1) := by decide +kernel
theorem d_Mod_goesBy_73 : decode (ib f_Mod_goesBy) 73 = .ok (.iadd, 1) := by decide +kernel
theorem d_Mod_goesBy_74 : decode (ib f_Mod_goesBy) 74 = .ok (.iaload, 1) := by decide +kernel
theorem d_Mod_goesBy_75 : decode (ib f_Mod_goesBy) 75 = .ok (.aload_n 0, 1) := by decide +kernel
theorem d_Mod_goesBy_76 : decode (ib f_Mod_goesBy) 76 = .ok (.getfield 56, 3) := by decide +kernel
theorem d_Mod_goesBy_79 : decode (ib f_Mod_goesBy) 79 = .ok (.iload_n 1, 1) := by decide +kernel
theorem d_Mod_goesBy_80 : decode (ib f_Mod_goesBy) 80 = .ok (.iconst 2, 1) := by decide +kernel
theorem d_Mod_goesBy_81 : decode (ib f_Mod_goesBy) 81 = .ok (.iadd, 1) := by decide +kernel
theorem d_Mod_goesBy_82 : decode (ib f_Mod_goesBy) 82 = .ok (.iaload, 1) := by decide +kernel
theorem d_Mod_goesBy_83 : decode (ib f_Mod_goesBy) 83 = .ok (.aload_n 0, 1) := by decide +kernel
theorem d_Mod_goesBy_84 : decode (ib f_Mod_goesBy) 84 = .ok (.getfield 56, 3) := by decide +kernel
theorem d_Mod_goesBy_87 : decode (ib f_Mod_goesBy) 87 = .ok (.iload_n 1, 1) := by decide +kernel
theorem d_Mod_goesBy_88 : decode (ib f_Mod_goesBy) 88 = .ok (.iconst 3, 1) := by decide +kernel
theorem d_Mod_goesBy_89 : decode (ib f_Mod_goesBy) 89 = .ok (.iadd, 1) := by decide +kernel
theorem d_Mod_goesBy_90 : decode (ib f_Mod_goesBy) 90 = .ok (.iaload, 1) := by decide +kernel
theorem d_Mod_goesBy_91 : decode (ib f_Mod_goesBy) 91 = .ok (.aload_n 0, 1) := by decide +kernel
theorem d_Mod_goesBy_92 : decode (ib f_Mod_goesBy) 92 = .ok (.getfield 56, 3) := by decide +kernel
theorem d_Mod_goesBy_95 : decode (ib f_Mod_goesBy) 95 = .ok (.iload_n 1, 1) := by decide +kernel
theorem d_Mod_goesBy_96 : decode (ib f_Mod_goesBy) 96 = .ok (.iconst 4, 1) := by decide +kernel
theorem d_Mod_goesBy_97 : decode (ib f_Mod_goesBy) 97 = .ok (.iadd, 1) := by decide +kernel
theorem d_Mod_goesBy_98 : decode (ib f_Mod_goesBy) 98 = .ok (.iaload, 1) := by decide +kernel
theorem d_Mod_goesBy_99 : decode (ib f_Mod_goesBy) 99 = .ok (.invokevirtual 366, 3) := by decide +kernel
theorem d_Mod_goesBy_102 : decode (ib f_Mod_goesBy) 102 = .ok (.iload_n 1, 1) := by decide +kernel
theorem d_Mod_goesBy_103 : decode (ib f_Mod_goesBy) 103 = .ok (.iconst 5, 1) := by decide +kernel
theorem d_Mod_goesBy_104 : decode (ib f_Mod_goesBy) 104 = .ok (.iadd, 1) := by decide +kernel
theorem d_Mod_goesBy_105 : decode (ib f_Mod_goesBy) 105 = .ok (.istore_n 1, 1) := by decide +kernel
theorem d_Mod_goesBy_106 : decode (ib f_Mod_goesBy) 106 = .ok (.goto (-65), 3) := by decide +kernel
theorem d_Mod_goesBy_109 : decode (ib f_Mod_goesBy) 109 = .ok (.iconst 0, 1) := by decide +kernel
theorem d_Mod_goesBy_110 : decode (ib f_Mod_goesBy) 110 = .ok (.istore_n 1, 1) := by decide +kernel
theorem d_Mod_goesBy_111 : decode (ib f_Mod_goesBy) 111 = .ok (.iconst 0, 1) := by decide +kernel
theorem d_Mod_goesBy_112 : decode (ib f_Mod_goesBy) 112 = .ok (.istore_n 2, 1) := by decide +kernel
theorem d_Mod_goesBy_113 : decode (ib f_Mod_goesBy) 113 = .ok (.iload_n 2, 1) := by decide +kernel
theorem d_Mod_goesBy_114 : decode (ib f_Mod_goesBy) 114 = .ok (.aload_n 0, 1) := by decide +kernel
theorem d_Mod_goesBy_115 : decode (ib f_Mod_goesBy) 115 = .ok (.getfield 7, 3) := by decide +kernel
theorem d_Mod_goesBy_118 : decode (ib f_Mod_goesBy) 118 = .ok (.bipush 8, 2) := by decide +kernel
theorem d_Mod_goesBy_120 : decode (ib f_Mod_goesBy) 120 = .ok (.iaload, 1) := by decide +kernel
theorem d_Mod_goesBy_121 : decode (ib f_Mod_goesBy) 121 = .ok (.if_icmp .ge 25, 3) := by decide +kernel
theorem d_Mod_goesBy_124 : decode (ib f_Mod_goesBy) 124 = .ok (.aload_n 0, 1) := by decide +kernel
theorem d_Mod_goesBy_125 : decode (ib f_Mod_goesBy) 125 = .ok (.iload_n 2, 1) := by decide +kernel
theorem d_Mod_goesBy_126 : decode (ib f_Mod_goesBy) 126 = .ok (.invokevirtual 370, 3) := by decide +kernel
theorem d_Mod_goesBy_129 : decode (ib f_Mod_goesBy) 129 = .ok (.ifCond .eq 10, 3) := by decide +kernel
theorem d_Mod_goesBy_132 : decode (ib f_Mod_goesBy) 132 = .ok (.iload_n 1, 1) := by decide +kernel
theorem d_Mod_goesBy_133 : decode (ib f_Mod_goesBy) 133 = .ok (.iconst 1, 1) := by decide +kernel
theorem d_Mod_goesBy_134 : decode (ib f_Mod_goesBy) 134 = .ok (.iadd, 1) := by decide +kernel
theorem d_Mod_goesBy_135 : decode (ib f_Mod_goesBy) 135 = .ok (.istore_n 1, 1) := by decide +kernel
theorem d_Mod_goesBy_136 : decode (ib f_Mod_goesBy) 136 = .ok (.goto (-23), 3) := by decide +kernel
theorem d_Mod_goesBy_139 : decode (ib f_Mod_goesBy) 139 = .ok (.iload_n 2, 1) := by decide +kernel
theorem d_Mod_goesBy_140 : decode (ib f_Mod_goesBy) 140 = .ok (.iconst 1, 1) := by decide +kernel
theorem d_Mod_goesBy_141 : decode (ib f_Mod_goesBy) 141 = .ok (.iadd, 1) := by decide +kernel
theorem d_Mod_goesBy_142 : decode (ib f_Mod_goesBy) 142 = .ok (.istore_n 2, 1) := by decide +kernel
theorem d_Mod_goesBy_143 : decode (ib f_Mod_goesBy) 143 = .ok (.goto (-30), 3) := by decide +kernel
theorem d_Mod_goesBy_146 : decode (ib f_Mod_goesBy) 146 = .ok (.bipush 59, 2) := by decide +kernel
theorem d_Mod_goesBy_148 : decode (ib f_Mod_goesBy) 148 = .ok (.istore_n 3, 1) := by decide +kernel
theorem d_Mod_goesBy_149 : decode (ib f_Mod_goesBy) 149 = .ok (.iload_n 3, 1) := by decide +kernel
theorem d_Mod_goesBy_150 : decode (ib f_Mod_goesBy) 150 = .ok (.ifCond .lt 33, 3) := by decide +kernel
theorem d_Mod_goesBy_153 : decode (ib f_Mod_goesBy) 153 = .ok (.aload_n 0, 1) := by decide +kernel
theorem d_Mod_goesBy_154 : decode (ib f_Mod_goesBy) 154 = .ok (.iload_n 3, 1) := by decide +kernel
theorem d_Mod_goesBy_155 : decode (ib f_Mod_goesBy) 155 = .ok (.invokevirtual 332, 3) := by decide +kernel
theorem d_Mod_goesBy_158 : decode (ib f_Mod_goesBy) 158 = .ok (.ifCond .eq 19, 3) := by decide +kernel
theorem d_Mod_goesBy_161 : decode (ib f_Mod_goesBy) 161 = .ok (.aload_n 0, 1) := by decide +kernel
theorem d_Mod_goesBy_162 : decode (ib f_Mod_goesBy) 162 = .ok (.aload_n 0, 1) := by decide +kernel
theorem d_Mod_goesBy_163 : decode (ib f_Mod_goesBy) 163 = .ok (.iload_n 3, 1) := by decide +kernel
theorem d_Mod_goesBy_164 : decode (ib f_Mod_goesBy) 164 = .ok (.invokevirtual 128, 3) := by decide +kernel
theorem d_Mod_goesBy_167 : decode (ib f_Mod_goesBy) 167 = .ok (.invokevirtual 373, 3) := by decide +kernel
theorem d_Mod_goesBy_170 : decode (ib f_Mod_goesBy) 170 = .ok (.ifCond .eq 7, 3) := by decide +kernel
theorem d_Mod_goesBy_173 : decode (ib f_Mod_goesBy) 173 = .ok (.iload_n 1, 1) := by decide +kernel
theorem d_Mod_goesBy_174 : decode (ib f_Mod_goesBy) 174 = .ok (.iconst 1, 1) := by decide +kernel
theorem d_Mod_goesBy_175 : decode (ib f_Mod_goesBy) 175 = .ok (.iadd, 1) := by decide +kernel
theorem d_Mod_goesBy_176 : decode (ib f_Mod_goesBy) 176 = .ok (.istore_n 1, 1) := by decide +kernel
theorem d_Mod_goesBy_177 : decode (ib f_Mod_goesBy) 177 = .ok (.iinc 3 (-1), 3) := by decide +kernel
theorem d_Mod_goesBy_180 : decode (ib f_Mod_goesBy) 180 = .ok (.goto (-31), 3) := by decide +kernel
theorem d_Mod_goesBy_183 : decode (ib f_Mod_goesBy) 183 = .ok (.aload_n 0, 1) := by decide +kernel
theorem d_Mod_goesBy_184 : decode (ib f_Mod_goesBy) 184 = .ok (.invokevirtual 376, 3) := by decide +kernel
theorem d_Mod_goesBy_187 : decode (ib f_Mod_goesBy) 187 = .ok (.iload_n 1, 1) := by decide +kernel
theorem d_Mod_goesBy_188 : decode (ib f_Mod_goesBy) 188 = .ok (.ireturn, 1) := by decide +kernel
theorem d_Mod_days_0 : decode (ib f_Mod_days) 0 = .ok (.aload_n 0, 1) := by decide +kernel
theorem d_Mod_days_1 : decode (ib f_Mod_days) 1 = .ok (.iconst 0, 1) := by decide +kernel
theorem d_Mod_days_2 : decode (ib f_Mod_days) 2 = .ok (.putfield 107, 3) := by decide +kernel
theorem d_Mod_days_5 : decode (ib f_Mod_days) 5 = .ok (.aload_n 0, 1) := by decide +kernel
theorem d_Mod_days_6 : decode (ib f_Mod_days) 6 = .ok (.iload_n 1, 1) := by decide +kernel
theorem d_Mod_days_7 : decode (ib f_Mod_days) 7 = .ok (.iconst 1, 1) := by decide +kernel
theorem d_Mod_days_8 : decode (ib f_Mod_days) 8 = .ok (.bipush 60, 2) := by decide +kernel
theorem d_Mod_days_10 : decode (ib f_Mod_days) 10 = .ok (.invokevirtual 135, 3) := by decide +kernel
theorem d_Mod_days_13 : decode (ib f_Mod_days) 13 = .ok (.ifCond .eq 17, 3) := by decide +kernel
theorem d_Mod_days_16 : decode (ib f_Mod_days) 16 = .ok (.aload_n 0, 1) := by decide +kernel
theorem d_Mod_days_17 : decode (ib f_Mod_days) 17 = .ok (.getfield 7, 3) := by decide +kernel
theorem d_Mod_days_20 : decode (ib f_Mod_days) 20 = .ok (.iconst 0, 1) := by decide +kernel
theorem d_Mod_days_21 : decode (ib f_Mod_days) 21 = .ok (.iaload, 1) := by decide +kernel
theorem d_Mod_days_22 : decode (ib f_Mod_days) 22 = .ok (.iload_n 1, 1) := by decide +kernel
theorem d_Mod_days_23 : decode (ib f_Mod_days) 23 = .ok (.iadd, 1) := by decide +kernel
theorem d_Mod_days_24 : decode (ib f_Mod_days) 24 = .ok (.sipush 9999, 3) := by decide +kernel
theorem d_Mod_days_27 : decode (ib f_Mod_days) 27 = .ok (.if_icmp .le 5, 3) := by decide +kernel
