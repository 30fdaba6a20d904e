theorem d_Mod_days_30 : decode (ib f_Mod_days) 30 = .ok (.iconst (-1), 1) := by decide +kernel
theorem d_Mod_days_31 : decode (ib f_Mod_days) 31 = .ok (.ireturn, 1) := by decide +kernel
theorem d_Mod_days_32 : decode (ib f_Mod_days) 32 = .ok (.iconst 0, 1) := by decide +kernel
theorem d_Mod_days_33 : decode (ib f_Mod_days) 33 = .ok (.istore_n 2, 1) := by decide +kernel
theorem d_Mod_days_34 : decode (ib f_Mod_days) 34 = .ok (.iconst 0, 1) := by decide +kernel
theorem d_Mod_days_35 : decode (ib f_Mod_days) 35 = .ok (.istore_n 3, 1) := by decide +kernel
theorem d_Mod_days_36 : decode (ib f_Mod_days) 36 = .ok (.iload_n 3, 1) := by decide +kernel
theorem d_Mod_days_37 : decode (ib f_Mod_days) 37 = .ok (.iload_n 1, 1) := by decide +kernel
theorem d_Mod_days_38 : decode (ib f_Mod_days) 38 = .ok (.if_icmp .ge 20, 3) := by decide +kernel
theorem d_Mod_days_41 : decode (ib f_Mod_days) 41 = .ok (.aload_n 0, 1) := by decide +kernel
theorem d_Mod_days_42 : decode (ib f_Mod_days) 42 = .ok (.invokevirtual 345, 3) := by decide +kernel
theorem d_Mod_days_45 : decode (ib f_Mod_days) 45 = .ok (.iload_n 2, 1) := by decide +kernel
theorem d_Mod_days_46 : decode (ib f_Mod_days) 46 = .ok (.aload_n 0, 1) := by decide +kernel
theorem d_Mod_days_47 : decode (ib f_Mod_days) 47 = .ok (.invokevirtual 379, 3) := by decide +kernel
theorem d_Mod_days_50 : decode (ib f_Mod_days) 50 = .ok (.iadd, 1) := by decide +kernel
theorem d_Mod_days_51 : decode (ib f_Mod_days) 51 = .ok (.istore_n 2, 1) := by decide +kernel
theorem d_Mod_days_52 : decode (ib f_Mod_days) 52 = .ok (.iinc 3 1, 3) := by decide +kernel
theorem d_Mod_days_55 : decode (ib f_Mod_days) 55 = .ok (.goto (-19), 3) := by decide +kernel
theorem d_Mod_days_58 : decode (ib f_Mod_days) 58 = .ok (.iload_n 2, 1) := by decide +kernel
theorem d_Mod_days_59 : decode (ib f_Mod_days) 59 = .ok (.ireturn, 1) := by decide +kernel
theorem d_Mod_inch_0 : decode (ib f_Mod_inch) 0 = .ok (.aload_n 0, 1) := by decide +kernel
theorem d_Mod_inch_1 : decode (ib f_Mod_inch) 1 = .ok (.iconst 0, 1) := by decide +kernel
theorem d_Mod_inch_2 : decode (ib f_Mod_inch) 2 = .ok (.putfield 107, 3) := by decide +kernel
theorem d_Mod_inch_5 : decode (ib f_Mod_inch) 5 = .ok (.aload_n 0, 1) := by decide +kernel
theorem d_Mod_inch_6 : decode (ib f_Mod_inch) 6 = .ok (.iload_n 1, 1) := by decide +kernel
theorem d_Mod_inch_7 : decode (ib f_Mod_inch) 7 = .ok (.invokevirtual 131, 3) := by decide +kernel
theorem d_Mod_inch_10 : decode (ib f_Mod_inch) 10 = .ok (.ifCond .ne 6, 3) := by decide +kernel
theorem d_Mod_inch_13 : decode (ib f_Mod_inch) 13 = .ok (.bipush (-2), 2) := by decide +kernel
theorem d_Mod_inch_15 : decode (ib f_Mod_inch) 15 = .ok (.ireturn, 1) := by decide +kernel
theorem d_Mod_inch_16 : decode (ib f_Mod_inch) 16 = .ok (.iload_n 2, 1) := by decide +kernel
theorem d_Mod_inch_17 : decode (ib f_Mod_inch) 17 = .ok (.ifCond .ne 9, 3) := by decide +kernel
theorem d_Mod_inch_20 : decode (ib f_Mod_inch) 20 = .ok (.aload_n 0, 1) := by decide +kernel
theorem d_Mod_inch_21 : decode (ib f_Mod_inch) 21 = .ok (.iload_n 1, 1) := by decide +kernel
theorem d_Mod_inch_22 : decode (ib f_Mod_inch) 22 = .ok (.invokevirtual 309, 3) := by decide +kernel
theorem d_Mod_inch_25 : decode (ib f_Mod_inch) 25 = .ok (.ireturn, 1) := by decide +kernel
theorem d_Mod_inch_26 : decode (ib f_Mod_inch) 26 = .ok (.iload_n 2, 1) := by decide +kernel
theorem d_Mod_inch_27 : decode (ib f_Mod_inch) 27 = .ok (.iconst 1, 1) := by decide +kernel
theorem d_Mod_inch_28 : decode (ib f_Mod_inch) 28 = .ok (.if_icmp .ne 13, 3) := by decide +kernel
theorem d_Mod_inch_31 : decode (ib f_Mod_inch) 31 = .ok (.aload_n 0, 1) := by decide +kernel
theorem d_Mod_inch_32 : decode (ib f_Mod_inch) 32 = .ok (.getfield 7, 3) := by decide +kernel
theorem d_Mod_inch_35 : decode (ib f_Mod_inch) 35 = .ok (.bipush 70, 2) := by decide +kernel
theorem d_Mod_inch_37 : decode (ib f_Mod_inch) 37 = .ok (.iload_n 1, 1) := by decide +kernel
theorem d_Mod_inch_38 : decode (ib f_Mod_inch) 38 = .ok (.iadd, 1) := by decide +kernel
theorem d_Mod_inch_39 : decode (ib f_Mod_inch) 39 = .ok (.iaload, 1) := by decide +kernel
theorem d_Mod_inch_40 : decode (ib f_Mod_inch) 40 = .ok (.ireturn, 1) := by decide +kernel
theorem d_Mod_inch_41 : decode (ib f_Mod_inch) 41 = .ok (.iload_n 2, 1) := by decide +kernel
theorem d_Mod_inch_42 : decode (ib f_Mod_inch) 42 = .ok (.iconst 2, 1) := by decide +kernel
theorem d_Mod_inch_43 : decode (ib f_Mod_inch) 43 = .ok (.if_icmp .eq 8, 3) := by decide +kernel
theorem d_Mod_inch_46 : decode (ib f_Mod_inch) 46 = .ok (.bipush (-2), 2) := by decide +kernel
theorem d_Mod_inch_48 : decode (ib f_Mod_inch) 48 = .ok (.goto 29, 3) := by decide +kernel
theorem d_Mod_inch_51 : decode (ib f_Mod_inch) 51 = .ok (.aload_n 0, 1) := by decide +kernel
theorem d_Mod_inch_52 : decode (ib f_Mod_inch) 52 = .ok (.iload_n 1, 1) := by decide +kernel
theorem d_Mod_inch_53 : decode (ib f_Mod_inch) 53 = .ok (.invokevirtual 332, 3) := by decide +kernel
theorem d_Mod_inch_56 : decode (ib f_Mod_inch) 56 = .ok (.ifCond .eq 20, 3) := by decide +kernel
theorem d_Mod_inch_59 : decode (ib f_Mod_inch) 59 = .ok (.aload_n 0, 1) := by decide +kernel
theorem d_Mod_inch_60 : decode (ib f_Mod_inch) 60 = .ok (.getfield 7, 3) := by decide +kernel
theorem d_Mod_inch_63 : decode (ib f_Mod_inch) 63 = .ok (.aload_n 0, 1) := by decide +kernel
theorem d_Mod_inch_64 : decode (ib f_Mod_inch) 64 = .ok (.aload_n 0, 1) := by decide +kernel
theorem d_Mod_inch_65 : decode (ib f_Mod_inch) 65 = .ok (.iload_n 1, 1) := by decide +kernel
theorem d_Mod_inch_66 : decode (ib f_Mod_inch) 66 = .ok (.invokevirtual 128, 3) := by decide +kernel
theorem d_Mod_inch_69 : decode (ib f_Mod_inch) 69 = .ok (.invokevirtual 124, 3) := by decide +kernel
theorem d_Mod_inch_72 : decode (ib f_Mod_inch) 72 = .ok (.iaload, 1) := by decide +kernel
theorem d_Mod_inch_73 : decode (ib f_Mod_inch) 73 = .ok (.goto 4, 3) := by decide +kernel
theorem d_Mod_inch_76 : decode (ib f_Mod_inch) 76 = .ok (.iconst (-1), 1) := by decide +kernel
theorem d_Mod_inch_77 : decode (ib f_Mod_inch) 77 = .ok (.ireturn, 1) := by decide +kernel
theorem d_Mod_of_0 : decode (ib f_Mod_of) 0 = .ok (.aload_n 0, 1) := by decide +kernel
theorem d_Mod_of_1 : decode (ib f_Mod_of) 1 = .ok (.iconst 0, 1) := by decide +kernel
theorem d_Mod_of_2 : decode (ib f_Mod_of) 2 = .ok (.putfield 107, 3) := by decide +kernel
theorem d_Mod_of_5 : decode (ib f_Mod_of) 5 = .ok (.aload_n 0, 1) := by decide +kernel
theorem d_Mod_of_6 : decode (ib f_Mod_of) 6 = .ok (.iload_n 1, 1) := by decide +kernel
theorem d_Mod_of_7 : decode (ib f_Mod_of) 7 = .ok (.invokevirtual 139, 3) := by decide +kernel
theorem d_Mod_of_10 : decode (ib f_Mod_of) 10 = .ok (.istore_n 3, 1) := by decide +kernel
theorem d_Mod_of_11 : decode (ib f_Mod_of) 11 = .ok (.iload_n 3, 1) := by decide +kernel
theorem d_Mod_of_12 : decode (ib f_Mod_of) 12 = .ok (.iconst (-1), 1) := by decide +kernel
theorem d_Mod_of_13 : decode (ib f_Mod_of) 13 = .ok (.if_icmp .eq 14, 3) := by decide +kernel
theorem d_Mod_of_16 : decode (ib f_Mod_of) 16 = .ok (.aload_n 0, 1) := by decide +kernel
theorem d_Mod_of_17 : decode (ib f_Mod_of) 17 = .ok (.iload_n 2, 1) := by decide +kernel
theorem d_Mod_of_18 : decode (ib f_Mod_of) 18 = .ok (.iconst 0, 1) := by decide +kernel
theorem d_Mod_of_19 : decode (ib f_Mod_of) 19 = .ok (.bipush 9, 2) := by decide +kernel
theorem d_Mod_of_21 : decode (ib f_Mod_of) 21 = .ok (.invokevirtual 135, 3) := by decide +kernel
theorem d_Mod_of_24 : decode (ib f_Mod_of) 24 = .ok (.ifCond .ne 5, 3) := by decide +kernel
theorem d_Mod_of_27 : decode (ib f_Mod_of) 27 = .ok (.iconst (-1), 1) := by decide +kernel
theorem d_Mod_of_28 : decode (ib f_Mod_of) 28 = .ok (.ireturn, 1) := by decide +kernel
theorem d_Mod_of_29 : decode (ib f_Mod_of) 29 = .ok (.iload_n 2, 1) := by decide +kernel
theorem d_Mod_of_30 : decode (ib f_Mod_of) 30 = .ok (.bipush 6, 2) := by decide +kernel
theorem d_Mod_of_32 : decode (ib f_Mod_of) 32 = .ok (.if_icmp .ge 18, 3) := by decide +kernel
theorem d_Mod_of_35 : decode (ib f_Mod_of) 35 = .ok (.aload_n 0, 1) := by decide +kernel
theorem d_Mod_of_36 : decode (ib f_Mod_of) 36 = .ok (.getfield 7, 3) := by decide +kernel
theorem d_Mod_of_39 : decode (ib f_Mod_of) 39 = .ok (.aload_n 0, 1) := by decide +kernel
theorem d_Mod_of_40 : decode (ib f_Mod_of) 40 = .ok (.iload_n 3, 1) := by decide +kernel
theorem d_Mod_of_41 : decode (ib f_Mod_of) 41 = .ok (.invokevirtual 124, 3) := by decide +kernel
theorem d_Mod_of_44 : decode (ib f_Mod_of) 44 = .ok (.iconst 1, 1) := by decide +kernel
theorem d_Mod_of_45 : decode (ib f_Mod_of) 45 = .ok (.iadd, 1) := by decide +kernel
theorem d_Mod_of_46 : decode (ib f_Mod_of) 46 = .ok (.iload_n 2, 1) := by decide +kernel
theorem d_Mod_of_47 : decode (ib f_Mod_of) 47 = .ok (.iadd, 1) := by decide +kernel
theorem d_Mod_of_48 : decode (ib f_Mod_of) 48 = .ok (.iaload, 1) := by decide +kernel
theorem d_Mod_of_49 : decode (ib f_Mod_of) 49 = .ok (.ireturn, 1) := by decide +kernel
theorem d_Mod_of_50 : decode (ib f_Mod_of) 50 = .ok (.iload_n 2, 1) := by decide +kernel
theorem d_Mod_of_51 : decode (ib f_Mod_of) 51 = .ok (.bipush 7, 2) := by decide +kernel
theorem d_Mod_of_53 : decode (ib f_Mod_of) 53 = .ok (.if_icmp .ne 9, 3) := by decide +kernel
theorem d_Mod_of_56 : decode (ib f_Mod_of) 56 = .ok (.aload_n 0, 1) := by decide +kernel
theorem d_Mod_of_57 : decode (ib f_Mod_of) 57 = .ok (.iload_n 3, 1) := by decide +kernel
theorem d_Mod_of_58 : decode (ib f_Mod_of) 58 = .ok (.invokevirtual 351, 3) := by decide +kernel
theorem d_Mod_of_61 : decode (ib f_Mod_of) 61 = .ok (.ireturn, 1) := by decide +kernel
theorem d_Mod_of_62 : decode (ib f_Mod_of) 62 = .ok (.iload_n 2, 1) := by decide +kernel
theorem d_Mod_of_63 : decode (ib f_Mod_of) 63 = .ok (.bipush 8, 2) := by decide +kernel
theorem d_Mod_of_65 : decode (ib f_Mod_of) 65 = .ok (.if_icmp .ne 9, 3) := by decide +kernel
theorem d_Mod_of_68 : decode (ib f_Mod_of) 68 = .ok (.aload_n 0, 1) := by decide +kernel
theorem d_Mod_of_69 : decode (ib f_Mod_of) 69 = .ok (.iload_n 3, 1) := by decide +kernel
theorem d_Mod_of_70 : decode (ib f_Mod_of) 70 = .ok (.invokevirtual 357, 3) := by decide +kernel
theorem d_Mod_of_73 : decode (ib f_Mod_of) 73 = .ok (.ireturn, 1) := by decide +kernel
theorem d_Mod_of_74 : decode (ib f_Mod_of) 74 = .ok (.iload_n 2, 1) := by decide +kernel
theorem d_Mod_of_75 : decode (ib f_Mod_of) 75 = .ok (.bipush 9, 2) := by decide +kernel
theorem d_Mod_of_77 : decode (ib f_Mod_of) 77 = .ok (.if_icmp .ne 20, 3) := by decide +kernel
theorem d_Mod_of_80 : decode (ib f_Mod_of) 80 = .ok (.aload_n 0, 1) := by decide +kernel
theorem d_Mod_of_81 : decode (ib f_Mod_of) 81 = .ok (.aload_n 0, 1) := by decide +kernel
theorem d_Mod_of_82 : decode (ib f_Mod_of) 82 = .ok (.getfield 7, 3) := by decide +kernel
theorem d_Mod_of_85 : decode (ib f_Mod_of) 85 = .ok (.aload_n 0, 1) := by decide +kernel
theorem d_Mod_of_86 : decode (ib f_Mod_of) 86 = .ok (.iload_n 3, 1) := by decide +kernel
theorem d_Mod_of_87 : decode (ib f_Mod_of) 87 = .ok (.invokevirtual 124, 3) := by decide +kernel
theorem d_Mod_of_90 : decode (ib f_Mod_of) 90 = .ok (.iconst 4, 1) := by decide +kernel
theorem d_Mod_of_91 : decode (ib f_Mod_of) 91 = .ok (.iadd, 1) := by decide +kernel
theorem d_Mod_of_92 : decode (ib f_Mod_of) 92 = .ok (.iaload, 1) := by decide +kernel
theorem d_Mod_of_93 : decode (ib f_Mod_of) 93 = .ok (.invokevirtual 312, 3) := by decide +kernel
theorem d_Mod_of_96 : decode (ib f_Mod_of) 96 = .ok (.ireturn, 1) := by decide +kernel
theorem d_Mod_of_97 : decode (ib f_Mod_of) 97 = .ok (.aload_n 0, 1) := by decide +kernel
theorem d_Mod_of_98 : decode (ib f_Mod_of) 98 = .ok (.iload_n 3, 1) := by decide +kernel
theorem d_Mod_of_99 : decode (ib f_Mod_of) 99 = .ok (.invokevirtual 325, 3) := by decide +kernel
theorem d_Mod_of_102 : decode (ib f_Mod_of) 102 = .ok (.aload_n 0, 1) := by decide +kernel
theorem d_Mod_of_103 : decode (ib f_Mod_of) 103 = .ok (.invokevirtual 335, 3) := by decide +kernel
theorem d_Mod_of_106 : decode (ib f_Mod_of) 106 = .ok (.ireturn, 1) := by decide +kernel
theorem d_Mod_book_0 : decode (ib f_Mod_book) 0 = .ok (.aload_n 0, 1) := by decide +kernel
theorem d_Mod_book_1 : decode (ib f_Mod_book) 1 = .ok (.iconst 0, 1) := by decide +kernel
theorem d_Mod_book_2 : decode (ib f_Mod_book) 2 = .ok (.putfield 107, 3) := by decide +kernel
theorem d_Mod_book_5 : decode (ib f_Mod_book) 5 = .ok (.aload_n 0, 1) := by decide +kernel
theorem d_Mod_book_6 : decode (ib f_Mod_book) 6 = .ok (.iload_n 1, 1) := by decide +kernel
theorem d_Mod_book_7 : decode (ib f_Mod_book) 7 = .ok (.iconst 0, 1) := by decide +kernel
theorem d_Mod_book_8 : decode (ib f_Mod_book) 8 = .ok (.aload_n 0, 1) := by decide +kernel
theorem d_Mod_book_9 : decode (ib f_Mod_book) 9 = .ok (.getfield 7, 3) := by decide +kernel
theorem d_Mod_book_12 : decode (ib f_Mod_book) 12 = .ok (.iconst 2, 1) := by decide +kernel
theorem d_Mod_book_13 : decode (ib f_Mod_book) 13 = .ok (.iaload, 1) := by decide +kernel
theorem d_Mod_book_14 : decode (ib f_Mod_book) 14 = .ok (.iconst 1, 1) := by decide +kernel
theorem d_Mod_book_15 : decode (ib f_Mod_book) 15 = .ok (.isub, 1) := by decide +kernel
theorem d_Mod_book_16 : decode (ib f_Mod_book) 16 = .ok (.invokevirtual 135, 3) := by decide +kernel
theorem d_Mod_book_19 : decode (ib f_Mod_book) 19 = .ok (.ifCond .eq 26, 3) := by decide +kernel
theorem d_Mod_book_22 : decode (ib f_Mod_book) 22 = .ok (.aload_n 0, 1) := by decide +kernel
theorem d_Mod_book_23 : decode (ib f_Mod_book) 23 = .ok (.iload_n 2, 1) := by decide +kernel
theorem d_Mod_book_24 : decode (ib f_Mod_book) 24 = .ok (.iconst 0, 1) := by decide +kernel
theorem d_Mod_book_25 : decode (ib f_Mod_book) 25 = .ok (.iconst 3, 1) := by decide +kernel
theorem d_Mod_book_26 : decode (ib f_Mod_book) 26 = .ok (.invokevirtual 135, 3) := by decide +kernel
theorem d_Mod_book_29 : decode (ib f_Mod_book) 29 = .ok (.ifCond .eq 16, 3) := by decide +kernel
theorem d_Mod_book_32 : decode (ib f_Mod_book) 32 = .ok (.aload_n 0, 1) := by decide +kernel
theorem d_Mod_book_33 : decode (ib f_Mod_book) 33 = .ok (.getfield 19, 3) := by decide +kernel
theorem d_Mod_book_36 : decode (ib f_Mod_book) 36 = .ok (.iconst 4, 1) := by decide +kernel
theorem d_Mod_book_37 : decode (ib f_Mod_book) 37 = .ok (.iload_n 1, 1) := by decide +kernel
theorem d_Mod_book_38 : decode (ib f_Mod_book) 38 = .ok (.imul, 1) := by decide +kernel
theorem d_Mod_book_39 : decode (ib f_Mod_book) 39 = .ok (.iload_n 2, 1) := by decide +kernel
theorem d_Mod_book_40 : decode (ib f_Mod_book) 40 = .ok (.iadd, 1) := by decide +kernel
theorem d_Mod_book_41 : decode (ib f_Mod_book) 41 = .ok (.iaload, 1) := by decide +kernel
theorem d_Mod_book_42 : decode (ib f_Mod_book) 42 = .ok (.goto 5, 3) := by decide +kernel
theorem d_Mod_book_45 : decode (ib f_Mod_book) 45 = .ok (.bipush (-2), 2) := by decide +kernel
theorem d_Mod_book_47 : decode (ib f_Mod_book) 47 = .ok (.ireturn, 1) := by decide +kernel
theorem d_Mod_glueOfAll_0 : decode (ib f_Mod_glueOfAll) 0 = .ok (.iconst 0, 1) := by decide +kernel
theorem d_Mod_glueOfAll_1 : decode (ib f_Mod_glueOfAll) 1 = .ok (.istore_n 1, 1) := by decide +kernel
theorem d_Mod_glueOfAll_2 : decode (ib f_Mod_glueOfAll) 2 = .ok (.iconst 0, 1) := by decide +kernel
theorem d_Mod_glueOfAll_3 : decode (ib f_Mod_glueOfAll) 3 = .ok (.istore_n 2, 1) := by decide +kernel
theorem d_Mod_glueOfAll_4 : decode (ib f_Mod_glueOfAll) 4 = .ok (.iload_n 2, 1) := by decide +kernel
theorem d_Mod_glueOfAll_5 : decode (ib f_Mod_glueOfAll) 5 = .ok (.bipush 60, 2) := by decide +kernel
theorem d_Mod_glueOfAll_7 : decode (ib f_Mod_glueOfAll) 7 = .ok (.if_icmp .ge 17, 3) := by decide +kernel
theorem d_Mod_glueOfAll_10 : decode (ib f_Mod_glueOfAll) 10 = .ok (.iload_n 1, 1) := by decide +kernel
theorem d_Mod_glueOfAll_11 : decode (ib f_Mod_glueOfAll) 11 = .ok (.aload_n 0, 1) := by decide +kernel
theorem d_Mod_glueOfAll_12 : decode (ib f_Mod_glueOfAll) 12 = .ok (.iload_n 2, 1) := by decide +kernel
theorem d_Mod_glueOfAll_13 : decode (ib f_Mod_glueOfAll) 13 = .ok (.invokevirtual 309, 3) := by decide +kernel
theorem d_Mod_glueOfAll_16 : decode (ib f_Mod_glueOfAll) 16 = .ok (.iadd, 1) := by decide +kernel
theorem d_Mod_glueOfAll_17 : decode (ib f_Mod_glueOfAll) 17 = .ok (.istore_n 1, 1) := by decide +kernel
theorem d_Mod_glueOfAll_18 : decode (ib f_Mod_glueOfAll) 18 = .ok (.iinc 2 1, 3) := by decide +kernel
theorem d_Mod_glueOfAll_21 : decode (ib f_Mod_glueOfAll) 21 = .ok (.goto (-17), 3) := by decide +kernel
theorem d_Mod_glueOfAll_24 : decode (ib f_Mod_glueOfAll) 24 = .ok (.iload_n 1, 1) := by decide +kernel
theorem d_Mod_glueOfAll_25 : decode (ib f_Mod_glueOfAll) 25 = .ok (.ireturn, 1) := by decide +kernel
theorem d_Mod_goes_0 : decode (ib f_Mod_goes) 0 = .ok (.aload_n 0, 1) := by decide +kernel
theorem d_Mod_goes_1 : decode (ib f_Mod_goes) 1 = .ok (.iconst 0, 1) := by decide +kernel
theorem d_Mod_goes_2 : decode (ib f_Mod_goes) 2 = .ok (.putfield 107, 3) := by decide +kernel
theorem d_Mod_goes_5 : decode (ib f_Mod_goes) 5 = .ok (.aload_n 0, 1) := by decide +kernel
theorem d_Mod_goes_6 : decode (ib f_Mod_goes) 6 = .ok (.iload_n 1, 1) := by decide +kernel
theorem d_Mod_goes_7 : decode (ib f_Mod_goes) 7 = .ok (.iconst 1, 1) := by decide +kernel
theorem d_Mod_goes_8 : decode (ib f_Mod_goes) 8 = .ok (.bipush 60, 2) := by decide +kernel
theorem d_Mod_goes_10 : decode (ib f_Mod_goes) 10 = .ok (.invokevirtual 135, 3) := by decide +kernel
theorem d_Mod_goes_13 : decode (ib f_Mod_goes) 13 = .ok (.ifCond .eq 13, 3) := by decide +kernel
theorem d_Mod_goes_16 : decode (ib f_Mod_goes) 16 = .ok (.aload_n 0, 1) := by decide +kernel
theorem d_Mod_goes_17 : decode (ib f_Mod_goes) 17 = .ok (.iload_n 2, 1) := by decide +kernel
theorem d_Mod_goes_18 : decode (ib f_Mod_goes) 18 = .ok (.iconst 0, 1) := by decide +kernel
theorem d_Mod_goes_19 : decode (ib f_Mod_goes) 19 = .ok (.iconst 3, 1) := by decide +kernel
theorem d_Mod_goes_20 : decode (ib f_Mod_goes) 20 = .ok (.invokevirtual 135, 3) := by decide +kernel
theorem d_Mod_goes_23 : decode (ib f_Mod_goes) 23 = .ok (.ifCond .ne 5, 3) := by decide +kernel
theorem d_Mod_goes_26 : decode (ib f_Mod_goes) 26 = .ok (.iconst (-1), 1) := by decide +kernel
theorem d_Mod_goes_27 : decode (ib f_Mod_goes) 27 = .ok (.ireturn, 1) := by decide +kernel
theorem d_Mod_goes_28 : decode (ib f_Mod_goes) 28 = .ok (.aload_n 0, 1) := by decide +kernel
theorem d_Mod_goes_29 : decode (ib f_Mod_goes) 29 = .ok (.invokevirtual 382, 3) := by decide +kernel
theorem d_Mod_goes_32 : decode (ib f_Mod_goes) 32 = .ok (.iconst 0, 1) := by decide +kernel
theorem d_Mod_goes_33 : decode (ib f_Mod_goes) 33 = .ok (.istore_n 3, 1) := by decide +kernel
theorem d_Mod_goes_34 : decode (ib f_Mod_goes) 34 = .ok (.iload_n 3, 1) := by decide +kernel
theorem d_Mod_goes_35 : decode (ib f_Mod_goes) 35 = .ok (.iload_n 1, 1) := by decide +kernel
theorem d_Mod_goes_36 : decode (ib f_Mod_goes) 36 = .ok (.if_icmp .ge 14, 3) := by decide +kernel
theorem d_Mod_goes_39 : decode (ib f_Mod_goes) 39 = .ok (.aload_n 0, 1) := by decide +kernel
theorem d_Mod_goes_40 : decode (ib f_Mod_goes) 40 = .ok (.invokevirtual 379, 3) := by decide +kernel
theorem d_Mod_goes_43 : decode (ib f_Mod_goes) 43 = .ok (.pop, 1) := by decide +kernel
theorem d_Mod_goes_44 : decode (ib f_Mod_goes) 44 = .ok (.iinc 3 1, 3) := by decide +kernel
theorem d_Mod_goes_47 : decode (ib f_Mod_goes) 47 = .ok (.goto (-13), 3) := by decide +kernel
theorem d_Mod_goes_50 : decode (ib f_Mod_goes) 50 = .ok (.iload_n 2, 1) := by decide +kernel
theorem d_Mod_goes_51 : decode (ib f_Mod_goes) 51 = .ok (.ifCond .ne 13, 3) := by decide +kernel
theorem d_Mod_goes_54 : decode (ib f_Mod_goes) 54 = .ok (.aload_n 0, 1) := by decide +kernel
theorem d_Mod_goes_55 : decode (ib f_Mod_goes) 55 = .ok (.getfield 7, 3) := by decide +kernel
theorem d_Mod_goes_58 : decode (ib f_Mod_goes) 58 = .ok (.bipush 8, 2) := by decide +kernel
theorem d_Mod_goes_60 : decode (ib f_Mod_goes) 60 = .ok (.iaload, 1) := by decide +kernel
theorem d_Mod_goes_61 : decode (ib f_Mod_goes) 61 = .ok (.goto 34, 3) := by decide +kernel
theorem d_Mod_goes_64 : decode (ib f_Mod_goes) 64 = .ok (.iload_n 2, 1) := by decide +kernel
theorem d_Mod_goes_65 : decode (ib f_Mod_goes) 65 = .ok (.iconst 1, 1) := by decide +kernel
theorem d_Mod_goes_66 : decode (ib f_Mod_goes) 66 = .ok (.if_icmp .ne 13, 3) := by decide +kernel
theorem d_Mod_goes_69 : decode (ib f_Mod_goes) 69 = .ok (.aload_n 0, 1) := by decide +kernel
theorem d_Mod_goes_70 : decode (ib f_Mod_goes) 70 = .ok (.getfield 7, 3) := by decide +kernel
theorem d_Mod_goes_73 : decode (ib f_Mod_goes) 73 = .ok (.bipush 6, 2) := by decide +kernel
theorem d_Mod_goes_75 : decode (ib f_Mod_goes) 75 = .ok (.iaload, 1) := by decide +kernel
theorem d_Mod_goes_76 : decode (ib f_Mod_goes) 76 = .ok (.goto 19, 3) := by decide +kernel
theorem d_Mod_goes_79 : decode (ib f_Mod_goes) 79 = .ok (.iload_n 2, 1) := by decide +kernel
theorem d_Mod_goes_80 : decode (ib f_Mod_goes) 80 = .ok (.iconst 2, 1) := by decide +kernel
theorem d_Mod_goes_81 : decode (ib f_Mod_goes) 81 = .ok (.if_icmp .ne 10, 3) := by decide +kernel
theorem d_Mod_goes_84 : decode (ib f_Mod_goes) 84 = .ok (.aload_n 0, 1) := by decide +kernel
theorem d_Mod_goes_85 : decode (ib f_Mod_goes) 85 = .ok (.invokevirtual 385, 3) := by decide +kernel
theorem d_Mod_goes_88 : decode (ib f_Mod_goes) 88 = .ok (.goto 7, 3) := by decide +kernel
theorem d_Mod_goes_91 : decode (ib f_Mod_goes) 91 = .ok (.aload_n 0, 1) := by decide +kernel
theorem d_Mod_goes_92 : decode (ib f_Mod_goes) 92 = .ok (.invokevirtual 388, 3) := by decide +kernel
theorem d_Mod_goes_95 : decode (ib f_Mod_goes) 95 = .ok (.istore_n 3, 1) := by decide +kernel
theorem d_Mod_goes_96 : decode (ib f_Mod_goes) 96 = .ok (.aload_n 0, 1) := by decide +kernel
theorem d_Mod_goes_97 : decode (ib f_Mod_goes) 97 = .ok (.invokevirtual 391, 3) := by decide +kernel
theorem d_Mod_goes_100 : decode (ib f_Mod_goes) 100 = .ok (.iload_n 3, 1) := by decide +kernel
theorem d_Mod_goes_101 : decode (ib f_Mod_goes) 101 = .ok (.ireturn, 1) := by decide +kernel
theorem d_Mod_nearest_0 : decode (ib f_Mod_nearest) 0 = .ok (.aload_n 0, 1) := by decide +kernel
theorem d_Mod_nearest_1 : decode (ib f_Mod_nearest) 1 = .ok (.iconst 0, 1) := by decide +kernel
theorem d_Mod_nearest_2 : decode (ib f_Mod_nearest) 2 = .ok (.putfield 107, 3) := by decide +kernel
theorem d_Mod_nearest_5 : decode (ib f_Mod_nearest) 5 = .ok (.iconst 0, 1) := by decide +kernel
theorem d_Mod_nearest_6 : decode (ib f_Mod_nearest) 6 = .ok (.istore_n 2, 1) := by decide +kernel
theorem d_Mod_nearest_7 : decode (ib f_Mod_nearest) 7 = .ok (.iload_n 2, 1) := by decide +kernel
theorem d_Mod_nearest_8 : decode (ib f_Mod_nearest) 8 = .ok (.bipush 60, 2) := by decide +kernel
theorem d_Mod_nearest_10 : decode (ib f_Mod_nearest) 10 = .ok (.if_icmp .ge 52, 3) := by decide +kernel
theorem d_Mod_nearest_13 : decode (ib f_Mod_nearest) 13 = .ok (.aload_n 0, 1) := by decide +kernel
theorem d_Mod_nearest_14 : decode (ib f_Mod_nearest) 14 = .ok (.iload_n 2, 1) := by decide +kernel
theorem d_Mod_nearest_15 : decode (ib f_Mod_nearest) 15 = .ok (.invokevirtual 332, 3) := by decide +kernel
theorem d_Mod_nearest_18 : decode (ib f_Mod_nearest) 18 = .ok (.ifCond .eq 38, 3) := by decide +kernel
theorem d_Mod_nearest_21 : decode (ib f_Mod_nearest) 21 = .ok (.aload_n 0, 1) := by decide +kernel
theorem d_Mod_nearest_22 : decode (ib f_Mod_nearest) 22 = .ok (.getfield 7, 3) := by decide +kernel
theorem d_Mod_nearest_25 : decode (ib f_Mod_nearest) 25 = .ok (.aload_n 0, 1) := by decide +kernel
theorem d_Mod_nearest_26 : decode (ib f_Mod_nearest) 26 = .ok (.aload_n 0, 1) := by decide +kernel
theorem d_Mod_nearest_27 : decode (ib f_Mod_nearest) 27 = .ok (.iload_n 2, 1) := by decide +kernel
theorem d_Mod_nearest_28 : decode (ib f_Mod_nearest) 28 = .ok (.invokevirtual 128, 3) := by decide +kernel
theorem d_Mod_nearest_31 : decode (ib f_Mod_nearest) 31 = .ok (.invokevirtual 124, 3) := by decide +kernel
theorem d_Mod_nearest_34 : decode (ib f_Mod_nearest) 34 = .ok (.iconst 1, 1) := by decide +kernel
theorem d_Mod_nearest_35 : decode (ib f_Mod_nearest) 35 = .ok (.iadd, 1) := by decide +kernel
theorem d_Mod_nearest_36 : decode (ib f_Mod_nearest) 36 = .ok (.iaload, 1) := by decide +kernel
theorem d_Mod_nearest_37 : decode (ib f_Mod_nearest) 37 = .ok (.iload_n 1, 1) := by decide +kernel
theorem d_Mod_nearest_38 : decode (ib f_Mod_nearest) 38 = .ok (.if_icmp .ne 18, 3) := by decide +kernel
theorem d_Mod_nearest_41 : decode (ib f_Mod_nearest) 41 = .ok (.aload_n 0, 1) := by decide +kernel
theorem d_Mod_nearest_42 : decode (ib f_Mod_nearest) 42 = .ok (.getfield 7, 3) := by decide +kernel
theorem d_Mod_nearest_45 : decode (ib f_Mod_nearest) 45 = .ok (.aload_n 0, 1) := by decide +kernel
theorem d_Mod_nearest_46 : decode (ib f_Mod_nearest) 46 = .ok (.aload_n 0, 1) := by decide +kernel
theorem d_Mod_nearest_47 : decode (ib f_Mod_nearest) 47 = .ok (.iload_n 2, 1) := by decide +kernel
theorem d_Mod_nearest_48 : decode (ib f_Mod_nearest) 48 = .ok (.invokevirtual 128, 3) := by decide +kernel
theorem d_Mod_nearest_51 : decode (ib f_Mod_nearest) 51 = .ok (.invokevirtual 124, 3) := by decide +kernel
theorem d_Mod_nearest_54 : decode (ib f_Mod_nearest) 54 = .ok (.iaload, 1) := by decide +kernel
theorem d_Mod_nearest_55 : decode (ib f_Mod_nearest) 55 = .ok (.ireturn, 1) := by decide +kernel
theorem d_Mod_nearest_56 : decode (ib f_Mod_nearest) 56 = .ok (.iinc 2 1, 3) := by decide +kernel
theorem d_Mod_nearest_59 : decode (ib f_Mod_nearest) 59 = .ok (.goto (-52), 3) := by decide +kernel
theorem d_Mod_nearest_62 : decode (ib f_Mod_nearest) 62 = .ok (.iconst (-1), 1) := by decide +kernel
theorem d_Mod_nearest_63 : decode (ib f_Mod_nearest) 63 = .ok (.ireturn, 1) := by decide +kernel
theorem d_Mod_areNear_0 : decode (ib f_Mod_areNear) 0 = .ok (.aload_n 0, 1) := by decide +kernel
theorem d_Mod_areNear_1 : decode (ib f_Mod_areNear) 1 = .ok (.iload_n 1, 1) := by decide +kernel
theorem d_Mod_areNear_2 : decode (ib f_Mod_areNear) 2 = .ok (.iload_n 2, 1) := by decide +kernel
theorem d_Mod_areNear_3 : decode (ib f_Mod_areNear) 3 = .ok (.invokevirtual 306, 3) := by decide +kernel
theorem d_Mod_areNear_6 : decode (ib f_Mod_areNear) 6 = .ok (.iconst 1, 1) := by decide +kernel
theorem d_Mod_areNear_7 : decode (ib f_Mod_areNear) 7 = .ok (.if_icmp .eq 14, 3) := by decide +kernel
theorem d_Mod_areNear_10 : decode (ib f_Mod_areNear) 10 = .ok (.aload_n 0, 1) := by decide +kernel
theorem d_Mod_areNear_11 : decode (ib f_Mod_areNear) 11 = .ok (.iload_n 1, 1) := by decide +kernel
theorem d_Mod_areNear_12 : decode (ib f_Mod_areNear) 12 = .ok (.iload_n 2, 1) := by decide +kernel
theorem d_Mod_areNear_13 : decode (ib f_Mod_areNear) 13 = .ok (.invokevirtual 306, 3) := by decide +kernel
theorem d_Mod_areNear_16 : decode (ib f_Mod_areNear) 16 = .ok (.bipush 10, 2) := by decide +kernel
theorem d_Mod_areNear_18 : decode (ib f_Mod_areNear) 18 = .ok (.if_icmp .ne 7, 3) := by decide +kernel
theorem d_Mod_areNear_21 : decode (ib f_Mod_areNear) 21 = .ok (.iconst 1, 1) := by decide +kernel
theorem d_Mod_areNear_22 : decode (ib f_Mod_areNear) 22 = .ok (.goto 4, 3) := by decide +kernel
theorem d_Mod_areNear_25 : decode (ib f_Mod_areNear) 25 = .ok (.iconst 0, 1) := by decide +kernel
theorem d_Mod_areNear_26 : decode (ib f_Mod_areNear) 26 = .ok (.ireturn, 1) := by decide +kernel
theorem d_Mod_findsParts_0 : decode (ib f_Mod_findsParts) 0 = .ok (.iconst 0, 1) := by decide +kernel
theorem d_Mod_findsParts_1 : decode (ib f_Mod_findsParts) 1 = .ok (.istore_n 1, 1) := by decide +kernel
theorem d_Mod_findsParts_2 : decode (ib f_Mod_findsParts) 2 = .ok (.iload_n 1, 1) := by decide +kernel
theorem d_Mod_findsParts_3 : decode (ib f_Mod_findsParts) 3 = .ok (.bipush 60, 2) := by decide +kernel
theorem d_Mod_findsParts_5 : decode (ib f_Mod_findsParts) 5 = .ok (.if_icmp .ge 28, 3) := by decide +kernel
theorem d_Mod_findsParts_8 : decode (ib f_Mod_findsParts) 8 = .ok (.aload_n 0, 1) := by decide +kernel
theorem d_Mod_findsParts_9 : decode (ib f_Mod_findsParts) 9 = .ok (.getfield 71, 3) := by decide +kernel
theorem d_Mod_findsParts_12 : decode (ib f_Mod_findsParts) 12 = .ok (.iload_n 1, 1) := by decide +kernel
theorem d_Mod_findsParts_13 : decode (ib f_Mod_findsParts) 13 = .ok (.aload_n 0, 1) := by decide +kernel
theorem d_Mod_findsParts_14 : decode (ib f_Mod_findsParts) 14 = .ok (.iload_n 1, 1) := by decide +kernel
theorem d_Mod_findsParts_15 : decode (ib f_Mod_findsParts) 15 = .ok (.invokevirtual 332, 3) := by decide +kernel
theorem d_Mod_findsParts_18 : decode (ib f_Mod_findsParts) 18 = .ok (.ifCond .eq 7, 3) := by decide +kernel
theorem d_Mod_findsParts_21 : decode (ib f_Mod_findsParts) 21 = .ok (.iload_n 1, 1) := by decide +kernel
theorem d_Mod_findsParts_22 : decode (ib f_Mod_findsParts) 22 = .ok (.goto 4, 3) := by decide +kernel
theorem d_Mod_findsParts_25 : decode (ib f_Mod_findsParts) 25 = .ok (.iconst (-1), 1) := by decide +kernel
theorem d_Mod_findsParts_26 : decode (ib f_Mod_findsParts) 26 = .ok (.iastore, 1) := by decide +kernel
theorem d_Mod_findsParts_27 : decode (ib f_Mod_findsParts) 27 = .ok (.iinc 1 1, 3) := by decide +kernel
theorem d_Mod_findsParts_30 : decode (ib f_Mod_findsParts) 30 = .ok (.goto (-28), 3) := by decide +kernel
theorem d_Mod_findsParts_33 : decode (ib f_Mod_findsParts) 33 = .ok (.iconst 1, 1) := by decide +kernel
theorem d_Mod_findsParts_34 : decode (ib f_Mod_findsParts) 34 = .ok (.istore_n 1, 1) := by decide +kernel
theorem d_Mod_findsParts_35 : decode (ib f_Mod_findsParts) 35 = .ok (.iload_n 1, 1) := by decide +kernel
theorem d_Mod_findsParts_36 : decode (ib f_Mod_findsParts) 36 = .ok (.ifCond .eq 97, 3) := by decide +kernel
theorem d_Mod_findsParts_39 : decode (ib f_Mod_findsParts) 39 = .ok (.iconst 0, 1) := by decide +kernel
theorem d_Mod_findsParts_40 : decode (ib f_Mod_findsParts) 40 = .ok (.istore_n 1, 1) := by decide +kernel
theorem d_Mod_findsParts_41 : decode (ib f_Mod_findsParts) 41 = .ok (.iconst 0, 1) := by decide +kernel
theorem d_Mod_findsParts_42 : decode (ib f_Mod_findsParts) 42 = .ok (.istore_n 2, 1) := by decide +kernel
theorem d_Mod_findsParts_43 : decode (ib f_Mod_findsParts) 43 = .ok (.iload_n 2, 1) := by decide +kernel
theorem d_Mod_findsParts_44 : decode (ib f_Mod_findsParts) 44 = .ok (.bipush 60, 2) := by decide +kernel
theorem d_Mod_findsParts_46 : decode (ib f_Mod_findsParts) 46 = .ok (.if_icmp .ge 84, 3) := by decide +kernel
theorem d_Mod_findsParts_49 : decode (ib f_Mod_findsParts) 49 = .ok (.iconst 0, 1) := by decide +kernel
theorem d_Mod_findsParts_50 : decode (ib f_Mod_findsParts) 50 = .ok (.istore_n 3, 1) := by decide +kernel
theorem d_Mod_findsParts_51 : decode (ib f_Mod_findsParts) 51 = .ok (.iload_n 3, 1) := by decide +kernel
theorem d_Mod_findsParts_52 : decode (ib f_Mod_findsParts) 52 = .ok (.bipush 60, 2) := by decide +kernel
theorem d_Mod_findsParts_54 : decode (ib f_Mod_findsParts) 54 = .ok (.if_icmp .ge 70, 3) := by decide +kernel
theorem d_Mod_findsParts_57 : decode (ib f_Mod_findsParts) 57 = .ok (.aload_n 0, 1) := by decide +kernel
theorem d_Mod_findsParts_58 : decode (ib f_Mod_findsParts) 58 = .ok (.getfield 71, 3) := by decide +kernel
theorem d_Mod_findsParts_61 : decode (ib f_Mod_findsParts) 61 = .ok (.iload_n 2, 1) := by decide +kernel
theorem d_Mod_findsParts_62 : decode (ib f_Mod_findsParts) 62 = .ok (.iaload, 1) := by decide +kernel
theorem d_Mod_findsParts_63 : decode (ib f_Mod_findsParts) 63 = .ok (.iconst (-1), 1) := by decide +kernel
theorem d_Mod_findsParts_64 : decode (ib f_Mod_findsParts) 64 = .ok (.if_icmp .eq 54, 3) := by decide +kernel
theorem d_Mod_findsParts_67 : decode (ib f_Mod_findsParts) 67 = .ok (.aload_n 0, 1) := by decide +kernel
theorem d_Mod_findsParts_68 : decode (ib f_Mod_findsParts) 68 = .ok (.getfield 71, 3) := by decide +kernel
theorem d_Mod_findsParts_71 : decode (ib f_Mod_findsParts) 71 = .ok (.iload_n 3, 1) := by decide +kernel
theorem d_Mod_findsParts_72 : decode (ib f_Mod_findsParts) 72 = .ok (.iaload, 1) := by decide +kernel
theorem d_Mod_findsParts_73 : decode (ib f_Mod_findsParts) 73 = .ok (.iconst (-1), 1) := by decide +kernel
theorem d_Mod_findsParts_74 : decode (ib f_Mod_findsParts) 74 = .ok (.if_icmp .eq 44, 3) := by decide +kernel
theorem d_Mod_findsParts_77 : decode (ib f_Mod_findsParts) 77 = .ok (.aload_n 0, 1) := by decide +kernel
theorem d_Mod_findsParts_78 : decode (ib f_Mod_findsParts) 78 = .ok (.iload_n 2, 1) := by decide +kernel
theorem d_Mod_findsParts_79 : decode (ib f_Mod_findsParts) 79 = .ok (.iload_n 3, 1) := by decide +kernel
theorem d_Mod_findsParts_80 : decode (ib f_Mod_findsParts) 80 = .ok (.invokevirtual 394, 3) := by decide +kernel
theorem d_Mod_findsParts_83 : decode (ib f_Mod_findsParts) 83 = .ok (.ifCond .eq 35, 3) := by decide +kernel
theorem d_Mod_findsParts_86 : decode (ib f_Mod_findsParts) 86 = .ok (.aload_n 0, 1) := by decide +kernel
theorem d_Mod_findsParts_87 : decode (ib f_Mod_findsParts) 87 = .ok (.getfield 71, 3) := by decide +kernel
theorem d_Mod_findsParts_90 : decode (ib f_Mod_findsParts) 90 = .ok (.iload_n 3, 1) := by decide +kernel
theorem d_Mod_findsParts_91 : decode (ib f_Mod_findsParts) 91 = .ok (.iaload, 1) := by decide +kernel
theorem d_Mod_findsParts_92 : decode (ib f_Mod_findsParts) 92 = .ok (.aload_n 0, 1) := by decide +kernel
theorem d_Mod_findsParts_93 : decode (ib f_Mod_findsParts) 93 = .ok (.getfield 71, 3) := by decide +kernel
theorem d_Mod_findsParts_96 : decode (ib f_Mod_findsParts) 96 = .ok (.iload_n 2, 1) := by decide +kernel
theorem d_Mod_findsParts_97 : decode (ib f_Mod_findsParts) 97 = .ok (.iaload, 1) := by decide +kernel
theorem d_Mod_findsParts_98 : decode (ib f_Mod_findsParts) 98 = .ok (.if_icmp .lt 6, 3) := by decide +kernel
theorem d_Mod_findsParts_101 : decode (ib f_Mod_findsParts) 101 = .ok (.goto 17, 3) := by decide +kernel
theorem d_Mod_findsParts_104 : decode (ib f_Mod_findsParts) 104 = .ok (.aload_n 0, 1) := by decide +kernel
theorem d_Mod_findsParts_105 : decode (ib f_Mod_findsParts) 105 = .ok (.getfield 71, 3) := by decide +kernel
theorem d_Mod_findsParts_108 : decode (ib f_Mod_findsParts) 108 = .ok (.iload_n 2, 1) := by decide +kernel
theorem d_Mod_findsParts_109 : decode (ib f_Mod_findsParts) 109 = .ok (.aload_n 0, 1) := by decide +kernel
theorem d_Mod_findsParts_110 : decode (ib f_Mod_findsParts) 110 = .ok (.getfield 71, 3) := by decide +kernel
theorem d_Mod_findsParts_113 : decode (ib f_Mod_findsParts) 113 = .ok (.iload_n 3, 1) := by decide +kernel
theorem d_Mod_findsParts_114 : decode (ib f_Mod_findsParts) 114 = .ok (.iaload, 1) := by decide +kernel
theorem d_Mod_findsParts_115 : decode (ib f_Mod_findsParts) 115 = .ok (.iastore, 1) := by decide +kernel
theorem d_Mod_findsParts_116 : decode (ib f_Mod_findsParts) 116 = .ok (.iconst 1, 1) := by decide +kernel
theorem d_Mod_findsParts_117 : decode (ib f_Mod_findsParts) 117 = .ok (.istore_n 1, 1) := by decide +kernel
theorem d_Mod_findsParts_118 : decode (ib f_Mod_findsParts) 118 = .ok (.iinc 3 1, 3) := by decide +kernel
theorem d_Mod_findsParts_121 : decode (ib f_Mod_findsParts) 121 = .ok (.goto (-70), 3) := by decide +kernel
theorem d_Mod_findsParts_124 : decode (ib f_Mod_findsParts) 124 = .ok (.iinc 2 1, 3) := by decide +kernel
theorem d_Mod_findsParts_127 : decode (ib f_Mod_findsParts) 127 = .ok (.goto (-84), 3) := by decide +kernel
theorem d_Mod_findsParts_130 : decode (ib f_Mod_findsParts) 130 = .ok (.goto (-95), 3) := by decide +kernel
theorem d_Mod_findsParts_133 : decode (ib f_Mod_findsParts) 133 = .ok (.return_, 1) := by decide +kernel
theorem d_Mod_partOf_0 : decode (ib f_Mod_partOf) 0 = .ok (.iconst 0, 1) := by decide +kernel
theorem d_Mod_partOf_1 : decode (ib f_Mod_partOf) 1 = .ok (.istore_n 2, 1) := by decide +kernel
theorem d_Mod_partOf_2 : decode (ib f_Mod_partOf) 2 = .ok (.iconst 0, 1) := by decide +kernel
theorem d_Mod_partOf_3 : decode (ib f_Mod_partOf) 3 = .ok (.istore_n 3, 1) := by decide +kernel
theorem d_Mod_partOf_4 : decode (ib f_Mod_partOf) 4 = .ok (.iload_n 3, 1) := by decide +kernel
theorem d_Mod_partOf_5 : decode (ib f_Mod_partOf) 5 = .ok (.bipush 60, 2) := by decide +kernel
theorem d_Mod_partOf_7 : decode (ib f_Mod_partOf) 7 = .ok (.if_icmp .ge 23, 3) := by decide +kernel
theorem d_Mod_partOf_10 : decode (ib f_Mod_partOf) 10 = .ok (.aload_n 0, 1) := by decide +kernel
theorem d_Mod_partOf_11 : decode (ib f_Mod_partOf) 11 = .ok (.getfield 71, 3) := by decide +kernel
theorem d_Mod_partOf_14 : decode (ib f_Mod_partOf) 14 = .ok (.iload_n 3, 1) := by decide +kernel
theorem d_Mod_partOf_15 : decode (ib f_Mod_partOf) 15 = .ok (.iaload, 1) := by decide +kernel
theorem d_Mod_partOf_16 : decode (ib f_Mod_partOf) 16 = .ok (.iload_n 1, 1) := by decide +kernel
theorem d_Mod_partOf_17 : decode (ib f_Mod_partOf) 17 = .ok (.if_icmp .ne 7, 3) := by decide +kernel
theorem d_Mod_partOf_20 : decode (ib f_Mod_partOf) 20 = .ok (.iload_n 2, 1) := by decide +kernel
theorem d_Mod_partOf_21 : decode (ib f_Mod_partOf) 21 = .ok (.iconst 1, 1) := by decide +kernel
theorem d_Mod_partOf_22 : decode (ib f_Mod_partOf) 22 = .ok (.iadd, 1) := by decide +kernel
theorem d_Mod_partOf_23 : decode (ib f_Mod_partOf) 23 = .ok (.istore_n 2, 1) := by decide +kernel
theorem d_Mod_partOf_24 : decode (ib f_Mod_partOf) 24 = .ok (.iinc 3 1, 3) := by decide +kernel
theorem d_Mod_partOf_27 : decode (ib f_Mod_partOf) 27 = .ok (.goto (-23), 3) := by decide +kernel
theorem d_Mod_partOf_30 : decode (ib f_Mod_partOf) 30 = .ok (.iload_n 2, 1) := by decide +kernel
theorem d_Mod_partOf_31 : decode (ib f_Mod_partOf) 31 = .ok (.ireturn, 1) := by decide +kernel
theorem d_Mod_heaps_0 : decode (ib f_Mod_heaps) 0 = .ok (.aload_n 0, 1) := by decide +kernel
theorem d_Mod_heaps_1 : decode (ib f_Mod_heaps) 1 = .ok (.iconst 0, 1) := by decide +kernel
theorem d_Mod_heaps_2 : decode (ib f_Mod_heaps) 2 = .ok (.putfield 107, 3) := by decide +kernel
theorem d_Mod_heaps_5 : decode (ib f_Mod_heaps) 5 = .ok (.aload_n 0, 1) := by decide +kernel
theorem d_Mod_heaps_6 : decode (ib f_Mod_heaps) 6 = .ok (.iload_n 1, 1) := by decide +kernel
theorem d_Mod_heaps_7 : decode (ib f_Mod_heaps) 7 = .ok (.iconst 0, 1) := by decide +kernel
theorem d_Mod_heaps_8 : decode (ib f_Mod_heaps) 8 = .ok (.iconst 2, 1) := by decide +kernel
theorem d_Mod_heaps_9 : decode (ib f_Mod_heaps) 9 = .ok (.invokevirtual 135, 3) := by decide +kernel
theorem d_Mod_heaps_12 : decode (ib f_Mod_heaps) 12 = .ok (.ifCond .ne 5, 3) := by decide +kernel
theorem d_Mod_heaps_15 : decode (ib f_Mod_heaps) 15 = .ok (.iconst (-1), 1) := by decide +kernel
theorem d_Mod_heaps_16 : decode (ib f_Mod_heaps) 16 = .ok (.ireturn, 1) := by decide +kernel
theorem d_Mod_heaps_17 : decode (ib f_Mod_heaps) 17 = .ok (.aload_n 0, 1) := by decide +kernel
theorem d_Mod_heaps_18 : decode (ib f_Mod_heaps) 18 = .ok (.invokevirtual 398, 3) := by decide +kernel
theorem d_Mod_heaps_21 : decode (ib f_Mod_heaps) 21 = .ok (.iconst 0, 1) := by decide +kernel
theorem d_Mod_heaps_22 : decode (ib f_Mod_heaps) 22 = .ok (.istore_n 2, 1) := by decide +kernel
theorem d_Mod_heaps_23 : decode (ib f_Mod_heaps) 23 = .ok (.iconst (-1), 1) := by decide +kernel
theorem d_Mod_heaps_24 : decode (ib f_Mod_heaps) 24 = .ok (.istore_n 3, 1) := by decide +kernel
theorem d_Mod_heaps_25 : decode (ib f_Mod_heaps) 25 = .ok (.iconst 0, 1) := by decide +kernel
theorem d_Mod_heaps_26 : decode (ib f_Mod_heaps) 26 = .ok (.istore 4, 2) := by decide +kernel
theorem d_Mod_heaps_28 : decode (ib f_Mod_heaps) 28 = .ok (.iload 4, 2) := by decide +kernel
theorem d_Mod_heaps_30 : decode (ib f_Mod_heaps) 30 = .ok (.bipush 60, 2) := by decide +kernel
theorem d_Mod_heaps_32 : decode (ib f_Mod_heaps) 32 = .ok (.if_icmp .ge 50, 3) := by decide +kernel
theorem d_Mod_heaps_35 : decode (ib f_Mod_heaps) 35 = .ok (.aload_n 0, 1) := by decide +kernel
theorem d_Mod_heaps_36 : decode (ib f_Mod_heaps) 36 = .ok (.getfield 71, 3) := by decide +kernel
theorem d_Mod_heaps_39 : decode (ib f_Mod_heaps) 39 = .ok (.iload 4, 2) := by decide +kernel
theorem d_Mod_heaps_41 : decode (ib f_Mod_heaps) 41 = .ok (.iaload, 1) := by decide +kernel
theorem d_Mod_heaps_42 : decode (ib f_Mod_heaps) 42 = .ok (.iload 4, 2) := by decide +kernel
theorem d_Mod_heaps_44 : decode (ib f_Mod_heaps) 44 = .ok (.if_icmp .eq 6, 3) := by decide +kernel
theorem d_Mod_heaps_47 : decode (ib f_Mod_heaps) 47 = .ok (.goto 29, 3) := by decide +kernel
theorem d_Mod_heaps_50 : decode (ib f_Mod_heaps) 50 = .ok (.iload_n 2, 1) := by decide +kernel
theorem d_Mod_heaps_51 : decode (ib f_Mod_heaps) 51 = .ok (.iconst 1, 1) := by decide +kernel
theorem d_Mod_heaps_52 : decode (ib f_Mod_heaps) 52 = .ok (.iadd, 1) := by decide +kernel
theorem d_Mod_heaps_53 : decode (ib f_Mod_heaps) 53 = .ok (.istore_n 2, 1) := by decide +kernel
theorem d_Mod_heaps_54 : decode (ib f_Mod_heaps) 54 = .ok (.iload_n 3, 1) := by decide +kernel
theorem d_Mod_heaps_55 : decode (ib f_Mod_heaps) 55 = .ok (.iconst (-1), 1) := by decide +kernel
theorem d_Mod_heaps_56 : decode (ib f_Mod_heaps) 56 = .ok (.if_icmp .eq 17, 3) := by decide +kernel
theorem d_Mod_heaps_59 : decode (ib f_Mod_heaps) 59 = .ok (.aload_n 0, 1) := by decide +kernel
theorem d_Mod_heaps_60 : decode (ib f_Mod_heaps) 60 = .ok (.iload 4, 2) := by decide +kernel
theorem d_Mod_heaps_62 : decode (ib f_Mod_heaps) 62 = .ok (.invokevirtual 401, 3) := by decide +kernel
theorem d_Mod_heaps_65 : decode (ib f_Mod_heaps) 65 = .ok (.aload_n 0, 1) := by decide +kernel
theorem d_Mod_heaps_66 : decode (ib f_Mod_heaps) 66 = .ok (.iload_n 3, 1) := by decide +kernel
theorem d_Mod_heaps_67 : decode (ib f_Mod_heaps) 67 = .ok (.invokevirtual 401, 3) := by decide +kernel
theorem d_Mod_heaps_70 : decode (ib f_Mod_heaps) 70 = .ok (.if_icmp .le 6, 3) := by decide +kernel
theorem d_Mod_heaps_73 : decode (ib f_Mod_heaps) 73 = .ok (.iload 4, 2) := by decide +kernel
theorem d_Mod_heaps_75 : decode (ib f_Mod_heaps) 75 = .ok (.istore_n 3, 1) := by decide +kernel
theorem d_Mod_heaps_76 : decode (ib f_Mod_heaps) 76 = .ok (.iinc 4 1, 3) := by decide +kernel
theorem d_Mod_heaps_79 : decode (ib f_Mod_heaps) 79 = .ok (.goto (-51), 3) := by decide +kernel
theorem d_Mod_heaps_82 : decode (ib f_Mod_heaps) 82 = .ok (.iload_n 1, 1) := by decide +kernel
theorem d_Mod_heaps_83 : decode (ib f_Mod_heaps) 83 = .ok (.ifCond .ne 7, 3) := by decide +kernel
theorem d_Mod_heaps_86 : decode (ib f_Mod_heaps) 86 = .ok (.iload_n 2, 1) := by decide +kernel
theorem d_Mod_heaps_87 : decode (ib f_Mod_heaps) 87 = .ok (.goto 26, 3) := by decide +kernel
theorem d_Mod_heaps_90 : decode (ib f_Mod_heaps) 90 = .ok (.iload_n 1, 1) := by decide +kernel
theorem d_Mod_heaps_91 : decode (ib f_Mod_heaps) 91 = .ok (.iconst 2, 1) := by decide +kernel
theorem d_Mod_heaps_92 : decode (ib f_Mod_heaps) 92 = .ok (.if_icmp .ne 7, 3) := by decide +kernel
theorem d_Mod_heaps_95 : decode (ib f_Mod_heaps) 95 = .ok (.iload_n 3, 1) := by decide +kernel
theorem d_Mod_heaps_96 : decode (ib f_Mod_heaps) 96 = .ok (.goto 17, 3) := by decide +kernel
theorem d_Mod_heaps_99 : decode (ib f_Mod_heaps) 99 = .ok (.iload_n 3, 1) := by decide +kernel
theorem d_Mod_heaps_100 : decode (ib f_Mod_heaps) 100 = .ok (.iconst (-1), 1) := by decide +kernel
theorem d_Mod_heaps_101 : decode (ib f_Mod_heaps) 101 = .ok (.if_icmp .ne 7, 3) := by decide +kernel
theorem d_Mod_heaps_104 : decode (ib f_Mod_heaps) 104 = .ok (.iconst 0, 1) := by decide +kernel
theorem d_Mod_heaps_105 : decode (ib f_Mod_heaps) 105 = .ok (.goto 8, 3) := by decide +kernel
theorem d_Mod_heaps_108 : decode (ib f_Mod_heaps) 108 = .ok (.aload_n 0, 1) := by decide +kernel
theorem d_Mod_heaps_109 : decode (ib f_Mod_heaps) 109 = .ok (.iload_n 3, 1) := by decide +kernel
theorem d_Mod_heaps_110 : decode (ib f_Mod_heaps) 110 = .ok (.invokevirtual 401, 3) := by decide +kernel
theorem d_Mod_heaps_113 : decode (ib f_Mod_heaps) 113 = .ok (.ireturn, 1) := by decide +kernel
theorem d_Mod_kind_0 : decode (ib f_Mod_kind) 0 = .ok (.aload_n 0, 1) := by decide +kernel
theorem d_Mod_kind_1 : decode (ib f_Mod_kind) 1 = .ok (.iconst 0, 1) := by decide +kernel
theorem d_Mod_kind_2 : decode (ib f_Mod_kind) 2 = .ok (.putfield 107, 3) := by decide +kernel
theorem d_Mod_kind_5 : decode (ib f_Mod_kind) 5 = .ok (.iload_n 1, 1) := by decide +kernel
theorem d_Mod_kind_6 : decode (ib f_Mod_kind) 6 = .ok (.iconst (-1), 1) := by decide +kernel
theorem d_Mod_kind_7 : decode (ib f_Mod_kind) 7 = .ok (.if_icmp .ne 10, 3) := by decide +kernel
theorem d_Mod_kind_10 : decode (ib f_Mod_kind) 10 = .ok (.aload_n 0, 1) := by decide +kernel
theorem d_Mod_kind_11 : decode (ib f_Mod_kind) 11 = .ok (.iconst 0, 1) := by decide +kernel
theorem d_Mod_kind_12 : decode (ib f_Mod_kind) 12 = .ok (.putfield 404, 3) := by decide +kernel
theorem d_Mod_kind_15 : decode (ib f_Mod_kind) 15 = .ok (.iconst 0, 1) := by decide +kernel
theorem d_Mod_kind_16 : decode (ib f_Mod_kind) 16 = .ok (.ireturn, 1) := by decide +kernel
theorem d_Mod_kind_17 : decode (ib f_Mod_kind) 17 = .ok (.aload_n 0, 1) := by decide +kernel
theorem d_Mod_kind_18 : decode (ib f_Mod_kind) 18 = .ok (.iload_n 1, 1) := by decide +kernel
theorem d_Mod_kind_19 : decode (ib f_Mod_kind) 19 = .ok (.iconst 0, 1) := by decide +kernel
theorem d_Mod_kind_20 : decode (ib f_Mod_kind) 20 = .ok (.iconst 5, 1) := by decide +kernel
theorem d_Mod_kind_21 : decode (ib f_Mod_kind) 21 = .ok (.invokevirtual 135, 3) := by decide +kernel
theorem d_Mod_kind_24 : decode (ib f_Mod_kind) 24 = .ok (.ifCond .eq 12, 3) := by decide +kernel
theorem d_Mod_kind_27 : decode (ib f_Mod_kind) 27 = .ok (.aload_n 0, 1) := by decide +kernel
theorem d_Mod_kind_28 : decode (ib f_Mod_kind) 28 = .ok (.getfield 404, 3) := by decide +kernel
theorem d_Mod_kind_31 : decode (ib f_Mod_kind) 31 = .ok (.bipush 8, 2) := by decide +kernel
theorem d_Mod_kind_33 : decode (ib f_Mod_kind) 33 = .ok (.if_icmp .ne 5, 3) := by decide +kernel
theorem d_Mod_kind_36 : decode (ib f_Mod_kind) 36 = .ok (.iconst (-1), 1) := by decide +kernel
theorem d_Mod_kind_37 : decode (ib f_Mod_kind) 37 = .ok (.ireturn, 1) := by decide +kernel
theorem d_Mod_kind_38 : decode (ib f_Mod_kind) 38 = .ok (.aload_n 0, 1) := by decide +kernel
theorem d_Mod_kind_39 : decode (ib f_Mod_kind) 39 = .ok (.getfield 74, 3) := by decide +kernel
theorem d_Mod_kind_42 : decode (ib f_Mod_kind) 42 = .ok (.aload_n 0, 1) := by decide +kernel
theorem d_Mod_kind_43 : decode (ib f_Mod_kind) 43 = .ok (.getfield 404, 3) := by decide +kernel
theorem d_Mod_kind_46 : decode (ib f_Mod_kind) 46 = .ok (.iload_n 1, 1) := by decide +kernel
theorem d_Mod_kind_47 : decode (ib f_Mod_kind) 47 = .ok (.iastore, 1) := by decide +kernel
theorem d_Mod_kind_48 : decode (ib f_Mod_kind) 48 = .ok (.aload_n 0, 1) := by decide +kernel
theorem d_Mod_kind_49 : decode (ib f_Mod_kind) 49 = .ok (.aload_n 0, 1) := by decide +kernel
theorem d_Mod_kind_50 : decode (ib f_Mod_kind) 50 = .ok (.getfield 404, 3) := by decide +kernel
theorem d_Mod_kind_53 : decode (ib f_Mod_kind) 53 = .ok (.iconst 1, 1) := by decide +kernel
theorem d_Mod_kind_54 : decode (ib f_Mod_kind) 54 = .ok (.iadd, 1) := by decide +kernel
theorem d_Mod_kind_55 : decode (ib f_Mod_kind) 55 = .ok (.putfield 404, 3) := by decide +kernel
theorem d_Mod_kind_58 : decode (ib f_Mod_kind) 58 = .ok (.aload_n 0, 1) := by decide +kernel
theorem d_Mod_kind_59 : decode (ib f_Mod_kind) 59 = .ok (.getfield 404, 3) := by decide +kernel
theorem d_Mod_kind_62 : decode (ib f_Mod_kind) 62 = .ok (.ireturn, 1) := by decide +kernel
theorem d_Mod_sayingWays_0 : decode (ib f_Mod_sayingWays) 0 = .ok (.iconst 0, 1) := by decide +kernel
theorem d_Mod_sayingWays_1 : decode (ib f_Mod_sayingWays) 1 = .ok (.istore_n 1, 1) := by decide +kernel
theorem d_Mod_sayingWays_2 : decode (ib f_Mod_sayingWays) 2 = .ok (.iload_n 1, 1) := by decide +kernel
theorem d_Mod_sayingWays_3 : decode (ib f_Mod_sayingWays) 3 = .ok (.bipush 16, 2) := by decide +kernel
theorem d_Mod_sayingWays_5 : decode (ib f_Mod_sayingWays) 5 = .ok (.if_icmp .ge 24, 3) := by decide +kernel
theorem d_Mod_sayingWays_8 : decode (ib f_Mod_sayingWays) 8 = .ok (.aload_n 0, 1) := by decide +kernel
theorem d_Mod_sayingWays_9 : decode (ib f_Mod_sayingWays) 9 = .ok (.getfield 77, 3) := by decide +kernel
theorem d_Mod_sayingWays_12 : decode (ib f_Mod_sayingWays) 12 = .ok (.iload_n 1, 1) := by decide +kernel
theorem d_Mod_sayingWays_13 : decode (ib f_Mod_sayingWays) 13 = .ok (.iload_n 1, 1) := by decide +kernel
theorem d_Mod_sayingWays_14 : decode (ib f_Mod_sayingWays) 14 = .ok (.ifCond .ne 7, 3) := by decide +kernel
theorem d_Mod_sayingWays_17 : decode (ib f_Mod_sayingWays) 17 = .ok (.iconst 1, 1) := by decide +kernel
theorem d_Mod_sayingWays_18 : decode (ib f_Mod_sayingWays) 18 = .ok (.goto 4, 3) := by decide +kernel
theorem d_Mod_sayingWays_21 : decode (ib f_Mod_sayingWays) 21 = .ok (.iconst 0, 1) := by decide +kernel
theorem d_Mod_sayingWays_22 : decode (ib f_Mod_sayingWays) 22 = .ok (.iastore, 1) := by decide +kernel
theorem d_Mod_sayingWays_23 : decode (ib f_Mod_sayingWays) 23 = .ok (.iinc 1 1, 3) := by decide +kernel
theorem d_Mod_sayingWays_26 : decode (ib f_Mod_sayingWays) 26 = .ok (.goto (-24), 3) := by decide +kernel
theorem d_Mod_sayingWays_29 : decode (ib f_Mod_sayingWays) 29 = .ok (.iconst 0, 1) := by decide +kernel
theorem d_Mod_sayingWays_30 : decode (ib f_Mod_sayingWays) 30 = .ok (.istore_n 1, 1) := by decide +kernel
theorem d_Mod_sayingWays_31 : decode (ib f_Mod_sayingWays) 31 = .ok (.iload_n 1, 1) := by decide +kernel
theorem d_Mod_sayingWays_32 : decode (ib f_Mod_sayingWays) 32 = .ok (.bipush 60, 2) := by decide +kernel
theorem d_Mod_sayingWays_34 : decode (ib f_Mod_sayingWays) 34 = .ok (.if_icmp .ge 88, 3) := by decide +kernel
theorem d_Mod_sayingWays_37 : decode (ib f_Mod_sayingWays) 37 = .ok (.aload_n 0, 1) := by decide +kernel
theorem d_Mod_sayingWays_38 : decode (ib f_Mod_sayingWays) 38 = .ok (.iload_n 1, 1) := by decide +kernel
theorem d_Mod_sayingWays_39 : decode (ib f_Mod_sayingWays) 39 = .ok (.invokevirtual 332, 3) := by decide +kernel
theorem d_Mod_sayingWays_42 : decode (ib f_Mod_sayingWays) 42 = .ok (.ifCond .ne 6, 3) := by decide +kernel
theorem d_Mod_sayingWays_45 : decode (ib f_Mod_sayingWays) 45 = .ok (.goto 71, 3) := by decide +kernel
theorem d_Mod_sayingWays_48 : decode (ib f_Mod_sayingWays) 48 = .ok (.aload_n 0, 1) := by decide +kernel
theorem d_Mod_sayingWays_49 : decode (ib f_Mod_sayingWays) 49 = .ok (.getfield 7, 3) := by decide +kernel
theorem d_Mod_sayingWays_52 : decode (ib f_Mod_sayingWays) 52 = .ok (.aload_n 0, 1) := by decide +kernel
theorem d_Mod_sayingWays_53 : decode (ib f_Mod_sayingWays) 53 = .ok (.aload_n 0, 1) := by decide +kernel
theorem d_Mod_sayingWays_54 : decode (ib f_Mod_sayingWays) 54 = .ok (.iload_n 1, 1) := by decide +kernel
theorem d_Mod_sayingWays_55 : decode (ib f_Mod_sayingWays) 55 = .ok (.invokevirtual 128, 3) := by decide +kernel
theorem d_Mod_sayingWays_58 : decode (ib f_Mod_sayingWays) 58 = .ok (.invokevirtual 124, 3) := by decide +kernel
theorem d_Mod_sayingWays_61 : decode (ib f_Mod_sayingWays) 61 = .ok (.iconst 1, 1) := by decide +kernel
theorem d_Mod_sayingWays_62 : decode (ib f_Mod_sayingWays) 62 = .ok (.iadd, 1) := by decide +kernel
theorem d_Mod_sayingWays_63 : decode (ib f_Mod_sayingWays) 63 = .ok (.iaload, 1) := by decide +kernel
theorem d_Mod_sayingWays_64 : decode (ib f_Mod_sayingWays) 64 = .ok (.istore_n 2, 1) := by decide +kernel
theorem d_Mod_sayingWays_65 : decode (ib f_Mod_sayingWays) 65 = .ok (.aload_n 0, 1) := by decide +kernel
theorem d_Mod_sayingWays_66 : decode (ib f_Mod_sayingWays) 66 = .ok (.getfield 404, 3) := by decide +kernel
theorem d_Mod_sayingWays_69 : decode (ib f_Mod_sayingWays) 69 = .ok (.istore_n 3, 1) := by decide +kernel
theorem d_Mod_sayingWays_70 : decode (ib f_Mod_sayingWays) 70 = .ok (.iload_n 3, 1) := by decide +kernel
theorem d_Mod_sayingWays_71 : decode (ib f_Mod_sayingWays) 71 = .ok (.ifCond .le 45, 3) := by decide +kernel
theorem d_Mod_sayingWays_74 : decode (ib f_Mod_sayingWays) 74 = .ok (.aload_n 0, 1) := by decide +kernel
theorem d_Mod_sayingWays_75 : decode (ib f_Mod_sayingWays) 75 = .ok (.getfield 74, 3) := by decide +kernel
theorem d_Mod_sayingWays_78 : decode (ib f_Mod_sayingWays) 78 = .ok (.iload_n 3, 1) := by decide +kernel
theorem d_Mod_sayingWays_79 : decode (ib f_Mod_sayingWays) 79 = .ok (.iconst 1, 1) := by decide +kernel
theorem d_Mod_sayingWays_80 : decode (ib f_Mod_sayingWays) 80 = .ok (.isub, 1) := by decide +kernel
theorem d_Mod_sayingWays_81 : decode (ib f_Mod_sayingWays) 81 = .ok (.iaload, 1) := by decide +kernel
theorem d_Mod_sayingWays_82 : decode (ib f_Mod_sayingWays) 82 = .ok (.iload_n 2, 1) := by decide +kernel
theorem d_Mod_sayingWays_83 : decode (ib f_Mod_sayingWays) 83 = .ok (.if_icmp .ne 27, 3) := by decide +kernel
theorem d_Mod_sayingWays_86 : decode (ib f_Mod_sayingWays) 86 = .ok (.aload_n 0, 1) := by decide +kernel
theorem d_Mod_sayingWays_87 : decode (ib f_Mod_sayingWays) 87 = .ok (.getfield 77, 3) := by decide +kernel
theorem d_Mod_sayingWays_90 : decode (ib f_Mod_sayingWays) 90 = .ok (.iload_n 3, 1) := by decide +kernel
theorem d_Mod_sayingWays_91 : decode (ib f_Mod_sayingWays) 91 = .ok (.aload_n 0, 1) := by decide +kernel
theorem d_Mod_sayingWays_92 : decode (ib f_Mod_sayingWays) 92 = .ok (.aload_n 0, 1) := by decide +kernel
theorem d_Mod_sayingWays_93 : decode (ib f_Mod_sayingWays) 93 = .ok (.getfield 77, 3) := by decide +kernel
theorem d_Mod_sayingWays_96 : decode (ib f_Mod_sayingWays) 96 = .ok (.iload_n 3, 1) := by decide +kernel
theorem d_Mod_sayingWays_97 : decode (ib f_Mod_sayingWays) 97 = .ok (.iaload, 1) := by decide +kernel
theorem d_Mod_sayingWays_98 : decode (ib f_Mod_sayingWays) 98 = .ok (.aload_n 0, 1) := by decide +kernel
theorem d_Mod_sayingWays_99 : decode (ib f_Mod_sayingWays) 99 = .ok (.getfield 77, 3) := by decide +kernel
theorem d_Mod_sayingWays_102 : decode (ib f_Mod_sayingWays) 102 = .ok (.iload_n 3, 1) := by decide +kernel
theorem d_Mod_sayingWays_103 : decode (ib f_Mod_sayingWays) 103 = .ok (.iconst 1, 1) := by decide +kernel
theorem d_Mod_sayingWays_104 : decode (ib f_Mod_sayingWays) 104 = .ok (.isub, 1) := by decide +kernel
theorem d_Mod_sayingWays_105 : decode (ib f_Mod_sayingWays) 105 = .ok (.iaload, 1) := by decide +kernel
theorem d_Mod_sayingWays_106 : decode (ib f_Mod_sayingWays) 106 = .ok (.invokevirtual 407, 3) := by decide +kernel
theorem d_Mod_sayingWays_109 : decode (ib f_Mod_sayingWays) 109 = .ok (.iastore, 1) := by decide +kernel
theorem d_Mod_sayingWays_110 : decode (ib f_Mod_sayingWays) 110 = .ok (.iinc 3 (-1), 3) := by decide +kernel
theorem d_Mod_sayingWays_113 : decode (ib f_Mod_sayingWays) 113 = .ok (.goto (-43), 3) := by decide +kernel
theorem d_Mod_sayingWays_116 : decode (ib f_Mod_sayingWays) 116 = .ok (.iinc 1 1, 3) := by decide +kernel
theorem d_Mod_sayingWays_119 : decode (ib f_Mod_sayingWays) 119 = .ok (.goto (-88), 3) := by decide +kernel
theorem d_Mod_sayingWays_122 : decode (ib f_Mod_sayingWays) 122 = .ok (.aload_n 0, 1) := by decide +kernel
theorem d_Mod_sayingWays_123 : decode (ib f_Mod_sayingWays) 123 = .ok (.getfield 77, 3) := by decide +kernel
theorem d_Mod_sayingWays_126 : decode (ib f_Mod_sayingWays) 126 = .ok (.aload_n 0, 1) := by decide +kernel
theorem d_Mod_sayingWays_127 : decode (ib f_Mod_sayingWays) 127 = .ok (.getfield 404, 3) := by decide +kernel
theorem d_Mod_sayingWays_130 : decode (ib f_Mod_sayingWays) 130 = .ok (.iaload, 1) := by decide +kernel
theorem d_Mod_sayingWays_131 : decode (ib f_Mod_sayingWays) 131 = .ok (.ireturn, 1) := by decide +kernel
theorem d_Mod_doesSay_0 : decode (ib f_Mod_doesSay) 0 = .ok (.iconst 0, 1) := by decide +kernel
theorem d_Mod_doesSay_1 : decode (ib f_Mod_doesSay) 1 = .ok (.istore_n 1, 1) := by decide +kernel
theorem d_Mod_doesSay_2 : decode (ib f_Mod_doesSay) 2 = .ok (.iconst 0, 1) := by decide +kernel
theorem d_Mod_doesSay_3 : decode (ib f_Mod_doesSay) 3 = .ok (.istore_n 2, 1) := by decide +kernel
theorem d_Mod_doesSay_4 : decode (ib f_Mod_doesSay) 4 = .ok (.iload_n 2, 1) := by decide +kernel
theorem d_Mod_doesSay_5 : decode (ib f_Mod_doesSay) 5 = .ok (.bipush 60, 2) := by decide +kernel
theorem d_Mod_doesSay_7 : decode (ib f_Mod_doesSay) 7 = .ok (.if_icmp .ge 54, 3) := by decide +kernel
theorem d_Mod_doesSay_10 : decode (ib f_Mod_doesSay) 10 = .ok (.iload_n 1, 1) := by decide +kernel
theorem d_Mod_doesSay_11 : decode (ib f_Mod_doesSay) 11 = .ok (.aload_n 0, 1) := by decide +kernel
theorem d_Mod_doesSay_12 : decode (ib f_Mod_doesSay) 12 = .ok (.getfield 404, 3) := by decide +kernel
theorem d_Mod_doesSay_15 : decode (ib f_Mod_doesSay) 15 = .ok (.if_icmp .ge 46, 3) := by decide +kernel
theorem d_Mod_doesSay_18 : decode (ib f_Mod_doesSay) 18 = .ok (.aload_n 0, 1) := by decide +kernel
theorem d_Mod_doesSay_19 : decode (ib f_Mod_doesSay) 19 = .ok (.iload_n 2, 1) := by decide +kernel
theorem d_Mod_doesSay_20 : decode (ib f_Mod_doesSay) 20 = .ok (.invokevirtual 332, 3) := by decide +kernel
theorem d_Mod_doesSay_23 : decode (ib f_Mod_doesSay) 23 = .ok (.ifCond .eq 32, 3) := by decide +kernel
theorem d_Mod_doesSay_26 : decode (ib f_Mod_doesSay) 26 = .ok (.aload_n 0, 1) := by decide +kernel
theorem d_Mod_doesSay_27 : decode (ib f_Mod_doesSay) 27 = .ok (.getfield 7, 3) := by decide +kernel
theorem d_Mod_doesSay_30 : decode (ib f_Mod_doesSay) 30 = .ok (.aload_n 0, 1) := by decide +kernel
theorem d_Mod_doesSay_31 : decode (ib f_Mod_doesSay) 31 = .ok (.aload_n 0, 1) := by decide +kernel
theorem d_Mod_doesSay_32 : decode (ib f_Mod_doesSay) 32 = .ok (.iload_n 2, 1) := by decide +kernel
theorem d_Mod_doesSay_33 : decode (ib f_Mod_doesSay) 33 = .ok (.invokevirtual 128, 3) := by decide +kernel
theorem d_Mod_doesSay_36 : decode (ib f_Mod_doesSay) 36 = .ok (.invokevirtual 124, 3) := by decide +kernel
theorem d_Mod_doesSay_39 : decode (ib f_Mod_doesSay) 39 = .ok (.iconst 1, 1) := by decide +kernel
theorem d_Mod_doesSay_40 : decode (ib f_Mod_doesSay) 40 = .ok (.iadd, 1) := by decide +kernel
theorem d_Mod_doesSay_41 : decode (ib f_Mod_doesSay) 41 = .ok (.iaload, 1) := by decide +kernel
theorem d_Mod_doesSay_42 : decode (ib f_Mod_doesSay) 42 = .ok (.aload_n 0, 1) := by decide +kernel
theorem d_Mod_doesSay_43 : decode (ib f_Mod_doesSay) 43 = .ok (.getfield 74, 3) := by decide +kernel
theorem d_Mod_doesSay_46 : decode (ib f_Mod_doesSay) 46 = .ok (.iload_n 1, 1) := by decide +kernel
theorem d_Mod_doesSay_47 : decode (ib f_Mod_doesSay) 47 = .ok (.iaload, 1) := by decide +kernel
theorem d_Mod_doesSay_48 : decode (ib f_Mod_doesSay) 48 = .ok (.if_icmp .ne 7, 3) := by decide +kernel
theorem d_Mod_doesSay_51 : decode (ib f_Mod_doesSay) 51 = .ok (.iload_n 1, 1) := by decide +kernel
theorem d_Mod_doesSay_52 : decode (ib f_Mod_doesSay) 52 = .ok (.iconst 1, 1) := by decide +kernel
theorem d_Mod_doesSay_53 : decode (ib f_Mod_doesSay) 53 = .ok (.iadd, 1) := by decide +kernel
theorem d_Mod_doesSay_54 : decode (ib f_Mod_doesSay) 54 = .ok (.istore_n 1, 1) := by decide +kernel
theorem d_Mod_doesSay_55 : decode (ib f_Mod_doesSay) 55 = .ok (.iinc 2 1, 3) := by decide +kernel
theorem d_Mod_doesSay_58 : decode (ib f_Mod_doesSay) 58 = .ok (.goto (-54), 3) := by decide +kernel
theorem d_Mod_doesSay_61 : decode (ib f_Mod_doesSay) 61 = .ok (.iload_n 1, 1) := by decide +kernel
theorem d_Mod_doesSay_62 : decode (ib f_Mod_doesSay) 62 = .ok (.aload_n 0, 1) := by decide +kernel
theorem d_Mod_doesSay_63 : decode (ib f_Mod_doesSay) 63 = .ok (.getfield 404, 3) := by decide +kernel
theorem d_Mod_doesSay_66 : decode (ib f_Mod_doesSay) 66 = .ok (.if_icmp .ne 7, 3) := by decide +kernel
theorem d_Mod_doesSay_69 : decode (ib f_Mod_doesSay) 69 = .ok (.iconst 1, 1) := by decide +kernel
theorem d_Mod_doesSay_70 : decode (ib f_Mod_doesSay) 70 = .ok (.goto 4, 3) := by decide +kernel
theorem d_Mod_doesSay_73 : decode (ib f_Mod_doesSay) 73 = .ok (.iconst 0, 1) := by decide +kernel
theorem d_Mod_doesSay_74 : decode (ib f_Mod_doesSay) 74 = .ok (.ireturn, 1) := by decide +kernel
theorem d_Mod_longest_0 : decode (ib f_Mod_longest) 0 = .ok (.iconst 0, 1) := by decide +kernel
theorem d_Mod_longest_1 : decode (ib f_Mod_longest) 1 = .ok (.istore_n 1, 1) := by decide +kernel
theorem d_Mod_longest_2 : decode (ib f_Mod_longest) 2 = .ok (.iconst 0, 1) := by decide +kernel
theorem d_Mod_longest_3 : decode (ib f_Mod_longest) 3 = .ok (.istore_n 2, 1) := by decide +kernel
theorem d_Mod_longest_4 : decode (ib f_Mod_longest) 4 = .ok (.iload_n 2, 1) := by decide +kernel
theorem d_Mod_longest_5 : decode (ib f_Mod_longest) 5 = .ok (.bipush 60, 2) := by decide +kernel
theorem d_Mod_longest_7 : decode (ib f_Mod_longest) 7 = .ok (.if_icmp .ge 131, 3) := by decide +kernel
theorem d_Mod_longest_10 : decode (ib f_Mod_longest) 10 = .ok (.aload_n 0, 1) := by decide +kernel
theorem d_Mod_longest_11 : decode (ib f_Mod_longest) 11 = .ok (.getfield 71, 3) := by decide +kernel
theorem d_Mod_longest_14 : decode (ib f_Mod_longest) 14 = .ok (.iload_n 2, 1) := by decide +kernel
theorem d_Mod_longest_15 : decode (ib f_Mod_longest) 15 = .ok (.iconst 0, 1) := by decide +kernel
theorem d_Mod_longest_16 : decode (ib f_Mod_longest) 16 = .ok (.iastore, 1) := by decide +kernel
theorem d_Mod_longest_17 : decode (ib f_Mod_longest) 17 = .ok (.aload_n 0, 1) := by decide +kernel
theorem d_Mod_longest_18 : decode (ib f_Mod_longest) 18 = .ok (.iload_n 2, 1) := by decide +kernel
theorem d_Mod_longest_19 : decode (ib f_Mod_longest) 19 = .ok (.invokevirtual 332, 3) := by decide +kernel
theorem d_Mod_longest_22 : decode (ib f_Mod_longest) 22 = .ok (.ifCond .ne 6, 3) := by decide +kernel
theorem d_Mod_longest_25 : decode (ib f_Mod_longest) 25 = .ok (.goto 107, 3) := by decide +kernel
theorem d_Mod_longest_28 : decode (ib f_Mod_longest) 28 = .ok (.iconst 0, 1) := by decide +kernel
theorem d_Mod_longest_29 : decode (ib f_Mod_longest) 29 = .ok (.istore_n 3, 1) := by decide +kernel
theorem d_Mod_longest_30 : decode (ib f_Mod_longest) 30 = .ok (.iload_n 3, 1) := by decide +kernel
theorem d_Mod_longest_31 : decode (ib f_Mod_longest) 31 = .ok (.iload_n 2, 1) := by decide +kernel
theorem d_Mod_longest_32 : decode (ib f_Mod_longest) 32 = .ok (.if_icmp .ge 74, 3) := by decide +kernel
theorem d_Mod_longest_35 : decode (ib f_Mod_longest) 35 = .ok (.aload_n 0, 1) := by decide +kernel
theorem d_Mod_longest_36 : decode (ib f_Mod_longest) 36 = .ok (.iload_n 3, 1) := by decide +kernel
theorem d_Mod_longest_37 : decode (ib f_Mod_longest) 37 = .ok (.invokevirtual 332, 3) := by decide +kernel
theorem d_Mod_longest_40 : decode (ib f_Mod_longest) 40 = .ok (.ifCond .eq 60, 3) := by decide +kernel
theorem d_Mod_longest_43 : decode (ib f_Mod_longest) 43 = .ok (.aload_n 0, 1) := by decide +kernel
theorem d_Mod_longest_44 : decode (ib f_Mod_longest) 44 = .ok (.getfield 7, 3) := by decide +kernel
theorem d_Mod_longest_47 : decode (ib f_Mod_longest) 47 = .ok (.aload_n 0, 1) := by decide +kernel
theorem d_Mod_longest_48 : decode (ib f_Mod_longest) 48 = .ok (.aload_n 0, 1) := by decide +kernel
theorem d_Mod_longest_49 : decode (ib f_Mod_longest) 49 = .ok (.iload_n 3, 1) := by decide +kernel
theorem d_Mod_longest_50 : decode (ib f_Mod_longest) 50 = .ok (.invokevirtual 128, 3) := by decide +kernel
theorem d_Mod_longest_53 : decode (ib f_Mod_longest) 53 = .ok (.invokevirtual 124, 3) := by decide +kernel
theorem d_Mod_longest_56 : decode (ib f_Mod_longest) 56 = .ok (.iconst 5, 1) := by decide +kernel
theorem d_Mod_longest_57 : decode (ib f_Mod_longest) 57 = .ok (.iadd, 1) := by decide +kernel
theorem d_Mod_longest_58 : decode (ib f_Mod_longest) 58 = .ok (.iaload, 1) := by decide +kernel
theorem d_Mod_longest_59 : decode (ib f_Mod_longest) 59 = .ok (.aload_n 0, 1) := by decide +kernel
theorem d_Mod_longest_60 : decode (ib f_Mod_longest) 60 = .ok (.getfield 7, 3) := by decide +kernel
theorem d_Mod_longest_63 : decode (ib f_Mod_longest) 63 = .ok (.aload_n 0, 1) := by decide +kernel
theorem d_Mod_longest_64 : decode (ib f_Mod_longest) 64 = .ok (.aload_n 0, 1) := by decide +kernel
theorem d_Mod_longest_65 : decode (ib f_Mod_longest) 65 = .ok (.iload_n 2, 1) := by decide +kernel
theorem d_Mod_longest_66 : decode (ib f_Mod_longest) 66 = .ok (.invokevirtual 128, 3) := by decide +kernel
theorem d_Mod_longest_69 : decode (ib f_Mod_longest) 69 = .ok (.invokevirtual 124, 3) := by decide +kernel
theorem d_Mod_longest_72 : decode (ib f_Mod_longest) 72 = .ok (.iconst 5, 1) := by decide +kernel
theorem d_Mod_longest_73 : decode (ib f_Mod_longest) 73 = .ok (.iadd, 1) := by decide +kernel
theorem d_Mod_longest_74 : decode (ib f_Mod_longest) 74 = .ok (.iaload, 1) := by decide +kernel
theorem d_Mod_longest_75 : decode (ib f_Mod_longest) 75 = .ok (.if_icmp .ge 25, 3) := by decide +kernel
theorem d_Mod_longest_78 : decode (ib f_Mod_longest) 78 = .ok (.aload_n 0, 1) := by decide +kernel
theorem d_Mod_longest_79 : decode (ib f_Mod_longest) 79 = .ok (.getfield 71, 3) := by decide +kernel
theorem d_Mod_longest_82 : decode (ib f_Mod_longest) 82 = .ok (.iload_n 2, 1) := by decide +kernel
theorem d_Mod_longest_83 : decode (ib f_Mod_longest) 83 = .ok (.aload_n 0, 1) := by decide +kernel
theorem d_Mod_longest_84 : decode (ib f_Mod_longest) 84 = .ok (.aload_n 0, 1) := by decide +kernel
theorem d_Mod_longest_85 : decode (ib f_Mod_longest) 85 = .ok (.getfield 71, 3) := by decide +kernel
theorem d_Mod_longest_88 : decode (ib f_Mod_longest) 88 = .ok (.iload_n 2, 1) := by decide +kernel
theorem d_Mod_longest_89 : decode (ib f_Mod_longest) 89 = .ok (.iaload, 1) := by decide +kernel
theorem d_Mod_longest_90 : decode (ib f_Mod_longest) 90 = .ok (.aload_n 0, 1) := by decide +kernel
theorem d_Mod_longest_91 : decode (ib f_Mod_longest) 91 = .ok (.getfield 71, 3) := by decide +kernel
theorem d_Mod_longest_94 : decode (ib f_Mod_longest) 94 = .ok (.iload_n 3, 1) := by decide +kernel
theorem d_Mod_longest_95 : decode (ib f_Mod_longest) 95 = .ok (.iaload, 1) := by decide +kernel
theorem d_Mod_longest_96 : decode (ib f_Mod_longest) 96 = .ok (.invokevirtual 354, 3) := by decide +kernel
theorem d_Mod_longest_99 : decode (ib f_Mod_longest) 99 = .ok (.iastore, 1) := by decide +kernel
theorem d_Mod_longest_100 : decode (ib f_Mod_longest) 100 = .ok (.iinc 3 1, 3) := by decide +kernel
theorem d_Mod_longest_103 : decode (ib f_Mod_longest) 103 = .ok (.goto (-73), 3) := by decide +kernel
theorem d_Mod_longest_106 : decode (ib f_Mod_longest) 106 = .ok (.aload_n 0, 1) := by decide +kernel
theorem d_Mod_longest_107 : decode (ib f_Mod_longest) 107 = .ok (.getfield 71, 3) := by decide +kernel
theorem d_Mod_longest_110 : decode (ib f_Mod_longest) 110 = .ok (.iload_n 2, 1) := by decide +kernel
theorem d_Mod_longest_111 : decode (ib f_Mod_longest) 111 = .ok (.aload_n 0, 1) := by decide +kernel
theorem d_Mod_longest_112 : decode (ib f_Mod_longest) 112 = .ok (.getfield 71, 3) := by decide +kernel
theorem d_Mod_longest_115 : decode (ib f_Mod_longest) 115 = .ok (.iload_n 2, 1) := by decide +kernel
theorem d_Mod_longest_116 : decode (ib f_Mod_longest) 116 = .ok (.iaload, 1) := by decide +kernel
theorem d_Mod_longest_117 : decode (ib f_Mod_longest) 117 = .ok (.iconst 1, 1) := by decide +kernel
theorem d_Mod_longest_118 : decode (ib f_Mod_longest) 118 = .ok (.iadd, 1) := by decide +kernel
theorem d_Mod_longest_119 : decode (ib f_Mod_longest) 119 = .ok (.iastore, 1) := by decide +kernel
theorem d_Mod_longest_120 : decode (ib f_Mod_longest) 120 = .ok (.aload_n 0, 1) := by decide +kernel
theorem d_Mod_longest_121 : decode (ib f_Mod_longest) 121 = .ok (.iload_n 1, 1) := by decide +kernel
theorem d_Mod_longest_122 : decode (ib f_Mod_longest) 122 = .ok (.aload_n 0, 1) := by decide +kernel
theorem d_Mod_longest_123 : decode (ib f_Mod_longest) 123 = .ok (.getfield 71, 3) := by decide +kernel
theorem d_Mod_longest_126 : decode (ib f_Mod_longest) 126 = .ok (.iload_n 2, 1) := by decide +kernel
theorem d_Mod_longest_127 : decode (ib f_Mod_longest) 127 = .ok (.iaload, 1) := by decide +kernel
theorem d_Mod_longest_128 : decode (ib f_Mod_longest) 128 = .ok (.invokevirtual 354, 3) := by decide +kernel
theorem d_Mod_longest_131 : decode (ib f_Mod_longest) 131 = .ok (.istore_n 1, 1) := by decide +kernel
theorem d_Mod_longest_132 : decode (ib f_Mod_longest) 132 = .ok (.iinc 2 1, 3) := by decide +kernel
theorem d_Mod_longest_135 : decode (ib f_Mod_longest) 135 = .ok (.goto (-131), 3) := by decide +kernel
theorem d_Mod_longest_138 : decode (ib f_Mod_longest) 138 = .ok (.iload_n 1, 1) := by decide +kernel
theorem d_Mod_longest_139 : decode (ib f_Mod_longest) 139 = .ok (.ireturn, 1) := by decide +kernel
theorem d_Mod_says_0 : decode (ib f_Mod_says) 0 = .ok (.aload_n 0, 1) := by decide +kernel
theorem d_Mod_says_1 : decode (ib f_Mod_says) 1 = .ok (.iconst 0, 1) := by decide +kernel
theorem d_Mod_says_2 : decode (ib f_Mod_says) 2 = .ok (.putfield 107, 3) := by decide +kernel
theorem d_Mod_says_5 : decode (ib f_Mod_says) 5 = .ok (.aload_n 0, 1) := by decide +kernel
theorem d_Mod_says_6 : decode (ib f_Mod_says) 6 = .ok (.iload_n 1, 1) := by decide +kernel
theorem d_Mod_says_7 : decode (ib f_Mod_says) 7 = .ok (.iconst 0, 1) := by decide +kernel
theorem d_Mod_says_8 : decode (ib f_Mod_says) 8 = .ok (.iconst 2, 1) := by decide +kernel
theorem d_Mod_says_9 : decode (ib f_Mod_says) 9 = .ok (.invokevirtual 135, 3) := by decide +kernel
theorem d_Mod_says_12 : decode (ib f_Mod_says) 12 = .ok (.ifCond .ne 5, 3) := by decide +kernel
theorem d_Mod_says_15 : decode (ib f_Mod_says) 15 = .ok (.iconst (-1), 1) := by decide +kernel
theorem d_Mod_says_16 : decode (ib f_Mod_says) 16 = .ok (.ireturn, 1) := by decide +kernel
theorem d_Mod_says_17 : decode (ib f_Mod_says) 17 = .ok (.iload_n 1, 1) := by decide +kernel
theorem d_Mod_says_18 : decode (ib f_Mod_says) 18 = .ok (.ifCond .ne 18, 3) := by decide +kernel
theorem d_Mod_says_21 : decode (ib f_Mod_says) 21 = .ok (.aload_n 0, 1) := by decide +kernel
theorem d_Mod_says_22 : decode (ib f_Mod_says) 22 = .ok (.invokevirtual 410, 3) := by decide +kernel
theorem d_Mod_says_25 : decode (ib f_Mod_says) 25 = .ok (.ifCond .eq 7, 3) := by decide +kernel
theorem d_Mod_says_28 : decode (ib f_Mod_says) 28 = .ok (.iconst 1, 1) := by decide +kernel
theorem d_Mod_says_29 : decode (ib f_Mod_says) 29 = .ok (.goto 23, 3) := by decide +kernel
theorem d_Mod_says_32 : decode (ib f_Mod_says) 32 = .ok (.iconst 0, 1) := by decide +kernel
theorem d_Mod_says_33 : decode (ib f_Mod_says) 33 = .ok (.goto 19, 3) := by decide +kernel
theorem d_Mod_says_36 : decode (ib f_Mod_says) 36 = .ok (.iload_n 1, 1) := by decide +kernel
theorem d_Mod_says_37 : decode (ib f_Mod_says) 37 = .ok (.iconst 1, 1) := by decide +kernel
theorem d_Mod_says_38 : decode (ib f_Mod_says) 38 = .ok (.if_icmp .ne 10, 3) := by decide +kernel
theorem d_Mod_says_41 : decode (ib f_Mod_says) 41 = .ok (.aload_n 0, 1) := by decide +kernel
theorem d_Mod_says_42 : decode (ib f_Mod_says) 42 = .ok (.invokevirtual 413, 3) := by decide +kernel
theorem d_Mod_says_45 : decode (ib f_Mod_says) 45 = .ok (.goto 7, 3) := by decide +kernel
theorem d_Mod_says_48 : decode (ib f_Mod_says) 48 = .ok (.aload_n 0, 1) := by decide +kernel
theorem d_Mod_says_49 : decode (ib f_Mod_says) 49 = .ok (.invokevirtual 416, 3) := by decide +kernel
theorem d_Mod_says_52 : decode (ib f_Mod_says) 52 = .ok (.ireturn, 1) := by decide +kernel
theorem d_Mod_pass_0 : decode (ib f_Mod_pass) 0 = .ok (.aload_n 0, 1) := by decide +kernel
theorem d_Mod_pass_1 : decode (ib f_Mod_pass) 1 = .ok (.iconst 0, 1) := by decide +kernel
theorem d_Mod_pass_2 : decode (ib f_Mod_pass) 2 = .ok (.putfield 107, 3) := by decide +kernel
theorem d_Mod_pass_5 : decode (ib f_Mod_pass) 5 = .ok (.aload_n 0, 1) := by decide +kernel
theorem d_Mod_pass_6 : decode (ib f_Mod_pass) 6 = .ok (.iload_n 1, 1) := by decide +kernel
theorem d_Mod_pass_7 : decode (ib f_Mod_pass) 7 = .ok (.iconst 1, 1) := by decide +kernel
theorem d_Mod_pass_8 : decode (ib f_Mod_pass) 8 = .ok (.bipush 59, 2) := by decide +kernel
theorem d_Mod_pass_10 : decode (ib f_Mod_pass) 10 = .ok (.invokevirtual 135, 3) := by decide +kernel
theorem d_Mod_pass_13 : decode (ib f_Mod_pass) 13 = .ok (.ifCond .eq 13, 3) := by decide +kernel
theorem d_Mod_pass_16 : decode (ib f_Mod_pass) 16 = .ok (.aload_n 0, 1) := by decide +kernel
theorem d_Mod_pass_17 : decode (ib f_Mod_pass) 17 = .ok (.iload_n 2, 1) := by decide +kernel
theorem d_Mod_pass_18 : decode (ib f_Mod_pass) 18 = .ok (.iconst 0, 1) := by decide +kernel
theorem d_Mod_pass_19 : decode (ib f_Mod_pass) 19 = .ok (.iconst 1, 1) := by decide +kernel
theorem d_Mod_pass_20 : decode (ib f_Mod_pass) 20 = .ok (.invokevirtual 135, 3) := by decide +kernel
theorem d_Mod_pass_23 : decode (ib f_Mod_pass) 23 = .ok (.ifCond .ne 5, 3) := by decide +kernel
theorem d_Mod_pass_26 : decode (ib f_Mod_pass) 26 = .ok (.iconst (-1), 1) := by decide +kernel
theorem d_Mod_pass_27 : decode (ib f_Mod_pass) 27 = .ok (.ireturn, 1) := by decide +kernel
theorem d_Mod_pass_28 : decode (ib f_Mod_pass) 28 = .ok (.iconst 0, 1) := by decide +kernel
theorem d_Mod_pass_29 : decode (ib f_Mod_pass) 29 = .ok (.istore_n 3, 1) := by decide +kernel
theorem d_Mod_pass_30 : decode (ib f_Mod_pass) 30 = .ok (.iconst 0, 1) := by decide +kernel
theorem d_Mod_pass_31 : decode (ib f_Mod_pass) 31 = .ok (.istore 4, 2) := by decide +kernel
theorem d_Mod_pass_33 : decode (ib f_Mod_pass) 33 = .ok (.iconst 0, 1) := by decide +kernel
theorem d_Mod_pass_34 : decode (ib f_Mod_pass) 34 = .ok (.istore 5, 2) := by decide +kernel
theorem d_Mod_pass_36 : decode (ib f_Mod_pass) 36 = .ok (.iload 5, 2) := by decide +kernel
theorem d_Mod_pass_38 : decode (ib f_Mod_pass) 38 = .ok (.bipush 60, 2) := by decide +kernel
theorem d_Mod_pass_40 : decode (ib f_Mod_pass) 40 = .ok (.if_icmp .ge 52, 3) := by decide +kernel
theorem d_Mod_pass_43 : decode (ib f_Mod_pass) 43 = .ok (.aload_n 0, 1) := by decide +kernel
theorem d_Mod_pass_44 : decode (ib f_Mod_pass) 44 = .ok (.iload 5, 2) := by decide +kernel
theorem d_Mod_pass_46 : decode (ib f_Mod_pass) 46 = .ok (.invokevirtual 332, 3) := by decide +kernel
theorem d_Mod_pass_49 : decode (ib f_Mod_pass) 49 = .ok (.ifCond .eq 7, 3) := by decide +kernel
theorem d_Mod_pass_52 : decode (ib f_Mod_pass) 52 = .ok (.iconst 0, 1) := by decide +kernel
theorem d_Mod_pass_53 : decode (ib f_Mod_pass) 53 = .ok (.goto 7, 3) := by decide +kernel
theorem d_Mod_pass_56 : decode (ib f_Mod_pass) 56 = .ok (.iload 4, 2) := by decide +kernel
theorem d_Mod_pass_58 : decode (ib f_Mod_pass) 58 = .ok (.iconst 1, 1) := by decide +kernel
theorem d_Mod_pass_59 : decode (ib f_Mod_pass) 59 = .ok (.iadd, 1) := by decide +kernel
theorem d_Mod_pass_60 : decode (ib f_Mod_pass) 60 = .ok (.istore 4, 2) := by decide +kernel
theorem d_Mod_pass_62 : decode (ib f_Mod_pass) 62 = .ok (.iload 4, 2) := by decide +kernel
theorem d_Mod_pass_64 : decode (ib f_Mod_pass) 64 = .ok (.iload_n 1, 1) := by decide +kernel
theorem d_Mod_pass_65 : decode (ib f_Mod_pass) 65 = .ok (.if_icmp .ge 6, 3) := by decide +kernel
theorem d_Mod_pass_68 : decode (ib f_Mod_pass) 68 = .ok (.goto 18, 3) := by decide +kernel
theorem d_Mod_pass_71 : decode (ib f_Mod_pass) 71 = .ok (.iload_n 2, 1) := by decide +kernel
theorem d_Mod_pass_72 : decode (ib f_Mod_pass) 72 = .ok (.ifCond .ne 10, 3) := by decide +kernel
theorem d_Mod_pass_75 : decode (ib f_Mod_pass) 75 = .ok (.iload 5, 2) := by decide +kernel
theorem d_Mod_pass_77 : decode (ib f_Mod_pass) 77 = .ok (.iload_n 1, 1) := by decide +kernel
theorem d_Mod_pass_78 : decode (ib f_Mod_pass) 78 = .ok (.isub, 1) := by decide +kernel
theorem d_Mod_pass_79 : decode (ib f_Mod_pass) 79 = .ok (.iconst 1, 1) := by decide +kernel
theorem d_Mod_pass_80 : decode (ib f_Mod_pass) 80 = .ok (.iadd, 1) := by decide +kernel
theorem d_Mod_pass_81 : decode (ib f_Mod_pass) 81 = .ok (.ireturn, 1) := by decide +kernel
theorem d_Mod_pass_82 : decode (ib f_Mod_pass) 82 = .ok (.iload_n 3, 1) := by decide +kernel
theorem d_Mod_pass_83 : decode (ib f_Mod_pass) 83 = .ok (.iconst 1, 1) := by decide +kernel
theorem d_Mod_pass_84 : decode (ib f_Mod_pass) 84 = .ok (.iadd, 1) := by decide +kernel
theorem d_Mod_pass_85 : decode (ib f_Mod_pass) 85 = .ok (.istore_n 3, 1) := by decide +kernel
theorem d_Mod_pass_86 : decode (ib f_Mod_pass) 86 = .ok (.iinc 5 1, 3) := by decide +kernel
theorem d_Mod_pass_89 : decode (ib f_Mod_pass) 89 = .ok (.goto (-53), 3) := by decide +kernel
theorem d_Mod_pass_92 : decode (ib f_Mod_pass) 92 = .ok (.iload_n 2, 1) := by decide +kernel
theorem d_Mod_pass_93 : decode (ib f_Mod_pass) 93 = .ok (.ifCond .ne 7, 3) := by decide +kernel
theorem d_Mod_pass_96 : decode (ib f_Mod_pass) 96 = .ok (.iconst (-1), 1) := by decide +kernel
theorem d_Mod_pass_97 : decode (ib f_Mod_pass) 97 = .ok (.goto 4, 3) := by decide +kernel
theorem d_Mod_pass_100 : decode (ib f_Mod_pass) 100 = .ok (.iload_n 3, 1) := by decide +kernel
theorem d_Mod_pass_101 : decode (ib f_Mod_pass) 101 = .ok (.ireturn, 1) := by decide +kernel
theorem d_Mod_words_0 : decode (ib f_Mod_words) 0 = .ok (.aload_n 0, 1) := by decide +kernel
theorem d_Mod_words_1 : decode (ib f_Mod_words) 1 = .ok (.iconst 0, 1) := by decide +kernel
theorem d_Mod_words_2 : decode (ib f_Mod_words) 2 = .ok (.putfield 107, 3) := by decide +kernel
theorem d_Mod_words_5 : decode (ib f_Mod_words) 5 = .ok (.iload_n 1, 1) := by decide +kernel
theorem d_Mod_words_6 : decode (ib f_Mod_words) 6 = .ok (.iconst (-1), 1) := by decide +kernel
theorem d_Mod_words_7 : decode (ib f_Mod_words) 7 = .ok (.if_icmp .ne 10, 3) := by decide +kernel
theorem d_Mod_words_10 : decode (ib f_Mod_words) 10 = .ok (.aload_n 0, 1) := by decide +kernel
theorem d_Mod_words_11 : decode (ib f_Mod_words) 11 = .ok (.iconst 0, 1) := by decide +kernel
theorem d_Mod_words_12 : decode (ib f_Mod_words) 12 = .ok (.putfield 419, 3) := by decide +kernel
theorem d_Mod_words_15 : decode (ib f_Mod_words) 15 = .ok (.iconst 0, 1) := by decide +kernel
theorem d_Mod_words_16 : decode (ib f_Mod_words) 16 = .ok (.ireturn, 1) := by decide +kernel
theorem d_Mod_words_17 : decode (ib f_Mod_words) 17 = .ok (.aload_n 0, 1) := by decide +kernel
theorem d_Mod_words_18 : decode (ib f_Mod_words) 18 = .ok (.iload_n 1, 1) := by decide +kernel
theorem d_Mod_words_19 : decode (ib f_Mod_words) 19 = .ok (.iconst 1, 1) := by decide +kernel
theorem d_Mod_words_20 : decode (ib f_Mod_words) 20 = .ok (.bipush 30, 2) := by decide +kernel
theorem d_Mod_words_22 : decode (ib f_Mod_words) 22 = .ok (.invokevirtual 135, 3) := by decide +kernel
theorem d_Mod_words_25 : decode (ib f_Mod_words) 25 = .ok (.ifCond .eq 23, 3) := by decide +kernel
theorem d_Mod_words_28 : decode (ib f_Mod_words) 28 = .ok (.aload_n 0, 1) := by decide +kernel
theorem d_Mod_words_29 : decode (ib f_Mod_words) 29 = .ok (.iload_n 2, 1) := by decide +kernel
theorem d_Mod_words_30 : decode (ib f_Mod_words) 30 = .ok (.iconst 0, 1) := by decide +kernel
theorem d_Mod_words_31 : decode (ib f_Mod_words) 31 = .ok (.bipush 99, 2) := by decide +kernel
theorem d_Mod_words_33 : decode (ib f_Mod_words) 33 = .ok (.invokevirtual 135, 3) := by decide +kernel
theorem d_Mod_words_36 : decode (ib f_Mod_words) 36 = .ok (.ifCond .eq 12, 3) := by decide +kernel
theorem d_Mod_words_39 : decode (ib f_Mod_words) 39 = .ok (.aload_n 0, 1) := by decide +kernel
theorem d_Mod_words_40 : decode (ib f_Mod_words) 40 = .ok (.getfield 419, 3) := by decide +kernel
theorem d_Mod_words_43 : decode (ib f_Mod_words) 43 = .ok (.bipush 6, 2) := by decide +kernel
theorem d_Mod_words_45 : decode (ib f_Mod_words) 45 = .ok (.if_icmp .ne 5, 3) := by decide +kernel
theorem d_Mod_words_48 : decode (ib f_Mod_words) 48 = .ok (.iconst (-1), 1) := by decide +kernel
theorem d_Mod_words_49 : decode (ib f_Mod_words) 49 = .ok (.ireturn, 1) := by decide +kernel
theorem d_Mod_words_50 : decode (ib f_Mod_words) 50 = .ok (.aload_n 0, 1) := by decide +kernel
theorem d_Mod_words_51 : decode (ib f_Mod_words) 51 = .ok (.getfield 80, 3) := by decide +kernel
theorem d_Mod_words_54 : decode (ib f_Mod_words) 54 = .ok (.aload_n 0, 1) := by decide +kernel
theorem d_Mod_words_55 : decode (ib f_Mod_words) 55 = .ok (.getfield 419, 3) := by decide +kernel
theorem d_Mod_words_58 : decode (ib f_Mod_words) 58 = .ok (.iload_n 1, 1) := by decide +kernel
theorem d_Mod_words_59 : decode (ib f_Mod_words) 59 = .ok (.iastore, 1) := by decide +kernel
theorem d_Mod_words_60 : decode (ib f_Mod_words) 60 = .ok (.aload_n 0, 1) := by decide +kernel
theorem d_Mod_words_61 : decode (ib f_Mod_words) 61 = .ok (.getfield 83, 3) := by decide +kernel
theorem d_Mod_words_64 : decode (ib f_Mod_words) 64 = .ok (.aload_n 0, 1) := by decide +kernel
theorem d_Mod_words_65 : decode (ib f_Mod_words) 65 = .ok (.getfield 419, 3) := by decide +kernel
theorem d_Mod_words_68 : decode (ib f_Mod_words) 68 = .ok (.iload_n 2, 1) := by decide +kernel
theorem d_Mod_words_69 : decode (ib f_Mod_words) 69 = .ok (.iastore, 1) := by decide +kernel
theorem d_Mod_words_70 : decode (ib f_Mod_words) 70 = .ok (.aload_n 0, 1) := by decide +kernel
theorem d_Mod_words_71 : decode (ib f_Mod_words) 71 = .ok (.aload_n 0, 1) := by decide +kernel
theorem d_Mod_words_72 : decode (ib f_Mod_words) 72 = .ok (.getfield 419, 3) := by decide +kernel
theorem d_Mod_words_75 : decode (ib f_Mod_words) 75 = .ok (.iconst 1, 1) := by decide +kernel
theorem d_Mod_words_76 : decode (ib f_Mod_words) 76 = .ok (.iadd, 1) := by decide +kernel
theorem d_Mod_words_77 : decode (ib f_Mod_words) 77 = .ok (.putfield 419, 3) := by decide +kernel
theorem d_Mod_words_80 : decode (ib f_Mod_words) 80 = .ok (.aload_n 0, 1) := by decide +kernel
theorem d_Mod_words_81 : decode (ib f_Mod_words) 81 = .ok (.getfield 419, 3) := by decide +kernel
theorem d_Mod_words_84 : decode (ib f_Mod_words) 84 = .ok (.ireturn, 1) := by decide +kernel
theorem d_Mod_wordsOf_0 : decode (ib f_Mod_wordsOf) 0 = .ok (.iconst 0, 1) := by decide +kernel
theorem d_Mod_wordsOf_1 : decode (ib f_Mod_wordsOf) 1 = .ok (.istore_n 3, 1) := by decide +kernel
theorem d_Mod_wordsOf_2 : decode (ib f_Mod_wordsOf) 2 = .ok (.iconst 0, 1) := by decide +kernel
theorem d_Mod_wordsOf_3 : decode (ib f_Mod_wordsOf) 3 = .ok (.istore 4, 2) := by decide +kernel
theorem d_Mod_wordsOf_5 : decode (ib f_Mod_wordsOf) 5 = .ok (.iload 4, 2) := by decide +kernel
theorem d_Mod_wordsOf_7 : decode (ib f_Mod_wordsOf) 7 = .ok (.aload_n 0, 1) := by decide +kernel
theorem d_Mod_wordsOf_8 : decode (ib f_Mod_wordsOf) 8 = .ok (.getfield 419, 3) := by decide +kernel
theorem d_Mod_wordsOf_11 : decode (ib f_Mod_wordsOf) 11 = .ok (.if_icmp .ge 43, 3) := by decide +kernel
theorem d_Mod_wordsOf_14 : decode (ib f_Mod_wordsOf) 14 = .ok (.aload_n 0, 1) := by decide +kernel
theorem d_Mod_wordsOf_15 : decode (ib f_Mod_wordsOf) 15 = .ok (.iload_n 1, 1) := by decide +kernel
theorem d_Mod_wordsOf_16 : decode (ib f_Mod_wordsOf) 16 = .ok (.iload 4, 2) := by decide +kernel
theorem d_Mod_wordsOf_18 : decode (ib f_Mod_wordsOf) 18 = .ok (.invokevirtual 422, 3) := by decide +kernel
theorem d_Mod_wordsOf_21 : decode (ib f_Mod_wordsOf) 21 = .ok (.ifCond .eq 27, 3) := by decide +kernel
theorem d_Mod_wordsOf_24 : decode (ib f_Mod_wordsOf) 24 = .ok (.iload_n 3, 1) := by decide +kernel
theorem d_Mod_wordsOf_25 : decode (ib f_Mod_wordsOf) 25 = .ok (.iload_n 2, 1) := by decide +kernel
theorem d_Mod_wordsOf_26 : decode (ib f_Mod_wordsOf) 26 = .ok (.ifCond .eq 13, 3) := by decide +kernel
theorem d_Mod_wordsOf_29 : decode (ib f_Mod_wordsOf) 29 = .ok (.aload_n 0, 1) := by decide +kernel
theorem d_Mod_wordsOf_30 : decode (ib f_Mod_wordsOf) 30 = .ok (.getfield 80, 3) := by decide +kernel
theorem d_Mod_wordsOf_33 : decode (ib f_Mod_wordsOf) 33 = .ok (.iload 4, 2) := by decide +kernel
theorem d_Mod_wordsOf_35 : decode (ib f_Mod_wordsOf) 35 = .ok (.iaload, 1) := by decide +kernel
theorem d_Mod_wordsOf_36 : decode (ib f_Mod_wordsOf) 36 = .ok (.goto 10, 3) := by decide +kernel
theorem d_Mod_wordsOf_39 : decode (ib f_Mod_wordsOf) 39 = .ok (.aload_n 0, 1) := by decide +kernel
theorem d_Mod_wordsOf_40 : decode (ib f_Mod_wordsOf) 40 = .ok (.getfield 83, 3) := by decide +kernel
theorem d_Mod_wordsOf_43 : decode (ib f_Mod_wordsOf) 43 = .ok (.iload 4, 2) := by decide +kernel
theorem d_Mod_wordsOf_45 : decode (ib f_Mod_wordsOf) 45 = .ok (.iaload, 1) := by decide +kernel
theorem d_Mod_wordsOf_46 : decode (ib f_Mod_wordsOf) 46 = .ok (.iadd, 1) := by decide +kernel
theorem d_Mod_wordsOf_47 : decode (ib f_Mod_wordsOf) 47 = .ok (.istore_n 3, 1) := by decide +kernel
theorem d_Mod_wordsOf_48 : decode (ib f_Mod_wordsOf) 48 = .ok (.iinc 4 1, 3) := by decide +kernel
theorem d_Mod_wordsOf_51 : decode (ib f_Mod_wordsOf) 51 = .ok (.goto (-46), 3) := by decide +kernel
theorem d_Mod_wordsOf_54 : decode (ib f_Mod_wordsOf) 54 = .ok (.iload_n 3, 1) := by decide +kernel
theorem d_Mod_wordsOf_55 : decode (ib f_Mod_wordsOf) 55 = .ok (.ireturn, 1) := by decide +kernel
theorem d_Mod_legs_0 : decode (ib f_Mod_legs) 0 = .ok (.aload_n 0, 1) := by decide +kernel
theorem d_Mod_legs_1 : decode (ib f_Mod_legs) 1 = .ok (.iconst 0, 1) := by decide +kernel
theorem d_Mod_legs_2 : decode (ib f_Mod_legs) 2 = .ok (.putfield 107, 3) := by decide +kernel
theorem d_Mod_legs_5 : decode (ib f_Mod_legs) 5 = .ok (.aload_n 0, 1) := by decide +kernel
theorem d_Mod_legs_6 : decode (ib f_Mod_legs) 6 = .ok (.iload_n 1, 1) := by decide +kernel
theorem d_Mod_legs_7 : decode (ib f_Mod_legs) 7 = .ok (.iconst 0, 1) := by decide +kernel
theorem d_Mod_legs_8 : decode (ib f_Mod_legs) 8 = .ok (.iconst 1, 1) := by decide +kernel
theorem d_Mod_legs_9 : decode (ib f_Mod_legs) 9 = .ok (.invokevirtual 135, 3) := by decide +kernel
theorem d_Mod_legs_12 : decode (ib f_Mod_legs) 12 = .ok (.ifCond .ne 5, 3) := by decide +kernel
theorem d_Mod_legs_15 : decode (ib f_Mod_legs) 15 = .ok (.iconst (-1), 1) := by decide +kernel
theorem d_Mod_legs_16 : decode (ib f_Mod_legs) 16 = .ok (.ireturn, 1) := by decide +kernel
theorem d_Mod_legs_17 : decode (ib f_Mod_legs) 17 = .ok (.aload_n 0, 1) := by decide +kernel
theorem d_Mod_legs_18 : decode (ib f_Mod_legs) 18 = .ok (.invokevirtual 385, 3) := by decide +kernel
theorem d_Mod_legs_21 : decode (ib f_Mod_legs) 21 = .ok (.istore_n 2, 1) := by decide +kernel
theorem d_Mod_legs_22 : decode (ib f_Mod_legs) 22 = .ok (.iconst 0, 1) := by decide +kernel
theorem d_Mod_legs_23 : decode (ib f_Mod_legs) 23 = .ok (.istore_n 3, 1) := by decide +kernel
theorem d_Mod_legs_24 : decode (ib f_Mod_legs) 24 = .ok (.iconst 1, 1) := by decide +kernel
theorem d_Mod_legs_25 : decode (ib f_Mod_legs) 25 = .ok (.istore 4, 2) := by decide +kernel
theorem d_Mod_legs_27 : decode (ib f_Mod_legs) 27 = .ok (.iload 4, 2) := by decide +kernel
theorem d_Mod_legs_29 : decode (ib f_Mod_legs) 29 = .ok (.iconst 1, 1) := by decide +kernel
theorem d_Mod_legs_30 : decode (ib f_Mod_legs) 30 = .ok (.aload_n 0, 1) := by decide +kernel
theorem d_Mod_legs_31 : decode (ib f_Mod_legs) 31 = .ok (.getfield 419, 3) := by decide +kernel
theorem d_Mod_legs_34 : decode (ib f_Mod_legs) 34 = .ok (.ishl, 1) := by decide +kernel
theorem d_Mod_legs_35 : decode (ib f_Mod_legs) 35 = .ok (.if_icmp .ge 39, 3) := by decide +kernel
theorem d_Mod_legs_38 : decode (ib f_Mod_legs) 38 = .ok (.aload_n 0, 1) := by decide +kernel
theorem d_Mod_legs_39 : decode (ib f_Mod_legs) 39 = .ok (.iload 4, 2) := by decide +kernel
theorem d_Mod_legs_41 : decode (ib f_Mod_legs) 41 = .ok (.iconst 1, 1) := by decide +kernel
theorem d_Mod_legs_42 : decode (ib f_Mod_legs) 42 = .ok (.invokevirtual 425, 3) := by decide +kernel
theorem d_Mod_legs_45 : decode (ib f_Mod_legs) 45 = .ok (.iload_n 2, 1) := by decide +kernel
theorem d_Mod_legs_46 : decode (ib f_Mod_legs) 46 = .ok (.if_icmp .gt 22, 3) := by decide +kernel
theorem d_Mod_legs_49 : decode (ib f_Mod_legs) 49 = .ok (.aload_n 0, 1) := by decide +kernel
theorem d_Mod_legs_50 : decode (ib f_Mod_legs) 50 = .ok (.iload 4, 2) := by decide +kernel
theorem d_Mod_legs_52 : decode (ib f_Mod_legs) 52 = .ok (.iconst 0, 1) := by decide +kernel
theorem d_Mod_legs_53 : decode (ib f_Mod_legs) 53 = .ok (.invokevirtual 425, 3) := by decide +kernel
theorem d_Mod_legs_56 : decode (ib f_Mod_legs) 56 = .ok (.aload_n 0, 1) := by decide +kernel
theorem d_Mod_legs_57 : decode (ib f_Mod_legs) 57 = .ok (.iload_n 3, 1) := by decide +kernel
theorem d_Mod_legs_58 : decode (ib f_Mod_legs) 58 = .ok (.iconst 0, 1) := by decide +kernel
theorem d_Mod_legs_59 : decode (ib f_Mod_legs) 59 = .ok (.invokevirtual 425, 3) := by decide +kernel
theorem d_Mod_legs_62 : decode (ib f_Mod_legs) 62 = .ok (.if_icmp .le 6, 3) := by decide +kernel
theorem d_Mod_legs_65 : decode (ib f_Mod_legs) 65 = .ok (.iload 4, 2) := by decide +kernel
theorem d_Mod_legs_67 : decode (ib f_Mod_legs) 67 = .ok (.istore_n 3, 1) := by decide +kernel
theorem d_Mod_legs_68 : decode (ib f_Mod_legs) 68 = .ok (.iinc 4 1, 3) := by decide +kernel
theorem d_Mod_legs_71 : decode (ib f_Mod_legs) 71 = .ok (.goto (-44), 3) := by decide +kernel
theorem d_Mod_legs_74 : decode (ib f_Mod_legs) 74 = .ok (.iload_n 1, 1) := by decide +kernel
theorem d_Mod_legs_75 : decode (ib f_Mod_legs) 75 = .ok (.ifCond .ne 12, 3) := by decide +kernel
theorem d_Mod_legs_78 : decode (ib f_Mod_legs) 78 = .ok (.aload_n 0, 1) := by decide +kernel
theorem d_Mod_legs_79 : decode (ib f_Mod_legs) 79 = .ok (.iload_n 3, 1) := by decide +kernel
theorem d_Mod_legs_80 : decode (ib f_Mod_legs) 80 = .ok (.iconst 0, 1) := by decide +kernel
theorem d_Mod_legs_81 : decode (ib f_Mod_legs) 81 = .ok (.invokevirtual 425, 3) := by decide +kernel
theorem d_Mod_legs_84 : decode (ib f_Mod_legs) 84 = .ok (.goto 4, 3) := by decide +kernel
theorem d_Mod_legs_87 : decode (ib f_Mod_legs) 87 = .ok (.iload_n 3, 1) := by decide +kernel
theorem d_Mod_legs_88 : decode (ib f_Mod_legs) 88 = .ok (.ireturn, 1) := by decide +kernel
theorem d_Mod_aheadOf_0 : decode (ib f_Mod_aheadOf) 0 = .ok (.aload_n 0, 1) := by decide +kernel
theorem d_Mod_aheadOf_1 : decode (ib f_Mod_aheadOf) 1 = .ok (.getfield 62, 3) := by decide +kernel
theorem d_Mod_aheadOf_4 : decode (ib f_Mod_aheadOf) 4 = .ok (.iload_n 1, 1) := by decide +kernel
theorem d_Mod_aheadOf_5 : decode (ib f_Mod_aheadOf) 5 = .ok (.iaload, 1) := by decide +kernel
theorem d_Mod_aheadOf_6 : decode (ib f_Mod_aheadOf) 6 = .ok (.istore_n 2, 1) := by decide +kernel
theorem d_Mod_aheadOf_7 : decode (ib f_Mod_aheadOf) 7 = .ok (.iconst 0, 1) := by decide +kernel
theorem d_Mod_aheadOf_8 : decode (ib f_Mod_aheadOf) 8 = .ok (.istore_n 3, 1) := by decide +kernel
theorem d_Mod_aheadOf_9 : decode (ib f_Mod_aheadOf) 9 = .ok (.iload_n 3, 1) := by decide +kernel
theorem d_Mod_aheadOf_10 : decode (ib f_Mod_aheadOf) 10 = .ok (.bipush 12, 2) := by decide +kernel
theorem d_Mod_aheadOf_12 : decode (ib f_Mod_aheadOf) 12 = .ok (.if_icmp .ge 45, 3) := by decide +kernel
theorem d_Mod_aheadOf_15 : decode (ib f_Mod_aheadOf) 15 = .ok (.iconst 0, 1) := by decide +kernel
theorem d_Mod_aheadOf_16 : decode (ib f_Mod_aheadOf) 16 = .ok (.istore 4, 2) := by decide +kernel
theorem d_Mod_aheadOf_18 : decode (ib f_Mod_aheadOf) 18 = .ok (.iload 4, 2) := by decide +kernel
theorem d_Mod_aheadOf_20 : decode (ib f_Mod_aheadOf) 20 = .ok (.bipush 12, 2) := by decide +kernel
theorem d_Mod_aheadOf_22 : decode (ib f_Mod_aheadOf) 22 = .ok (.if_icmp .ge 29, 3) := by decide +kernel
theorem d_Mod_aheadOf_25 : decode (ib f_Mod_aheadOf) 25 = .ok (.aload_n 0, 1) := by decide +kernel
theorem d_Mod_aheadOf_26 : decode (ib f_Mod_aheadOf) 26 = .ok (.iload_n 2, 1) := by decide +kernel
theorem d_Mod_aheadOf_27 : decode (ib f_Mod_aheadOf) 27 = .ok (.iload 4, 2) := by decide +kernel
theorem d_Mod_aheadOf_29 : decode (ib f_Mod_aheadOf) 29 = .ok (.invokevirtual 422, 3) := by decide +kernel
theorem d_Mod_aheadOf_32 : decode (ib f_Mod_aheadOf) 32 = .ok (.ifCond .eq 13, 3) := by decide +kernel
theorem d_Mod_aheadOf_35 : decode (ib f_Mod_aheadOf) 35 = .ok (.iload_n 2, 1) := by decide +kernel
theorem d_Mod_aheadOf_36 : decode (ib f_Mod_aheadOf) 36 = .ok (.aload_n 0, 1) := by decide +kernel
theorem d_Mod_aheadOf_37 : decode (ib f_Mod_aheadOf) 37 = .ok (.getfield 62, 3) := by decide +kernel
theorem d_Mod_aheadOf_40 : decode (ib f_Mod_aheadOf) 40 = .ok (.iload 4, 2) := by decide +kernel
theorem d_Mod_aheadOf_42 : decode (ib f_Mod_aheadOf) 42 = .ok (.iaload, 1) := by decide +kernel
theorem d_Mod_aheadOf_43 : decode (ib f_Mod_aheadOf) 43 = .ok (.ior, 1) := by decide +kernel
theorem d_Mod_aheadOf_44 : decode (ib f_Mod_aheadOf) 44 = .ok (.istore_n 2, 1) := by decide +kernel
theorem d_Mod_aheadOf_45 : decode (ib f_Mod_aheadOf) 45 = .ok (.iinc 4 1, 3) := by decide +kernel
theorem d_Mod_aheadOf_48 : decode (ib f_Mod_aheadOf) 48 = .ok (.goto (-30), 3) := by decide +kernel
theorem d_Mod_aheadOf_51 : decode (ib f_Mod_aheadOf) 51 = .ok (.iinc 3 1, 3) := by decide +kernel
theorem d_Mod_aheadOf_54 : decode (ib f_Mod_aheadOf) 54 = .ok (.goto (-45), 3) := by decide +kernel
theorem d_Mod_aheadOf_57 : decode (ib f_Mod_aheadOf) 57 = .ok (.iload_n 2, 1) := by decide +kernel
theorem d_Mod_aheadOf_58 : decode (ib f_Mod_aheadOf) 58 = .ok (.ireturn, 1) := by decide +kernel
theorem d_Mod_roundSet_0 : decode (ib f_Mod_roundSet) 0 = .ok (.iconst 0, 1) := by decide +kernel
theorem d_Mod_roundSet_1 : decode (ib f_Mod_roundSet) 1 = .ok (.istore_n 1, 1) := by decide +kernel
theorem d_Mod_roundSet_2 : decode (ib f_Mod_roundSet) 2 = .ok (.iconst 0, 1) := by decide +kernel
theorem d_Mod_roundSet_3 : decode (ib f_Mod_roundSet) 3 = .ok (.istore_n 2, 1) := by decide +kernel
theorem d_Mod_roundSet_4 : decode (ib f_Mod_roundSet) 4 = .ok (.iload_n 2, 1) := by decide +kernel
theorem d_Mod_roundSet_5 : decode (ib f_Mod_roundSet) 5 = .ok (.bipush 12, 2) := by decide +kernel
theorem d_Mod_roundSet_7 : decode (ib f_Mod_roundSet) 7 = .ok (.if_icmp .ge 28, 3) := by decide +kernel
theorem d_Mod_roundSet_10 : decode (ib f_Mod_roundSet) 10 = .ok (.aload_n 0, 1) := by decide +kernel
theorem d_Mod_roundSet_11 : decode (ib f_Mod_roundSet) 11 = .ok (.aload_n 0, 1) := by decide +kernel
theorem d_Mod_roundSet_12 : decode (ib f_Mod_roundSet) 12 = .ok (.iload_n 2, 1) := by decide +kernel
theorem d_Mod_roundSet_13 : decode (ib f_Mod_roundSet) 13 = .ok (.invokevirtual 429, 3) := by decide +kernel
theorem d_Mod_roundSet_16 : decode (ib f_Mod_roundSet) 16 = .ok (.iload_n 2, 1) := by decide +kernel
theorem d_Mod_roundSet_17 : decode (ib f_Mod_roundSet) 17 = .ok (.invokevirtual 422, 3) := by decide +kernel
theorem d_Mod_roundSet_20 : decode (ib f_Mod_roundSet) 20 = .ok (.ifCond .eq 9, 3) := by decide +kernel
theorem d_Mod_roundSet_23 : decode (ib f_Mod_roundSet) 23 = .ok (.iload_n 1, 1) := by decide +kernel
theorem d_Mod_roundSet_24 : decode (ib f_Mod_roundSet) 24 = .ok (.iconst 1, 1) := by decide +kernel
theorem d_Mod_roundSet_25 : decode (ib f_Mod_roundSet) 25 = .ok (.iload_n 2, 1) := by decide +kernel
theorem d_Mod_roundSet_26 : decode (ib f_Mod_roundSet) 26 = .ok (.ishl, 1) := by decide +kernel
theorem d_Mod_roundSet_27 : decode (ib f_Mod_roundSet) 27 = .ok (.ior, 1) := by decide +kernel
theorem d_Mod_roundSet_28 : decode (ib f_Mod_roundSet) 28 = .ok (.istore_n 1, 1) := by decide +kernel
theorem d_Mod_roundSet_29 : decode (ib f_Mod_roundSet) 29 = .ok (.iinc 2 1, 3) := by decide +kernel
theorem d_Mod_roundSet_32 : decode (ib f_Mod_roundSet) 32 = .ok (.goto (-28), 3) := by decide +kernel
theorem d_Mod_roundSet_35 : decode (ib f_Mod_roundSet) 35 = .ok (.iload_n 1, 1) := by decide +kernel
theorem d_Mod_roundSet_36 : decode (ib f_Mod_roundSet) 36 = .ok (.ireturn, 1) := by decide +kernel
theorem d_Mod_underOf_0 : decode (ib f_Mod_underOf) 0 = .ok (.iconst 0, 1) := by decide +kernel
theorem d_Mod_underOf_1 : decode (ib f_Mod_underOf) 1 = .ok (.istore_n 2, 1) := by decide +kernel
theorem d_Mod_underOf_2 : decode (ib f_Mod_underOf) 2 = .ok (.iconst 0, 1) := by decide +kernel
theorem d_Mod_underOf_3 : decode (ib f_Mod_underOf) 3 = .ok (.istore_n 3, 1) := by decide +kernel
theorem d_Mod_underOf_4 : decode (ib f_Mod_underOf) 4 = .ok (.iload_n 3, 1) := by decide +kernel
theorem d_Mod_underOf_5 : decode (ib f_Mod_underOf) 5 = .ok (.bipush 12, 2) := by decide +kernel
theorem d_Mod_underOf_7 : decode (ib f_Mod_underOf) 7 = .ok (.if_icmp .ge 28, 3) := by decide +kernel
theorem d_Mod_underOf_10 : decode (ib f_Mod_underOf) 10 = .ok (.aload_n 0, 1) := by decide +kernel
theorem d_Mod_underOf_11 : decode (ib f_Mod_underOf) 11 = .ok (.aload_n 0, 1) := by decide +kernel
theorem d_Mod_underOf_12 : decode (ib f_Mod_underOf) 12 = .ok (.iload_n 3, 1) := by decide +kernel
theorem d_Mod_underOf_13 : decode (ib f_Mod_underOf) 13 = .ok (.invokevirtual 429, 3) := by decide +kernel
theorem d_Mod_underOf_16 : decode (ib f_Mod_underOf) 16 = .ok (.iload_n 1, 1) := by decide +kernel
theorem d_Mod_underOf_17 : decode (ib f_Mod_underOf) 17 = .ok (.invokevirtual 422, 3) := by decide +kernel
theorem d_Mod_underOf_20 : decode (ib f_Mod_underOf) 20 = .ok (.ifCond .eq 9, 3) := by decide +kernel
theorem d_Mod_underOf_23 : decode (ib f_Mod_underOf) 23 = .ok (.iload_n 2, 1) := by decide +kernel
theorem d_Mod_underOf_24 : decode (ib f_Mod_underOf) 24 = .ok (.iconst 1, 1) := by decide +kernel
theorem d_Mod_underOf_25 : decode (ib f_Mod_underOf) 25 = .ok (.iload_n 3, 1) := by decide +kernel
theorem d_Mod_underOf_26 : decode (ib f_Mod_underOf) 26 = .ok (.ishl, 1) := by decide +kernel
theorem d_Mod_underOf_27 : decode (ib f_Mod_underOf) 27 = .ok (.ior, 1) := by decide +kernel
theorem d_Mod_underOf_28 : decode (ib f_Mod_underOf) 28 = .ok (.istore_n 2, 1) := by decide +kernel
theorem d_Mod_underOf_29 : decode (ib f_Mod_underOf) 29 = .ok (.iinc 3 1, 3) := by decide +kernel
theorem d_Mod_underOf_32 : decode (ib f_Mod_underOf) 32 = .ok (.goto (-28), 3) := by decide +kernel
theorem d_Mod_underOf_35 : decode (ib f_Mod_underOf) 35 = .ok (.iload_n 2, 1) := by decide +kernel
theorem d_Mod_underOf_36 : decode (ib f_Mod_underOf) 36 = .ok (.ireturn, 1) := by decide +kernel
theorem d_Mod_order_0 : decode (ib f_Mod_order) 0 = .ok (.aload_n 0, 1) := by decide +kernel
theorem d_Mod_order_1 : decode (ib f_Mod_order) 1 = .ok (.iconst 0, 1) := by decide +kernel
theorem d_Mod_order_2 : decode (ib f_Mod_order) 2 = .ok (.putfield 107, 3) := by decide +kernel
theorem d_Mod_order_5 : decode (ib f_Mod_order) 5 = .ok (.iconst 0, 1) := by decide +kernel
theorem d_Mod_order_6 : decode (ib f_Mod_order) 6 = .ok (.istore_n 2, 1) := by decide +kernel
theorem d_Mod_order_7 : decode (ib f_Mod_order) 7 = .ok (.iload_n 1, 1) := by decide +kernel
theorem d_Mod_order_8 : decode (ib f_Mod_order) 8 = .ok (.ifCond .eq 8, 3) := by decide +kernel
theorem d_Mod_order_11 : decode (ib f_Mod_order) 11 = .ok (.iload_n 1, 1) := by decide +kernel
theorem d_Mod_order_12 : decode (ib f_Mod_order) 12 = .ok (.iconst 2, 1) := by decide +kernel
theorem d_Mod_order_13 : decode (ib f_Mod_order) 13 = .ok (.if_icmp .ne 49, 3) := by decide +kernel
theorem d_Mod_order_16 : decode (ib f_Mod_order) 16 = .ok (.iconst 0, 1) := by decide +kernel
theorem d_Mod_order_17 : decode (ib f_Mod_order) 17 = .ok (.istore_n 3, 1) := by decide +kernel
theorem d_Mod_order_18 : decode (ib f_Mod_order) 18 = .ok (.iload_n 3, 1) := by decide +kernel
theorem d_Mod_order_19 : decode (ib f_Mod_order) 19 = .ok (.bipush 12, 2) := by decide +kernel
theorem d_Mod_order_21 : decode (ib f_Mod_order) 21 = .ok (.if_icmp .ge 39, 3) := by decide +kernel
theorem d_Mod_order_24 : decode (ib f_Mod_order) 24 = .ok (.iload_n 1, 1) := by decide +kernel
theorem d_Mod_order_25 : decode (ib f_Mod_order) 25 = .ok (.ifCond .ne 15, 3) := by decide +kernel
theorem d_Mod_order_28 : decode (ib f_Mod_order) 28 = .ok (.aload_n 0, 1) := by decide +kernel
theorem d_Mod_order_29 : decode (ib f_Mod_order) 29 = .ok (.getfield 62, 3) := by decide +kernel
theorem d_Mod_order_32 : decode (ib f_Mod_order) 32 = .ok (.iload_n 3, 1) := by decide +kernel
theorem d_Mod_order_33 : decode (ib f_Mod_order) 33 = .ok (.iaload, 1) := by decide +kernel
theorem d_Mod_order_34 : decode (ib f_Mod_order) 34 = .ok (.ifCond .ne 20, 3) := by decide +kernel
theorem d_Mod_order_37 : decode (ib f_Mod_order) 37 = .ok (.goto 11, 3) := by decide +kernel
theorem d_Mod_order_40 : decode (ib f_Mod_order) 40 = .ok (.aload_n 0, 1) := by decide +kernel
theorem d_Mod_order_41 : decode (ib f_Mod_order) 41 = .ok (.iload_n 3, 1) := by decide +kernel
theorem d_Mod_order_42 : decode (ib f_Mod_order) 42 = .ok (.invokevirtual 432, 3) := by decide +kernel
theorem d_Mod_order_45 : decode (ib f_Mod_order) 45 = .ok (.ifCond .ne 9, 3) := by decide +kernel
theorem d_Mod_order_48 : decode (ib f_Mod_order) 48 = .ok (.iload_n 2, 1) := by decide +kernel
theorem d_Mod_order_49 : decode (ib f_Mod_order) 49 = .ok (.iconst 1, 1) := by decide +kernel
theorem d_Mod_order_50 : decode (ib f_Mod_order) 50 = .ok (.iload_n 3, 1) := by decide +kernel
theorem d_Mod_order_51 : decode (ib f_Mod_order) 51 = .ok (.ishl, 1) := by decide +kernel
theorem d_Mod_order_52 : decode (ib f_Mod_order) 52 = .ok (.ior, 1) := by decide +kernel
theorem d_Mod_order_53 : decode (ib f_Mod_order) 53 = .ok (.istore_n 2, 1) := by decide +kernel
theorem d_Mod_order_54 : decode (ib f_Mod_order) 54 = .ok (.iinc 3 1, 3) := by decide +kernel
theorem d_Mod_order_57 : decode (ib f_Mod_order) 57 = .ok (.goto (-39), 3) := by decide +kernel
theorem d_Mod_order_60 : decode (ib f_Mod_order) 60 = .ok (.iload_n 2, 1) := by decide +kernel
theorem d_Mod_order_61 : decode (ib f_Mod_order) 61 = .ok (.ireturn, 1) := by decide +kernel
theorem d_Mod_order_62 : decode (ib f_Mod_order) 62 = .ok (.iload_n 1, 1) := by decide +kernel
theorem d_Mod_order_63 : decode (ib f_Mod_order) 63 = .ok (.iconst 1, 1) := by decide +kernel
theorem d_Mod_order_64 : decode (ib f_Mod_order) 64 = .ok (.if_icmp .ne 8, 3) := by decide +kernel
theorem d_Mod_order_67 : decode (ib f_Mod_order) 67 = .ok (.aload_n 0, 1) := by decide +kernel
theorem d_Mod_order_68 : decode (ib f_Mod_order) 68 = .ok (.invokevirtual 435, 3) := by decide +kernel
theorem d_Mod_order_71 : decode (ib f_Mod_order) 71 = .ok (.ireturn, 1) := by decide +kernel
theorem d_Mod_order_72 : decode (ib f_Mod_order) 72 = .ok (.aload_n 0, 1) := by decide +kernel
theorem d_Mod_order_73 : decode (ib f_Mod_order) 73 = .ok (.iload_n 1, 1) := by decide +kernel
theorem d_Mod_order_74 : decode (ib f_Mod_order) 74 = .ok (.bipush 30, 2) := by decide +kernel
theorem d_Mod_order_76 : decode (ib f_Mod_order) 76 = .ok (.bipush 41, 2) := by decide +kernel
theorem d_Mod_order_78 : decode (ib f_Mod_order) 78 = .ok (.invokevirtual 135, 3) := by decide +kernel
theorem d_Mod_order_81 : decode (ib f_Mod_order) 81 = .ok (.ifCond .eq 12, 3) := by decide +kernel
theorem d_Mod_order_84 : decode (ib f_Mod_order) 84 = .ok (.aload_n 0, 1) := by decide +kernel
theorem d_Mod_order_85 : decode (ib f_Mod_order) 85 = .ok (.iload_n 1, 1) := by decide +kernel
theorem d_Mod_order_86 : decode (ib f_Mod_order) 86 = .ok (.bipush 30, 2) := by decide +kernel
theorem d_Mod_order_88 : decode (ib f_Mod_order) 88 = .ok (.isub, 1) := by decide +kernel
theorem d_Mod_order_89 : decode (ib f_Mod_order) 89 = .ok (.invokevirtual 432, 3) := by decide +kernel
theorem d_Mod_order_92 : decode (ib f_Mod_order) 92 = .ok (.ireturn, 1) := by decide +kernel
theorem d_Mod_order_93 : decode (ib f_Mod_order) 93 = .ok (.aload_n 0, 1) := by decide +kernel
theorem d_Mod_order_94 : decode (ib f_Mod_order) 94 = .ok (.iload_n 1, 1) := by decide +kernel
theorem d_Mod_order_95 : decode (ib f_Mod_order) 95 = .ok (.bipush 10, 2) := by decide +kernel
theorem d_Mod_order_97 : decode (ib f_Mod_order) 97 = .ok (.bipush 21, 2) := by decide +kernel
theorem d_Mod_order_99 : decode (ib f_Mod_order) 99 = .ok (.invokevirtual 135, 3) := by decide +kernel
theorem d_Mod_order_102 : decode (ib f_Mod_order) 102 = .ok (.ifCond .ne 5, 3) := by decide +kernel
theorem d_Mod_order_105 : decode (ib f_Mod_order) 105 = .ok (.iconst (-1), 1) := by decide +kernel
theorem d_Mod_order_106 : decode (ib f_Mod_order) 106 = .ok (.ireturn, 1) := by decide +kernel
theorem d_Mod_order_107 : decode (ib f_Mod_order) 107 = .ok (.aload_n 0, 1) := by decide +kernel
theorem d_Mod_order_108 : decode (ib f_Mod_order) 108 = .ok (.iload_n 1, 1) := by decide +kernel
theorem d_Mod_order_109 : decode (ib f_Mod_order) 109 = .ok (.bipush 10, 2) := by decide +kernel
theorem d_Mod_order_111 : decode (ib f_Mod_order) 111 = .ok (.isub, 1) := by decide +kernel
theorem d_Mod_order_112 : decode (ib f_Mod_order) 112 = .ok (.invokevirtual 429, 3) := by decide +kernel
theorem d_Mod_order_115 : decode (ib f_Mod_order) 115 = .ok (.istore_n 2, 1) := by decide +kernel
theorem d_Mod_order_116 : decode (ib f_Mod_order) 116 = .ok (.aload_n 0, 1) := by decide +kernel
theorem d_Mod_order_117 : decode (ib f_Mod_order) 117 = .ok (.invokevirtual 435, 3) := by decide +kernel
theorem d_Mod_order_120 : decode (ib f_Mod_order) 120 = .ok (.iload_n 2, 1) := by decide +kernel
theorem d_Mod_order_121 : decode (ib f_Mod_order) 121 = .ok (.iconst 1, 1) := by decide +kernel
theorem d_Mod_order_122 : decode (ib f_Mod_order) 122 = .ok (.iload_n 1, 1) := by decide +kernel
theorem d_Mod_order_123 : decode (ib f_Mod_order) 123 = .ok (.bipush 10, 2) := by decide +kernel
theorem d_Mod_order_125 : decode (ib f_Mod_order) 125 = .ok (.isub, 1) := by decide +kernel
theorem d_Mod_order_126 : decode (ib f_Mod_order) 126 = .ok (.ishl, 1) := by decide +kernel
theorem d_Mod_order_127 : decode (ib f_Mod_order) 127 = .ok (.ior, 1) := by decide +kernel
theorem d_Mod_order_128 : decode (ib f_Mod_order) 128 = .ok (.iand, 1) := by decide +kernel
theorem d_Mod_order_129 : decode (ib f_Mod_order) 129 = .ok (.ifCond .eq 7, 3) := by decide +kernel
theorem d_Mod_order_132 : decode (ib f_Mod_order) 132 = .ok (.iconst (-1), 1) := by decide +kernel
theorem d_Mod_order_133 : decode (ib f_Mod_order) 133 = .ok (.goto 8, 3) := by decide +kernel
theorem d_Mod_order_136 : decode (ib f_Mod_order) 136 = .ok (.aload_n 0, 1) := by decide +kernel
theorem d_Mod_order_137 : decode (ib f_Mod_order) 137 = .ok (.iload_n 2, 1) := by decide +kernel
theorem d_Mod_order_138 : decode (ib f_Mod_order) 138 = .ok (.invokevirtual 438, 3) := by decide +kernel
theorem d_Mod_order_141 : decode (ib f_Mod_order) 141 = .ok (.ireturn, 1) := by decide +kernel
theorem d_Mod_sight_0 : decode (ib f_Mod_sight) 0 = .ok (.aload_n 0, 1) := by decide +kernel
theorem d_Mod_sight_1 : decode (ib f_Mod_sight) 1 = .ok (.iconst 0, 1) := by decide +kernel
theorem d_Mod_sight_2 : decode (ib f_Mod_sight) 2 = .ok (.putfield 107, 3) := by decide +kernel
theorem d_Mod_sight_5 : decode (ib f_Mod_sight) 5 = .ok (.iload_n 1, 1) := by decide +kernel
theorem d_Mod_sight_6 : decode (ib f_Mod_sight) 6 = .ok (.iconst (-1), 1) := by decide +kernel
theorem d_Mod_sight_7 : decode (ib f_Mod_sight) 7 = .ok (.if_icmp .ne 10, 3) := by decide +kernel
theorem d_Mod_sight_10 : decode (ib f_Mod_sight) 10 = .ok (.aload_n 0, 1) := by decide +kernel
theorem d_Mod_sight_11 : decode (ib f_Mod_sight) 11 = .ok (.iconst 0, 1) := by decide +kernel
theorem d_Mod_sight_12 : decode (ib f_Mod_sight) 12 = .ok (.putfield 441, 3) := by decide +kernel
theorem d_Mod_sight_15 : decode (ib f_Mod_sight) 15 = .ok (.iconst 0, 1) := by decide +kernel
theorem d_Mod_sight_16 : decode (ib f_Mod_sight) 16 = .ok (.ireturn, 1) := by decide +kernel
theorem d_Mod_sight_17 : decode (ib f_Mod_sight) 17 = .ok (.aload_n 0, 1) := by decide +kernel
theorem d_Mod_sight_18 : decode (ib f_Mod_sight) 18 = .ok (.iload_n 1, 1) := by decide +kernel
theorem d_Mod_sight_19 : decode (ib f_Mod_sight) 19 = .ok (.iconst 0, 1) := by decide +kernel
theorem d_Mod_sight_20 : decode (ib f_Mod_sight) 20 = .ok (.sipush 4095, 3) := by decide +kernel
theorem d_Mod_sight_23 : decode (ib f_Mod_sight) 23 = .ok (.invokevirtual 135, 3) := by decide +kernel
theorem d_Mod_sight_26 : decode (ib f_Mod_sight) 26 = .ok (.ifCond .eq 12, 3) := by decide +kernel
theorem d_Mod_sight_29 : decode (ib f_Mod_sight) 29 = .ok (.aload_n 0, 1) := by decide +kernel
theorem d_Mod_sight_30 : decode (ib f_Mod_sight) 30 = .ok (.getfield 441, 3) := by decide +kernel
theorem d_Mod_sight_33 : decode (ib f_Mod_sight) 33 = .ok (.bipush 8, 2) := by decide +kernel
theorem d_Mod_sight_35 : decode (ib f_Mod_sight) 35 = .ok (.if_icmp .ne 5, 3) := by decide +kernel
theorem d_Mod_sight_38 : decode (ib f_Mod_sight) 38 = .ok (.iconst (-1), 1) := by decide +kernel
theorem d_Mod_sight_39 : decode (ib f_Mod_sight) 39 = .ok (.ireturn, 1) := by decide +kernel
theorem d_Mod_sight_40 : decode (ib f_Mod_sight) 40 = .ok (.aload_n 0, 1) := by decide +kernel
theorem d_Mod_sight_41 : decode (ib f_Mod_sight) 41 = .ok (.getfield 86, 3) := by decide +kernel
theorem d_Mod_sight_44 : decode (ib f_Mod_sight) 44 = .ok (.aload_n 0, 1) := by decide +kernel
theorem d_Mod_sight_45 : decode (ib f_Mod_sight) 45 = .ok (.getfield 441, 3) := by decide +kernel
theorem d_Mod_sight_48 : decode (ib f_Mod_sight) 48 = .ok (.iload_n 1, 1) := by decide +kernel
theorem d_Mod_sight_49 : decode (ib f_Mod_sight) 49 = .ok (.iastore, 1) := by decide +kernel
theorem d_Mod_sight_50 : decode (ib f_Mod_sight) 50 = .ok (.aload_n 0, 1) := by decide +kernel
theorem d_Mod_sight_51 : decode (ib f_Mod_sight) 51 = .ok (.aload_n 0, 1) := by decide +kernel
theorem d_Mod_sight_52 : decode (ib f_Mod_sight) 52 = .ok (.getfield 441, 3) := by decide +kernel
theorem d_Mod_sight_55 : decode (ib f_Mod_sight) 55 = .ok (.iconst 1, 1) := by decide +kernel
theorem d_Mod_sight_56 : decode (ib f_Mod_sight) 56 = .ok (.iadd, 1) := by decide +kernel
theorem d_Mod_sight_57 : decode (ib f_Mod_sight) 57 = .ok (.putfield 441, 3) := by decide +kernel
theorem d_Mod_sight_60 : decode (ib f_Mod_sight) 60 = .ok (.aload_n 0, 1) := by decide +kernel
theorem d_Mod_sight_61 : decode (ib f_Mod_sight) 61 = .ok (.getfield 441, 3) := by decide +kernel
theorem d_Mod_sight_64 : decode (ib f_Mod_sight) 64 = .ok (.ireturn, 1) := by decide +kernel
theorem d_Mod_seenBy_0 : decode (ib f_Mod_seenBy) 0 = .ok (.iconst 0, 1) := by decide +kernel
theorem d_Mod_seenBy_1 : decode (ib f_Mod_seenBy) 1 = .ok (.istore_n 2, 1) := by decide +kernel
theorem d_Mod_seenBy_2 : decode (ib f_Mod_seenBy) 2 = .ok (.iconst 0, 1) := by decide +kernel
theorem d_Mod_seenBy_3 : decode (ib f_Mod_seenBy) 3 = .ok (.istore_n 3, 1) := by decide +kernel
theorem d_Mod_seenBy_4 : decode (ib f_Mod_seenBy) 4 = .ok (.iload_n 3, 1) := by decide +kernel
theorem d_Mod_seenBy_5 : decode (ib f_Mod_seenBy) 5 = .ok (.aload_n 0, 1) := by decide +kernel
theorem d_Mod_seenBy_6 : decode (ib f_Mod_seenBy) 6 = .ok (.getfield 441, 3) := by decide +kernel
theorem d_Mod_seenBy_9 : decode (ib f_Mod_seenBy) 9 = .ok (.if_icmp .ge 27, 3) := by decide +kernel
theorem d_Mod_seenBy_12 : decode (ib f_Mod_seenBy) 12 = .ok (.aload_n 0, 1) := by decide +kernel
theorem d_Mod_seenBy_13 : decode (ib f_Mod_seenBy) 13 = .ok (.iload_n 1, 1) := by decide +kernel
theorem d_Mod_seenBy_14 : decode (ib f_Mod_seenBy) 14 = .ok (.iload_n 3, 1) := by decide +kernel
theorem d_Mod_seenBy_15 : decode (ib f_Mod_seenBy) 15 = .ok (.invokevirtual 422, 3) := by decide +kernel
theorem d_Mod_seenBy_18 : decode (ib f_Mod_seenBy) 18 = .ok (.ifCond .eq 12, 3) := by decide +kernel
theorem d_Mod_seenBy_21 : decode (ib f_Mod_seenBy) 21 = .ok (.iload_n 2, 1) := by decide +kernel
theorem d_Mod_seenBy_22 : decode (ib f_Mod_seenBy) 22 = .ok (.aload_n 0, 1) := by decide +kernel
theorem d_Mod_seenBy_23 : decode (ib f_Mod_seenBy) 23 = .ok (.getfield 86, 3) := by decide +kernel
theorem d_Mod_seenBy_26 : decode (ib f_Mod_seenBy) 26 = .ok (.iload_n 3, 1) := by decide +kernel
theorem d_Mod_seenBy_27 : decode (ib f_Mod_seenBy) 27 = .ok (.iaload, 1) := by decide +kernel
theorem d_Mod_seenBy_28 : decode (ib f_Mod_seenBy) 28 = .ok (.ior, 1) := by decide +kernel
theorem d_Mod_seenBy_29 : decode (ib f_Mod_seenBy) 29 = .ok (.istore_n 2, 1) := by decide +kernel
theorem d_Mod_seenBy_30 : decode (ib f_Mod_seenBy) 30 = .ok (.iinc 3 1, 3) := by decide +kernel
theorem d_Mod_seenBy_33 : decode (ib f_Mod_seenBy) 33 = .ok (.goto (-29), 3) := by decide +kernel
theorem d_Mod_seenBy_36 : decode (ib f_Mod_seenBy) 36 = .ok (.iload_n 2, 1) := by decide +kernel
theorem d_Mod_seenBy_37 : decode (ib f_Mod_seenBy) 37 = .ok (.ireturn, 1) := by decide +kernel
theorem d_Mod_cover_0 : decode (ib f_Mod_cover) 0 = .ok (.aload_n 0, 1) := by decide +kernel
theorem d_Mod_cover_1 : decode (ib f_Mod_cover) 1 = .ok (.iconst 0, 1) := by decide +kernel
theorem d_Mod_cover_2 : decode (ib f_Mod_cover) 2 = .ok (.putfield 107, 3) := by decide +kernel
theorem d_Mod_cover_5 : decode (ib f_Mod_cover) 5 = .ok (.aload_n 0, 1) := by decide +kernel
theorem d_Mod_cover_6 : decode (ib f_Mod_cover) 6 = .ok (.iload_n 1, 1) := by decide +kernel
theorem d_Mod_cover_7 : decode (ib f_Mod_cover) 7 = .ok (.iconst 0, 1) := by decide +kernel
theorem d_Mod_cover_8 : decode (ib f_Mod_cover) 8 = .ok (.iconst 1, 1) := by decide +kernel
theorem d_Mod_cover_9 : decode (ib f_Mod_cover) 9 = .ok (.invokevirtual 135, 3) := by decide +kernel
theorem d_Mod_cover_12 : decode (ib f_Mod_cover) 12 = .ok (.ifCond .ne 5, 3) := by decide +kernel
theorem d_Mod_cover_15 : decode (ib f_Mod_cover) 15 = .ok (.iconst (-1), 1) := by decide +kernel
theorem d_Mod_cover_16 : decode (ib f_Mod_cover) 16 = .ok (.ireturn, 1) := by decide +kernel
theorem d_Mod_cover_17 : decode (ib f_Mod_cover) 17 = .ok (.iconst 1, 1) := by decide +kernel
theorem d_Mod_cover_18 : decode (ib f_Mod_cover) 18 = .ok (.aload_n 0, 1) := by decide +kernel
theorem d_Mod_cover_19 : decode (ib f_Mod_cover) 19 = .ok (.getfield 441, 3) := by decide +kernel
theorem d_Mod_cover_22 : decode (ib f_Mod_cover) 22 = .ok (.ishl, 1) := by decide +kernel
theorem d_Mod_cover_23 : decode (ib f_Mod_cover) 23 = .ok (.iconst 1, 1) := by decide +kernel
theorem d_Mod_cover_24 : decode (ib f_Mod_cover) 24 = .ok (.isub, 1) := by decide +kernel
theorem d_Mod_cover_25 : decode (ib f_Mod_cover) 25 = .ok (.istore_n 2, 1) := by decide +kernel
theorem d_Mod_cover_26 : decode (ib f_Mod_cover) 26 = .ok (.aload_n 0, 1) := by decide +kernel
theorem d_Mod_cover_27 : decode (ib f_Mod_cover) 27 = .ok (.iload_n 2, 1) := by decide +kernel
theorem d_Mod_cover_28 : decode (ib f_Mod_cover) 28 = .ok (.invokevirtual 444, 3) := by decide +kernel
theorem d_Mod_cover_31 : decode (ib f_Mod_cover) 31 = .ok (.istore_n 3, 1) := by decide +kernel
theorem d_Mod_cover_32 : decode (ib f_Mod_cover) 32 = .ok (.iconst 0, 1) := by decide +kernel
theorem d_Mod_cover_33 : decode (ib f_Mod_cover) 33 = .ok (.istore 4, 2) := by decide +kernel
theorem d_Mod_cover_35 : decode (ib f_Mod_cover) 35 = .ok (.iload 4, 2) := by decide +kernel
theorem d_Mod_cover_37 : decode (ib f_Mod_cover) 37 = .ok (.iconst 1, 1) := by decide +kernel
theorem d_Mod_cover_38 : decode (ib f_Mod_cover) 38 = .ok (.aload_n 0, 1) := by decide +kernel
theorem d_Mod_cover_39 : decode (ib f_Mod_cover) 39 = .ok (.getfield 441, 3) := by decide +kernel
theorem d_Mod_cover_42 : decode (ib f_Mod_cover) 42 = .ok (.ishl, 1) := by decide +kernel
theorem d_Mod_cover_43 : decode (ib f_Mod_cover) 43 = .ok (.if_icmp .ge 36, 3) := by decide +kernel
theorem d_Mod_cover_46 : decode (ib f_Mod_cover) 46 = .ok (.aload_n 0, 1) := by decide +kernel
theorem d_Mod_cover_47 : decode (ib f_Mod_cover) 47 = .ok (.iload 4, 2) := by decide +kernel
theorem d_Mod_cover_49 : decode (ib f_Mod_cover) 49 = .ok (.invokevirtual 438, 3) := by decide +kernel
theorem d_Mod_cover_52 : decode (ib f_Mod_cover) 52 = .ok (.aload_n 0, 1) := by decide +kernel
theorem d_Mod_cover_53 : decode (ib f_Mod_cover) 53 = .ok (.iload_n 2, 1) := by decide +kernel
theorem d_Mod_cover_54 : decode (ib f_Mod_cover) 54 = .ok (.invokevirtual 438, 3) := by decide +kernel
theorem d_Mod_cover_57 : decode (ib f_Mod_cover) 57 = .ok (.if_icmp .ge 16, 3) := by decide +kernel
theorem d_Mod_cover_60 : decode (ib f_Mod_cover) 60 = .ok (.aload_n 0, 1) := by decide +kernel
theorem d_Mod_cover_61 : decode (ib f_Mod_cover) 61 = .ok (.iload 4, 2) := by decide +kernel
theorem d_Mod_cover_63 : decode (ib f_Mod_cover) 63 = .ok (.invokevirtual 444, 3) := by decide +kernel
theorem d_Mod_cover_66 : decode (ib f_Mod_cover) 66 = .ok (.iload_n 3, 1) := by decide +kernel
theorem d_Mod_cover_67 : decode (ib f_Mod_cover) 67 = .ok (.if_icmp .ne 6, 3) := by decide +kernel
theorem d_Mod_cover_70 : decode (ib f_Mod_cover) 70 = .ok (.iload 4, 2) := by decide +kernel
theorem d_Mod_cover_72 : decode (ib f_Mod_cover) 72 = .ok (.istore_n 2, 1) := by decide +kernel
theorem d_Mod_cover_73 : decode (ib f_Mod_cover) 73 = .ok (.iinc 4 1, 3) := by decide +kernel
theorem d_Mod_cover_76 : decode (ib f_Mod_cover) 76 = .ok (.goto (-41), 3) := by decide +kernel
theorem d_Mod_cover_79 : decode (ib f_Mod_cover) 79 = .ok (.iconst 0, 1) := by decide +kernel
theorem d_Mod_cover_80 : decode (ib f_Mod_cover) 80 = .ok (.istore 4, 2) := by decide +kernel
theorem d_Mod_cover_82 : decode (ib f_Mod_cover) 82 = .ok (.iload 4, 2) := by decide +kernel
theorem d_Mod_cover_84 : decode (ib f_Mod_cover) 84 = .ok (.iload_n 2, 1) := by decide +kernel
theorem d_Mod_cover_85 : decode (ib f_Mod_cover) 85 = .ok (.if_icmp .ge 49, 3) := by decide +kernel
theorem d_Mod_cover_88 : decode (ib f_Mod_cover) 88 = .ok (.aload_n 0, 1) := by decide +kernel
theorem d_Mod_cover_89 : decode (ib f_Mod_cover) 89 = .ok (.iload 4, 2) := by decide +kernel
theorem d_Mod_cover_91 : decode (ib f_Mod_cover) 91 = .ok (.invokevirtual 438, 3) := by decide +kernel
theorem d_Mod_cover_94 : decode (ib f_Mod_cover) 94 = .ok (.aload_n 0, 1) := by decide +kernel
theorem d_Mod_cover_95 : decode (ib f_Mod_cover) 95 = .ok (.iload_n 2, 1) := by decide +kernel
theorem d_Mod_cover_96 : decode (ib f_Mod_cover) 96 = .ok (.invokevirtual 438, 3) := by decide +kernel
theorem d_Mod_cover_99 : decode (ib f_Mod_cover) 99 = .ok (.if_icmp .ne 29, 3) := by decide +kernel
theorem d_Mod_cover_102 : decode (ib f_Mod_cover) 102 = .ok (.aload_n 0, 1) := by decide +kernel
theorem d_Mod_cover_103 : decode (ib f_Mod_cover) 103 = .ok (.iload 4, 2) := by decide +kernel
theorem d_Mod_cover_105 : decode (ib f_Mod_cover) 105 = .ok (.invokevirtual 444, 3) := by decide +kernel
theorem d_Mod_cover_108 : decode (ib f_Mod_cover) 108 = .ok (.iload_n 3, 1) := by decide +kernel
theorem d_Mod_cover_109 : decode (ib f_Mod_cover) 109 = .ok (.if_icmp .ne 19, 3) := by decide +kernel
theorem d_Mod_cover_112 : decode (ib f_Mod_cover) 112 = .ok (.iload_n 1, 1) := by decide +kernel
theorem d_Mod_cover_113 : decode (ib f_Mod_cover) 113 = .ok (.ifCond .ne 12, 3) := by decide +kernel
theorem d_Mod_cover_116 : decode (ib f_Mod_cover) 116 = .ok (.aload_n 0, 1) := by decide +kernel
theorem d_Mod_cover_117 : decode (ib f_Mod_cover) 117 = .ok (.iload 4, 2) := by decide +kernel
theorem d_Mod_cover_119 : decode (ib f_Mod_cover) 119 = .ok (.invokevirtual 438, 3) := by decide +kernel
theorem d_Mod_cover_122 : decode (ib f_Mod_cover) 122 = .ok (.goto 5, 3) := by decide +kernel
theorem d_Mod_cover_125 : decode (ib f_Mod_cover) 125 = .ok (.iload 4, 2) := by decide +kernel
theorem d_Mod_cover_127 : decode (ib f_Mod_cover) 127 = .ok (.ireturn, 1) := by decide +kernel
theorem d_Mod_cover_128 : decode (ib f_Mod_cover) 128 = .ok (.iinc 4 1, 3) := by decide +kernel
theorem d_Mod_cover_131 : decode (ib f_Mod_cover) 131 = .ok (.goto (-49), 3) := by decide +kernel
theorem d_Mod_cover_134 : decode (ib f_Mod_cover) 134 = .ok (.iload_n 1, 1) := by decide +kernel
theorem d_Mod_cover_135 : decode (ib f_Mod_cover) 135 = .ok (.ifCond .ne 11, 3) := by decide +kernel
theorem d_Mod_cover_138 : decode (ib f_Mod_cover) 138 = .ok (.aload_n 0, 1) := by decide +kernel
theorem d_Mod_cover_139 : decode (ib f_Mod_cover) 139 = .ok (.iload_n 2, 1) := by decide +kernel
theorem d_Mod_cover_140 : decode (ib f_Mod_cover) 140 = .ok (.invokevirtual 438, 3) := by decide +kernel
theorem d_Mod_cover_143 : decode (ib f_Mod_cover) 143 = .ok (.goto 4, 3) := by decide +kernel
theorem d_Mod_cover_146 : decode (ib f_Mod_cover) 146 = .ok (.iload_n 2, 1) := by decide +kernel
theorem d_Mod_cover_147 : decode (ib f_Mod_cover) 147 = .ok (.ireturn, 1) := by decide +kernel
theorem d_Mod_vein_0 : decode (ib f_Mod_vein) 0 = .ok (.aload_n 0, 1) := by decide +kernel
theorem d_Mod_vein_1 : decode (ib f_Mod_vein) 1 = .ok (.iconst 0, 1) := by decide +kernel
theorem d_Mod_vein_2 : decode (ib f_Mod_vein) 2 = .ok (.putfield 107, 3) := by decide +kernel
theorem d_Mod_vein_5 : decode (ib f_Mod_vein) 5 = .ok (.aload_n 0, 1) := by decide +kernel
theorem d_Mod_vein_6 : decode (ib f_Mod_vein) 6 = .ok (.iload_n 1, 1) := by decide +kernel
theorem d_Mod_vein_7 : decode (ib f_Mod_vein) 7 = .ok (.iconst 0, 1) := by decide +kernel
theorem d_Mod_vein_8 : decode (ib f_Mod_vein) 8 = .ok (.iconst 1, 1) := by decide +kernel
theorem d_Mod_vein_9 : decode (ib f_Mod_vein) 9 = .ok (.invokevirtual 135, 3) := by decide +kernel
theorem d_Mod_vein_12 : decode (ib f_Mod_vein) 12 = .ok (.ifCond .ne 5, 3) := by decide +kernel
theorem d_Mod_vein_15 : decode (ib f_Mod_vein) 15 = .ok (.iconst (-1), 1) := by decide +kernel
theorem d_Mod_vein_16 : decode (ib f_Mod_vein) 16 = .ok (.ireturn, 1) := by decide +kernel
theorem d_Mod_vein_17 : decode (ib f_Mod_vein) 17 = .ok (.iload_n 2, 1) := by decide +kernel
theorem d_Mod_vein_18 : decode (ib f_Mod_vein) 18 = .ok (.iconst (-1), 1) := by decide +kernel
theorem d_Mod_vein_19 : decode (ib f_Mod_vein) 19 = .ok (.if_icmp .ne 41, 3) := by decide +kernel
theorem d_Mod_vein_22 : decode (ib f_Mod_vein) 22 = .ok (.aload_n 0, 1) := by decide +kernel
theorem d_Mod_vein_23 : decode (ib f_Mod_vein) 23 = .ok (.getfield 89, 3) := by decide +kernel
theorem d_Mod_vein_26 : decode (ib f_Mod_vein) 26 = .ok (.iload_n 1, 1) := by decide +kernel
theorem d_Mod_vein_27 : decode (ib f_Mod_vein) 27 = .ok (.iconst 0, 1) := by decide +kernel
theorem d_Mod_vein_28 : decode (ib f_Mod_vein) 28 = .ok (.iastore, 1) := by decide +kernel
theorem d_Mod_vein_29 : decode (ib f_Mod_vein) 29 = .ok (.iconst 0, 1) := by decide +kernel
theorem d_Mod_vein_30 : decode (ib f_Mod_vein) 30 = .ok (.istore 4, 2) := by decide +kernel
theorem d_Mod_vein_32 : decode (ib f_Mod_vein) 32 = .ok (.iload 4, 2) := by decide +kernel
theorem d_Mod_vein_34 : decode (ib f_Mod_vein) 34 = .ok (.bipush 8, 2) := by decide +kernel
theorem d_Mod_vein_36 : decode (ib f_Mod_vein) 36 = .ok (.if_icmp .ge 22, 3) := by decide +kernel
theorem d_Mod_vein_39 : decode (ib f_Mod_vein) 39 = .ok (.aload_n 0, 1) := by decide +kernel
theorem d_Mod_vein_40 : decode (ib f_Mod_vein) 40 = .ok (.getfield 92, 3) := by decide +kernel
theorem d_Mod_vein_43 : decode (ib f_Mod_vein) 43 = .ok (.bipush 8, 2) := by decide +kernel
theorem d_Mod_vein_45 : decode (ib f_Mod_vein) 45 = .ok (.iload_n 1, 1) := by decide +kernel
theorem d_Mod_vein_46 : decode (ib f_Mod_vein) 46 = .ok (.imul, 1) := by decide +kernel
theorem d_Mod_vein_47 : decode (ib f_Mod_vein) 47 = .ok (.iload 4, 2) := by decide +kernel
theorem d_Mod_vein_49 : decode (ib f_Mod_vein) 49 = .ok (.iadd, 1) := by decide +kernel
theorem d_Mod_vein_50 : decode (ib f_Mod_vein) 50 = .ok (.iconst 0, 1) := by decide +kernel
theorem d_Mod_vein_51 : decode (ib f_Mod_vein) 51 = .ok (.iastore, 1) := by decide +kernel
theorem d_Mod_vein_52 : decode (ib f_Mod_vein) 52 = .ok (.iinc 4 1, 3) := by decide +kernel
theorem d_Mod_vein_55 : decode (ib f_Mod_vein) 55 = .ok (.goto (-23), 3) := by decide +kernel
theorem d_Mod_vein_58 : decode (ib f_Mod_vein) 58 = .ok (.iconst 0, 1) := by decide +kernel
theorem d_Mod_vein_59 : decode (ib f_Mod_vein) 59 = .ok (.ireturn, 1) := by decide +kernel
theorem d_Mod_vein_60 : decode (ib f_Mod_vein) 60 = .ok (.aload_n 0, 1) := by decide +kernel
theorem d_Mod_vein_61 : decode (ib f_Mod_vein) 61 = .ok (.iload_n 2, 1) := by decide +kernel
theorem d_Mod_vein_62 : decode (ib f_Mod_vein) 62 = .ok (.iconst 0, 1) := by decide +kernel
theorem d_Mod_vein_63 : decode (ib f_Mod_vein) 63 = .ok (.bipush 7, 2) := by decide +kernel
theorem d_Mod_vein_65 : decode (ib f_Mod_vein) 65 = .ok (.invokevirtual 135, 3) := by decide +kernel
theorem d_Mod_vein_68 : decode (ib f_Mod_vein) 68 = .ok (.ifCond .eq 30, 3) := by decide +kernel
theorem d_Mod_vein_71 : decode (ib f_Mod_vein) 71 = .ok (.aload_n 0, 1) := by decide +kernel
theorem d_Mod_vein_72 : decode (ib f_Mod_vein) 72 = .ok (.iload_n 3, 1) := by decide +kernel
theorem d_Mod_vein_73 : decode (ib f_Mod_vein) 73 = .ok (.iconst 0, 1) := by decide +kernel
theorem d_Mod_vein_74 : decode (ib f_Mod_vein) 74 = .ok (.bipush 7, 2) := by decide +kernel
theorem d_Mod_vein_76 : decode (ib f_Mod_vein) 76 = .ok (.invokevirtual 135, 3) := by decide +kernel
theorem d_Mod_vein_79 : decode (ib f_Mod_vein) 79 = .ok (.ifCond .eq 19, 3) := by decide +kernel
theorem d_Mod_vein_82 : decode (ib f_Mod_vein) 82 = .ok (.iload_n 2, 1) := by decide +kernel
theorem d_Mod_vein_83 : decode (ib f_Mod_vein) 83 = .ok (.iload_n 3, 1) := by decide +kernel
theorem d_Mod_vein_84 : decode (ib f_Mod_vein) 84 = .ok (.if_icmp .eq 14, 3) := by decide +kernel
theorem d_Mod_vein_87 : decode (ib f_Mod_vein) 87 = .ok (.aload_n 0, 1) := by decide +kernel
theorem d_Mod_vein_88 : decode (ib f_Mod_vein) 88 = .ok (.getfield 89, 3) := by decide +kernel
theorem d_Mod_vein_91 : decode (ib f_Mod_vein) 91 = .ok (.iload_n 1, 1) := by decide +kernel
theorem d_Mod_vein_92 : decode (ib f_Mod_vein) 92 = .ok (.iaload, 1) := by decide +kernel
theorem d_Mod_vein_93 : decode (ib f_Mod_vein) 93 = .ok (.bipush 9, 2) := by decide +kernel
theorem d_Mod_vein_95 : decode (ib f_Mod_vein) 95 = .ok (.if_icmp .ne 5, 3) := by decide +kernel
theorem d_Mod_vein_98 : decode (ib f_Mod_vein) 98 = .ok (.iconst (-1), 1) := by decide +kernel
theorem d_Mod_vein_99 : decode (ib f_Mod_vein) 99 = .ok (.ireturn, 1) := by decide +kernel
theorem d_Mod_vein_100 : decode (ib f_Mod_vein) 100 = .ok (.aload_n 0, 1) := by decide +kernel
theorem d_Mod_vein_101 : decode (ib f_Mod_vein) 101 = .ok (.getfield 92, 3) := by decide +kernel
theorem d_Mod_vein_104 : decode (ib f_Mod_vein) 104 = .ok (.bipush 8, 2) := by decide +kernel
theorem d_Mod_vein_106 : decode (ib f_Mod_vein) 106 = .ok (.iload_n 1, 1) := by decide +kernel
theorem d_Mod_vein_107 : decode (ib f_Mod_vein) 107 = .ok (.imul, 1) := by decide +kernel
theorem d_Mod_vein_108 : decode (ib f_Mod_vein) 108 = .ok (.iload_n 2, 1) := by decide +kernel
theorem d_Mod_vein_109 : decode (ib f_Mod_vein) 109 = .ok (.iadd, 1) := by decide +kernel
theorem d_Mod_vein_110 : decode (ib f_Mod_vein) 110 = .ok (.aload_n 0, 1) := by decide +kernel
theorem d_Mod_vein_111 : decode (ib f_Mod_vein) 111 = .ok (.getfield 92, 3) := by decide +kernel
theorem d_Mod_vein_114 : decode (ib f_Mod_vein) 114 = .ok (.bipush 8, 2) := by decide +kernel
theorem d_Mod_vein_116 : decode (ib f_Mod_vein) 116 = .ok (.iload_n 1, 1) := by decide +kernel
theorem d_Mod_vein_117 : decode (ib f_Mod_vein) 117 = .ok (.imul, 1) := by decide +kernel
theorem d_Mod_vein_118 : decode (ib f_Mod_vein) 118 = .ok (.iload_n 2, 1) := by decide +kernel
theorem d_Mod_vein_119 : decode (ib f_Mod_vein) 119 = .ok (.iadd, 1) := by decide +kernel
theorem d_Mod_vein_120 : decode (ib f_Mod_vein) 120 = .ok (.iaload, 1) := by decide +kernel
theorem d_Mod_vein_121 : decode (ib f_Mod_vein) 121 = .ok (.iconst 1, 1) := by decide +kernel
theorem d_Mod_vein_122 : decode (ib f_Mod_vein) 122 = .ok (.iload_n 3, 1) := by decide +kernel
theorem d_Mod_vein_123 : decode (ib f_Mod_vein) 123 = .ok (.ishl, 1) := by decide +kernel
theorem d_Mod_vein_124 : decode (ib f_Mod_vein) 124 = .ok (.ior, 1) := by decide +kernel
theorem d_Mod_vein_125 : decode (ib f_Mod_vein) 125 = .ok (.iastore, 1) := by decide +kernel
theorem d_Mod_vein_126 : decode (ib f_Mod_vein) 126 = .ok (.aload_n 0, 1) := by decide +kernel
theorem d_Mod_vein_127 : decode (ib f_Mod_vein) 127 = .ok (.getfield 92, 3) := by decide +kernel
theorem d_Mod_vein_130 : decode (ib f_Mod_vein) 130 = .ok (.bipush 8, 2) := by decide +kernel
theorem d_Mod_vein_132 : decode (ib f_Mod_vein) 132 = .ok (.iload_n 1, 1) := by decide +kernel
theorem d_Mod_vein_133 : decode (ib f_Mod_vein) 133 = .ok (.imul, 1) := by decide +kernel
theorem d_Mod_vein_134 : decode (ib f_Mod_vein) 134 = .ok (.iload_n 3, 1) := by decide +kernel
theorem d_Mod_vein_135 : decode (ib f_Mod_vein) 135 = .ok (.iadd, 1) := by decide +kernel
theorem d_Mod_vein_136 : decode (ib f_Mod_vein) 136 = .ok (.aload_n 0, 1) := by decide +kernel
theorem d_Mod_vein_137 : decode (ib f_Mod_vein) 137 = .ok (.getfield 92, 3) := by decide +kernel
theorem d_Mod_vein_140 : decode (ib f_Mod_vein) 140 = .ok (.bipush 8, 2) := by decide +kernel
theorem d_Mod_vein_142 : decode (ib f_Mod_vein) 142 = .ok (.iload_n 1, 1) := by decide +kernel
theorem d_Mod_vein_143 : decode (ib f_Mod_vein) 143 = .ok (.imul, 1) := by decide +kernel
theorem d_Mod_vein_144 : decode (ib f_Mod_vein) 144 = .ok (.iload_n 3, 1) := by decide +kernel
theorem d_Mod_vein_145 : decode (ib f_Mod_vein) 145 = .ok (.iadd, 1) := by decide +kernel
theorem d_Mod_vein_146 : decode (ib f_Mod_vein) 146 = .ok (.iaload, 1) := by decide +kernel
theorem d_Mod_vein_147 : decode (ib f_Mod_vein) 147 = .ok (.iconst 1, 1) := by decide +kernel
theorem d_Mod_vein_148 : decode (ib f_Mod_vein) 148 = .ok (.iload_n 2, 1) := by decide +kernel
theorem d_Mod_vein_149 : decode (ib f_Mod_vein) 149 = .ok (.ishl, 1) := by decide +kernel
theorem d_Mod_vein_150 : decode (ib f_Mod_vein) 150 = .ok (.ior, 1) := by decide +kernel
theorem d_Mod_vein_151 : decode (ib f_Mod_vein) 151 = .ok (.iastore, 1) := by decide +kernel
theorem d_Mod_vein_152 : decode (ib f_Mod_vein) 152 = .ok (.aload_n 0, 1) := by decide +kernel
theorem d_Mod_vein_153 : decode (ib f_Mod_vein) 153 = .ok (.getfield 89, 3) := by decide +kernel
theorem d_Mod_vein_156 : decode (ib f_Mod_vein) 156 = .ok (.iload_n 1, 1) := by decide +kernel
theorem d_Mod_vein_157 : decode (ib f_Mod_vein) 157 = .ok (.aload_n 0, 1) := by decide +kernel
theorem d_Mod_vein_158 : decode (ib f_Mod_vein) 158 = .ok (.getfield 89, 3) := by decide +kernel
theorem d_Mod_vein_161 : decode (ib f_Mod_vein) 161 = .ok (.iload_n 1, 1) := by decide +kernel
theorem d_Mod_vein_162 : decode (ib f_Mod_vein) 162 = .ok (.iaload, 1) := by decide +kernel
theorem d_Mod_vein_163 : decode (ib f_Mod_vein) 163 = .ok (.iconst 1, 1) := by decide +kernel
theorem d_Mod_vein_164 : decode (ib f_Mod_vein) 164 = .ok (.iadd, 1) := by decide +kernel
theorem d_Mod_vein_165 : decode (ib f_Mod_vein) 165 = .ok (.iastore, 1) := by decide +kernel
theorem d_Mod_vein_166 : decode (ib f_Mod_vein) 166 = .ok (.aload_n 0, 1) := by decide +kernel
theorem d_Mod_vein_167 : decode (ib f_Mod_vein) 167 = .ok (.getfield 89, 3) := by decide +kernel
theorem d_Mod_vein_170 : decode (ib f_Mod_vein) 170 = .ok (.iload_n 1, 1) := by decide +kernel
theorem d_Mod_vein_171 : decode (ib f_Mod_vein) 171 = .ok (.iaload, 1) := by decide +kernel
theorem d_Mod_vein_172 : decode (ib f_Mod_vein) 172 = .ok (.ireturn, 1) := by decide +kernel
theorem d_Mod_isAlike_0 : decode (ib f_Mod_isAlike) 0 = .ok (.iconst 0, 1) := by decide +kernel
theorem d_Mod_isAlike_1 : decode (ib f_Mod_isAlike) 1 = .ok (.istore_n 1, 1) := by decide +kernel
theorem d_Mod_isAlike_2 : decode (ib f_Mod_isAlike) 2 = .ok (.iload_n 1, 1) := by decide +kernel
theorem d_Mod_isAlike_3 : decode (ib f_Mod_isAlike) 3 = .ok (.bipush 8, 2) := by decide +kernel
theorem d_Mod_isAlike_5 : decode (ib f_Mod_isAlike) 5 = .ok (.if_icmp .ge 62, 3) := by decide +kernel
theorem d_Mod_isAlike_8 : decode (ib f_Mod_isAlike) 8 = .ok (.iconst 0, 1) := by decide +kernel
theorem d_Mod_isAlike_9 : decode (ib f_Mod_isAlike) 9 = .ok (.istore_n 2, 1) := by decide +kernel
theorem d_Mod_isAlike_10 : decode (ib f_Mod_isAlike) 10 = .ok (.iload_n 2, 1) := by decide +kernel
theorem d_Mod_isAlike_11 : decode (ib f_Mod_isAlike) 11 = .ok (.iload_n 1, 1) := by decide +kernel
theorem d_Mod_isAlike_12 : decode (ib f_Mod_isAlike) 12 = .ok (.if_icmp .ge 49, 3) := by decide +kernel
theorem d_Mod_isAlike_15 : decode (ib f_Mod_isAlike) 15 = .ok (.aload_n 0, 1) := by decide +kernel
theorem d_Mod_isAlike_16 : decode (ib f_Mod_isAlike) 16 = .ok (.aload_n 0, 1) := by decide +kernel
theorem d_Mod_isAlike_17 : decode (ib f_Mod_isAlike) 17 = .ok (.getfield 92, 3) := by decide +kernel
theorem d_Mod_isAlike_20 : decode (ib f_Mod_isAlike) 20 = .ok (.iload_n 1, 1) := by decide +kernel
theorem d_Mod_isAlike_21 : decode (ib f_Mod_isAlike) 21 = .ok (.iaload, 1) := by decide +kernel
theorem d_Mod_isAlike_22 : decode (ib f_Mod_isAlike) 22 = .ok (.iload_n 2, 1) := by decide +kernel
theorem d_Mod_isAlike_23 : decode (ib f_Mod_isAlike) 23 = .ok (.invokevirtual 422, 3) := by decide +kernel
theorem d_Mod_isAlike_26 : decode (ib f_Mod_isAlike) 26 = .ok (.aload_n 0, 1) := by decide +kernel
theorem d_Mod_isAlike_27 : decode (ib f_Mod_isAlike) 27 = .ok (.aload_n 0, 1) := by decide +kernel
theorem d_Mod_isAlike_28 : decode (ib f_Mod_isAlike) 28 = .ok (.getfield 92, 3) := by decide +kernel
theorem d_Mod_isAlike_31 : decode (ib f_Mod_isAlike) 31 = .ok (.bipush 8, 2) := by decide +kernel
theorem d_Mod_isAlike_33 : decode (ib f_Mod_isAlike) 33 = .ok (.aload_n 0, 1) := by decide +kernel
theorem d_Mod_isAlike_34 : decode (ib f_Mod_isAlike) 34 = .ok (.getfield 95, 3) := by decide +kernel
theorem d_Mod_isAlike_37 : decode (ib f_Mod_isAlike) 37 = .ok (.iload_n 1, 1) := by decide +kernel
theorem d_Mod_isAlike_38 : decode (ib f_Mod_isAlike) 38 = .ok (.iaload, 1) := by decide +kernel
theorem d_Mod_isAlike_39 : decode (ib f_Mod_isAlike) 39 = .ok (.iadd, 1) := by decide +kernel
theorem d_Mod_isAlike_40 : decode (ib f_Mod_isAlike) 40 = .ok (.iaload, 1) := by decide +kernel
theorem d_Mod_isAlike_41 : decode (ib f_Mod_isAlike) 41 = .ok (.aload_n 0, 1) := by decide +kernel
theorem d_Mod_isAlike_42 : decode (ib f_Mod_isAlike) 42 = .ok (.getfield 95, 3) := by decide +kernel
theorem d_Mod_isAlike_45 : decode (ib f_Mod_isAlike) 45 = .ok (.iload_n 2, 1) := by decide +kernel
theorem d_Mod_isAlike_46 : decode (ib f_Mod_isAlike) 46 = .ok (.iaload, 1) := by decide +kernel
theorem d_Mod_isAlike_47 : decode (ib f_Mod_isAlike) 47 = .ok (.invokevirtual 422, 3) := by decide +kernel
theorem d_Mod_isAlike_50 : decode (ib f_Mod_isAlike) 50 = .ok (.if_icmp .eq 5, 3) := by decide +kernel
theorem d_Mod_isAlike_53 : decode (ib f_Mod_isAlike) 53 = .ok (.iconst 0, 1) := by decide +kernel
theorem d_Mod_isAlike_54 : decode (ib f_Mod_isAlike) 54 = .ok (.ireturn, 1) := by decide +kernel
theorem d_Mod_isAlike_55 : decode (ib f_Mod_isAlike) 55 = .ok (.iinc 2 1, 3) := by decide +kernel
theorem d_Mod_isAlike_58 : decode (ib f_Mod_isAlike) 58 = .ok (.goto (-48), 3) := by decide +kernel
theorem d_Mod_isAlike_61 : decode (ib f_Mod_isAlike) 61 = .ok (.iinc 1 1, 3) := by decide +kernel
theorem d_Mod_isAlike_64 : decode (ib f_Mod_isAlike) 64 = .ok (.goto (-62), 3) := by decide +kernel
theorem d_Mod_isAlike_67 : decode (ib f_Mod_isAlike) 67 = .ok (.iconst 1, 1) := by decide +kernel
theorem d_Mod_isAlike_68 : decode (ib f_Mod_isAlike) 68 = .ok (.ireturn, 1) := by decide +kernel
theorem d_Mod_goesToNextNumbering_0 : decode (ib f_Mod_goesToNextNumbering) 0 = .ok (.bipush 6, 2) := by decide +kernel
theorem d_Mod_goesToNextNumbering_2 : decode (ib f_Mod_goesToNextNumbering) 2 = .ok (.istore_n 1, 1) := by decide +kernel
theorem d_Mod_goesToNextNumbering_3 : decode (ib f_Mod_goesToNextNumbering) 3 = .ok (.iload_n 1, 1) := by decide +kernel
theorem d_Mod_goesToNextNumbering_4 : decode (ib f_Mod_goesToNextNumbering) 4 = .ok (.ifCond .lt 27, 3) := by decide +kernel
theorem d_Mod_goesToNextNumbering_7 : decode (ib f_Mod_goesToNextNumbering) 7 = .ok (.aload_n 0, 1) := by decide +kernel
theorem d_Mod_goesToNextNumbering_8 : decode (ib f_Mod_goesToNextNumbering) 8 = .ok (.getfield 95, 3) := by decide +kernel
theorem d_Mod_goesToNextNumbering_11 : decode (ib f_Mod_goesToNextNumbering) 11 = .ok (.iload_n 1, 1) := by decide +kernel
theorem d_Mod_goesToNextNumbering_12 : decode (ib f_Mod_goesToNextNumbering) 12 = .ok (.iaload, 1) := by decide +kernel
theorem d_Mod_goesToNextNumbering_13 : decode (ib f_Mod_goesToNextNumbering) 13 = .ok (.aload_n 0, 1) := by decide +kernel
theorem d_Mod_goesToNextNumbering_14 : decode (ib f_Mod_goesToNextNumbering) 14 = .ok (.getfield 95, 3) := by decide +kernel
theorem d_Mod_goesToNextNumbering_17 : decode (ib f_Mod_goesToNextNumbering) 17 = .ok (.iload_n 1, 1) := by decide +kernel
theorem d_Mod_goesToNextNumbering_18 : decode (ib f_Mod_goesToNextNumbering) 18 = .ok (.iconst 1, 1) := by decide +kernel
theorem d_Mod_goesToNextNumbering_19 : decode (ib f_Mod_goesToNextNumbering) 19 = .ok (.iadd, 1) := by decide +kernel
theorem d_Mod_goesToNextNumbering_20 : decode (ib f_Mod_goesToNextNumbering) 20 = .ok (.iaload, 1) := by decide +kernel
theorem d_Mod_goesToNextNumbering_21 : decode (ib f_Mod_goesToNextNumbering) 21 = .ok (.if_icmp .le 10, 3) := by decide +kernel
theorem d_Mod_goesToNextNumbering_24 : decode (ib f_Mod_goesToNextNumbering) 24 = .ok (.iload_n 1, 1) := by decide +kernel
theorem d_Mod_goesToNextNumbering_25 : decode (ib f_Mod_goesToNextNumbering) 25 = .ok (.iconst 1, 1) := by decide +kernel
theorem d_Mod_goesToNextNumbering_26 : decode (ib f_Mod_goesToNextNumbering) 26 = .ok (.isub, 1) := by decide +kernel
theorem d_Mod_goesToNextNumbering_27 : decode (ib f_Mod_goesToNextNumbering) 27 = .ok (.istore_n 1, 1) := by decide +kernel
theorem d_Mod_goesToNextNumbering_28 : decode (ib f_Mod_goesToNextNumbering) 28 = .ok (.goto (-25), 3) := by decide +kernel
theorem d_Mod_goesToNextNumbering_31 : decode (ib f_Mod_goesToNextNumbering) 31 = .ok (.iload_n 1, 1) := by decide +kernel
theorem d_Mod_goesToNextNumbering_32 : decode (ib f_Mod_goesToNextNumbering) 32 = .ok (.ifCond .ge 5, 3) := by decide +kernel
theorem d_Mod_goesToNextNumbering_35 : decode (ib f_Mod_goesToNextNumbering) 35 = .ok (.iconst 0, 1) := by decide +kernel
theorem d_Mod_goesToNextNumbering_36 : decode (ib f_Mod_goesToNextNumbering) 36 = .ok (.ireturn, 1) := by decide +kernel
theorem d_Mod_goesToNextNumbering_37 : decode (ib f_Mod_goesToNextNumbering) 37 = .ok (.bipush 7, 2) := by decide +kernel
theorem d_Mod_goesToNextNumbering_39 : decode (ib f_Mod_goesToNextNumbering) 39 = .ok (.istore_n 2, 1) := by decide +kernel
theorem d_Mod_goesToNextNumbering_40 : decode (ib f_Mod_goesToNextNumbering) 40 = .ok (.aload_n 0, 1) := by decide +kernel
theorem d_Mod_goesToNextNumbering_41 : decode (ib f_Mod_goesToNextNumbering) 41 = .ok (.getfield 95, 3) := by decide +kernel
theorem d_Mod_goesToNextNumbering_44 : decode (ib f_Mod_goesToNextNumbering) 44 = .ok (.iload_n 2, 1) := by decide +kernel
theorem d_Mod_goesToNextNumbering_45 : decode (ib f_Mod_goesToNextNumbering) 45 = .ok (.iaload, 1) := by decide +kernel
theorem d_Mod_goesToNextNumbering_46 : decode (ib f_Mod_goesToNextNumbering) 46 = .ok (.aload_n 0, 1) := by decide +kernel
theorem d_Mod_goesToNextNumbering_47 : decode (ib f_Mod_goesToNextNumbering) 47 = .ok (.getfield 95, 3) := by decide +kernel
theorem d_Mod_goesToNextNumbering_50 : decode (ib f_Mod_goesToNextNumbering) 50 = .ok (.iload_n 1, 1) := by decide +kernel
theorem d_Mod_goesToNextNumbering_51 : decode (ib f_Mod_goesToNextNumbering) 51 = .ok (.iaload, 1) := by decide +kernel
theorem d_Mod_goesToNextNumbering_52 : decode (ib f_Mod_goesToNextNumbering) 52 = .ok (.if_icmp .ge 10, 3) := by decide +kernel
theorem d_Mod_goesToNextNumbering_55 : decode (ib f_Mod_goesToNextNumbering) 55 = .ok (.iload_n 2, 1) := by decide +kernel
theorem d_Mod_goesToNextNumbering_56 : decode (ib f_Mod_goesToNextNumbering) 56 = .ok (.iconst 1, 1) := by decide +kernel
theorem d_Mod_goesToNextNumbering_57 : decode (ib f_Mod_goesToNextNumbering) 57 = .ok (.isub, 1) := by decide +kernel
theorem d_Mod_goesToNextNumbering_58 : decode (ib f_Mod_goesToNextNumbering) 58 = .ok (.istore_n 2, 1) := by decide +kernel
theorem d_Mod_goesToNextNumbering_59 : decode (ib f_Mod_goesToNextNumbering) 59 = .ok (.goto (-19), 3) := by decide +kernel
theorem d_Mod_goesToNextNumbering_62 : decode (ib f_Mod_goesToNextNumbering) 62 = .ok (.aload_n 0, 1) := by decide +kernel
theorem d_Mod_goesToNextNumbering_63 : decode (ib f_Mod_goesToNextNumbering) 63 = .ok (.getfield 95, 3) := by decide +kernel
theorem d_Mod_goesToNextNumbering_66 : decode (ib f_Mod_goesToNextNumbering) 66 = .ok (.iload_n 1, 1) := by decide +kernel
theorem d_Mod_goesToNextNumbering_67 : decode (ib f_Mod_goesToNextNumbering) 67 = .ok (.iaload, 1) := by decide +kernel
theorem d_Mod_goesToNextNumbering_68 : decode (ib f_Mod_goesToNextNumbering) 68 = .ok (.istore_n 3, 1) := by decide +kernel
theorem d_Mod_goesToNextNumbering_69 : decode (ib f_Mod_goesToNextNumbering) 69 = .ok (.aload_n 0, 1) := by decide +kernel
theorem d_Mod_goesToNextNumbering_70 : decode (ib f_Mod_goesToNextNumbering) 70 = .ok (.getfield 95, 3) := by decide +kernel
theorem d_Mod_goesToNextNumbering_73 : decode (ib f_Mod_goesToNextNumbering) 73 = .ok (.iload_n 1, 1) := by decide +kernel
theorem d_Mod_goesToNextNumbering_74 : decode (ib f_Mod_goesToNextNumbering) 74 = .ok (.aload_n 0, 1) := by decide +kernel
theorem d_Mod_goesToNextNumbering_75 : decode (ib f_Mod_goesToNextNumbering) 75 = .ok (.getfield 95, 3) := by decide +kernel
theorem d_Mod_goesToNextNumbering_78 : decode (ib f_Mod_goesToNextNumbering) 78 = .ok (.iload_n 2, 1) := by decide +kernel
theorem d_Mod_goesToNextNumbering_79 : decode (ib f_Mod_goesToNextNumbering) 79 = .ok (.iaload, 1) := by decide +kernel
theorem d_Mod_goesToNextNumbering_80 : decode (ib f_Mod_goesToNextNumbering) 80 = .ok (.iastore, 1) := by decide +kernel
theorem d_Mod_goesToNextNumbering_81 : decode (ib f_Mod_goesToNextNumbering) 81 = .ok (.aload_n 0, 1) := by decide +kernel
theorem d_Mod_goesToNextNumbering_82 : decode (ib f_Mod_goesToNextNumbering) 82 = .ok (.getfield 95, 3) := by decide +kernel
theorem d_Mod_goesToNextNumbering_85 : decode (ib f_Mod_goesToNextNumbering) 85 = .ok (.iload_n 2, 1) := by decide +kernel
theorem d_Mod_goesToNextNumbering_86 : decode (ib f_Mod_goesToNextNumbering) 86 = .ok (.iload_n 3, 1) := by decide +kernel
theorem d_Mod_goesToNextNumbering_87 : decode (ib f_Mod_goesToNextNumbering) 87 = .ok (.iastore, 1) := by decide +kernel
theorem d_Mod_goesToNextNumbering_88 : decode (ib f_Mod_goesToNextNumbering) 88 = .ok (.bipush 7, 2) := by decide +kernel
theorem d_Mod_goesToNextNumbering_90 : decode (ib f_Mod_goesToNextNumbering) 90 = .ok (.istore 4, 2) := by decide +kernel
theorem d_Mod_goesToNextNumbering_92 : decode (ib f_Mod_goesToNextNumbering) 92 = .ok (.iload_n 1, 1) := by decide +kernel
theorem d_Mod_goesToNextNumbering_93 : decode (ib f_Mod_goesToNextNumbering) 93 = .ok (.iconst 1, 1) := by decide +kernel
theorem d_Mod_goesToNextNumbering_94 : decode (ib f_Mod_goesToNextNumbering) 94 = .ok (.iadd, 1) := by decide +kernel
theorem d_Mod_goesToNextNumbering_95 : decode (ib f_Mod_goesToNextNumbering) 95 = .ok (.istore 5, 2) := by decide +kernel
theorem d_Mod_goesToNextNumbering_97 : decode (ib f_Mod_goesToNextNumbering) 97 = .ok (.iload 5, 2) := by decide +kernel
theorem d_Mod_goesToNextNumbering_99 : decode (ib f_Mod_goesToNextNumbering) 99 = .ok (.iload 4, 2) := by decide +kernel
theorem d_Mod_goesToNextNumbering_101 : decode (ib f_Mod_goesToNextNumbering) 101 = .ok (.if_icmp .ge 45, 3) := by decide +kernel
theorem d_Mod_goesToNextNumbering_104 : decode (ib f_Mod_goesToNextNumbering) 104 = .ok (.aload_n 0, 1) := by decide +kernel
theorem d_Mod_goesToNextNumbering_105 : decode (ib f_Mod_goesToNextNumbering) 105 = .ok (.getfield 95, 3) := by decide +kernel
theorem d_Mod_goesToNextNumbering_108 : decode (ib f_Mod_goesToNextNumbering) 108 = .ok (.iload 5, 2) := by decide +kernel
theorem d_Mod_goesToNextNumbering_110 : decode (ib f_Mod_goesToNextNumbering) 110 = .ok (.iaload, 1) := by decide +kernel
theorem d_Mod_goesToNextNumbering_111 : decode (ib f_Mod_goesToNextNumbering) 111 = .ok (.istore_n 3, 1) := by decide +kernel
theorem d_Mod_goesToNextNumbering_112 : decode (ib f_Mod_goesToNextNumbering) 112 = .ok (.aload_n 0, 1) := by decide +kernel
theorem d_Mod_goesToNextNumbering_113 : decode (ib f_Mod_goesToNextNumbering) 113 = .ok (.getfield 95, 3) := by decide +kernel
theorem d_Mod_goesToNextNumbering_116 : decode (ib f_Mod_goesToNextNumbering) 116 = .ok (.iload 5, 2) := by decide +kernel
theorem d_Mod_goesToNextNumbering_118 : decode (ib f_Mod_goesToNextNumbering) 118 = .ok (.aload_n 0, 1) := by decide +kernel
theorem d_Mod_goesToNextNumbering_119 : decode (ib f_Mod_goesToNextNumbering) 119 = .ok (.getfield 95, 3) := by decide +kernel
theorem d_Mod_goesToNextNumbering_122 : decode (ib f_Mod_goesToNextNumbering) 122 = .ok (.iload 4, 2) := by decide +kernel
theorem d_Mod_goesToNextNumbering_124 : decode (ib f_Mod_goesToNextNumbering) 124 = .ok (.iaload, 1) := by decide +kernel
theorem d_Mod_goesToNextNumbering_125 : decode (ib f_Mod_goesToNextNumbering) 125 = .ok (.iastore, 1) := by decide +kernel
theorem d_Mod_goesToNextNumbering_126 : decode (ib f_Mod_goesToNextNumbering) 126 = .ok (.aload_n 0, 1) := by decide +kernel
theorem d_Mod_goesToNextNumbering_127 : decode (ib f_Mod_goesToNextNumbering) 127 = .ok (.getfield 95, 3) := by decide +kernel
theorem d_Mod_goesToNextNumbering_130 : decode (ib f_Mod_goesToNextNumbering) 130 = .ok (.iload 4, 2) := by decide +kernel
theorem d_Mod_goesToNextNumbering_132 : decode (ib f_Mod_goesToNextNumbering) 132 = .ok (.iload_n 3, 1) := by decide +kernel
theorem d_Mod_goesToNextNumbering_133 : decode (ib f_Mod_goesToNextNumbering) 133 = .ok (.iastore, 1) := by decide +kernel
theorem d_Mod_goesToNextNumbering_134 : decode (ib f_Mod_goesToNextNumbering) 134 = .ok (.iload 4, 2) := by decide +kernel
theorem d_Mod_goesToNextNumbering_136 : decode (ib f_Mod_goesToNextNumbering) 136 = .ok (.iconst 1, 1) := by decide +kernel
theorem d_Mod_goesToNextNumbering_137 : decode (ib f_Mod_goesToNextNumbering) 137 = .ok (.isub, 1) := by decide +kernel
theorem d_Mod_goesToNextNumbering_138 : decode (ib f_Mod_goesToNextNumbering) 138 = .ok (.istore 4, 2) := by decide +kernel
theorem d_Mod_goesToNextNumbering_140 : decode (ib f_Mod_goesToNextNumbering) 140 = .ok (.iinc 5 1, 3) := by decide +kernel
theorem d_Mod_goesToNextNumbering_143 : decode (ib f_Mod_goesToNextNumbering) 143 = .ok (.goto (-46), 3) := by decide +kernel
theorem d_Mod_goesToNextNumbering_146 : decode (ib f_Mod_goesToNextNumbering) 146 = .ok (.iconst 1, 1) := by decide +kernel
theorem d_Mod_goesToNextNumbering_147 : decode (ib f_Mod_goesToNextNumbering) 147 = .ok (.ireturn, 1) := by decide +kernel
theorem d_Mod_wings_0 : decode (ib f_Mod_wings) 0 = .ok (.aload_n 0, 1) := by decide +kernel
theorem d_Mod_wings_1 : decode (ib f_Mod_wings) 1 = .ok (.iconst 0, 1) := by decide +kernel
theorem d_Mod_wings_2 : decode (ib f_Mod_wings) 2 = .ok (.putfield 107, 3) := by decide +kernel
theorem d_Mod_wings_5 : decode (ib f_Mod_wings) 5 = .ok (.aload_n 0, 1) := by decide +kernel
theorem d_Mod_wings_6 : decode (ib f_Mod_wings) 6 = .ok (.iload_n 1, 1) := by decide +kernel
theorem d_Mod_wings_7 : decode (ib f_Mod_wings) 7 = .ok (.iconst 0, 1) := by decide +kernel
theorem d_Mod_wings_8 : decode (ib f_Mod_wings) 8 = .ok (.iconst 1, 1) := by decide +kernel
theorem d_Mod_wings_9 : decode (ib f_Mod_wings) 9 = .ok (.invokevirtual 135, 3) := by decide +kernel
theorem d_Mod_wings_12 : decode (ib f_Mod_wings) 12 = .ok (.ifCond .ne 5, 3) := by decide +kernel
theorem d_Mod_wings_15 : decode (ib f_Mod_wings) 15 = .ok (.iconst (-1), 1) := by decide +kernel
theorem d_Mod_wings_16 : decode (ib f_Mod_wings) 16 = .ok (.ireturn, 1) := by decide +kernel
theorem d_Mod_wings_17 : decode (ib f_Mod_wings) 17 = .ok (.iconst 0, 1) := by decide +kernel
theorem d_Mod_wings_18 : decode (ib f_Mod_wings) 18 = .ok (.istore_n 2, 1) := by decide +kernel
theorem d_Mod_wings_19 : decode (ib f_Mod_wings) 19 = .ok (.iload_n 2, 1) := by decide +kernel
theorem d_Mod_wings_20 : decode (ib f_Mod_wings) 20 = .ok (.bipush 8, 2) := by decide +kernel
theorem d_Mod_wings_22 : decode (ib f_Mod_wings) 22 = .ok (.if_icmp .ge 16, 3) := by decide +kernel
theorem d_Mod_wings_25 : decode (ib f_Mod_wings) 25 = .ok (.aload_n 0, 1) := by decide +kernel
theorem d_Mod_wings_26 : decode (ib f_Mod_wings) 26 = .ok (.getfield 95, 3) := by decide +kernel
theorem d_Mod_wings_29 : decode (ib f_Mod_wings) 29 = .ok (.iload_n 2, 1) := by decide +kernel
theorem d_Mod_wings_30 : decode (ib f_Mod_wings) 30 = .ok (.iload_n 2, 1) := by decide +kernel
theorem d_Mod_wings_31 : decode (ib f_Mod_wings) 31 = .ok (.iastore, 1) := by decide +kernel
theorem d_Mod_wings_32 : decode (ib f_Mod_wings) 32 = .ok (.iinc 2 1, 3) := by decide +kernel
theorem d_Mod_wings_35 : decode (ib f_Mod_wings) 35 = .ok (.goto (-16), 3) := by decide +kernel
theorem d_Mod_wings_38 : decode (ib f_Mod_wings) 38 = .ok (.iconst 0, 1) := by decide +kernel
theorem d_Mod_wings_39 : decode (ib f_Mod_wings) 39 = .ok (.istore_n 2, 1) := by decide +kernel
theorem d_Mod_wings_40 : decode (ib f_Mod_wings) 40 = .ok (.iconst 1, 1) := by decide +kernel
theorem d_Mod_wings_41 : decode (ib f_Mod_wings) 41 = .ok (.istore_n 3, 1) := by decide +kernel
theorem d_Mod_wings_42 : decode (ib f_Mod_wings) 42 = .ok (.iload_n 3, 1) := by decide +kernel
theorem d_Mod_wings_43 : decode (ib f_Mod_wings) 43 = .ok (.ifCond .eq 22, 3) := by decide +kernel
theorem d_Mod_wings_46 : decode (ib f_Mod_wings) 46 = .ok (.aload_n 0, 1) := by decide +kernel
theorem d_Mod_wings_47 : decode (ib f_Mod_wings) 47 = .ok (.invokevirtual 447, 3) := by decide +kernel
theorem d_Mod_wings_50 : decode (ib f_Mod_wings) 50 = .ok (.ifCond .eq 7, 3) := by decide +kernel
theorem d_Mod_wings_53 : decode (ib f_Mod_wings) 53 = .ok (.iload_n 2, 1) := by decide +kernel
theorem d_Mod_wings_54 : decode (ib f_Mod_wings) 54 = .ok (.iconst 1, 1) := by decide +kernel
theorem d_Mod_wings_55 : decode (ib f_Mod_wings) 55 = .ok (.iadd, 1) := by decide +kernel
theorem d_Mod_wings_56 : decode (ib f_Mod_wings) 56 = .ok (.istore_n 2, 1) := by decide +kernel
theorem d_Mod_wings_57 : decode (ib f_Mod_wings) 57 = .ok (.aload_n 0, 1) := by decide +kernel
theorem d_Mod_wings_58 : decode (ib f_Mod_wings) 58 = .ok (.invokevirtual 450, 3) := by decide +kernel
theorem d_Mod_wings_61 : decode (ib f_Mod_wings) 61 = .ok (.istore_n 3, 1) := by decide +kernel
theorem d_Mod_wings_62 : decode (ib f_Mod_wings) 62 = .ok (.goto (-20), 3) := by decide +kernel
theorem d_Mod_wings_65 : decode (ib f_Mod_wings) 65 = .ok (.iload_n 1, 1) := by decide +kernel
theorem d_Mod_wings_66 : decode (ib f_Mod_wings) 66 = .ok (.iconst 1, 1) := by decide +kernel
theorem d_Mod_wings_67 : decode (ib f_Mod_wings) 67 = .ok (.if_icmp .ne 7, 3) := by decide +kernel
theorem d_Mod_wings_70 : decode (ib f_Mod_wings) 70 = .ok (.iload_n 2, 1) := by decide +kernel
theorem d_Mod_wings_71 : decode (ib f_Mod_wings) 71 = .ok (.goto 12, 3) := by decide +kernel
theorem d_Mod_wings_74 : decode (ib f_Mod_wings) 74 = .ok (.iload_n 2, 1) := by decide +kernel
theorem d_Mod_wings_75 : decode (ib f_Mod_wings) 75 = .ok (.ifCond .le 7, 3) := by decide +kernel
theorem d_Mod_wings_78 : decode (ib f_Mod_wings) 78 = .ok (.iconst 1, 1) := by decide +kernel
theorem d_Mod_wings_79 : decode (ib f_Mod_wings) 79 = .ok (.goto 4, 3) := by decide +kernel
theorem d_Mod_wings_82 : decode (ib f_Mod_wings) 82 = .ok (.iconst 0, 1) := by decide +kernel
theorem d_Mod_wings_83 : decode (ib f_Mod_wings) 83 = .ok (.ireturn, 1) := by decide +kernel
theorem d_Mod_isLeap_0 : decode (ib f_Mod_isLeap) 0 = .ok (.iload_n 1, 1) := by decide +kernel
theorem d_Mod_isLeap_1 : decode (ib f_Mod_isLeap) 1 = .ok (.iconst 4, 1) := by decide +kernel
theorem d_Mod_isLeap_2 : decode (ib f_Mod_isLeap) 2 = .ok (.irem, 1) := by decide +kernel
theorem d_Mod_isLeap_3 : decode (ib f_Mod_isLeap) 3 = .ok (.ifCond .ne 22, 3) := by decide +kernel
theorem d_Mod_isLeap_6 : decode (ib f_Mod_isLeap) 6 = .ok (.iload_n 1, 1) := by decide +kernel
theorem d_Mod_isLeap_7 : decode (ib f_Mod_isLeap) 7 = .ok (.bipush 100, 2) := by decide +kernel
theorem d_Mod_isLeap_9 : decode (ib f_Mod_isLeap) 9 = .ok (.irem, 1) := by decide +kernel
theorem d_Mod_isLeap_10 : decode (ib f_Mod_isLeap) 10 = .ok (.ifCond .ne 11, 3) := by decide +kernel
theorem d_Mod_isLeap_13 : decode (ib f_Mod_isLeap) 13 = .ok (.iload_n 1, 1) := by decide +kernel
theorem d_Mod_isLeap_14 : decode (ib f_Mod_isLeap) 14 = .ok (.sipush 400, 3) := by decide +kernel
theorem d_Mod_isLeap_17 : decode (ib f_Mod_isLeap) 17 = .ok (.irem, 1) := by decide +kernel
theorem d_Mod_isLeap_18 : decode (ib f_Mod_isLeap) 18 = .ok (.ifCond .ne 7, 3) := by decide +kernel
theorem d_Mod_isLeap_21 : decode (ib f_Mod_isLeap) 21 = .ok (.iconst 1, 1) := by decide +kernel
theorem d_Mod_isLeap_22 : decode (ib f_Mod_isLeap) 22 = .ok (.goto 4, 3) := by decide +kernel
theorem d_Mod_isLeap_25 : decode (ib f_Mod_isLeap) 25 = .ok (.iconst 0, 1) := by decide +kernel
theorem d_Mod_isLeap_26 : decode (ib f_Mod_isLeap) 26 = .ok (.ireturn, 1) := by decide +kernel
theorem d_Mod_daysIn_0 : decode (ib f_Mod_daysIn) 0 = .ok (.iload_n 1, 1) := by decide +kernel
theorem d_Mod_daysIn_1 : decode (ib f_Mod_daysIn) 1 = .ok (.iconst 2, 1) := by decide +kernel
theorem d_Mod_daysIn_2 : decode (ib f_Mod_daysIn) 2 = .ok (.if_icmp .ne 19, 3) := by decide +kernel
theorem d_Mod_daysIn_5 : decode (ib f_Mod_daysIn) 5 = .ok (.aload_n 0, 1) := by decide +kernel
theorem d_Mod_daysIn_6 : decode (ib f_Mod_daysIn) 6 = .ok (.iload_n 2, 1) := by decide +kernel
theorem d_Mod_daysIn_7 : decode (ib f_Mod_daysIn) 7 = .ok (.invokevirtual 453, 3) := by decide +kernel
theorem d_Mod_daysIn_10 : decode (ib f_Mod_daysIn) 10 = .ok (.ifCond .eq 8, 3) := by decide +kernel
theorem d_Mod_daysIn_13 : decode (ib f_Mod_daysIn) 13 = .ok (.bipush 29, 2) := by decide +kernel
theorem d_Mod_daysIn_15 : decode (ib f_Mod_daysIn) 15 = .ok (.goto 5, 3) := by decide +kernel
theorem d_Mod_daysIn_18 : decode (ib f_Mod_daysIn) 18 = .ok (.bipush 28, 2) := by decide +kernel
theorem d_Mod_daysIn_20 : decode (ib f_Mod_daysIn) 20 = .ok (.ireturn, 1) := by decide +kernel
theorem d_Mod_daysIn_21 : decode (ib f_Mod_daysIn) 21 = .ok (.iload_n 1, 1) := by decide +kernel
theorem d_Mod_daysIn_22 : decode (ib f_Mod_daysIn) 22 = .ok (.iconst 4, 1) := by decide +kernel
theorem d_Mod_daysIn_23 : decode (ib f_Mod_daysIn) 23 = .ok (.if_icmp .eq 21, 3) := by decide +kernel
theorem d_Mod_daysIn_26 : decode (ib f_Mod_daysIn) 26 = .ok (.iload_n 1, 1) := by decide +kernel
theorem d_Mod_daysIn_27 : decode (ib f_Mod_daysIn) 27 = .ok (.bipush 6, 2) := by decide +kernel
theorem d_Mod_daysIn_29 : decode (ib f_Mod_daysIn) 29 = .ok (.if_icmp .eq 15, 3) := by decide +kernel
theorem d_Mod_daysIn_32 : decode (ib f_Mod_daysIn) 32 = .ok (.iload_n 1, 1) := by decide +kernel
theorem d_Mod_daysIn_33 : decode (ib f_Mod_daysIn) 33 = .ok (.bipush 9, 2) := by decide +kernel
theorem d_Mod_daysIn_35 : decode (ib f_Mod_daysIn) 35 = .ok (.if_icmp .eq 9, 3) := by decide +kernel
theorem d_Mod_daysIn_38 : decode (ib f_Mod_daysIn) 38 = .ok (.iload_n 1, 1) := by decide +kernel
theorem d_Mod_daysIn_39 : decode (ib f_Mod_daysIn) 39 = .ok (.bipush 11, 2) := by decide +kernel
theorem d_Mod_daysIn_41 : decode (ib f_Mod_daysIn) 41 = .ok (.if_icmp .ne 8, 3) := by decide +kernel
theorem d_Mod_daysIn_44 : decode (ib f_Mod_daysIn) 44 = .ok (.bipush 30, 2) := by decide +kernel
theorem d_Mod_daysIn_46 : decode (ib f_Mod_daysIn) 46 = .ok (.goto 5, 3) := by decide +kernel
theorem d_Mod_daysIn_49 : decode (ib f_Mod_daysIn) 49 = .ok (.bipush 31, 2) := by decide +kernel
theorem d_Mod_daysIn_51 : decode (ib f_Mod_daysIn) 51 = .ok (.ireturn, 1) := by decide +kernel
theorem d_Mod_dayOf_0 : decode (ib f_Mod_dayOf) 0 = .ok (.iload_n 1, 1) := by decide +kernel
theorem d_Mod_dayOf_1 : decode (ib f_Mod_dayOf) 1 = .ok (.sipush 10000, 3) := by decide +kernel
theorem d_Mod_dayOf_4 : decode (ib f_Mod_dayOf) 4 = .ok (.idiv, 1) := by decide +kernel
theorem d_Mod_dayOf_5 : decode (ib f_Mod_dayOf) 5 = .ok (.istore_n 2, 1) := by decide +kernel
theorem d_Mod_dayOf_6 : decode (ib f_Mod_dayOf) 6 = .ok (.iload_n 1, 1) := by decide +kernel
theorem d_Mod_dayOf_7 : decode (ib f_Mod_dayOf) 7 = .ok (.bipush 100, 2) := by decide +kernel
theorem d_Mod_dayOf_9 : decode (ib f_Mod_dayOf) 9 = .ok (.idiv, 1) := by decide +kernel
theorem d_Mod_dayOf_10 : decode (ib f_Mod_dayOf) 10 = .ok (.bipush 100, 2) := by decide +kernel
theorem d_Mod_dayOf_12 : decode (ib f_Mod_dayOf) 12 = .ok (.irem, 1) := by decide +kernel
theorem d_Mod_dayOf_13 : decode (ib f_Mod_dayOf) 13 = .ok (.istore_n 3, 1) := by decide +kernel
theorem d_Mod_dayOf_14 : decode (ib f_Mod_dayOf) 14 = .ok (.iload_n 1, 1) := by decide +kernel
theorem d_Mod_dayOf_15 : decode (ib f_Mod_dayOf) 15 = .ok (.bipush 100, 2) := by decide +kernel
theorem d_Mod_dayOf_17 : decode (ib f_Mod_dayOf) 17 = .ok (.irem, 1) := by decide +kernel
theorem d_Mod_dayOf_18 : decode (ib f_Mod_dayOf) 18 = .ok (.istore 4, 2) := by decide +kernel
theorem d_Mod_dayOf_20 : decode (ib f_Mod_dayOf) 20 = .ok (.aload_n 0, 1) := by decide +kernel
theorem d_Mod_dayOf_21 : decode (ib f_Mod_dayOf) 21 = .ok (.iload_n 2, 1) := by decide +kernel
theorem d_Mod_dayOf_22 : decode (ib f_Mod_dayOf) 22 = .ok (.sipush 1700, 3) := by decide +kernel
theorem d_Mod_dayOf_25 : decode (ib f_Mod_dayOf) 25 = .ok (.sipush 2099, 3) := by decide +kernel
theorem d_Mod_dayOf_28 : decode (ib f_Mod_dayOf) 28 = .ok (.invokevirtual 135, 3) := by decide +kernel
theorem d_Mod_dayOf_31 : decode (ib f_Mod_dayOf) 31 = .ok (.ifCond .eq 30, 3) := by decide +kernel
theorem d_Mod_dayOf_34 : decode (ib f_Mod_dayOf) 34 = .ok (.aload_n 0, 1) := by decide +kernel
theorem d_Mod_dayOf_35 : decode (ib f_Mod_dayOf) 35 = .ok (.iload_n 3, 1) := by decide +kernel
theorem d_Mod_dayOf_36 : decode (ib f_Mod_dayOf) 36 = .ok (.iconst 1, 1) := by decide +kernel
theorem d_Mod_dayOf_37 : decode (ib f_Mod_dayOf) 37 = .ok (.bipush 12, 2) := by decide +kernel
theorem d_Mod_dayOf_39 : decode (ib f_Mod_dayOf) 39 = .ok (.invokevirtual 135, 3) := by decide +kernel
theorem d_Mod_dayOf_42 : decode (ib f_Mod_dayOf) 42 = .ok (.ifCond .eq 19, 3) := by decide +kernel
theorem d_Mod_dayOf_45 : decode (ib f_Mod_dayOf) 45 = .ok (.aload_n 0, 1) := by decide +kernel
theorem d_Mod_dayOf_46 : decode (ib f_Mod_dayOf) 46 = .ok (.iload 4, 2) := by decide +kernel
theorem d_Mod_dayOf_48 : decode (ib f_Mod_dayOf) 48 = .ok (.iconst 1, 1) := by decide +kernel
theorem d_Mod_dayOf_49 : decode (ib f_Mod_dayOf) 49 = .ok (.aload_n 0, 1) := by decide +kernel
theorem d_Mod_dayOf_50 : decode (ib f_Mod_dayOf) 50 = .ok (.iload_n 3, 1) := by decide +kernel
theorem d_Mod_dayOf_51 : decode (ib f_Mod_dayOf) 51 = .ok (.iload_n 2, 1) := by decide +kernel
theorem d_Mod_dayOf_52 : decode (ib f_Mod_dayOf) 52 = .ok (.invokevirtual 456, 3) := by decide +kernel
theorem d_Mod_dayOf_55 : decode (ib f_Mod_dayOf) 55 = .ok (.invokevirtual 135, 3) := by decide +kernel
theorem d_Mod_dayOf_58 : decode (ib f_Mod_dayOf) 58 = .ok (.ifCond .ne 5, 3) := by decide +kernel
theorem d_Mod_dayOf_61 : decode (ib f_Mod_dayOf) 61 = .ok (.iconst (-1), 1) := by decide +kernel
theorem d_Mod_dayOf_62 : decode (ib f_Mod_dayOf) 62 = .ok (.ireturn, 1) := by decide +kernel
theorem d_Mod_dayOf_63 : decode (ib f_Mod_dayOf) 63 = .ok (.iload 4, 2) := by decide +kernel
theorem d_Mod_dayOf_65 : decode (ib f_Mod_dayOf) 65 = .ok (.iconst 1, 1) := by decide +kernel
theorem d_Mod_dayOf_66 : decode (ib f_Mod_dayOf) 66 = .ok (.isub, 1) := by decide +kernel
theorem d_Mod_dayOf_67 : decode (ib f_Mod_dayOf) 67 = .ok (.istore 5, 2) := by decide +kernel
theorem d_Mod_dayOf_69 : decode (ib f_Mod_dayOf) 69 = .ok (.sipush 1700, 3) := by decide +kernel
theorem d_Mod_dayOf_72 : decode (ib f_Mod_dayOf) 72 = .ok (.istore 6, 2) := by decide +kernel
theorem d_Mod_dayOf_74 : decode (ib f_Mod_dayOf) 74 = .ok (.iload 6, 2) := by decide +kernel
theorem d_Mod_dayOf_76 : decode (ib f_Mod_dayOf) 76 = .ok (.iload_n 2, 1) := by decide +kernel
theorem d_Mod_dayOf_77 : decode (ib f_Mod_dayOf) 77 = .ok (.if_icmp .ge 32, 3) := by decide +kernel
theorem d_Mod_dayOf_80 : decode (ib f_Mod_dayOf) 80 = .ok (.iload 5, 2) := by decide +kernel
theorem d_Mod_dayOf_82 : decode (ib f_Mod_dayOf) 82 = .ok (.aload_n 0, 1) := by decide +kernel
theorem d_Mod_dayOf_83 : decode (ib f_Mod_dayOf) 83 = .ok (.iload 6, 2) := by decide +kernel
theorem d_Mod_dayOf_85 : decode (ib f_Mod_dayOf) 85 = .ok (.invokevirtual 453, 3) := by decide +kernel
theorem d_Mod_dayOf_88 : decode (ib f_Mod_dayOf) 88 = .ok (.ifCond .eq 9, 3) := by decide +kernel
theorem d_Mod_dayOf_91 : decode (ib f_Mod_dayOf) 91 = .ok (.sipush 366, 3) := by decide +kernel
theorem d_Mod_dayOf_94 : decode (ib f_Mod_dayOf) 94 = .ok (.goto 6, 3) := by decide +kernel
theorem d_Mod_dayOf_97 : decode (ib f_Mod_dayOf) 97 = .ok (.sipush 365, 3) := by decide +kernel
theorem d_Mod_dayOf_100 : decode (ib f_Mod_dayOf) 100 = .ok (.iadd, 1) := by decide +kernel
theorem d_Mod_dayOf_101 : decode (ib f_Mod_dayOf) 101 = .ok (.istore 5, 2) := by decide +kernel
theorem d_Mod_dayOf_103 : decode (ib f_Mod_dayOf) 103 = .ok (.iinc 6 1, 3) := by decide +kernel
theorem d_Mod_dayOf_106 : decode (ib f_Mod_dayOf) 106 = .ok (.goto (-32), 3) := by decide +kernel
theorem d_Mod_dayOf_109 : decode (ib f_Mod_dayOf) 109 = .ok (.iconst 1, 1) := by decide +kernel
theorem d_Mod_dayOf_110 : decode (ib f_Mod_dayOf) 110 = .ok (.istore 6, 2) := by decide +kernel
theorem d_Mod_dayOf_112 : decode (ib f_Mod_dayOf) 112 = .ok (.iload 6, 2) := by decide +kernel
theorem d_Mod_dayOf_114 : decode (ib f_Mod_dayOf) 114 = .ok (.iload_n 3, 1) := by decide +kernel
theorem d_Mod_dayOf_115 : decode (ib f_Mod_dayOf) 115 = .ok (.if_icmp .ge 21, 3) := by decide +kernel
theorem d_Mod_dayOf_118 : decode (ib f_Mod_dayOf) 118 = .ok (.iload 5, 2) := by decide +kernel
theorem d_Mod_dayOf_120 : decode (ib f_Mod_dayOf) 120 = .ok (.aload_n 0, 1) := by decide +kernel
theorem d_Mod_dayOf_121 : decode (ib f_Mod_dayOf) 121 = .ok (.iload 6, 2) := by decide +kernel
theorem d_Mod_dayOf_123 : decode (ib f_Mod_dayOf) 123 = .ok (.iload_n 2, 1) := by decide +kernel
theorem d_Mod_dayOf_124 : decode (ib f_Mod_dayOf) 124 = .ok (.invokevirtual 456, 3) := by decide +kernel
theorem d_Mod_dayOf_127 : decode (ib f_Mod_dayOf) 127 = .ok (.iadd, 1) := by decide +kernel
theorem d_Mod_dayOf_128 : decode (ib f_Mod_dayOf) 128 = .ok (.istore 5, 2) := by decide +kernel
theorem d_Mod_dayOf_130 : decode (ib f_Mod_dayOf) 130 = .ok (.iinc 6 1, 3) := by decide +kernel
theorem d_Mod_dayOf_133 : decode (ib f_Mod_dayOf) 133 = .ok (.goto (-21), 3) := by decide +kernel
theorem d_Mod_dayOf_136 : decode (ib f_Mod_dayOf) 136 = .ok (.iload 5, 2) := by decide +kernel
theorem d_Mod_dayOf_138 : decode (ib f_Mod_dayOf) 138 = .ok (.ireturn, 1) := by decide +kernel
theorem d_Mod_weekday_0 : decode (ib f_Mod_weekday) 0 = .ok (.aload_n 0, 1) := by decide +kernel
theorem d_Mod_weekday_1 : decode (ib f_Mod_weekday) 1 = .ok (.iconst 0, 1) := by decide +kernel
theorem d_Mod_weekday_2 : decode (ib f_Mod_weekday) 2 = .ok (.putfield 107, 3) := by decide +kernel
theorem d_Mod_weekday_5 : decode (ib f_Mod_weekday) 5 = .ok (.aload_n 0, 1) := by decide +kernel
theorem d_Mod_weekday_6 : decode (ib f_Mod_weekday) 6 = .ok (.iload_n 1, 1) := by decide +kernel
theorem d_Mod_weekday_7 : decode (ib f_Mod_weekday) 7 = .ok (.invokevirtual 459, 3) := by decide +kernel
theorem d_Mod_weekday_10 : decode (ib f_Mod_weekday) 10 = .ok (.iconst (-1), 1) := by decide +kernel
theorem d_Mod_weekday_11 : decode (ib f_Mod_weekday) 11 = .ok (.if_icmp .ne 7, 3) := by decide +kernel
theorem d_Mod_weekday_14 : decode (ib f_Mod_weekday) 14 = .ok (.iconst (-1), 1) := by decide +kernel
theorem d_Mod_weekday_15 : decode (ib f_Mod_weekday) 15 = .ok (.goto 13, 3) := by decide +kernel
theorem d_Mod_weekday_18 : decode (ib f_Mod_weekday) 18 = .ok (.aload_n 0, 1) := by decide +kernel
theorem d_Mod_weekday_19 : decode (ib f_Mod_weekday) 19 = .ok (.iload_n 1, 1) := by decide +kernel
theorem d_Mod_weekday_20 : decode (ib f_Mod_weekday) 20 = .ok (.invokevirtual 459, 3) := by decide +kernel
theorem d_Mod_weekday_23 : decode (ib f_Mod_weekday) 23 = .ok (.iconst 5, 1) := by decide +kernel
theorem d_Mod_weekday_24 : decode (ib f_Mod_weekday) 24 = .ok (.iadd, 1) := by decide +kernel
theorem d_Mod_weekday_25 : decode (ib f_Mod_weekday) 25 = .ok (.bipush 7, 2) := by decide +kernel
theorem d_Mod_weekday_27 : decode (ib f_Mod_weekday) 27 = .ok (.irem, 1) := by decide +kernel
theorem d_Mod_weekday_28 : decode (ib f_Mod_weekday) 28 = .ok (.ireturn, 1) := by decide +kernel
theorem d_Mod_between_0 : decode (ib f_Mod_between) 0 = .ok (.aload_n 0, 1) := by decide +kernel
theorem d_Mod_between_1 : decode (ib f_Mod_between) 1 = .ok (.iconst 0, 1) := by decide +kernel
theorem d_Mod_between_2 : decode (ib f_Mod_between) 2 = .ok (.putfield 107, 3) := by decide +kernel
theorem d_Mod_between_5 : decode (ib f_Mod_between) 5 = .ok (.aload_n 0, 1) := by decide +kernel
theorem d_Mod_between_6 : decode (ib f_Mod_between) 6 = .ok (.iload_n 1, 1) := by decide +kernel
theorem d_Mod_between_7 : decode (ib f_Mod_between) 7 = .ok (.invokevirtual 459, 3) := by decide +kernel
theorem d_Mod_between_10 : decode (ib f_Mod_between) 10 = .ok (.iconst (-1), 1) := by decide +kernel
theorem d_Mod_between_11 : decode (ib f_Mod_between) 11 = .ok (.if_icmp .eq 12, 3) := by decide +kernel
theorem d_Mod_between_14 : decode (ib f_Mod_between) 14 = .ok (.aload_n 0, 1) := by decide +kernel
theorem d_Mod_between_15 : decode (ib f_Mod_between) 15 = .ok (.iload_n 2, 1) := by decide +kernel
theorem d_Mod_between_16 : decode (ib f_Mod_between) 16 = .ok (.invokevirtual 459, 3) := by decide +kernel
theorem d_Mod_between_19 : decode (ib f_Mod_between) 19 = .ok (.iconst (-1), 1) := by decide +kernel
theorem d_Mod_between_20 : decode (ib f_Mod_between) 20 = .ok (.if_icmp .ne 9, 3) := by decide +kernel
theorem d_Mod_between_23 : decode (ib f_Mod_between) 23 = .ok (.ldc_w 462, 3) := by decide +kernel
theorem d_Mod_between_26 : decode (ib f_Mod_between) 26 = .ok (.goto 14, 3) := by decide +kernel
theorem d_Mod_between_29 : decode (ib f_Mod_between) 29 = .ok (.aload_n 0, 1) := by decide +kernel
theorem d_Mod_between_30 : decode (ib f_Mod_between) 30 = .ok (.iload_n 2, 1) := by decide +kernel
theorem d_Mod_between_31 : decode (ib f_Mod_between) 31 = .ok (.invokevirtual 459, 3) := by decide +kernel
theorem d_Mod_between_34 : decode (ib f_Mod_between) 34 = .ok (.aload_n 0, 1) := by decide +kernel
theorem d_Mod_between_35 : decode (ib f_Mod_between) 35 = .ok (.iload_n 1, 1) := by decide +kernel
theorem d_Mod_between_36 : decode (ib f_Mod_between) 36 = .ok (.invokevirtual 459, 3) := by decide +kernel
theorem d_Mod_between_39 : decode (ib f_Mod_between) 39 = .ok (.isub, 1) := by decide +kernel
theorem d_Mod_between_40 : decode (ib f_Mod_between) 40 = .ok (.ireturn, 1) := by decide +kernel
theorem d_Mod_leans_0 : decode (ib f_Mod_leans) 0 = .ok (.aload_n 0, 1) := by decide +kernel
theorem d_Mod_leans_1 : decode (ib f_Mod_leans) 1 = .ok (.iconst 0, 1) := by decide +kernel
theorem d_Mod_leans_2 : decode (ib f_Mod_leans) 2 = .ok (.putfield 107, 3) := by decide +kernel
theorem d_Mod_leans_5 : decode (ib f_Mod_leans) 5 = .ok (.aload_n 0, 1) := by decide +kernel
theorem d_Mod_leans_6 : decode (ib f_Mod_leans) 6 = .ok (.iload_n 1, 1) := by decide +kernel
theorem d_Mod_leans_7 : decode (ib f_Mod_leans) 7 = .ok (.invokevirtual 139, 3) := by decide +kernel
theorem d_Mod_leans_10 : decode (ib f_Mod_leans) 10 = .ok (.istore_n 2, 1) := by decide +kernel
theorem d_Mod_leans_11 : decode (ib f_Mod_leans) 11 = .ok (.iload_n 2, 1) := by decide +kernel
theorem d_Mod_leans_12 : decode (ib f_Mod_leans) 12 = .ok (.iconst (-1), 1) := by decide +kernel
theorem d_Mod_leans_13 : decode (ib f_Mod_leans) 13 = .ok (.if_icmp .ne 7, 3) := by decide +kernel
theorem d_Mod_leans_16 : decode (ib f_Mod_leans) 16 = .ok (.sipush (-1000), 3) := by decide +kernel
theorem d_Mod_leans_19 : decode (ib f_Mod_leans) 19 = .ok (.ireturn, 1) := by decide +kernel
theorem d_Mod_leans_20 : decode (ib f_Mod_leans) 20 = .ok (.aload_n 0, 1) := by decide +kernel
theorem d_Mod_leans_21 : decode (ib f_Mod_leans) 21 = .ok (.getfield 7, 3) := by decide +kernel
theorem d_Mod_leans_24 : decode (ib f_Mod_leans) 24 = .ok (.aload_n 0, 1) := by decide +kernel
theorem d_Mod_leans_25 : decode (ib f_Mod_leans) 25 = .ok (.iload_n 2, 1) := by decide +kernel
theorem d_Mod_leans_26 : decode (ib f_Mod_leans) 26 = .ok (.invokevirtual 124, 3) := by decide +kernel
theorem d_Mod_leans_29 : decode (ib f_Mod_leans) 29 = .ok (.iconst 4, 1) := by decide +kernel
theorem d_Mod_leans_30 : decode (ib f_Mod_leans) 30 = .ok (.iadd, 1) := by decide +kernel
theorem d_Mod_leans_31 : decode (ib f_Mod_leans) 31 = .ok (.iaload, 1) := by decide +kernel
theorem d_Mod_leans_32 : decode (ib f_Mod_leans) 32 = .ok (.istore_n 3, 1) := by decide +kernel
theorem d_Mod_leans_33 : decode (ib f_Mod_leans) 33 = .ok (.iconst 0, 1) := by decide +kernel
theorem d_Mod_leans_34 : decode (ib f_Mod_leans) 34 = .ok (.istore 4, 2) := by decide +kernel
theorem d_Mod_leans_36 : decode (ib f_Mod_leans) 36 = .ok (.iload_n 3, 1) := by decide +kernel
theorem d_Mod_leans_37 : decode (ib f_Mod_leans) 37 = .ok (.iconst 1, 1) := by decide +kernel
theorem d_Mod_leans_38 : decode (ib f_Mod_leans) 38 = .ok (.isub, 1) := by decide +kernel
theorem d_Mod_leans_39 : decode (ib f_Mod_leans) 39 = .ok (.istore 5, 2) := by decide +kernel
theorem d_Mod_leans_41 : decode (ib f_Mod_leans) 41 = .ok (.iload 5, 2) := by decide +kernel
theorem d_Mod_leans_43 : decode (ib f_Mod_leans) 43 = .ok (.ifCond .lt 40, 3) := by decide +kernel
theorem d_Mod_leans_46 : decode (ib f_Mod_leans) 46 = .ok (.aload_n 0, 1) := by decide +kernel
theorem d_Mod_leans_47 : decode (ib f_Mod_leans) 47 = .ok (.iload 5, 2) := by decide +kernel
theorem d_Mod_leans_49 : decode (ib f_Mod_leans) 49 = .ok (.invokevirtual 332, 3) := by decide +kernel
theorem d_Mod_leans_52 : decode (ib f_Mod_leans) 52 = .ok (.ifCond .eq 31, 3) := by decide +kernel
theorem d_Mod_leans_55 : decode (ib f_Mod_leans) 55 = .ok (.iload 4, 2) := by decide +kernel
theorem d_Mod_leans_57 : decode (ib f_Mod_leans) 57 = .ok (.aload_n 0, 1) := by decide +kernel
theorem d_Mod_leans_58 : decode (ib f_Mod_leans) 58 = .ok (.getfield 7, 3) := by decide +kernel
theorem d_Mod_leans_61 : decode (ib f_Mod_leans) 61 = .ok (.aload_n 0, 1) := by decide +kernel
theorem d_Mod_leans_62 : decode (ib f_Mod_leans) 62 = .ok (.aload_n 0, 1) := by decide +kernel
theorem d_Mod_leans_63 : decode (ib f_Mod_leans) 63 = .ok (.iload 5, 2) := by decide +kernel
theorem d_Mod_leans_65 : decode (ib f_Mod_leans) 65 = .ok (.invokevirtual 128, 3) := by decide +kernel
theorem d_Mod_leans_68 : decode (ib f_Mod_leans) 68 = .ok (.invokevirtual 124, 3) := by decide +kernel
theorem d_Mod_leans_71 : decode (ib f_Mod_leans) 71 = .ok (.iconst 2, 1) := by decide +kernel
theorem d_Mod_leans_72 : decode (ib f_Mod_leans) 72 = .ok (.iadd, 1) := by decide +kernel
theorem d_Mod_leans_73 : decode (ib f_Mod_leans) 73 = .ok (.iaload, 1) := by decide +kernel
theorem d_Mod_leans_74 : decode (ib f_Mod_leans) 74 = .ok (.iadd, 1) := by decide +kernel
theorem d_Mod_leans_75 : decode (ib f_Mod_leans) 75 = .ok (.istore 4, 2) := by decide +kernel
theorem d_Mod_leans_77 : decode (ib f_Mod_leans) 77 = .ok (.iinc 5 (-1), 3) := by decide +kernel
theorem d_Mod_leans_80 : decode (ib f_Mod_leans) 80 = .ok (.goto (-39), 3) := by decide +kernel
theorem d_Mod_leans_83 : decode (ib f_Mod_leans) 83 = .ok (.iload_n 3, 1) := by decide +kernel
theorem d_Mod_leans_84 : decode (ib f_Mod_leans) 84 = .ok (.iconst 1, 1) := by decide +kernel
theorem d_Mod_leans_85 : decode (ib f_Mod_leans) 85 = .ok (.iadd, 1) := by decide +kernel
theorem d_Mod_leans_86 : decode (ib f_Mod_leans) 86 = .ok (.istore 5, 2) := by decide +kernel
theorem d_Mod_leans_88 : decode (ib f_Mod_leans) 88 = .ok (.iload 5, 2) := by decide +kernel
theorem d_Mod_leans_90 : decode (ib f_Mod_leans) 90 = .ok (.bipush 60, 2) := by decide +kernel
theorem d_Mod_leans_92 : decode (ib f_Mod_leans) 92 = .ok (.if_icmp .ge 40, 3) := by decide +kernel
theorem d_Mod_leans_95 : decode (ib f_Mod_leans) 95 = .ok (.aload_n 0, 1) := by decide +kernel
theorem d_Mod_leans_96 : decode (ib f_Mod_leans) 96 = .ok (.iload 5, 2) := by decide +kernel
theorem d_Mod_leans_98 : decode (ib f_Mod_leans) 98 = .ok (.invokevirtual 332, 3) := by decide +kernel
theorem d_Mod_leans_101 : decode (ib f_Mod_leans) 101 = .ok (.ifCond .eq 31, 3) := by decide +kernel
theorem d_Mod_leans_104 : decode (ib f_Mod_leans) 104 = .ok (.iload 4, 2) := by decide +kernel
theorem d_Mod_leans_106 : decode (ib f_Mod_leans) 106 = .ok (.aload_n 0, 1) := by decide +kernel
theorem d_Mod_leans_107 : decode (ib f_Mod_leans) 107 = .ok (.getfield 7, 3) := by decide +kernel
theorem d_Mod_leans_110 : decode (ib f_Mod_leans) 110 = .ok (.aload_n 0, 1) := by decide +kernel
theorem d_Mod_leans_111 : decode (ib f_Mod_leans) 111 = .ok (.aload_n 0, 1) := by decide +kernel
theorem d_Mod_leans_112 : decode (ib f_Mod_leans) 112 = .ok (.iload 5, 2) := by decide +kernel
theorem d_Mod_leans_114 : decode (ib f_Mod_leans) 114 = .ok (.invokevirtual 128, 3) := by decide +kernel
theorem d_Mod_leans_117 : decode (ib f_Mod_leans) 117 = .ok (.invokevirtual 124, 3) := by decide +kernel
theorem d_Mod_leans_120 : decode (ib f_Mod_leans) 120 = .ok (.iconst 2, 1) := by decide +kernel
theorem d_Mod_leans_121 : decode (ib f_Mod_leans) 121 = .ok (.iadd, 1) := by decide +kernel
theorem d_Mod_leans_122 : decode (ib f_Mod_leans) 122 = .ok (.iaload, 1) := by decide +kernel
theorem d_Mod_leans_123 : decode (ib f_Mod_leans) 123 = .ok (.isub, 1) := by decide +kernel
theorem d_Mod_leans_124 : decode (ib f_Mod_leans) 124 = .ok (.istore 4, 2) := by decide +kernel
theorem d_Mod_leans_126 : decode (ib f_Mod_leans) 126 = .ok (.iinc 5 1, 3) := by decide +kernel
theorem d_Mod_leans_129 : decode (ib f_Mod_leans) 129 = .ok (.goto (-41), 3) := by decide +kernel
theorem d_Mod_leans_132 : decode (ib f_Mod_leans) 132 = .ok (.iload 4, 2) := by decide +kernel
theorem d_Mod_leans_134 : decode (ib f_Mod_leans) 134 = .ok (.ireturn, 1) := by decide +kernel
theorem d_Mod_goingBy_0 : decode (ib f_Mod_goingBy) 0 = .ok (.aload_n 0, 1) := by decide +kernel
theorem d_Mod_goingBy_1 : decode (ib f_Mod_goingBy) 1 = .ok (.getfield 7, 3) := by decide +kernel
theorem d_Mod_goingBy_4 : decode (ib f_Mod_goingBy) 4 = .ok (.iconst 3, 1) := by decide +kernel
theorem d_Mod_goingBy_5 : decode (ib f_Mod_goingBy) 5 = .ok (.iaload, 1) := by decide +kernel
theorem d_Mod_goingBy_6 : decode (ib f_Mod_goingBy) 6 = .ok (.istore_n 2, 1) := by decide +kernel
theorem d_Mod_goingBy_7 : decode (ib f_Mod_goingBy) 7 = .ok (.aload_n 0, 1) := by decide +kernel
theorem d_Mod_goingBy_8 : decode (ib f_Mod_goingBy) 8 = .ok (.getfield 7, 3) := by decide +kernel
theorem d_Mod_goingBy_11 : decode (ib f_Mod_goingBy) 11 = .ok (.iconst 3, 1) := by decide +kernel
theorem d_Mod_goingBy_12 : decode (ib f_Mod_goingBy) 12 = .ok (.iload_n 1, 1) := by decide +kernel
theorem d_Mod_goingBy_13 : decode (ib f_Mod_goingBy) 13 = .ok (.iastore, 1) := by decide +kernel
theorem d_Mod_goingBy_14 : decode (ib f_Mod_goingBy) 14 = .ok (.iconst 0, 1) := by decide +kernel
theorem d_Mod_goingBy_15 : decode (ib f_Mod_goingBy) 15 = .ok (.istore_n 3, 1) := by decide +kernel
theorem d_Mod_goingBy_16 : decode (ib f_Mod_goingBy) 16 = .ok (.iconst 0, 1) := by decide +kernel
theorem d_Mod_goingBy_17 : decode (ib f_Mod_goingBy) 17 = .ok (.istore 4, 2) := by decide +kernel
theorem d_Mod_goingBy_19 : decode (ib f_Mod_goingBy) 19 = .ok (.iload 4, 2) := by decide +kernel
theorem d_Mod_goingBy_21 : decode (ib f_Mod_goingBy) 21 = .ok (.aload_n 0, 1) := by decide +kernel
theorem d_Mod_goingBy_22 : decode (ib f_Mod_goingBy) 22 = .ok (.getfield 7, 3) := by decide +kernel
theorem d_Mod_goingBy_25 : decode (ib f_Mod_goingBy) 25 = .ok (.bipush 8, 2) := by decide +kernel
theorem d_Mod_goingBy_27 : decode (ib f_Mod_goingBy) 27 = .ok (.iaload, 1) := by decide +kernel
theorem d_Mod_goingBy_28 : decode (ib f_Mod_goingBy) 28 = .ok (.if_icmp .ge 45, 3) := by decide +kernel
theorem d_Mod_goingBy_31 : decode (ib f_Mod_goingBy) 31 = .ok (.aload_n 0, 1) := by decide +kernel
theorem d_Mod_goingBy_32 : decode (ib f_Mod_goingBy) 32 = .ok (.getfield 7, 3) := by decide +kernel
theorem d_Mod_goingBy_35 : decode (ib f_Mod_goingBy) 35 = .ok (.aload_n 0, 1) := by decide +kernel
theorem d_Mod_goingBy_36 : decode (ib f_Mod_goingBy) 36 = .ok (.iload 4, 2) := by decide +kernel
theorem d_Mod_goingBy_38 : decode (ib f_Mod_goingBy) 38 = .ok (.invokevirtual 124, 3) := by decide +kernel
theorem d_Mod_goingBy_41 : decode (ib f_Mod_goingBy) 41 = .ok (.bipush 6, 2) := by decide +kernel
theorem d_Mod_goingBy_43 : decode (ib f_Mod_goingBy) 43 = .ok (.iadd, 1) := by decide +kernel
theorem d_Mod_goingBy_44 : decode (ib f_Mod_goingBy) 44 = .ok (.iaload, 1) := by decide +kernel
theorem d_Mod_goingBy_45 : decode (ib f_Mod_goingBy) 45 = .ok (.iconst 1, 1) := by decide +kernel
theorem d_Mod_goingBy_46 : decode (ib f_Mod_goingBy) 46 = .ok (.if_icmp .gt 21, 3) := by decide +kernel
theorem d_Mod_goingBy_49 : decode (ib f_Mod_goingBy) 49 = .ok (.iconst 2, 1) := by decide +kernel
theorem d_Mod_goingBy_50 : decode (ib f_Mod_goingBy) 50 = .ok (.aload_n 0, 1) := by decide +kernel
theorem d_Mod_goingBy_51 : decode (ib f_Mod_goingBy) 51 = .ok (.iload 4, 2) := by decide +kernel
theorem d_Mod_goingBy_53 : decode (ib f_Mod_goingBy) 53 = .ok (.invokevirtual 351, 3) := by decide +kernel
theorem d_Mod_goingBy_56 : decode (ib f_Mod_goingBy) 56 = .ok (.imul, 1) := by decide +kernel
theorem d_Mod_goingBy_57 : decode (ib f_Mod_goingBy) 57 = .ok (.sipush 1000, 3) := by decide +kernel
theorem d_Mod_goingBy_60 : decode (ib f_Mod_goingBy) 60 = .ok (.if_icmp .lt 7, 3) := by decide +kernel
theorem d_Mod_goingBy_63 : decode (ib f_Mod_goingBy) 63 = .ok (.iload_n 3, 1) := by decide +kernel
theorem d_Mod_goingBy_64 : decode (ib f_Mod_goingBy) 64 = .ok (.iconst 1, 1) := by decide +kernel
theorem d_Mod_goingBy_65 : decode (ib f_Mod_goingBy) 65 = .ok (.iadd, 1) := by decide +kernel
theorem d_Mod_goingBy_66 : decode (ib f_Mod_goingBy) 66 = .ok (.istore_n 3, 1) := by decide +kernel
theorem d_Mod_goingBy_67 : decode (ib f_Mod_goingBy) 67 = .ok (.iinc 4 1, 3) := by decide +kernel
theorem d_Mod_goingBy_70 : decode (ib f_Mod_goingBy) 70 = .ok (.goto (-51), 3) := by decide +kernel
theorem d_Mod_goingBy_73 : decode (ib f_Mod_goingBy) 73 = .ok (.aload_n 0, 1) := by decide +kernel
theorem d_Mod_goingBy_74 : decode (ib f_Mod_goingBy) 74 = .ok (.getfield 7, 3) := by decide +kernel
theorem d_Mod_goingBy_77 : decode (ib f_Mod_goingBy) 77 = .ok (.iconst 3, 1) := by decide +kernel
theorem d_Mod_goingBy_78 : decode (ib f_Mod_goingBy) 78 = .ok (.iload_n 2, 1) := by decide +kernel
theorem d_Mod_goingBy_79 : decode (ib f_Mod_goingBy) 79 = .ok (.iastore, 1) := by decide +kernel
theorem d_Mod_goingBy_80 : decode (ib f_Mod_goingBy) 80 = .ok (.iload_n 3, 1) := by decide +kernel
theorem d_Mod_goingBy_81 : decode (ib f_Mod_goingBy) 81 = .ok (.ireturn, 1) := by decide +kernel
theorem d_Mod_go_0 : decode (ib f_Mod_go) 0 = .ok (.aload_n 0, 1) := by decide +kernel
theorem d_Mod_go_1 : decode (ib f_Mod_go) 1 = .ok (.iconst 0, 1) := by decide +kernel
theorem d_Mod_go_2 : decode (ib f_Mod_go) 2 = .ok (.putfield 107, 3) := by decide +kernel
theorem d_Mod_go_5 : decode (ib f_Mod_go) 5 = .ok (.aload_n 0, 1) := by decide +kernel
theorem d_Mod_go_6 : decode (ib f_Mod_go) 6 = .ok (.iload_n 1, 1) := by decide +kernel
theorem d_Mod_go_7 : decode (ib f_Mod_go) 7 = .ok (.iconst (-1), 1) := by decide +kernel
theorem d_Mod_go_8 : decode (ib f_Mod_go) 8 = .ok (.bipush 9, 2) := by decide +kernel
theorem d_Mod_go_10 : decode (ib f_Mod_go) 10 = .ok (.invokevirtual 135, 3) := by decide +kernel
theorem d_Mod_go_13 : decode (ib f_Mod_go) 13 = .ok (.ifCond .ne 5, 3) := by decide +kernel
theorem d_Mod_go_16 : decode (ib f_Mod_go) 16 = .ok (.iconst (-1), 1) := by decide +kernel
theorem d_Mod_go_17 : decode (ib f_Mod_go) 17 = .ok (.ireturn, 1) := by decide +kernel
theorem d_Mod_go_18 : decode (ib f_Mod_go) 18 = .ok (.iload_n 1, 1) := by decide +kernel
theorem d_Mod_go_19 : decode (ib f_Mod_go) 19 = .ok (.iconst (-1), 1) := by decide +kernel
theorem d_Mod_go_20 : decode (ib f_Mod_go) 20 = .ok (.if_icmp .eq 9, 3) := by decide +kernel
theorem d_Mod_go_23 : decode (ib f_Mod_go) 23 = .ok (.aload_n 0, 1) := by decide +kernel
theorem d_Mod_go_24 : decode (ib f_Mod_go) 24 = .ok (.iload_n 1, 1) := by decide +kernel
theorem d_Mod_go_25 : decode (ib f_Mod_go) 25 = .ok (.invokevirtual 463, 3) := by decide +kernel
theorem d_Mod_go_28 : decode (ib f_Mod_go) 28 = .ok (.ireturn, 1) := by decide +kernel
theorem d_Mod_go_29 : decode (ib f_Mod_go) 29 = .ok (.iconst 0, 1) := by decide +kernel
theorem d_Mod_go_30 : decode (ib f_Mod_go) 30 = .ok (.istore_n 2, 1) := by decide +kernel
theorem d_Mod_go_31 : decode (ib f_Mod_go) 31 = .ok (.iload_n 2, 1) := by decide +kernel
theorem d_Mod_go_32 : decode (ib f_Mod_go) 32 = .ok (.bipush 10, 2) := by decide +kernel
theorem d_Mod_go_34 : decode (ib f_Mod_go) 34 = .ok (.if_icmp .ge 19, 3) := by decide +kernel
theorem d_Mod_go_37 : decode (ib f_Mod_go) 37 = .ok (.aload_n 0, 1) := by decide +kernel
theorem d_Mod_go_38 : decode (ib f_Mod_go) 38 = .ok (.iload_n 2, 1) := by decide +kernel
theorem d_Mod_go_39 : decode (ib f_Mod_go) 39 = .ok (.invokevirtual 463, 3) := by decide +kernel
theorem d_Mod_go_42 : decode (ib f_Mod_go) 42 = .ok (.ifCond .le 5, 3) := by decide +kernel
theorem d_Mod_go_45 : decode (ib f_Mod_go) 45 = .ok (.iload_n 2, 1) := by decide +kernel
theorem d_Mod_go_46 : decode (ib f_Mod_go) 46 = .ok (.ireturn, 1) := by decide +kernel
theorem d_Mod_go_47 : decode (ib f_Mod_go) 47 = .ok (.iinc 2 1, 3) := by decide +kernel
theorem d_Mod_go_50 : decode (ib f_Mod_go) 50 = .ok (.goto (-19), 3) := by decide +kernel
theorem d_Mod_go_53 : decode (ib f_Mod_go) 53 = .ok (.iconst (-1), 1) := by decide +kernel
theorem d_Mod_go_54 : decode (ib f_Mod_go) 54 = .ok (.ireturn, 1) := by decide +kernel
theorem d_Mod_squires_0 : decode (ib f_Mod_squires) 0 = .ok (.aload_n 0, 1) := by decide +kernel
theorem d_Mod_squires_1 : decode (ib f_Mod_squires) 1 = .ok (.iconst 0, 1) := by decide +kernel
theorem d_Mod_squires_2 : decode (ib f_Mod_squires) 2 = .ok (.putfield 107, 3) := by decide +kernel
theorem d_Mod_squires_5 : decode (ib f_Mod_squires) 5 = .ok (.aload_n 0, 1) := by decide +kernel
theorem d_Mod_squires_6 : decode (ib f_Mod_squires) 6 = .ok (.iload_n 1, 1) := by decide +kernel
theorem d_Mod_squires_7 : decode (ib f_Mod_squires) 7 = .ok (.iconst 0, 1) := by decide +kernel
theorem d_Mod_squires_8 : decode (ib f_Mod_squires) 8 = .ok (.iconst 1, 1) := by decide +kernel
theorem d_Mod_squires_9 : decode (ib f_Mod_squires) 9 = .ok (.invokevirtual 135, 3) := by decide +kernel
theorem d_Mod_squires_12 : decode (ib f_Mod_squires) 12 = .ok (.ifCond .ne 5, 3) := by decide +kernel
theorem d_Mod_squires_15 : decode (ib f_Mod_squires) 15 = .ok (.iconst (-1), 1) := by decide +kernel
theorem d_Mod_squires_16 : decode (ib f_Mod_squires) 16 = .ok (.ireturn, 1) := by decide +kernel
theorem d_Mod_squires_17 : decode (ib f_Mod_squires) 17 = .ok (.iconst 0, 1) := by decide +kernel
theorem d_Mod_squires_18 : decode (ib f_Mod_squires) 18 = .ok (.istore_n 2, 1) := by decide +kernel
theorem d_Mod_squires_19 : decode (ib f_Mod_squires) 19 = .ok (.iload_n 2, 1) := by decide +kernel
theorem d_Mod_squires_20 : decode (ib f_Mod_squires) 20 = .ok (.sipush 3801, 3) := by decide +kernel
theorem d_Mod_squires_23 : decode (ib f_Mod_squires) 23 = .ok (.if_icmp .ge 16, 3) := by decide +kernel
theorem d_Mod_squires_26 : decode (ib f_Mod_squires) 26 = .ok (.aload_n 0, 1) := by decide +kernel
theorem d_Mod_squires_27 : decode (ib f_Mod_squires) 27 = .ok (.getfield 98, 3) := by decide +kernel
theorem d_Mod_squires_30 : decode (ib f_Mod_squires) 30 = .ok (.iload_n 2, 1) := by decide +kernel
theorem d_Mod_squires_31 : decode (ib f_Mod_squires) 31 = .ok (.iconst 0, 1) := by decide +kernel
theorem d_Mod_squires_32 : decode (ib f_Mod_squires) 32 = .ok (.iastore, 1) := by decide +kernel
theorem d_Mod_squires_33 : decode (ib f_Mod_squires) 33 = .ok (.iinc 2 1, 3) := by decide +kernel
theorem d_Mod_squires_36 : decode (ib f_Mod_squires) 36 = .ok (.goto (-17), 3) := by decide +kernel
theorem d_Mod_squires_39 : decode (ib f_Mod_squires) 39 = .ok (.iconst 0, 1) := by decide +kernel
theorem d_Mod_squires_40 : decode (ib f_Mod_squires) 40 = .ok (.istore_n 2, 1) := by decide +kernel
theorem d_Mod_squires_41 : decode (ib f_Mod_squires) 41 = .ok (.iconst 0, 1) := by decide +kernel
theorem d_Mod_squires_42 : decode (ib f_Mod_squires) 42 = .ok (.istore_n 3, 1) := by decide +kernel
theorem d_Mod_squires_43 : decode (ib f_Mod_squires) 43 = .ok (.iconst 0, 1) := by decide +kernel
theorem d_Mod_squires_44 : decode (ib f_Mod_squires) 44 = .ok (.istore 4, 2) := by decide +kernel
theorem d_Mod_squires_46 : decode (ib f_Mod_squires) 46 = .ok (.iload 4, 2) := by decide +kernel
theorem d_Mod_squires_48 : decode (ib f_Mod_squires) 48 = .ok (.bipush 60, 2) := by decide +kernel
theorem d_Mod_squires_50 : decode (ib f_Mod_squires) 50 = .ok (.if_icmp .ge 160, 3) := by decide +kernel
theorem d_Mod_squires_53 : decode (ib f_Mod_squires) 53 = .ok (.aload_n 0, 1) := by decide +kernel
theorem d_Mod_squires_54 : decode (ib f_Mod_squires) 54 = .ok (.iload 4, 2) := by decide +kernel
theorem d_Mod_squires_56 : decode (ib f_Mod_squires) 56 = .ok (.invokevirtual 332, 3) := by decide +kernel
theorem d_Mod_squires_59 : decode (ib f_Mod_squires) 59 = .ok (.ifCond .eq 145, 3) := by decide +kernel
theorem d_Mod_squires_62 : decode (ib f_Mod_squires) 62 = .ok (.aload_n 0, 1) := by decide +kernel
theorem d_Mod_squires_63 : decode (ib f_Mod_squires) 63 = .ok (.getfield 7, 3) := by decide +kernel
theorem d_Mod_squires_66 : decode (ib f_Mod_squires) 66 = .ok (.aload_n 0, 1) := by decide +kernel
theorem d_Mod_squires_67 : decode (ib f_Mod_squires) 67 = .ok (.aload_n 0, 1) := by decide +kernel
theorem d_Mod_squires_68 : decode (ib f_Mod_squires) 68 = .ok (.iload 4, 2) := by decide +kernel
theorem d_Mod_squires_70 : decode (ib f_Mod_squires) 70 = .ok (.invokevirtual 128, 3) := by decide +kernel
theorem d_Mod_squires_73 : decode (ib f_Mod_squires) 73 = .ok (.invokevirtual 124, 3) := by decide +kernel
theorem d_Mod_squires_76 : decode (ib f_Mod_squires) 76 = .ok (.iconst 1, 1) := by decide +kernel
theorem d_Mod_squires_77 : decode (ib f_Mod_squires) 77 = .ok (.iadd, 1) := by decide +kernel
theorem d_Mod_squires_78 : decode (ib f_Mod_squires) 78 = .ok (.iaload, 1) := by decide +kernel
theorem d_Mod_squires_79 : decode (ib f_Mod_squires) 79 = .ok (.iconst 4, 1) := by decide +kernel
theorem d_Mod_squires_80 : decode (ib f_Mod_squires) 80 = .ok (.if_icmp .eq 6, 3) := by decide +kernel
theorem d_Mod_squires_83 : decode (ib f_Mod_squires) 83 = .ok (.goto 121, 3) := by decide +kernel
theorem d_Mod_squires_86 : decode (ib f_Mod_squires) 86 = .ok (.aload_n 0, 1) := by decide +kernel
theorem d_Mod_squires_87 : decode (ib f_Mod_squires) 87 = .ok (.getfield 7, 3) := by decide +kernel
theorem d_Mod_squires_90 : decode (ib f_Mod_squires) 90 = .ok (.aload_n 0, 1) := by decide +kernel
theorem d_Mod_squires_91 : decode (ib f_Mod_squires) 91 = .ok (.aload_n 0, 1) := by decide +kernel
theorem d_Mod_squires_92 : decode (ib f_Mod_squires) 92 = .ok (.iload 4, 2) := by decide +kernel
theorem d_Mod_squires_94 : decode (ib f_Mod_squires) 94 = .ok (.invokevirtual 128, 3) := by decide +kernel
theorem d_Mod_squires_97 : decode (ib f_Mod_squires) 97 = .ok (.invokevirtual 124, 3) := by decide +kernel
theorem d_Mod_squires_100 : decode (ib f_Mod_squires) 100 = .ok (.iconst 2, 1) := by decide +kernel
theorem d_Mod_squires_101 : decode (ib f_Mod_squires) 101 = .ok (.iadd, 1) := by decide +kernel
theorem d_Mod_squires_102 : decode (ib f_Mod_squires) 102 = .ok (.iaload, 1) := by decide +kernel
theorem d_Mod_squires_103 : decode (ib f_Mod_squires) 103 = .ok (.istore 5, 2) := by decide +kernel
theorem d_Mod_squires_105 : decode (ib f_Mod_squires) 105 = .ok (.iload_n 2, 1) := by decide +kernel
theorem d_Mod_squires_106 : decode (ib f_Mod_squires) 106 = .ok (.ifCond .ne 21, 3) := by decide +kernel
theorem d_Mod_squires_109 : decode (ib f_Mod_squires) 109 = .ok (.iload 5, 2) := by decide +kernel
theorem d_Mod_squires_111 : decode (ib f_Mod_squires) 111 = .ok (.istore_n 3, 1) := by decide +kernel
theorem d_Mod_squires_112 : decode (ib f_Mod_squires) 112 = .ok (.aload_n 0, 1) := by decide +kernel
theorem d_Mod_squires_113 : decode (ib f_Mod_squires) 113 = .ok (.getfield 98, 3) := by decide +kernel
theorem d_Mod_squires_116 : decode (ib f_Mod_squires) 116 = .ok (.sipush 181, 3) := by decide +kernel
theorem d_Mod_squires_119 : decode (ib f_Mod_squires) 119 = .ok (.iload 5, 2) := by decide +kernel
theorem d_Mod_squires_121 : decode (ib f_Mod_squires) 121 = .ok (.iadd, 1) := by decide +kernel
theorem d_Mod_squires_122 : decode (ib f_Mod_squires) 122 = .ok (.iconst 1, 1) := by decide +kernel
theorem d_Mod_squires_123 : decode (ib f_Mod_squires) 123 = .ok (.iastore, 1) := by decide +kernel
theorem d_Mod_squires_124 : decode (ib f_Mod_squires) 124 = .ok (.goto 75, 3) := by decide +kernel
theorem d_Mod_squires_127 : decode (ib f_Mod_squires) 127 = .ok (.bipush 20, 2) := by decide +kernel
theorem d_Mod_squires_129 : decode (ib f_Mod_squires) 129 = .ok (.istore 6, 2) := by decide +kernel
theorem d_Mod_squires_131 : decode (ib f_Mod_squires) 131 = .ok (.iload 6, 2) := by decide +kernel
theorem d_Mod_squires_133 : decode (ib f_Mod_squires) 133 = .ok (.iconst 1, 1) := by decide +kernel
theorem d_Mod_squires_134 : decode (ib f_Mod_squires) 134 = .ok (.if_icmp .le 65, 3) := by decide +kernel
theorem d_Mod_squires_137 : decode (ib f_Mod_squires) 137 = .ok (.iload 5, 2) := by decide +kernel
theorem d_Mod_squires_139 : decode (ib f_Mod_squires) 139 = .ok (.istore 7, 2) := by decide +kernel
theorem d_Mod_squires_141 : decode (ib f_Mod_squires) 141 = .ok (.iload 7, 2) := by decide +kernel
theorem d_Mod_squires_143 : decode (ib f_Mod_squires) 143 = .ok (.sipush 181, 3) := by decide +kernel
theorem d_Mod_squires_146 : decode (ib f_Mod_squires) 146 = .ok (.if_icmp .ge 47, 3) := by decide +kernel
theorem d_Mod_squires_149 : decode (ib f_Mod_squires) 149 = .ok (.aload_n 0, 1) := by decide +kernel
theorem d_Mod_squires_150 : decode (ib f_Mod_squires) 150 = .ok (.getfield 98, 3) := by decide +kernel
theorem d_Mod_squires_153 : decode (ib f_Mod_squires) 153 = .ok (.sipush 181, 3) := by decide +kernel
theorem d_Mod_squires_156 : decode (ib f_Mod_squires) 156 = .ok (.iload 6, 2) := by decide +kernel
theorem d_Mod_squires_158 : decode (ib f_Mod_squires) 158 = .ok (.iconst 1, 1) := by decide +kernel
theorem d_Mod_squires_159 : decode (ib f_Mod_squires) 159 = .ok (.isub, 1) := by decide +kernel
theorem d_Mod_squires_160 : decode (ib f_Mod_squires) 160 = .ok (.imul, 1) := by decide +kernel
theorem d_Mod_squires_161 : decode (ib f_Mod_squires) 161 = .ok (.iload 7, 2) := by decide +kernel
theorem d_Mod_squires_163 : decode (ib f_Mod_squires) 163 = .ok (.iadd, 1) := by decide +kernel
theorem d_Mod_squires_164 : decode (ib f_Mod_squires) 164 = .ok (.iload 5, 2) := by decide +kernel
theorem d_Mod_squires_166 : decode (ib f_Mod_squires) 166 = .ok (.isub, 1) := by decide +kernel
theorem d_Mod_squires_167 : decode (ib f_Mod_squires) 167 = .ok (.iaload, 1) := by decide +kernel
theorem d_Mod_squires_168 : decode (ib f_Mod_squires) 168 = .ok (.iconst 1, 1) := by decide +kernel
theorem d_Mod_squires_169 : decode (ib f_Mod_squires) 169 = .ok (.if_icmp .ne 18, 3) := by decide +kernel
theorem d_Mod_squires_172 : decode (ib f_Mod_squires) 172 = .ok (.aload_n 0, 1) := by decide +kernel
theorem d_Mod_squires_173 : decode (ib f_Mod_squires) 173 = .ok (.getfield 98, 3) := by decide +kernel
theorem d_Mod_squires_176 : decode (ib f_Mod_squires) 176 = .ok (.sipush 181, 3) := by decide +kernel
theorem d_Mod_squires_179 : decode (ib f_Mod_squires) 179 = .ok (.iload 6, 2) := by decide +kernel
theorem d_Mod_squires_181 : decode (ib f_Mod_squires) 181 = .ok (.imul, 1) := by decide +kernel
theorem d_Mod_squires_182 : decode (ib f_Mod_squires) 182 = .ok (.iload 7, 2) := by decide +kernel
theorem d_Mod_squires_184 : decode (ib f_Mod_squires) 184 = .ok (.iadd, 1) := by decide +kernel
theorem d_Mod_squires_185 : decode (ib f_Mod_squires) 185 = .ok (.iconst 1, 1) := by decide +kernel
theorem d_Mod_squires_186 : decode (ib f_Mod_squires) 186 = .ok (.iastore, 1) := by decide +kernel
theorem d_Mod_squires_187 : decode (ib f_Mod_squires) 187 = .ok (.iinc 7 1, 3) := by decide +kernel
theorem d_Mod_squires_190 : decode (ib f_Mod_squires) 190 = .ok (.goto (-49), 3) := by decide +kernel
theorem d_Mod_squires_193 : decode (ib f_Mod_squires) 193 = .ok (.iinc 6 (-1), 3) := by decide +kernel
theorem d_Mod_squires_196 : decode (ib f_Mod_squires) 196 = .ok (.goto (-65), 3) := by decide +kernel
theorem d_Mod_squires_199 : decode (ib f_Mod_squires) 199 = .ok (.iload_n 2, 1) := by decide +kernel
theorem d_Mod_squires_200 : decode (ib f_Mod_squires) 200 = .ok (.iload 5, 2) := by decide +kernel
theorem d_Mod_squires_202 : decode (ib f_Mod_squires) 202 = .ok (.iadd, 1) := by decide +kernel
theorem d_Mod_squires_203 : decode (ib f_Mod_squires) 203 = .ok (.istore_n 2, 1) := by decide +kernel
theorem d_Mod_squires_204 : decode (ib f_Mod_squires) 204 = .ok (.iinc 4 1, 3) := by decide +kernel
theorem d_Mod_squires_207 : decode (ib f_Mod_squires) 207 = .ok (.goto (-161), 3) := by decide +kernel
theorem d_Mod_squires_210 : decode (ib f_Mod_squires) 210 = .ok (.iload_n 3, 1) := by decide +kernel
theorem d_Mod_squires_211 : decode (ib f_Mod_squires) 211 = .ok (.ifCond .ne 7, 3) := by decide +kernel
theorem d_Mod_squires_214 : decode (ib f_Mod_squires) 214 = .ok (.iconst 0, 1) := by decide +kernel
theorem d_Mod_squires_215 : decode (ib f_Mod_squires) 215 = .ok (.goto 6, 3) := by decide +kernel
theorem d_Mod_squires_218 : decode (ib f_Mod_squires) 218 = .ok (.ldc_w 466, 3) := by decide +kernel
theorem d_Mod_squires_221 : decode (ib f_Mod_squires) 221 = .ok (.istore 4, 2) := by decide +kernel
theorem d_Mod_squires_223 : decode (ib f_Mod_squires) 223 = .ok (.iconst 0, 1) := by decide +kernel
theorem d_Mod_squires_224 : decode (ib f_Mod_squires) 224 = .ok (.istore 5, 2) := by decide +kernel
theorem d_Mod_squires_226 : decode (ib f_Mod_squires) 226 = .ok (.iconst 1, 1) := by decide +kernel
theorem d_Mod_squires_227 : decode (ib f_Mod_squires) 227 = .ok (.istore 6, 2) := by decide +kernel
theorem d_Mod_squires_229 : decode (ib f_Mod_squires) 229 = .ok (.iload 6, 2) := by decide +kernel
theorem d_Mod_squires_231 : decode (ib f_Mod_squires) 231 = .ok (.bipush 21, 2) := by decide +kernel
theorem d_Mod_squires_233 : decode (ib f_Mod_squires) 233 = .ok (.if_icmp .ge 77, 3) := by decide +kernel
theorem d_Mod_squires_236 : decode (ib f_Mod_squires) 236 = .ok (.iconst 0, 1) := by decide +kernel
theorem d_Mod_squires_237 : decode (ib f_Mod_squires) 237 = .ok (.istore 7, 2) := by decide +kernel
theorem d_Mod_squires_239 : decode (ib f_Mod_squires) 239 = .ok (.iload 7, 2) := by decide +kernel
theorem d_Mod_squires_241 : decode (ib f_Mod_squires) 241 = .ok (.sipush 181, 3) := by decide +kernel
theorem d_Mod_squires_244 : decode (ib f_Mod_squires) 244 = .ok (.if_icmp .ge 60, 3) := by decide +kernel
theorem d_Mod_squires_247 : decode (ib f_Mod_squires) 247 = .ok (.aload_n 0, 1) := by decide +kernel
theorem d_Mod_squires_248 : decode (ib f_Mod_squires) 248 = .ok (.getfield 98, 3) := by decide +kernel
theorem d_Mod_squires_251 : decode (ib f_Mod_squires) 251 = .ok (.sipush 181, 3) := by decide +kernel
theorem d_Mod_squires_254 : decode (ib f_Mod_squires) 254 = .ok (.iload 6, 2) := by decide +kernel
theorem d_Mod_squires_256 : decode (ib f_Mod_squires) 256 = .ok (.imul, 1) := by decide +kernel
theorem d_Mod_squires_257 : decode (ib f_Mod_squires) 257 = .ok (.iload 7, 2) := by decide +kernel
theorem d_Mod_squires_259 : decode (ib f_Mod_squires) 259 = .ok (.iadd, 1) := by decide +kernel
theorem d_Mod_squires_260 : decode (ib f_Mod_squires) 260 = .ok (.iaload, 1) := by decide +kernel
theorem d_Mod_squires_261 : decode (ib f_Mod_squires) 261 = .ok (.ifCond .eq 37, 3) := by decide +kernel
theorem d_Mod_squires_264 : decode (ib f_Mod_squires) 264 = .ok (.aload_n 0, 1) := by decide +kernel
theorem d_Mod_squires_265 : decode (ib f_Mod_squires) 265 = .ok (.iload 7, 2) := by decide +kernel
theorem d_Mod_squires_267 : decode (ib f_Mod_squires) 267 = .ok (.iload_n 2, 1) := by decide +kernel
theorem d_Mod_squires_268 : decode (ib f_Mod_squires) 268 = .ok (.iload 7, 2) := by decide +kernel
theorem d_Mod_squires_270 : decode (ib f_Mod_squires) 270 = .ok (.isub, 1) := by decide +kernel
theorem d_Mod_squires_271 : decode (ib f_Mod_squires) 271 = .ok (.invokevirtual 306, 3) := by decide +kernel
theorem d_Mod_squires_274 : decode (ib f_Mod_squires) 274 = .ok (.iload 4, 2) := by decide +kernel
theorem d_Mod_squires_276 : decode (ib f_Mod_squires) 276 = .ok (.if_icmp .lt 6, 3) := by decide +kernel
theorem d_Mod_squires_279 : decode (ib f_Mod_squires) 279 = .ok (.goto 19, 3) := by decide +kernel
theorem d_Mod_squires_282 : decode (ib f_Mod_squires) 282 = .ok (.aload_n 0, 1) := by decide +kernel
theorem d_Mod_squires_283 : decode (ib f_Mod_squires) 283 = .ok (.iload 7, 2) := by decide +kernel
theorem d_Mod_squires_285 : decode (ib f_Mod_squires) 285 = .ok (.iload_n 2, 1) := by decide +kernel
theorem d_Mod_squires_286 : decode (ib f_Mod_squires) 286 = .ok (.iload 7, 2) := by decide +kernel
theorem d_Mod_squires_288 : decode (ib f_Mod_squires) 288 = .ok (.isub, 1) := by decide +kernel
theorem d_Mod_squires_289 : decode (ib f_Mod_squires) 289 = .ok (.invokevirtual 306, 3) := by decide +kernel
theorem d_Mod_squires_292 : decode (ib f_Mod_squires) 292 = .ok (.istore 4, 2) := by decide +kernel
theorem d_Mod_squires_294 : decode (ib f_Mod_squires) 294 = .ok (.iload 6, 2) := by decide +kernel
theorem d_Mod_squires_296 : decode (ib f_Mod_squires) 296 = .ok (.istore 5, 2) := by decide +kernel
theorem d_Mod_squires_298 : decode (ib f_Mod_squires) 298 = .ok (.iinc 7 1, 3) := by decide +kernel
theorem d_Mod_squires_301 : decode (ib f_Mod_squires) 301 = .ok (.goto (-62), 3) := by decide +kernel
theorem d_Mod_squires_304 : decode (ib f_Mod_squires) 304 = .ok (.iinc 6 1, 3) := by decide +kernel
theorem d_Mod_squires_307 : decode (ib f_Mod_squires) 307 = .ok (.goto (-78), 3) := by decide +kernel
theorem d_Mod_squires_310 : decode (ib f_Mod_squires) 310 = .ok (.iload_n 1, 1) := by decide +kernel
theorem d_Mod_squires_311 : decode (ib f_Mod_squires) 311 = .ok (.ifCond .ne 8, 3) := by decide +kernel
theorem d_Mod_squires_314 : decode (ib f_Mod_squires) 314 = .ok (.iload 4, 2) := by decide +kernel
theorem d_Mod_squires_316 : decode (ib f_Mod_squires) 316 = .ok (.goto 5, 3) := by decide +kernel
theorem d_Mod_squires_319 : decode (ib f_Mod_squires) 319 = .ok (.iload 5, 2) := by decide +kernel
theorem d_Mod_squires_321 : decode (ib f_Mod_squires) 321 = .ok (.ireturn, 1) := by decide +kernel
theorem d_Mod_held_0 : decode (ib f_Mod_held) 0 = .ok (.aload_n 0, 1) := by decide +kernel
theorem d_Mod_held_1 : decode (ib f_Mod_held) 1 = .ok (.iconst 0, 1) := by decide +kernel
theorem d_Mod_held_2 : decode (ib f_Mod_held) 2 = .ok (.putfield 107, 3) := by decide +kernel
theorem d_Mod_held_5 : decode (ib f_Mod_held) 5 = .ok (.aload_n 0, 1) := by decide +kernel
theorem d_Mod_held_6 : decode (ib f_Mod_held) 6 = .ok (.iload_n 1, 1) := by decide +kernel
theorem d_Mod_held_7 : decode (ib f_Mod_held) 7 = .ok (.iconst 1, 1) := by decide +kernel
theorem d_Mod_held_8 : decode (ib f_Mod_held) 8 = .ok (.bipush 30, 2) := by decide +kernel
theorem d_Mod_held_10 : decode (ib f_Mod_held) 10 = .ok (.invokevirtual 135, 3) := by decide +kernel
theorem d_Mod_held_13 : decode (ib f_Mod_held) 13 = .ok (.ifCond .eq 24, 3) := by decide +kernel
theorem d_Mod_held_16 : decode (ib f_Mod_held) 16 = .ok (.aload_n 0, 1) := by decide +kernel
theorem d_Mod_held_17 : decode (ib f_Mod_held) 17 = .ok (.iload_n 2, 1) := by decide +kernel
theorem d_Mod_held_18 : decode (ib f_Mod_held) 18 = .ok (.iconst 1, 1) := by decide +kernel
theorem d_Mod_held_19 : decode (ib f_Mod_held) 19 = .ok (.bipush 9, 2) := by decide +kernel
theorem d_Mod_held_21 : decode (ib f_Mod_held) 21 = .ok (.invokevirtual 135, 3) := by decide +kernel
theorem d_Mod_held_24 : decode (ib f_Mod_held) 24 = .ok (.ifCond .eq 13, 3) := by decide +kernel
theorem d_Mod_held_27 : decode (ib f_Mod_held) 27 = .ok (.aload_n 0, 1) := by decide +kernel
theorem d_Mod_held_28 : decode (ib f_Mod_held) 28 = .ok (.iload_n 3, 1) := by decide +kernel
theorem d_Mod_held_29 : decode (ib f_Mod_held) 29 = .ok (.iconst 0, 1) := by decide +kernel
theorem d_Mod_held_30 : decode (ib f_Mod_held) 30 = .ok (.iconst 1, 1) := by decide +kernel
theorem d_Mod_held_31 : decode (ib f_Mod_held) 31 = .ok (.invokevirtual 135, 3) := by decide +kernel
theorem d_Mod_held_34 : decode (ib f_Mod_held) 34 = .ok (.ifCond .ne 5, 3) := by decide +kernel
theorem d_Mod_held_37 : decode (ib f_Mod_held) 37 = .ok (.iconst (-1), 1) := by decide +kernel
theorem d_Mod_held_38 : decode (ib f_Mod_held) 38 = .ok (.ireturn, 1) := by decide +kernel
theorem d_Mod_held_39 : decode (ib f_Mod_held) 39 = .ok (.iconst 0, 1) := by decide +kernel
theorem d_Mod_held_40 : decode (ib f_Mod_held) 40 = .ok (.istore 4, 2) := by decide +kernel
theorem d_Mod_held_42 : decode (ib f_Mod_held) 42 = .ok (.iload 4, 2) := by decide +kernel
theorem d_Mod_held_44 : decode (ib f_Mod_held) 44 = .ok (.bipush 31, 2) := by decide +kernel
theorem d_Mod_held_46 : decode (ib f_Mod_held) 46 = .ok (.if_icmp .ge 26, 3) := by decide +kernel
theorem d_Mod_held_49 : decode (ib f_Mod_held) 49 = .ok (.aload_n 0, 1) := by decide +kernel
theorem d_Mod_held_50 : decode (ib f_Mod_held) 50 = .ok (.getfield 101, 3) := by decide +kernel
theorem d_Mod_held_53 : decode (ib f_Mod_held) 53 = .ok (.iload 4, 2) := by decide +kernel
theorem d_Mod_held_55 : decode (ib f_Mod_held) 55 = .ok (.iload 4, 2) := by decide +kernel
theorem d_Mod_held_57 : decode (ib f_Mod_held) 57 = .ok (.ifCond .ne 7, 3) := by decide +kernel
theorem d_Mod_held_60 : decode (ib f_Mod_held) 60 = .ok (.iconst 1, 1) := by decide +kernel
theorem d_Mod_held_61 : decode (ib f_Mod_held) 61 = .ok (.goto 4, 3) := by decide +kernel
theorem d_Mod_held_64 : decode (ib f_Mod_held) 64 = .ok (.iconst 0, 1) := by decide +kernel
theorem d_Mod_held_65 : decode (ib f_Mod_held) 65 = .ok (.iastore, 1) := by decide +kernel
theorem d_Mod_held_66 : decode (ib f_Mod_held) 66 = .ok (.iinc 4 1, 3) := by decide +kernel
theorem d_Mod_held_69 : decode (ib f_Mod_held) 69 = .ok (.goto (-27), 3) := by decide +kernel
theorem d_Mod_held_72 : decode (ib f_Mod_held) 72 = .ok (.iconst 0, 1) := by decide +kernel
theorem d_Mod_held_73 : decode (ib f_Mod_held) 73 = .ok (.istore 4, 2) := by decide +kernel
theorem d_Mod_held_75 : decode (ib f_Mod_held) 75 = .ok (.iload 4, 2) := by decide +kernel
theorem d_Mod_held_77 : decode (ib f_Mod_held) 77 = .ok (.iload_n 2, 1) := by decide +kernel
theorem d_Mod_held_78 : decode (ib f_Mod_held) 78 = .ok (.if_icmp .ge 76, 3) := by decide +kernel
theorem d_Mod_held_81 : decode (ib f_Mod_held) 81 = .ok (.iload_n 1, 1) := by decide +kernel
theorem d_Mod_held_82 : decode (ib f_Mod_held) 82 = .ok (.istore 5, 2) := by decide +kernel
theorem d_Mod_held_84 : decode (ib f_Mod_held) 84 = .ok (.iload 5, 2) := by decide +kernel
theorem d_Mod_held_86 : decode (ib f_Mod_held) 86 = .ok (.ifCond .lt 62, 3) := by decide +kernel
theorem d_Mod_held_89 : decode (ib f_Mod_held) 89 = .ok (.iconst 0, 1) := by decide +kernel
theorem d_Mod_held_90 : decode (ib f_Mod_held) 90 = .ok (.istore 6, 2) := by decide +kernel
theorem d_Mod_held_92 : decode (ib f_Mod_held) 92 = .ok (.iload_n 3, 1) := by decide +kernel
theorem d_Mod_held_93 : decode (ib f_Mod_held) 93 = .ok (.istore 7, 2) := by decide +kernel
theorem d_Mod_held_95 : decode (ib f_Mod_held) 95 = .ok (.iload 7, 2) := by decide +kernel
theorem d_Mod_held_97 : decode (ib f_Mod_held) 97 = .ok (.bipush 6, 2) := by decide +kernel
theorem d_Mod_held_99 : decode (ib f_Mod_held) 99 = .ok (.if_icmp .ge 34, 3) := by decide +kernel
theorem d_Mod_held_102 : decode (ib f_Mod_held) 102 = .ok (.iload 7, 2) := by decide +kernel
theorem d_Mod_held_104 : decode (ib f_Mod_held) 104 = .ok (.iload 5, 2) := by decide +kernel
theorem d_Mod_held_106 : decode (ib f_Mod_held) 106 = .ok (.if_icmp .gt 27, 3) := by decide +kernel
theorem d_Mod_held_109 : decode (ib f_Mod_held) 109 = .ok (.aload_n 0, 1) := by decide +kernel
theorem d_Mod_held_110 : decode (ib f_Mod_held) 110 = .ok (.iload 6, 2) := by decide +kernel
theorem d_Mod_held_112 : decode (ib f_Mod_held) 112 = .ok (.aload_n 0, 1) := by decide +kernel
theorem d_Mod_held_113 : decode (ib f_Mod_held) 113 = .ok (.getfield 101, 3) := by decide +kernel
theorem d_Mod_held_116 : decode (ib f_Mod_held) 116 = .ok (.iload 5, 2) := by decide +kernel
theorem d_Mod_held_118 : decode (ib f_Mod_held) 118 = .ok (.iload 7, 2) := by decide +kernel
theorem d_Mod_held_120 : decode (ib f_Mod_held) 120 = .ok (.isub, 1) := by decide +kernel
theorem d_Mod_held_121 : decode (ib f_Mod_held) 121 = .ok (.iaload, 1) := by decide +kernel
theorem d_Mod_held_122 : decode (ib f_Mod_held) 122 = .ok (.invokevirtual 407, 3) := by decide +kernel
theorem d_Mod_held_125 : decode (ib f_Mod_held) 125 = .ok (.istore 6, 2) := by decide +kernel
theorem d_Mod_held_127 : decode (ib f_Mod_held) 127 = .ok (.iinc 7 1, 3) := by decide +kernel
theorem d_Mod_held_130 : decode (ib f_Mod_held) 130 = .ok (.goto (-35), 3) := by decide +kernel
theorem d_Mod_held_133 : decode (ib f_Mod_held) 133 = .ok (.aload_n 0, 1) := by decide +kernel
theorem d_Mod_held_134 : decode (ib f_Mod_held) 134 = .ok (.getfield 101, 3) := by decide +kernel
theorem d_Mod_held_137 : decode (ib f_Mod_held) 137 = .ok (.iload 5, 2) := by decide +kernel
theorem d_Mod_held_139 : decode (ib f_Mod_held) 139 = .ok (.iload 6, 2) := by decide +kernel
theorem d_Mod_held_141 : decode (ib f_Mod_held) 141 = .ok (.iastore, 1) := by decide +kernel
theorem d_Mod_held_142 : decode (ib f_Mod_held) 142 = .ok (.iinc 5 (-1), 3) := by decide +kernel
theorem d_Mod_held_145 : decode (ib f_Mod_held) 145 = .ok (.goto (-61), 3) := by decide +kernel
theorem d_Mod_held_148 : decode (ib f_Mod_held) 148 = .ok (.iinc 4 1, 3) := by decide +kernel
theorem d_Mod_held_151 : decode (ib f_Mod_held) 151 = .ok (.goto (-76), 3) := by decide +kernel
theorem d_Mod_held_154 : decode (ib f_Mod_held) 154 = .ok (.aload_n 0, 1) := by decide +kernel
theorem d_Mod_held_155 : decode (ib f_Mod_held) 155 = .ok (.getfield 101, 3) := by decide +kernel
theorem d_Mod_held_158 : decode (ib f_Mod_held) 158 = .ok (.iload_n 1, 1) := by decide +kernel
theorem d_Mod_held_159 : decode (ib f_Mod_held) 159 = .ok (.iaload, 1) := by decide +kernel
theorem d_Mod_held_160 : decode (ib f_Mod_held) 160 = .ok (.ireturn, 1) := by decide +kernel
theorem d_Mod_nimber_0 : decode (ib f_Mod_nimber) 0 = .ok (.iload_n 1, 1) := by decide +kernel
theorem d_Mod_nimber_1 : decode (ib f_Mod_nimber) 1 = .ok (.iconst 2, 1) := by decide +kernel
theorem d_Mod_nimber_2 : decode (ib f_Mod_nimber) 2 = .ok (.if_icmp .ne 7, 3) := by decide +kernel
theorem d_Mod_nimber_5 : decode (ib f_Mod_nimber) 5 = .ok (.iconst 2, 1) := by decide +kernel
theorem d_Mod_nimber_6 : decode (ib f_Mod_nimber) 6 = .ok (.goto 6, 3) := by decide +kernel
theorem d_Mod_nimber_9 : decode (ib f_Mod_nimber) 9 = .ok (.iload_n 1, 1) := by decide +kernel
theorem d_Mod_nimber_10 : decode (ib f_Mod_nimber) 10 = .ok (.iconst 2, 1) := by decide +kernel
theorem d_Mod_nimber_11 : decode (ib f_Mod_nimber) 11 = .ok (.irem, 1) := by decide +kernel
theorem d_Mod_nimber_12 : decode (ib f_Mod_nimber) 12 = .ok (.ireturn, 1) := by decide +kernel
theorem d_Mod_game_0 : decode (ib f_Mod_game) 0 = .ok (.aload_n 0, 1) := by decide +kernel
theorem d_Mod_game_1 : decode (ib f_Mod_game) 1 = .ok (.iconst 0, 1) := by decide +kernel
theorem d_Mod_game_2 : decode (ib f_Mod_game) 2 = .ok (.putfield 107, 3) := by decide +kernel
theorem d_Mod_game_5 : decode (ib f_Mod_game) 5 = .ok (.aload_n 0, 1) := by decide +kernel
theorem d_Mod_game_6 : decode (ib f_Mod_game) 6 = .ok (.iload_n 1, 1) := by decide +kernel
theorem d_Mod_game_7 : decode (ib f_Mod_game) 7 = .ok (.iconst 0, 1) := by decide +kernel
theorem d_Mod_game_8 : decode (ib f_Mod_game) 8 = .ok (.iconst 1, 1) := by decide +kernel
theorem d_Mod_game_9 : decode (ib f_Mod_game) 9 = .ok (.invokevirtual 135, 3) := by decide +kernel
theorem d_Mod_game_12 : decode (ib f_Mod_game) 12 = .ok (.ifCond .ne 5, 3) := by decide +kernel
theorem d_Mod_game_15 : decode (ib f_Mod_game) 15 = .ok (.iconst (-1), 1) := by decide +kernel
theorem d_Mod_game_16 : decode (ib f_Mod_game) 16 = .ok (.ireturn, 1) := by decide +kernel
theorem d_Mod_game_17 : decode (ib f_Mod_game) 17 = .ok (.iconst 0, 1) := by decide +kernel
theorem d_Mod_game_18 : decode (ib f_Mod_game) 18 = .ok (.istore_n 2, 1) := by decide +kernel
theorem d_Mod_game_19 : decode (ib f_Mod_game) 19 = .ok (.iconst 0, 1) := by decide +kernel
theorem d_Mod_game_20 : decode (ib f_Mod_game) 20 = .ok (.istore_n 3, 1) := by decide +kernel
theorem d_Mod_game_21 : decode (ib f_Mod_game) 21 = .ok (.iload_n 3, 1) := by decide +kernel
theorem d_Mod_game_22 : decode (ib f_Mod_game) 22 = .ok (.aload_n 0, 1) := by decide +kernel
theorem d_Mod_game_23 : decode (ib f_Mod_game) 23 = .ok (.getfield 7, 3) := by decide +kernel
theorem d_Mod_game_26 : decode (ib f_Mod_game) 26 = .ok (.bipush 8, 2) := by decide +kernel
theorem d_Mod_game_28 : decode (ib f_Mod_game) 28 = .ok (.iaload, 1) := by decide +kernel
theorem d_Mod_game_29 : decode (ib f_Mod_game) 29 = .ok (.if_icmp .ge 28, 3) := by decide +kernel
theorem d_Mod_game_32 : decode (ib f_Mod_game) 32 = .ok (.iload_n 2, 1) := by decide +kernel
theorem d_Mod_game_33 : decode (ib f_Mod_game) 33 = .ok (.aload_n 0, 1) := by decide +kernel
theorem d_Mod_game_34 : decode (ib f_Mod_game) 34 = .ok (.aload_n 0, 1) := by decide +kernel
theorem d_Mod_game_35 : decode (ib f_Mod_game) 35 = .ok (.getfield 7, 3) := by decide +kernel
theorem d_Mod_game_38 : decode (ib f_Mod_game) 38 = .ok (.aload_n 0, 1) := by decide +kernel
theorem d_Mod_game_39 : decode (ib f_Mod_game) 39 = .ok (.iload_n 3, 1) := by decide +kernel
theorem d_Mod_game_40 : decode (ib f_Mod_game) 40 = .ok (.invokevirtual 124, 3) := by decide +kernel
theorem d_Mod_game_43 : decode (ib f_Mod_game) 43 = .ok (.iconst 2, 1) := by decide +kernel
theorem d_Mod_game_44 : decode (ib f_Mod_game) 44 = .ok (.iadd, 1) := by decide +kernel
theorem d_Mod_game_45 : decode (ib f_Mod_game) 45 = .ok (.iaload, 1) := by decide +kernel
theorem d_Mod_game_46 : decode (ib f_Mod_game) 46 = .ok (.invokevirtual 467, 3) := by decide +kernel
theorem d_Mod_game_49 : decode (ib f_Mod_game) 49 = .ok (.ixor, 1) := by decide +kernel
theorem d_Mod_game_50 : decode (ib f_Mod_game) 50 = .ok (.istore_n 2, 1) := by decide +kernel
theorem d_Mod_game_51 : decode (ib f_Mod_game) 51 = .ok (.iinc 3 1, 3) := by decide +kernel
theorem d_Mod_game_54 : decode (ib f_Mod_game) 54 = .ok (.goto (-33), 3) := by decide +kernel
theorem d_Mod_game_57 : decode (ib f_Mod_game) 57 = .ok (.iconst 0, 1) := by decide +kernel
theorem d_Mod_game_58 : decode (ib f_Mod_game) 58 = .ok (.istore_n 3, 1) := by decide +kernel
theorem d_Mod_game_59 : decode (ib f_Mod_game) 59 = .ok (.iload_n 3, 1) := by decide +kernel
theorem d_Mod_game_60 : decode (ib f_Mod_game) 60 = .ok (.bipush 60, 2) := by decide +kernel
theorem d_Mod_game_62 : decode (ib f_Mod_game) 62 = .ok (.if_icmp .ge 109, 3) := by decide +kernel
theorem d_Mod_game_65 : decode (ib f_Mod_game) 65 = .ok (.aload_n 0, 1) := by decide +kernel
theorem d_Mod_game_66 : decode (ib f_Mod_game) 66 = .ok (.iload_n 3, 1) := by decide +kernel
theorem d_Mod_game_67 : decode (ib f_Mod_game) 67 = .ok (.invokevirtual 332, 3) := by decide +kernel
theorem d_Mod_game_70 : decode (ib f_Mod_game) 70 = .ok (.ifCond .ne 6, 3) := by decide +kernel
theorem d_Mod_game_73 : decode (ib f_Mod_game) 73 = .ok (.goto 92, 3) := by decide +kernel
theorem d_Mod_game_76 : decode (ib f_Mod_game) 76 = .ok (.aload_n 0, 1) := by decide +kernel
theorem d_Mod_game_77 : decode (ib f_Mod_game) 77 = .ok (.aload_n 0, 1) := by decide +kernel
theorem d_Mod_game_78 : decode (ib f_Mod_game) 78 = .ok (.iload_n 3, 1) := by decide +kernel
theorem d_Mod_game_79 : decode (ib f_Mod_game) 79 = .ok (.invokevirtual 128, 3) := by decide +kernel
theorem d_Mod_game_82 : decode (ib f_Mod_game) 82 = .ok (.invokevirtual 124, 3) := by decide +kernel
theorem d_Mod_game_85 : decode (ib f_Mod_game) 85 = .ok (.istore 4, 2) := by decide +kernel
theorem d_Mod_game_87 : decode (ib f_Mod_game) 87 = .ok (.aload_n 0, 1) := by decide +kernel
theorem d_Mod_game_88 : decode (ib f_Mod_game) 88 = .ok (.getfield 7, 3) := by decide +kernel
theorem d_Mod_game_91 : decode (ib f_Mod_game) 91 = .ok (.iload 4, 2) := by decide +kernel
theorem d_Mod_game_93 : decode (ib f_Mod_game) 93 = .ok (.iconst 2, 1) := by decide +kernel
theorem d_Mod_game_94 : decode (ib f_Mod_game) 94 = .ok (.iadd, 1) := by decide +kernel
theorem d_Mod_game_95 : decode (ib f_Mod_game) 95 = .ok (.iaload, 1) := by decide +kernel
theorem d_Mod_game_96 : decode (ib f_Mod_game) 96 = .ok (.istore 5, 2) := by decide +kernel
theorem d_Mod_game_98 : decode (ib f_Mod_game) 98 = .ok (.iload_n 2, 1) := by decide +kernel
theorem d_Mod_game_99 : decode (ib f_Mod_game) 99 = .ok (.aload_n 0, 1) := by decide +kernel
theorem d_Mod_game_100 : decode (ib f_Mod_game) 100 = .ok (.iload 5, 2) := by decide +kernel
theorem d_Mod_game_102 : decode (ib f_Mod_game) 102 = .ok (.invokevirtual 467, 3) := by decide +kernel
theorem d_Mod_game_105 : decode (ib f_Mod_game) 105 = .ok (.ixor, 1) := by decide +kernel
theorem d_Mod_game_106 : decode (ib f_Mod_game) 106 = .ok (.istore 6, 2) := by decide +kernel
theorem d_Mod_game_108 : decode (ib f_Mod_game) 108 = .ok (.aload_n 0, 1) := by decide +kernel
theorem d_Mod_game_109 : decode (ib f_Mod_game) 109 = .ok (.iload 5, 2) := by decide +kernel
theorem d_Mod_game_111 : decode (ib f_Mod_game) 111 = .ok (.iconst 1, 1) := by decide +kernel
theorem d_Mod_game_112 : decode (ib f_Mod_game) 112 = .ok (.isub, 1) := by decide +kernel
theorem d_Mod_game_113 : decode (ib f_Mod_game) 113 = .ok (.invokevirtual 467, 3) := by decide +kernel
theorem d_Mod_game_116 : decode (ib f_Mod_game) 116 = .ok (.iload 6, 2) := by decide +kernel
theorem d_Mod_game_118 : decode (ib f_Mod_game) 118 = .ok (.if_icmp .ne 19, 3) := by decide +kernel
theorem d_Mod_game_121 : decode (ib f_Mod_game) 121 = .ok (.iload_n 1, 1) := by decide +kernel
theorem d_Mod_game_122 : decode (ib f_Mod_game) 122 = .ok (.ifCond .ne 13, 3) := by decide +kernel
theorem d_Mod_game_125 : decode (ib f_Mod_game) 125 = .ok (.aload_n 0, 1) := by decide +kernel
theorem d_Mod_game_126 : decode (ib f_Mod_game) 126 = .ok (.getfield 7, 3) := by decide +kernel
theorem d_Mod_game_129 : decode (ib f_Mod_game) 129 = .ok (.iload 4, 2) := by decide +kernel
theorem d_Mod_game_131 : decode (ib f_Mod_game) 131 = .ok (.iaload, 1) := by decide +kernel
theorem d_Mod_game_132 : decode (ib f_Mod_game) 132 = .ok (.goto 4, 3) := by decide +kernel
theorem d_Mod_game_135 : decode (ib f_Mod_game) 135 = .ok (.iconst 1, 1) := by decide +kernel
theorem d_Mod_game_136 : decode (ib f_Mod_game) 136 = .ok (.ireturn, 1) := by decide +kernel
theorem d_Mod_game_137 : decode (ib f_Mod_game) 137 = .ok (.iload 5, 2) := by decide +kernel
theorem d_Mod_game_139 : decode (ib f_Mod_game) 139 = .ok (.iconst 4, 1) := by decide +kernel
theorem d_Mod_game_140 : decode (ib f_Mod_game) 140 = .ok (.if_icmp .ge 25, 3) := by decide +kernel
theorem d_Mod_game_143 : decode (ib f_Mod_game) 143 = .ok (.iload 6, 2) := by decide +kernel
theorem d_Mod_game_145 : decode (ib f_Mod_game) 145 = .ok (.ifCond .ne 20, 3) := by decide +kernel
theorem d_Mod_game_148 : decode (ib f_Mod_game) 148 = .ok (.iload_n 1, 1) := by decide +kernel
theorem d_Mod_game_149 : decode (ib f_Mod_game) 149 = .ok (.ifCond .ne 13, 3) := by decide +kernel
theorem d_Mod_game_152 : decode (ib f_Mod_game) 152 = .ok (.aload_n 0, 1) := by decide +kernel
theorem d_Mod_game_153 : decode (ib f_Mod_game) 153 = .ok (.getfield 7, 3) := by decide +kernel
theorem d_Mod_game_156 : decode (ib f_Mod_game) 156 = .ok (.iload 4, 2) := by decide +kernel
theorem d_Mod_game_158 : decode (ib f_Mod_game) 158 = .ok (.iaload, 1) := by decide +kernel
theorem d_Mod_game_159 : decode (ib f_Mod_game) 159 = .ok (.goto 5, 3) := by decide +kernel
theorem d_Mod_game_162 : decode (ib f_Mod_game) 162 = .ok (.iload 5, 2) := by decide +kernel
theorem d_Mod_game_164 : decode (ib f_Mod_game) 164 = .ok (.ireturn, 1) := by decide +kernel
theorem d_Mod_game_165 : decode (ib f_Mod_game) 165 = .ok (.iinc 3 1, 3) := by decide +kernel
theorem d_Mod_game_168 : decode (ib f_Mod_game) 168 = .ok (.goto (-109), 3) := by decide +kernel
theorem d_Mod_game_171 : decode (ib f_Mod_game) 171 = .ok (.iconst (-1), 1) := by decide +kernel
theorem d_Mod_game_172 : decode (ib f_Mod_game) 172 = .ok (.ireturn, 1) := by decide +kernel
theorem d_Mod_keeps_0 : decode (ib f_Mod_keeps) 0 = .ok (.aload_n 0, 1) := by decide +kernel
theorem d_Mod_keeps_1 : decode (ib f_Mod_keeps) 1 = .ok (.aload_n 0, 1) := by decide +kernel
theorem d_Mod_keeps_2 : decode (ib f_Mod_keeps) 2 = .ok (.getfield 470, 3) := by decide +kernel
theorem d_Mod_keeps_5 : decode (ib f_Mod_keeps) 5 = .ok (.iconst 1, 1) := by decide +kernel
theorem d_Mod_keeps_6 : decode (ib f_Mod_keeps) 6 = .ok (.iadd, 1) := by decide +kernel
theorem d_Mod_keeps_7 : decode (ib f_Mod_keeps) 7 = .ok (.putfield 470, 3) := by decide +kernel
theorem d_Mod_keeps_10 : decode (ib f_Mod_keeps) 10 = .ok (.aload_n 0, 1) := by decide +kernel
theorem d_Mod_keeps_11 : decode (ib f_Mod_keeps) 11 = .ok (.getfield 473, 3) := by decide +kernel
theorem d_Mod_keeps_14 : decode (ib f_Mod_keeps) 14 = .ok (.ifCond .ne 15, 3) := by decide +kernel
theorem d_Mod_keeps_17 : decode (ib f_Mod_keeps) 17 = .ok (.aload_n 0, 1) := by decide +kernel
theorem d_Mod_keeps_18 : decode (ib f_Mod_keeps) 18 = .ok (.getfield 104, 3) := by decide +kernel
theorem d_Mod_keeps_21 : decode (ib f_Mod_keeps) 21 = .ok (.aload_n 0, 1) := by decide +kernel
theorem d_Mod_keeps_22 : decode (ib f_Mod_keeps) 22 = .ok (.getfield 470, 3) := by decide +kernel
theorem d_Mod_keeps_25 : decode (ib f_Mod_keeps) 25 = .ok (.iconst 1, 1) := by decide +kernel
theorem d_Mod_keeps_26 : decode (ib f_Mod_keeps) 26 = .ok (.isub, 1) := by decide +kernel
theorem d_Mod_keeps_27 : decode (ib f_Mod_keeps) 27 = .ok (.iaload, 1) := by decide +kernel
theorem d_Mod_keeps_28 : decode (ib f_Mod_keeps) 28 = .ok (.ireturn, 1) := by decide +kernel
theorem d_Mod_keeps_29 : decode (ib f_Mod_keeps) 29 = .ok (.aload_n 0, 1) := by decide +kernel
theorem d_Mod_keeps_30 : decode (ib f_Mod_keeps) 30 = .ok (.getfield 104, 3) := by decide +kernel
theorem d_Mod_keeps_33 : decode (ib f_Mod_keeps) 33 = .ok (.aload_n 0, 1) := by decide +kernel
theorem d_Mod_keeps_34 : decode (ib f_Mod_keeps) 34 = .ok (.getfield 470, 3) := by decide +kernel
theorem d_Mod_keeps_37 : decode (ib f_Mod_keeps) 37 = .ok (.iconst 1, 1) := by decide +kernel
theorem d_Mod_keeps_38 : decode (ib f_Mod_keeps) 38 = .ok (.isub, 1) := by decide +kernel
theorem d_Mod_keeps_39 : decode (ib f_Mod_keeps) 39 = .ok (.iload_n 1, 1) := by decide +kernel
theorem d_Mod_keeps_40 : decode (ib f_Mod_keeps) 40 = .ok (.iastore, 1) := by decide +kernel
theorem d_Mod_keeps_41 : decode (ib f_Mod_keeps) 41 = .ok (.iload_n 1, 1) := by decide +kernel
theorem d_Mod_keeps_42 : decode (ib f_Mod_keeps) 42 = .ok (.ireturn, 1) := by decide +kernel
theorem d_Mod_keepsLaw_0 : decode (ib f_Mod_keepsLaw) 0 = .ok (.aload_n 0, 1) := by decide +kernel
theorem d_Mod_keepsLaw_1 : decode (ib f_Mod_keepsLaw) 1 = .ok (.getfield 28, 3) := by decide +kernel
theorem d_Mod_keepsLaw_4 : decode (ib f_Mod_keepsLaw) 4 = .ok (.iconst 0, 1) := by decide +kernel
theorem d_Mod_keepsLaw_5 : decode (ib f_Mod_keepsLaw) 5 = .ok (.aload_n 0, 1) := by decide +kernel
theorem d_Mod_keepsLaw_6 : decode (ib f_Mod_keepsLaw) 6 = .ok (.aload_n 0, 1) := by decide +kernel
theorem d_Mod_keepsLaw_7 : decode (ib f_Mod_keepsLaw) 7 = .ok (.getfield 28, 3) := by decide +kernel
theorem d_Mod_keepsLaw_10 : decode (ib f_Mod_keepsLaw) 10 = .ok (.iconst 0, 1) := by decide +kernel
theorem d_Mod_keepsLaw_11 : decode (ib f_Mod_keepsLaw) 11 = .ok (.iaload, 1) := by decide +kernel
theorem d_Mod_keepsLaw_12 : decode (ib f_Mod_keepsLaw) 12 = .ok (.invokevirtual 476, 3) := by decide +kernel
theorem d_Mod_keepsLaw_15 : decode (ib f_Mod_keepsLaw) 15 = .ok (.iastore, 1) := by decide +kernel
theorem d_Mod_keepsLaw_16 : decode (ib f_Mod_keepsLaw) 16 = .ok (.iconst 0, 1) := by decide +kernel
theorem d_Mod_keepsLaw_17 : decode (ib f_Mod_keepsLaw) 17 = .ok (.istore_n 1, 1) := by decide +kernel
theorem d_Mod_keepsLaw_18 : decode (ib f_Mod_keepsLaw) 18 = .ok (.iload_n 1, 1) := by decide +kernel
theorem d_Mod_keepsLaw_19 : decode (ib f_Mod_keepsLaw) 19 = .ok (.bipush 16, 2) := by decide +kernel
theorem d_Mod_keepsLaw_21 : decode (ib f_Mod_keepsLaw) 21 = .ok (.if_icmp .ge 73, 3) := by decide +kernel
theorem d_Mod_keepsLaw_24 : decode (ib f_Mod_keepsLaw) 24 = .ok (.aload_n 0, 1) := by decide +kernel
theorem d_Mod_keepsLaw_25 : decode (ib f_Mod_keepsLaw) 25 = .ok (.getfield 31, 3) := by decide +kernel
theorem d_Mod_keepsLaw_28 : decode (ib f_Mod_keepsLaw) 28 = .ok (.iload_n 1, 1) := by decide +kernel
theorem d_Mod_keepsLaw_29 : decode (ib f_Mod_keepsLaw) 29 = .ok (.aload_n 0, 1) := by decide +kernel
theorem d_Mod_keepsLaw_30 : decode (ib f_Mod_keepsLaw) 30 = .ok (.aload_n 0, 1) := by decide +kernel
theorem d_Mod_keepsLaw_31 : decode (ib f_Mod_keepsLaw) 31 = .ok (.getfield 31, 3) := by decide +kernel
theorem d_Mod_keepsLaw_34 : decode (ib f_Mod_keepsLaw) 34 = .ok (.iload_n 1, 1) := by decide +kernel
theorem d_Mod_keepsLaw_35 : decode (ib f_Mod_keepsLaw) 35 = .ok (.iaload, 1) := by decide +kernel
theorem d_Mod_keepsLaw_36 : decode (ib f_Mod_keepsLaw) 36 = .ok (.invokevirtual 476, 3) := by decide +kernel
theorem d_Mod_keepsLaw_39 : decode (ib f_Mod_keepsLaw) 39 = .ok (.iastore, 1) := by decide +kernel
theorem d_Mod_keepsLaw_40 : decode (ib f_Mod_keepsLaw) 40 = .ok (.aload_n 0, 1) := by decide +kernel
theorem d_Mod_keepsLaw_41 : decode (ib f_Mod_keepsLaw) 41 = .ok (.getfield 34, 3) := by decide +kernel
theorem d_Mod_keepsLaw_44 : decode (ib f_Mod_keepsLaw) 44 = .ok (.iload_n 1, 1) := by decide +kernel
theorem d_Mod_keepsLaw_45 : decode (ib f_Mod_keepsLaw) 45 = .ok (.aload_n 0, 1) := by decide +kernel
theorem d_Mod_keepsLaw_46 : decode (ib f_Mod_keepsLaw) 46 = .ok (.aload_n 0, 1) := by decide +kernel
theorem d_Mod_keepsLaw_47 : decode (ib f_Mod_keepsLaw) 47 = .ok (.getfield 34, 3) := by decide +kernel
theorem d_Mod_keepsLaw_50 : decode (ib f_Mod_keepsLaw) 50 = .ok (.iload_n 1, 1) := by decide +kernel
theorem d_Mod_keepsLaw_51 : decode (ib f_Mod_keepsLaw) 51 = .ok (.iaload, 1) := by decide +kernel
theorem d_Mod_keepsLaw_52 : decode (ib f_Mod_keepsLaw) 52 = .ok (.invokevirtual 476, 3) := by decide +kernel
theorem d_Mod_keepsLaw_55 : decode (ib f_Mod_keepsLaw) 55 = .ok (.iastore, 1) := by decide +kernel
theorem d_Mod_keepsLaw_56 : decode (ib f_Mod_keepsLaw) 56 = .ok (.aload_n 0, 1) := by decide +kernel
theorem d_Mod_keepsLaw_57 : decode (ib f_Mod_keepsLaw) 57 = .ok (.getfield 37, 3) := by decide +kernel
theorem d_Mod_keepsLaw_60 : decode (ib f_Mod_keepsLaw) 60 = .ok (.iload_n 1, 1) := by decide +kernel
theorem d_Mod_keepsLaw_61 : decode (ib f_Mod_keepsLaw) 61 = .ok (.aload_n 0, 1) := by decide +kernel
theorem d_Mod_keepsLaw_62 : decode (ib f_Mod_keepsLaw) 62 = .ok (.aload_n 0, 1) := by decide +kernel
theorem d_Mod_keepsLaw_63 : decode (ib f_Mod_keepsLaw) 63 = .ok (.getfield 37, 3) := by decide +kernel
theorem d_Mod_keepsLaw_66 : decode (ib f_Mod_keepsLaw) 66 = .ok (.iload_n 1, 1) := by decide +kernel
theorem d_Mod_keepsLaw_67 : decode (ib f_Mod_keepsLaw) 67 = .ok (.iaload, 1) := by decide +kernel
theorem d_Mod_keepsLaw_68 : decode (ib f_Mod_keepsLaw) 68 = .ok (.invokevirtual 476, 3) := by decide +kernel
theorem d_Mod_keepsLaw_71 : decode (ib f_Mod_keepsLaw) 71 = .ok (.iastore, 1) := by decide +kernel
theorem d_Mod_keepsLaw_72 : decode (ib f_Mod_keepsLaw) 72 = .ok (.aload_n 0, 1) := by decide +kernel
theorem d_Mod_keepsLaw_73 : decode (ib f_Mod_keepsLaw) 73 = .ok (.getfield 40, 3) := by decide +kernel
theorem d_Mod_keepsLaw_76 : decode (ib f_Mod_keepsLaw) 76 = .ok (.iload_n 1, 1) := by decide +kernel
theorem d_Mod_keepsLaw_77 : decode (ib f_Mod_keepsLaw) 77 = .ok (.aload_n 0, 1) := by decide +kernel
theorem d_Mod_keepsLaw_78 : decode (ib f_Mod_keepsLaw) 78 = .ok (.aload_n 0, 1) := by decide +kernel
theorem d_Mod_keepsLaw_79 : decode (ib f_Mod_keepsLaw) 79 = .ok (.getfield 40, 3) := by decide +kernel
theorem d_Mod_keepsLaw_82 : decode (ib f_Mod_keepsLaw) 82 = .ok (.iload_n 1, 1) := by decide +kernel
theorem d_Mod_keepsLaw_83 : decode (ib f_Mod_keepsLaw) 83 = .ok (.iaload, 1) := by decide +kernel
theorem d_Mod_keepsLaw_84 : decode (ib f_Mod_keepsLaw) 84 = .ok (.invokevirtual 476, 3) := by decide +kernel
theorem d_Mod_keepsLaw_87 : decode (ib f_Mod_keepsLaw) 87 = .ok (.iastore, 1) := by decide +kernel
theorem d_Mod_keepsLaw_88 : decode (ib f_Mod_keepsLaw) 88 = .ok (.iinc 1 1, 3) := by decide +kernel
theorem d_Mod_keepsLaw_91 : decode (ib f_Mod_keepsLaw) 91 = .ok (.goto (-73), 3) := by decide +kernel
theorem d_Mod_keepsLaw_94 : decode (ib f_Mod_keepsLaw) 94 = .ok (.iconst 0, 1) := by decide +kernel
theorem d_Mod_keepsLaw_95 : decode (ib f_Mod_keepsLaw) 95 = .ok (.istore_n 1, 1) := by decide +kernel
theorem d_Mod_keepsLaw_96 : decode (ib f_Mod_keepsLaw) 96 = .ok (.iload_n 1, 1) := by decide +kernel
theorem d_Mod_keepsLaw_97 : decode (ib f_Mod_keepsLaw) 97 = .ok (.sipush 400, 3) := by decide +kernel
theorem d_Mod_keepsLaw_100 : decode (ib f_Mod_keepsLaw) 100 = .ok (.if_icmp .ge 41, 3) := by decide +kernel
theorem d_Mod_keepsLaw_103 : decode (ib f_Mod_keepsLaw) 103 = .ok (.aload_n 0, 1) := by decide +kernel
theorem d_Mod_keepsLaw_104 : decode (ib f_Mod_keepsLaw) 104 = .ok (.getfield 43, 3) := by decide +kernel
theorem d_Mod_keepsLaw_107 : decode (ib f_Mod_keepsLaw) 107 = .ok (.iload_n 1, 1) := by decide +kernel
theorem d_Mod_keepsLaw_108 : decode (ib f_Mod_keepsLaw) 108 = .ok (.aload_n 0, 1) := by decide +kernel
theorem d_Mod_keepsLaw_109 : decode (ib f_Mod_keepsLaw) 109 = .ok (.aload_n 0, 1) := by decide +kernel
theorem d_Mod_keepsLaw_110 : decode (ib f_Mod_keepsLaw) 110 = .ok (.getfield 43, 3) := by decide +kernel
theorem d_Mod_keepsLaw_113 : decode (ib f_Mod_keepsLaw) 113 = .ok (.iload_n 1, 1) := by decide +kernel
theorem d_Mod_keepsLaw_114 : decode (ib f_Mod_keepsLaw) 114 = .ok (.iaload, 1) := by decide +kernel
theorem d_Mod_keepsLaw_115 : decode (ib f_Mod_keepsLaw) 115 = .ok (.invokevirtual 476, 3) := by decide +kernel
theorem d_Mod_keepsLaw_118 : decode (ib f_Mod_keepsLaw) 118 = .ok (.iastore, 1) := by decide +kernel
theorem d_Mod_keepsLaw_119 : decode (ib f_Mod_keepsLaw) 119 = .ok (.aload_n 0, 1) := by decide +kernel
theorem d_Mod_keepsLaw_120 : decode (ib f_Mod_keepsLaw) 120 = .ok (.getfield 46, 3) := by decide +kernel
theorem d_Mod_keepsLaw_123 : decode (ib f_Mod_keepsLaw) 123 = .ok (.iload_n 1, 1) := by decide +kernel
theorem d_Mod_keepsLaw_124 : decode (ib f_Mod_keepsLaw) 124 = .ok (.aload_n 0, 1) := by decide +kernel
theorem d_Mod_keepsLaw_125 : decode (ib f_Mod_keepsLaw) 125 = .ok (.aload_n 0, 1) := by decide +kernel
theorem d_Mod_keepsLaw_126 : decode (ib f_Mod_keepsLaw) 126 = .ok (.getfield 46, 3) := by decide +kernel
theorem d_Mod_keepsLaw_129 : decode (ib f_Mod_keepsLaw) 129 = .ok (.iload_n 1, 1) := by decide +kernel
theorem d_Mod_keepsLaw_130 : decode (ib f_Mod_keepsLaw) 130 = .ok (.iaload, 1) := by decide +kernel
theorem d_Mod_keepsLaw_131 : decode (ib f_Mod_keepsLaw) 131 = .ok (.invokevirtual 476, 3) := by decide +kernel
theorem d_Mod_keepsLaw_134 : decode (ib f_Mod_keepsLaw) 134 = .ok (.iastore, 1) := by decide +kernel
theorem d_Mod_keepsLaw_135 : decode (ib f_Mod_keepsLaw) 135 = .ok (.iinc 1 1, 3) := by decide +kernel
theorem d_Mod_keepsLaw_138 : decode (ib f_Mod_keepsLaw) 138 = .ok (.goto (-42), 3) := by decide +kernel
theorem d_Mod_keepsLaw_141 : decode (ib f_Mod_keepsLaw) 141 = .ok (.return_, 1) := by decide +kernel
theorem d_Mod_keepsTold_0 : decode (ib f_Mod_keepsTold) 0 = .ok (.aload_n 0, 1) := by decide +kernel
theorem d_Mod_keepsTold_1 : decode (ib f_Mod_keepsTold) 1 = .ok (.aload_n 0, 1) := by decide +kernel
theorem d_Mod_keepsTold_2 : decode (ib f_Mod_keepsTold) 2 = .ok (.aload_n 0, 1) := by decide +kernel
theorem d_Mod_keepsTold_3 : decode (ib f_Mod_keepsTold) 3 = .ok (.getfield 282, 3) := by decide +kernel
theorem d_Mod_keepsTold_6 : decode (ib f_Mod_keepsTold) 6 = .ok (.invokevirtual 476, 3) := by decide +kernel
theorem d_Mod_keepsTold_9 : decode (ib f_Mod_keepsTold) 9 = .ok (.putfield 282, 3) := by decide +kernel
theorem d_Mod_keepsTold_12 : decode (ib f_Mod_keepsTold) 12 = .ok (.aload_n 0, 1) := by decide +kernel
theorem d_Mod_keepsTold_13 : decode (ib f_Mod_keepsTold) 13 = .ok (.aload_n 0, 1) := by decide +kernel
theorem d_Mod_keepsTold_14 : decode (ib f_Mod_keepsTold) 14 = .ok (.aload_n 0, 1) := by decide +kernel
theorem d_Mod_keepsTold_15 : decode (ib f_Mod_keepsTold) 15 = .ok (.getfield 285, 3) := by decide +kernel
theorem d_Mod_keepsTold_18 : decode (ib f_Mod_keepsTold) 18 = .ok (.invokevirtual 476, 3) := by decide +kernel
theorem d_Mod_keepsTold_21 : decode (ib f_Mod_keepsTold) 21 = .ok (.putfield 285, 3) := by decide +kernel
theorem d_Mod_keepsTold_24 : decode (ib f_Mod_keepsTold) 24 = .ok (.aload_n 0, 1) := by decide +kernel
theorem d_Mod_keepsTold_25 : decode (ib f_Mod_keepsTold) 25 = .ok (.aload_n 0, 1) := by decide +kernel
theorem d_Mod_keepsTold_26 : decode (ib f_Mod_keepsTold) 26 = .ok (.aload_n 0, 1) := by decide +kernel
theorem d_Mod_keepsTold_27 : decode (ib f_Mod_keepsTold) 27 = .ok (.getfield 279, 3) := by decide +kernel
theorem d_Mod_keepsTold_30 : decode (ib f_Mod_keepsTold) 30 = .ok (.invokevirtual 476, 3) := by decide +kernel
theorem d_Mod_keepsTold_33 : decode (ib f_Mod_keepsTold) 33 = .ok (.putfield 279, 3) := by decide +kernel
theorem d_Mod_keepsTold_36 : decode (ib f_Mod_keepsTold) 36 = .ok (.aload_n 0, 1) := by decide +kernel
theorem d_Mod_keepsTold_37 : decode (ib f_Mod_keepsTold) 37 = .ok (.aload_n 0, 1) := by decide +kernel
theorem d_Mod_keepsTold_38 : decode (ib f_Mod_keepsTold) 38 = .ok (.aload_n 0, 1) := by decide +kernel
theorem d_Mod_keepsTold_39 : decode (ib f_Mod_keepsTold) 39 = .ok (.getfield 404, 3) := by decide +kernel
theorem d_Mod_keepsTold_42 : decode (ib f_Mod_keepsTold) 42 = .ok (.invokevirtual 476, 3) := by decide +kernel
theorem d_Mod_keepsTold_45 : decode (ib f_Mod_keepsTold) 45 = .ok (.putfield 404, 3) := by decide +kernel
theorem d_Mod_keepsTold_48 : decode (ib f_Mod_keepsTold) 48 = .ok (.aload_n 0, 1) := by decide +kernel
theorem d_Mod_keepsTold_49 : decode (ib f_Mod_keepsTold) 49 = .ok (.aload_n 0, 1) := by decide +kernel
theorem d_Mod_keepsTold_50 : decode (ib f_Mod_keepsTold) 50 = .ok (.aload_n 0, 1) := by decide +kernel
theorem d_Mod_keepsTold_51 : decode (ib f_Mod_keepsTold) 51 = .ok (.getfield 419, 3) := by decide +kernel
theorem d_Mod_keepsTold_54 : decode (ib f_Mod_keepsTold) 54 = .ok (.invokevirtual 476, 3) := by decide +kernel
theorem d_Mod_keepsTold_57 : decode (ib f_Mod_keepsTold) 57 = .ok (.putfield 419, 3) := by decide +kernel
theorem d_Mod_keepsTold_60 : decode (ib f_Mod_keepsTold) 60 = .ok (.aload_n 0, 1) := by decide +kernel
theorem d_Mod_keepsTold_61 : decode (ib f_Mod_keepsTold) 61 = .ok (.aload_n 0, 1) := by decide +kernel
theorem d_Mod_keepsTold_62 : decode (ib f_Mod_keepsTold) 62 = .ok (.aload_n 0, 1) := by decide +kernel
theorem d_Mod_keepsTold_63 : decode (ib f_Mod_keepsTold) 63 = .ok (.getfield 441, 3) := by decide +kernel
theorem d_Mod_keepsTold_66 : decode (ib f_Mod_keepsTold) 66 = .ok (.invokevirtual 476, 3) := by decide +kernel
theorem d_Mod_keepsTold_69 : decode (ib f_Mod_keepsTold) 69 = .ok (.putfield 441, 3) := by decide +kernel
theorem d_Mod_keepsTold_72 : decode (ib f_Mod_keepsTold) 72 = .ok (.aload_n 0, 1) := by decide +kernel
theorem d_Mod_keepsTold_73 : decode (ib f_Mod_keepsTold) 73 = .ok (.getfield 89, 3) := by decide +kernel
theorem d_Mod_keepsTold_76 : decode (ib f_Mod_keepsTold) 76 = .ok (.iconst 0, 1) := by decide +kernel
theorem d_Mod_keepsTold_77 : decode (ib f_Mod_keepsTold) 77 = .ok (.aload_n 0, 1) := by decide +kernel
theorem d_Mod_keepsTold_78 : decode (ib f_Mod_keepsTold) 78 = .ok (.aload_n 0, 1) := by decide +kernel
theorem d_Mod_keepsTold_79 : decode (ib f_Mod_keepsTold) 79 = .ok (.getfield 89, 3) := by decide +kernel
theorem d_Mod_keepsTold_82 : decode (ib f_Mod_keepsTold) 82 = .ok (.iconst 0, 1) := by decide +kernel
theorem d_Mod_keepsTold_83 : decode (ib f_Mod_keepsTold) 83 = .ok (.iaload, 1) := by decide +kernel
theorem d_Mod_keepsTold_84 : decode (ib f_Mod_keepsTold) 84 = .ok (.invokevirtual 476, 3) := by decide +kernel
theorem d_Mod_keepsTold_87 : decode (ib f_Mod_keepsTold) 87 = .ok (.iastore, 1) := by decide +kernel
theorem d_Mod_keepsTold_88 : decode (ib f_Mod_keepsTold) 88 = .ok (.aload_n 0, 1) := by decide +kernel
theorem d_Mod_keepsTold_89 : decode (ib f_Mod_keepsTold) 89 = .ok (.getfield 89, 3) := by decide +kernel
theorem d_Mod_keepsTold_92 : decode (ib f_Mod_keepsTold) 92 = .ok (.iconst 1, 1) := by decide +kernel
theorem d_Mod_keepsTold_93 : decode (ib f_Mod_keepsTold) 93 = .ok (.aload_n 0, 1) := by decide +kernel
theorem d_Mod_keepsTold_94 : decode (ib f_Mod_keepsTold) 94 = .ok (.aload_n 0, 1) := by decide +kernel
theorem d_Mod_keepsTold_95 : decode (ib f_Mod_keepsTold) 95 = .ok (.getfield 89, 3) := by decide +kernel
theorem d_Mod_keepsTold_98 : decode (ib f_Mod_keepsTold) 98 = .ok (.iconst 1, 1) := by decide +kernel
theorem d_Mod_keepsTold_99 : decode (ib f_Mod_keepsTold) 99 = .ok (.iaload, 1) := by decide +kernel
theorem d_Mod_keepsTold_100 : decode (ib f_Mod_keepsTold) 100 = .ok (.invokevirtual 476, 3) := by decide +kernel
theorem d_Mod_keepsTold_103 : decode (ib f_Mod_keepsTold) 103 = .ok (.iastore, 1) := by decide +kernel
theorem d_Mod_keepsTold_104 : decode (ib f_Mod_keepsTold) 104 = .ok (.iconst 0, 1) := by decide +kernel
theorem d_Mod_keepsTold_105 : decode (ib f_Mod_keepsTold) 105 = .ok (.istore_n 1, 1) := by decide +kernel
theorem d_Mod_keepsTold_106 : decode (ib f_Mod_keepsTold) 106 = .ok (.iload_n 1, 1) := by decide +kernel
theorem d_Mod_keepsTold_107 : decode (ib f_Mod_keepsTold) 107 = .ok (.bipush 8, 2) := by decide +kernel
theorem d_Mod_keepsTold_109 : decode (ib f_Mod_keepsTold) 109 = .ok (.if_icmp .ge 41, 3) := by decide +kernel
theorem d_Mod_keepsTold_112 : decode (ib f_Mod_keepsTold) 112 = .ok (.aload_n 0, 1) := by decide +kernel
theorem d_Mod_keepsTold_113 : decode (ib f_Mod_keepsTold) 113 = .ok (.getfield 74, 3) := by decide +kernel
theorem d_Mod_keepsTold_116 : decode (ib f_Mod_keepsTold) 116 = .ok (.iload_n 1, 1) := by decide +kernel
theorem d_Mod_keepsTold_117 : decode (ib f_Mod_keepsTold) 117 = .ok (.aload_n 0, 1) := by decide +kernel
theorem d_Mod_keepsTold_118 : decode (ib f_Mod_keepsTold) 118 = .ok (.aload_n 0, 1) := by decide +kernel
theorem d_Mod_keepsTold_119 : decode (ib f_Mod_keepsTold) 119 = .ok (.getfield 74, 3) := by decide +kernel
theorem d_Mod_keepsTold_122 : decode (ib f_Mod_keepsTold) 122 = .ok (.iload_n 1, 1) := by decide +kernel
theorem d_Mod_keepsTold_123 : decode (ib f_Mod_keepsTold) 123 = .ok (.iaload, 1) := by decide +kernel
theorem d_Mod_keepsTold_124 : decode (ib f_Mod_keepsTold) 124 = .ok (.invokevirtual 476, 3) := by decide +kernel
theorem d_Mod_keepsTold_127 : decode (ib f_Mod_keepsTold) 127 = .ok (.iastore, 1) := by decide +kernel
theorem d_Mod_keepsTold_128 : decode (ib f_Mod_keepsTold) 128 = .ok (.aload_n 0, 1) := by decide +kernel
theorem d_Mod_keepsTold_129 : decode (ib f_Mod_keepsTold) 129 = .ok (.getfield 86, 3) := by decide +kernel
theorem d_Mod_keepsTold_132 : decode (ib f_Mod_keepsTold) 132 = .ok (.iload_n 1, 1) := by decide +kernel
theorem d_Mod_keepsTold_133 : decode (ib f_Mod_keepsTold) 133 = .ok (.aload_n 0, 1) := by decide +kernel
theorem d_Mod_keepsTold_134 : decode (ib f_Mod_keepsTold) 134 = .ok (.aload_n 0, 1) := by decide +kernel
theorem d_Mod_keepsTold_135 : decode (ib f_Mod_keepsTold) 135 = .ok (.getfield 86, 3) := by decide +kernel
theorem d_Mod_keepsTold_138 : decode (ib f_Mod_keepsTold) 138 = .ok (.iload_n 1, 1) := by decide +kernel
theorem d_Mod_keepsTold_139 : decode (ib f_Mod_keepsTold) 139 = .ok (.iaload, 1) := by decide +kernel
theorem d_Mod_keepsTold_140 : decode (ib f_Mod_keepsTold) 140 = .ok (.invokevirtual 476, 3) := by decide +kernel
theorem d_Mod_keepsTold_143 : decode (ib f_Mod_keepsTold) 143 = .ok (.iastore, 1) := by decide +kernel
theorem d_Mod_keepsTold_144 : decode (ib f_Mod_keepsTold) 144 = .ok (.iinc 1 1, 3) := by decide +kernel
