theorem d_Rec_legs_18 : decode (ib f_Rec_legs) 18 = .ok (.ireturn, 1) := by decide +kernel
theorem d_Rec_bestWords_0 : decode (ib f_Rec_bestWords) 0 = .ok (.aload_n 0, 1) := by decide +kernel
theorem d_Rec_bestWords_1 : decode (ib f_Rec_bestWords) 1 = .ok (.getfield 12, 3) := by decide +kernel
theorem d_Rec_bestWords_4 : decode (ib f_Rec_bestWords) 4 = .ok (.getfield 170, 3) := by decide +kernel
theorem d_Rec_bestWords_7 : decode (ib f_Rec_bestWords) 7 = .ok (.invokestatic 216, 3) := by decide +kernel
theorem d_Rec_bestWords_10 : decode (ib f_Rec_bestWords) 10 = .ok (.istore_n 2, 1) := by decide +kernel
theorem d_Rec_bestWords_11 : decode (ib f_Rec_bestWords) 11 = .ok (.iconst 0, 1) := by decide +kernel
theorem d_Rec_bestWords_12 : decode (ib f_Rec_bestWords) 12 = .ok (.istore_n 3, 1) := by decide +kernel
theorem d_Rec_bestWords_13 : decode (ib f_Rec_bestWords) 13 = .ok (.iconst 0, 1) := by decide +kernel
theorem d_Rec_bestWords_14 : decode (ib f_Rec_bestWords) 14 = .ok (.istore 4, 2) := by decide +kernel
theorem d_Rec_bestWords_16 : decode (ib f_Rec_bestWords) 16 = .ok (.iconst 1, 1) := by decide +kernel
theorem d_Rec_bestWords_17 : decode (ib f_Rec_bestWords) 17 = .ok (.istore 5, 2) := by decide +kernel
theorem d_Rec_bestWords_19 : decode (ib f_Rec_bestWords) 19 = .ok (.iload 5, 2) := by decide +kernel
theorem d_Rec_bestWords_21 : decode (ib f_Rec_bestWords) 21 = .ok (.iconst 1, 1) := by decide +kernel
theorem d_Rec_bestWords_22 : decode (ib f_Rec_bestWords) 22 = .ok (.aload_n 0, 1) := by decide +kernel
theorem d_Rec_bestWords_23 : decode (ib f_Rec_bestWords) 23 = .ok (.getfield 19, 3) := by decide +kernel
theorem d_Rec_bestWords_26 : decode (ib f_Rec_bestWords) 26 = .ok (.getfield 248, 3) := by decide +kernel
theorem d_Rec_bestWords_29 : decode (ib f_Rec_bestWords) 29 = .ok (.getfield 202, 3) := by decide +kernel
theorem d_Rec_bestWords_32 : decode (ib f_Rec_bestWords) 32 = .ok (.ishl, 1) := by decide +kernel
theorem d_Rec_bestWords_33 : decode (ib f_Rec_bestWords) 33 = .ok (.if_icmp .ge 54, 3) := by decide +kernel
theorem d_Rec_bestWords_36 : decode (ib f_Rec_bestWords) 36 = .ok (.aload_n 0, 1) := by decide +kernel
theorem d_Rec_bestWords_37 : decode (ib f_Rec_bestWords) 37 = .ok (.getfield 19, 3) := by decide +kernel
theorem d_Rec_bestWords_40 : decode (ib f_Rec_bestWords) 40 = .ok (.getfield 248, 3) := by decide +kernel
theorem d_Rec_bestWords_43 : decode (ib f_Rec_bestWords) 43 = .ok (.iload 5, 2) := by decide +kernel
theorem d_Rec_bestWords_45 : decode (ib f_Rec_bestWords) 45 = .ok (.iconst 1, 1) := by decide +kernel
theorem d_Rec_bestWords_46 : decode (ib f_Rec_bestWords) 46 = .ok (.invokevirtual 254, 3) := by decide +kernel
theorem d_Rec_bestWords_49 : decode (ib f_Rec_bestWords) 49 = .ok (.istore 6, 2) := by decide +kernel
theorem d_Rec_bestWords_51 : decode (ib f_Rec_bestWords) 51 = .ok (.iload 6, 2) := by decide +kernel
theorem d_Rec_bestWords_53 : decode (ib f_Rec_bestWords) 53 = .ok (.iload_n 3, 1) := by decide +kernel
theorem d_Rec_bestWords_54 : decode (ib f_Rec_bestWords) 54 = .ok (.if_icmp .le 27, 3) := by decide +kernel
theorem d_Rec_bestWords_57 : decode (ib f_Rec_bestWords) 57 = .ok (.aload_n 0, 1) := by decide +kernel
theorem d_Rec_bestWords_58 : decode (ib f_Rec_bestWords) 58 = .ok (.getfield 19, 3) := by decide +kernel
theorem d_Rec_bestWords_61 : decode (ib f_Rec_bestWords) 61 = .ok (.getfield 248, 3) := by decide +kernel
theorem d_Rec_bestWords_64 : decode (ib f_Rec_bestWords) 64 = .ok (.iload 5, 2) := by decide +kernel
theorem d_Rec_bestWords_66 : decode (ib f_Rec_bestWords) 66 = .ok (.iconst 0, 1) := by decide +kernel
theorem d_Rec_bestWords_67 : decode (ib f_Rec_bestWords) 67 = .ok (.invokevirtual 254, 3) := by decide +kernel
theorem d_Rec_bestWords_70 : decode (ib f_Rec_bestWords) 70 = .ok (.iload_n 2, 1) := by decide +kernel
theorem d_Rec_bestWords_71 : decode (ib f_Rec_bestWords) 71 = .ok (.if_icmp .gt 10, 3) := by decide +kernel
theorem d_Rec_bestWords_74 : decode (ib f_Rec_bestWords) 74 = .ok (.iload 6, 2) := by decide +kernel
theorem d_Rec_bestWords_76 : decode (ib f_Rec_bestWords) 76 = .ok (.istore_n 3, 1) := by decide +kernel
theorem d_Rec_bestWords_77 : decode (ib f_Rec_bestWords) 77 = .ok (.iload 5, 2) := by decide +kernel
theorem d_Rec_bestWords_79 : decode (ib f_Rec_bestWords) 79 = .ok (.istore 4, 2) := by decide +kernel
theorem d_Rec_bestWords_81 : decode (ib f_Rec_bestWords) 81 = .ok (.iinc 5 1, 3) := by decide +kernel
theorem d_Rec_bestWords_84 : decode (ib f_Rec_bestWords) 84 = .ok (.goto (-65), 3) := by decide +kernel
theorem d_Rec_bestWords_87 : decode (ib f_Rec_bestWords) 87 = .ok (.iload_n 1, 1) := by decide +kernel
theorem d_Rec_bestWords_88 : decode (ib f_Rec_bestWords) 88 = .ok (.ifCond .ne 7, 3) := by decide +kernel
theorem d_Rec_bestWords_91 : decode (ib f_Rec_bestWords) 91 = .ok (.iload_n 3, 1) := by decide +kernel
theorem d_Rec_bestWords_92 : decode (ib f_Rec_bestWords) 92 = .ok (.goto 5, 3) := by decide +kernel
theorem d_Rec_bestWords_95 : decode (ib f_Rec_bestWords) 95 = .ok (.iload 4, 2) := by decide +kernel
theorem d_Rec_bestWords_97 : decode (ib f_Rec_bestWords) 97 = .ok (.ireturn, 1) := by decide +kernel
theorem d_Rec_order_0 : decode (ib f_Rec_order) 0 = .ok (.aload_n 0, 1) := by decide +kernel
theorem d_Rec_order_1 : decode (ib f_Rec_order) 1 = .ok (.getfield 64, 3) := by decide +kernel
theorem d_Rec_order_4 : decode (ib f_Rec_order) 4 = .ok (.aload_n 0, 1) := by decide +kernel
theorem d_Rec_order_5 : decode (ib f_Rec_order) 5 = .ok (.getfield 19, 3) := by decide +kernel
theorem d_Rec_order_8 : decode (ib f_Rec_order) 8 = .ok (.getfield 257, 3) := by decide +kernel
theorem d_Rec_order_11 : decode (ib f_Rec_order) 11 = .ok (.invokevirtual 260, 3) := by decide +kernel
theorem d_Rec_order_14 : decode (ib f_Rec_order) 14 = .ok (.iload_n 1, 1) := by decide +kernel
theorem d_Rec_order_15 : decode (ib f_Rec_order) 15 = .ok (.bipush 10, 2) := by decide +kernel
theorem d_Rec_order_17 : decode (ib f_Rec_order) 17 = .ok (.bipush 21, 2) := by decide +kernel
theorem d_Rec_order_19 : decode (ib f_Rec_order) 19 = .ok (.invokestatic 96, 3) := by decide +kernel
theorem d_Rec_order_22 : decode (ib f_Rec_order) 22 = .ok (.ifCond .eq 15, 3) := by decide +kernel
theorem d_Rec_order_25 : decode (ib f_Rec_order) 25 = .ok (.aload_n 0, 1) := by decide +kernel
theorem d_Rec_order_26 : decode (ib f_Rec_order) 26 = .ok (.getfield 64, 3) := by decide +kernel
theorem d_Rec_order_29 : decode (ib f_Rec_order) 29 = .ok (.iload_n 1, 1) := by decide +kernel
theorem d_Rec_order_30 : decode (ib f_Rec_order) 30 = .ok (.bipush 10, 2) := by decide +kernel
theorem d_Rec_order_32 : decode (ib f_Rec_order) 32 = .ok (.isub, 1) := by decide +kernel
theorem d_Rec_order_33 : decode (ib f_Rec_order) 33 = .ok (.invokevirtual 264, 3) := by decide +kernel
theorem d_Rec_order_36 : decode (ib f_Rec_order) 36 = .ok (.ireturn, 1) := by decide +kernel
theorem d_Rec_order_37 : decode (ib f_Rec_order) 37 = .ok (.iload_n 1, 1) := by decide +kernel
theorem d_Rec_order_38 : decode (ib f_Rec_order) 38 = .ok (.bipush 30, 2) := by decide +kernel
theorem d_Rec_order_40 : decode (ib f_Rec_order) 40 = .ok (.bipush 41, 2) := by decide +kernel
theorem d_Rec_order_42 : decode (ib f_Rec_order) 42 = .ok (.invokestatic 96, 3) := by decide +kernel
theorem d_Rec_order_45 : decode (ib f_Rec_order) 45 = .ok (.ifCond .eq 15, 3) := by decide +kernel
theorem d_Rec_order_48 : decode (ib f_Rec_order) 48 = .ok (.aload_n 0, 1) := by decide +kernel
theorem d_Rec_order_49 : decode (ib f_Rec_order) 49 = .ok (.getfield 64, 3) := by decide +kernel
theorem d_Rec_order_52 : decode (ib f_Rec_order) 52 = .ok (.iload_n 1, 1) := by decide +kernel
theorem d_Rec_order_53 : decode (ib f_Rec_order) 53 = .ok (.bipush 30, 2) := by decide +kernel
theorem d_Rec_order_55 : decode (ib f_Rec_order) 55 = .ok (.isub, 1) := by decide +kernel
theorem d_Rec_order_56 : decode (ib f_Rec_order) 56 = .ok (.invokevirtual 267, 3) := by decide +kernel
theorem d_Rec_order_59 : decode (ib f_Rec_order) 59 = .ok (.ireturn, 1) := by decide +kernel
theorem d_Rec_order_60 : decode (ib f_Rec_order) 60 = .ok (.iload_n 1, 1) := by decide +kernel
theorem d_Rec_order_61 : decode (ib f_Rec_order) 61 = .ok (.tableswitch 51 0 2 #[27, 35, 43], 27) := by decide +kernel
theorem d_Rec_order_88 : decode (ib f_Rec_order) 88 = .ok (.aload_n 0, 1) := by decide +kernel
theorem d_Rec_order_89 : decode (ib f_Rec_order) 89 = .ok (.getfield 64, 3) := by decide +kernel
theorem d_Rec_order_92 : decode (ib f_Rec_order) 92 = .ok (.invokevirtual 270, 3) := by decide +kernel
theorem d_Rec_order_95 : decode (ib f_Rec_order) 95 = .ok (.ireturn, 1) := by decide +kernel
theorem d_Rec_order_96 : decode (ib f_Rec_order) 96 = .ok (.aload_n 0, 1) := by decide +kernel
theorem d_Rec_order_97 : decode (ib f_Rec_order) 97 = .ok (.getfield 64, 3) := by decide +kernel
theorem d_Rec_order_100 : decode (ib f_Rec_order) 100 = .ok (.invokevirtual 274, 3) := by decide +kernel
theorem d_Rec_order_103 : decode (ib f_Rec_order) 103 = .ok (.ireturn, 1) := by decide +kernel
theorem d_Rec_order_104 : decode (ib f_Rec_order) 104 = .ok (.aload_n 0, 1) := by decide +kernel
theorem d_Rec_order_105 : decode (ib f_Rec_order) 105 = .ok (.getfield 64, 3) := by decide +kernel
theorem d_Rec_order_108 : decode (ib f_Rec_order) 108 = .ok (.invokevirtual 277, 3) := by decide +kernel
theorem d_Rec_order_111 : decode (ib f_Rec_order) 111 = .ok (.ireturn, 1) := by decide +kernel
theorem d_Rec_order_112 : decode (ib f_Rec_order) 112 = .ok (.iconst (-1), 1) := by decide +kernel
theorem d_Rec_order_113 : decode (ib f_Rec_order) 113 = .ok (.ireturn, 1) := by decide +kernel
theorem d_Rec_sight_0 : decode (ib f_Rec_sight) 0 = .ok (.aload_n 0, 1) := by decide +kernel
theorem d_Rec_sight_1 : decode (ib f_Rec_sight) 1 = .ok (.getfield 19, 3) := by decide +kernel
theorem d_Rec_sight_4 : decode (ib f_Rec_sight) 4 = .ok (.getfield 280, 3) := by decide +kernel
theorem d_Rec_sight_7 : decode (ib f_Rec_sight) 7 = .ok (.iload_n 1, 1) := by decide +kernel
theorem d_Rec_sight_8 : decode (ib f_Rec_sight) 8 = .ok (.iconst 0, 1) := by decide +kernel
theorem d_Rec_sight_9 : decode (ib f_Rec_sight) 9 = .ok (.iload_n 1, 1) := by decide +kernel
theorem d_Rec_sight_10 : decode (ib f_Rec_sight) 10 = .ok (.iconst (-1), 1) := by decide +kernel
theorem d_Rec_sight_11 : decode (ib f_Rec_sight) 11 = .ok (.if_icmp .ne 7, 3) := by decide +kernel
theorem d_Rec_sight_14 : decode (ib f_Rec_sight) 14 = .ok (.iconst 1, 1) := by decide +kernel
theorem d_Rec_sight_15 : decode (ib f_Rec_sight) 15 = .ok (.goto 4, 3) := by decide +kernel
theorem d_Rec_sight_18 : decode (ib f_Rec_sight) 18 = .ok (.iconst 0, 1) := by decide +kernel
theorem d_Rec_sight_19 : decode (ib f_Rec_sight) 19 = .ok (.iload_n 1, 1) := by decide +kernel
theorem d_Rec_sight_20 : decode (ib f_Rec_sight) 20 = .ok (.iconst 0, 1) := by decide +kernel
theorem d_Rec_sight_21 : decode (ib f_Rec_sight) 21 = .ok (.sipush 4095, 3) := by decide +kernel
theorem d_Rec_sight_24 : decode (ib f_Rec_sight) 24 = .ok (.invokestatic 96, 3) := by decide +kernel
theorem d_Rec_sight_27 : decode (ib f_Rec_sight) 27 = .ok (.invokestatic 233, 3) := by decide +kernel
theorem d_Rec_sight_30 : decode (ib f_Rec_sight) 30 = .ok (.ireturn, 1) := by decide +kernel
theorem d_Rec_cover_0 : decode (ib f_Rec_cover) 0 = .ok (.iload_n 1, 1) := by decide +kernel
theorem d_Rec_cover_1 : decode (ib f_Rec_cover) 1 = .ok (.iconst 0, 1) := by decide +kernel
theorem d_Rec_cover_2 : decode (ib f_Rec_cover) 2 = .ok (.iconst 1, 1) := by decide +kernel
theorem d_Rec_cover_3 : decode (ib f_Rec_cover) 3 = .ok (.invokestatic 96, 3) := by decide +kernel
theorem d_Rec_cover_6 : decode (ib f_Rec_cover) 6 = .ok (.ifCond .eq 11, 3) := by decide +kernel
theorem d_Rec_cover_9 : decode (ib f_Rec_cover) 9 = .ok (.aload_n 0, 1) := by decide +kernel
theorem d_Rec_cover_10 : decode (ib f_Rec_cover) 10 = .ok (.iload_n 1, 1) := by decide +kernel
theorem d_Rec_cover_11 : decode (ib f_Rec_cover) 11 = .ok (.invokevirtual 283, 3) := by decide +kernel
theorem d_Rec_cover_14 : decode (ib f_Rec_cover) 14 = .ok (.goto 4, 3) := by decide +kernel
theorem d_Rec_cover_17 : decode (ib f_Rec_cover) 17 = .ok (.iconst (-1), 1) := by decide +kernel
theorem d_Rec_cover_18 : decode (ib f_Rec_cover) 18 = .ok (.ireturn, 1) := by decide +kernel
theorem d_Rec_fewestLooks_0 : decode (ib f_Rec_fewestLooks) 0 = .ok (.aload_n 0, 1) := by decide +kernel
theorem d_Rec_fewestLooks_1 : decode (ib f_Rec_fewestLooks) 1 = .ok (.getfield 19, 3) := by decide +kernel
theorem d_Rec_fewestLooks_4 : decode (ib f_Rec_fewestLooks) 4 = .ok (.getfield 280, 3) := by decide +kernel
theorem d_Rec_fewestLooks_7 : decode (ib f_Rec_fewestLooks) 7 = .ok (.iconst 1, 1) := by decide +kernel
theorem d_Rec_fewestLooks_8 : decode (ib f_Rec_fewestLooks) 8 = .ok (.aload_n 0, 1) := by decide +kernel
theorem d_Rec_fewestLooks_9 : decode (ib f_Rec_fewestLooks) 9 = .ok (.getfield 19, 3) := by decide +kernel
theorem d_Rec_fewestLooks_12 : decode (ib f_Rec_fewestLooks) 12 = .ok (.getfield 280, 3) := by decide +kernel
theorem d_Rec_fewestLooks_15 : decode (ib f_Rec_fewestLooks) 15 = .ok (.getfield 202, 3) := by decide +kernel
theorem d_Rec_fewestLooks_18 : decode (ib f_Rec_fewestLooks) 18 = .ok (.ishl, 1) := by decide +kernel
theorem d_Rec_fewestLooks_19 : decode (ib f_Rec_fewestLooks) 19 = .ok (.iconst 1, 1) := by decide +kernel
theorem d_Rec_fewestLooks_20 : decode (ib f_Rec_fewestLooks) 20 = .ok (.isub, 1) := by decide +kernel
theorem d_Rec_fewestLooks_21 : decode (ib f_Rec_fewestLooks) 21 = .ok (.invokevirtual 286, 3) := by decide +kernel
theorem d_Rec_fewestLooks_24 : decode (ib f_Rec_fewestLooks) 24 = .ok (.istore_n 2, 1) := by decide +kernel
theorem d_Rec_fewestLooks_25 : decode (ib f_Rec_fewestLooks) 25 = .ok (.bipush 9, 2) := by decide +kernel
theorem d_Rec_fewestLooks_27 : decode (ib f_Rec_fewestLooks) 27 = .ok (.istore_n 3, 1) := by decide +kernel
theorem d_Rec_fewestLooks_28 : decode (ib f_Rec_fewestLooks) 28 = .ok (.iconst 0, 1) := by decide +kernel
theorem d_Rec_fewestLooks_29 : decode (ib f_Rec_fewestLooks) 29 = .ok (.istore 4, 2) := by decide +kernel
theorem d_Rec_fewestLooks_31 : decode (ib f_Rec_fewestLooks) 31 = .ok (.iconst 0, 1) := by decide +kernel
theorem d_Rec_fewestLooks_32 : decode (ib f_Rec_fewestLooks) 32 = .ok (.istore 5, 2) := by decide +kernel
theorem d_Rec_fewestLooks_34 : decode (ib f_Rec_fewestLooks) 34 = .ok (.iload 5, 2) := by decide +kernel
theorem d_Rec_fewestLooks_36 : decode (ib f_Rec_fewestLooks) 36 = .ok (.iconst 1, 1) := by decide +kernel
theorem d_Rec_fewestLooks_37 : decode (ib f_Rec_fewestLooks) 37 = .ok (.aload_n 0, 1) := by decide +kernel
theorem d_Rec_fewestLooks_38 : decode (ib f_Rec_fewestLooks) 38 = .ok (.getfield 19, 3) := by decide +kernel
theorem d_Rec_fewestLooks_41 : decode (ib f_Rec_fewestLooks) 41 = .ok (.getfield 280, 3) := by decide +kernel
theorem d_Rec_fewestLooks_44 : decode (ib f_Rec_fewestLooks) 44 = .ok (.getfield 202, 3) := by decide +kernel
theorem d_Rec_fewestLooks_47 : decode (ib f_Rec_fewestLooks) 47 = .ok (.ishl, 1) := by decide +kernel
theorem d_Rec_fewestLooks_48 : decode (ib f_Rec_fewestLooks) 48 = .ok (.if_icmp .ge 44, 3) := by decide +kernel
theorem d_Rec_fewestLooks_51 : decode (ib f_Rec_fewestLooks) 51 = .ok (.iload 5, 2) := by decide +kernel
theorem d_Rec_fewestLooks_53 : decode (ib f_Rec_fewestLooks) 53 = .ok (.invokestatic 289, 3) := by decide +kernel
theorem d_Rec_fewestLooks_56 : decode (ib f_Rec_fewestLooks) 56 = .ok (.iload_n 3, 1) := by decide +kernel
theorem d_Rec_fewestLooks_57 : decode (ib f_Rec_fewestLooks) 57 = .ok (.if_icmp .ge 29, 3) := by decide +kernel
theorem d_Rec_fewestLooks_60 : decode (ib f_Rec_fewestLooks) 60 = .ok (.aload_n 0, 1) := by decide +kernel
theorem d_Rec_fewestLooks_61 : decode (ib f_Rec_fewestLooks) 61 = .ok (.getfield 19, 3) := by decide +kernel
theorem d_Rec_fewestLooks_64 : decode (ib f_Rec_fewestLooks) 64 = .ok (.getfield 280, 3) := by decide +kernel
theorem d_Rec_fewestLooks_67 : decode (ib f_Rec_fewestLooks) 67 = .ok (.iload 5, 2) := by decide +kernel
theorem d_Rec_fewestLooks_69 : decode (ib f_Rec_fewestLooks) 69 = .ok (.invokevirtual 286, 3) := by decide +kernel
theorem d_Rec_fewestLooks_72 : decode (ib f_Rec_fewestLooks) 72 = .ok (.iload_n 2, 1) := by decide +kernel
theorem d_Rec_fewestLooks_73 : decode (ib f_Rec_fewestLooks) 73 = .ok (.if_icmp .ne 13, 3) := by decide +kernel
theorem d_Rec_fewestLooks_76 : decode (ib f_Rec_fewestLooks) 76 = .ok (.iload 5, 2) := by decide +kernel
theorem d_Rec_fewestLooks_78 : decode (ib f_Rec_fewestLooks) 78 = .ok (.invokestatic 289, 3) := by decide +kernel
theorem d_Rec_fewestLooks_81 : decode (ib f_Rec_fewestLooks) 81 = .ok (.istore_n 3, 1) := by decide +kernel
theorem d_Rec_fewestLooks_82 : decode (ib f_Rec_fewestLooks) 82 = .ok (.iload 5, 2) := by decide +kernel
theorem d_Rec_fewestLooks_84 : decode (ib f_Rec_fewestLooks) 84 = .ok (.istore 4, 2) := by decide +kernel
theorem d_Rec_fewestLooks_86 : decode (ib f_Rec_fewestLooks) 86 = .ok (.iinc 5 1, 3) := by decide +kernel
theorem d_Rec_fewestLooks_89 : decode (ib f_Rec_fewestLooks) 89 = .ok (.goto (-55), 3) := by decide +kernel
theorem d_Rec_fewestLooks_92 : decode (ib f_Rec_fewestLooks) 92 = .ok (.iload_n 1, 1) := by decide +kernel
theorem d_Rec_fewestLooks_93 : decode (ib f_Rec_fewestLooks) 93 = .ok (.ifCond .ne 7, 3) := by decide +kernel
theorem d_Rec_fewestLooks_96 : decode (ib f_Rec_fewestLooks) 96 = .ok (.iload_n 3, 1) := by decide +kernel
theorem d_Rec_fewestLooks_97 : decode (ib f_Rec_fewestLooks) 97 = .ok (.goto 5, 3) := by decide +kernel
theorem d_Rec_fewestLooks_100 : decode (ib f_Rec_fewestLooks) 100 = .ok (.iload 4, 2) := by decide +kernel
theorem d_Rec_fewestLooks_102 : decode (ib f_Rec_fewestLooks) 102 = .ok (.ireturn, 1) := by decide +kernel
theorem d_Rec_vein_0 : decode (ib f_Rec_vein) 0 = .ok (.iload_n 1, 1) := by decide +kernel
theorem d_Rec_vein_1 : decode (ib f_Rec_vein) 1 = .ok (.iconst 0, 1) := by decide +kernel
theorem d_Rec_vein_2 : decode (ib f_Rec_vein) 2 = .ok (.iconst 1, 1) := by decide +kernel
theorem d_Rec_vein_3 : decode (ib f_Rec_vein) 3 = .ok (.invokestatic 96, 3) := by decide +kernel
theorem d_Rec_vein_6 : decode (ib f_Rec_vein) 6 = .ok (.ifCond .ne 5, 3) := by decide +kernel
theorem d_Rec_vein_9 : decode (ib f_Rec_vein) 9 = .ok (.iconst (-1), 1) := by decide +kernel
theorem d_Rec_vein_10 : decode (ib f_Rec_vein) 10 = .ok (.ireturn, 1) := by decide +kernel
theorem d_Rec_vein_11 : decode (ib f_Rec_vein) 11 = .ok (.iload_n 2, 1) := by decide +kernel
theorem d_Rec_vein_12 : decode (ib f_Rec_vein) 12 = .ok (.iconst 0, 1) := by decide +kernel
theorem d_Rec_vein_13 : decode (ib f_Rec_vein) 13 = .ok (.bipush 7, 2) := by decide +kernel
theorem d_Rec_vein_15 : decode (ib f_Rec_vein) 15 = .ok (.invokestatic 96, 3) := by decide +kernel
theorem d_Rec_vein_18 : decode (ib f_Rec_vein) 18 = .ok (.ifCond .eq 22, 3) := by decide +kernel
theorem d_Rec_vein_21 : decode (ib f_Rec_vein) 21 = .ok (.iload_n 3, 1) := by decide +kernel
theorem d_Rec_vein_22 : decode (ib f_Rec_vein) 22 = .ok (.iconst 0, 1) := by decide +kernel
theorem d_Rec_vein_23 : decode (ib f_Rec_vein) 23 = .ok (.bipush 7, 2) := by decide +kernel
theorem d_Rec_vein_25 : decode (ib f_Rec_vein) 25 = .ok (.invokestatic 96, 3) := by decide +kernel
theorem d_Rec_vein_28 : decode (ib f_Rec_vein) 28 = .ok (.ifCond .eq 12, 3) := by decide +kernel
theorem d_Rec_vein_31 : decode (ib f_Rec_vein) 31 = .ok (.iload_n 2, 1) := by decide +kernel
theorem d_Rec_vein_32 : decode (ib f_Rec_vein) 32 = .ok (.iload_n 3, 1) := by decide +kernel
theorem d_Rec_vein_33 : decode (ib f_Rec_vein) 33 = .ok (.if_icmp .eq 7, 3) := by decide +kernel
theorem d_Rec_vein_36 : decode (ib f_Rec_vein) 36 = .ok (.iconst 1, 1) := by decide +kernel
theorem d_Rec_vein_37 : decode (ib f_Rec_vein) 37 = .ok (.goto 4, 3) := by decide +kernel
theorem d_Rec_vein_40 : decode (ib f_Rec_vein) 40 = .ok (.iconst 0, 1) := by decide +kernel
theorem d_Rec_vein_41 : decode (ib f_Rec_vein) 41 = .ok (.istore 4, 2) := by decide +kernel
theorem d_Rec_vein_43 : decode (ib f_Rec_vein) 43 = .ok (.iload_n 1, 1) := by decide +kernel
theorem d_Rec_vein_44 : decode (ib f_Rec_vein) 44 = .ok (.ifCond .ne 13, 3) := by decide +kernel
theorem d_Rec_vein_47 : decode (ib f_Rec_vein) 47 = .ok (.aload_n 0, 1) := by decide +kernel
theorem d_Rec_vein_48 : decode (ib f_Rec_vein) 48 = .ok (.getfield 19, 3) := by decide +kernel
theorem d_Rec_vein_51 : decode (ib f_Rec_vein) 51 = .ok (.getfield 294, 3) := by decide +kernel
theorem d_Rec_vein_54 : decode (ib f_Rec_vein) 54 = .ok (.goto 10, 3) := by decide +kernel
theorem d_Rec_vein_57 : decode (ib f_Rec_vein) 57 = .ok (.aload_n 0, 1) := by decide +kernel
theorem d_Rec_vein_58 : decode (ib f_Rec_vein) 58 = .ok (.getfield 19, 3) := by decide +kernel
theorem d_Rec_vein_61 : decode (ib f_Rec_vein) 61 = .ok (.getfield 297, 3) := by decide +kernel
theorem d_Rec_vein_64 : decode (ib f_Rec_vein) 64 = .ok (.iload_n 2, 1) := by decide +kernel
theorem d_Rec_vein_65 : decode (ib f_Rec_vein) 65 = .ok (.iload_n 3, 1) := by decide +kernel
theorem d_Rec_vein_66 : decode (ib f_Rec_vein) 66 = .ok (.iload_n 2, 1) := by decide +kernel
theorem d_Rec_vein_67 : decode (ib f_Rec_vein) 67 = .ok (.iconst (-1), 1) := by decide +kernel
theorem d_Rec_vein_68 : decode (ib f_Rec_vein) 68 = .ok (.if_icmp .ne 7, 3) := by decide +kernel
theorem d_Rec_vein_71 : decode (ib f_Rec_vein) 71 = .ok (.iconst 1, 1) := by decide +kernel
theorem d_Rec_vein_72 : decode (ib f_Rec_vein) 72 = .ok (.goto 4, 3) := by decide +kernel
theorem d_Rec_vein_75 : decode (ib f_Rec_vein) 75 = .ok (.iconst 0, 1) := by decide +kernel
theorem d_Rec_vein_76 : decode (ib f_Rec_vein) 76 = .ok (.iload 4, 2) := by decide +kernel
theorem d_Rec_vein_78 : decode (ib f_Rec_vein) 78 = .ok (.invokestatic 233, 3) := by decide +kernel
theorem d_Rec_vein_81 : decode (ib f_Rec_vein) 81 = .ok (.ireturn, 1) := by decide +kernel
theorem d_Rec_wings_0 : decode (ib f_Rec_wings) 0 = .ok (.iload_n 1, 1) := by decide +kernel
theorem d_Rec_wings_1 : decode (ib f_Rec_wings) 1 = .ok (.iconst 0, 1) := by decide +kernel
theorem d_Rec_wings_2 : decode (ib f_Rec_wings) 2 = .ok (.iconst 1, 1) := by decide +kernel
theorem d_Rec_wings_3 : decode (ib f_Rec_wings) 3 = .ok (.invokestatic 96, 3) := by decide +kernel
theorem d_Rec_wings_6 : decode (ib f_Rec_wings) 6 = .ok (.ifCond .ne 5, 3) := by decide +kernel
theorem d_Rec_wings_9 : decode (ib f_Rec_wings) 9 = .ok (.iconst (-1), 1) := by decide +kernel
theorem d_Rec_wings_10 : decode (ib f_Rec_wings) 10 = .ok (.ireturn, 1) := by decide +kernel
theorem d_Rec_wings_11 : decode (ib f_Rec_wings) 11 = .ok (.aload_n 0, 1) := by decide +kernel
theorem d_Rec_wings_12 : decode (ib f_Rec_wings) 12 = .ok (.getfield 71, 3) := by decide +kernel
theorem d_Rec_wings_15 : decode (ib f_Rec_wings) 15 = .ok (.aload_n 0, 1) := by decide +kernel
theorem d_Rec_wings_16 : decode (ib f_Rec_wings) 16 = .ok (.getfield 19, 3) := by decide +kernel
theorem d_Rec_wings_19 : decode (ib f_Rec_wings) 19 = .ok (.getfield 294, 3) := by decide +kernel
theorem d_Rec_wings_22 : decode (ib f_Rec_wings) 22 = .ok (.aload_n 0, 1) := by decide +kernel
theorem d_Rec_wings_23 : decode (ib f_Rec_wings) 23 = .ok (.getfield 19, 3) := by decide +kernel
theorem d_Rec_wings_26 : decode (ib f_Rec_wings) 26 = .ok (.getfield 297, 3) := by decide +kernel
theorem d_Rec_wings_29 : decode (ib f_Rec_wings) 29 = .ok (.invokevirtual 300, 3) := by decide +kernel
theorem d_Rec_wings_32 : decode (ib f_Rec_wings) 32 = .ok (.istore_n 2, 1) := by decide +kernel
theorem d_Rec_wings_33 : decode (ib f_Rec_wings) 33 = .ok (.iload_n 1, 1) := by decide +kernel
theorem d_Rec_wings_34 : decode (ib f_Rec_wings) 34 = .ok (.iconst 1, 1) := by decide +kernel
theorem d_Rec_wings_35 : decode (ib f_Rec_wings) 35 = .ok (.if_icmp .ne 7, 3) := by decide +kernel
theorem d_Rec_wings_38 : decode (ib f_Rec_wings) 38 = .ok (.iload_n 2, 1) := by decide +kernel
theorem d_Rec_wings_39 : decode (ib f_Rec_wings) 39 = .ok (.goto 12, 3) := by decide +kernel
theorem d_Rec_wings_42 : decode (ib f_Rec_wings) 42 = .ok (.iload_n 2, 1) := by decide +kernel
theorem d_Rec_wings_43 : decode (ib f_Rec_wings) 43 = .ok (.ifCond .le 7, 3) := by decide +kernel
theorem d_Rec_wings_46 : decode (ib f_Rec_wings) 46 = .ok (.iconst 1, 1) := by decide +kernel
theorem d_Rec_wings_47 : decode (ib f_Rec_wings) 47 = .ok (.goto 4, 3) := by decide +kernel
theorem d_Rec_wings_50 : decode (ib f_Rec_wings) 50 = .ok (.iconst 0, 1) := by decide +kernel
theorem d_Rec_wings_51 : decode (ib f_Rec_wings) 51 = .ok (.ireturn, 1) := by decide +kernel
theorem d_Rec_weekday_0 : decode (ib f_Rec_weekday) 0 = .ok (.iload_n 1, 1) := by decide +kernel
theorem d_Rec_weekday_1 : decode (ib f_Rec_weekday) 1 = .ok (.invokestatic 304, 3) := by decide +kernel
theorem d_Rec_weekday_4 : decode (ib f_Rec_weekday) 4 = .ok (.istore_n 2, 1) := by decide +kernel
theorem d_Rec_weekday_5 : decode (ib f_Rec_weekday) 5 = .ok (.iload_n 2, 1) := by decide +kernel
theorem d_Rec_weekday_6 : decode (ib f_Rec_weekday) 6 = .ok (.iconst (-1), 1) := by decide +kernel
theorem d_Rec_weekday_7 : decode (ib f_Rec_weekday) 7 = .ok (.if_icmp .ne 7, 3) := by decide +kernel
theorem d_Rec_weekday_10 : decode (ib f_Rec_weekday) 10 = .ok (.iconst (-1), 1) := by decide +kernel
theorem d_Rec_weekday_11 : decode (ib f_Rec_weekday) 11 = .ok (.goto 7, 3) := by decide +kernel
theorem d_Rec_weekday_14 : decode (ib f_Rec_weekday) 14 = .ok (.iload_n 2, 1) := by decide +kernel
theorem d_Rec_weekday_15 : decode (ib f_Rec_weekday) 15 = .ok (.bipush 7, 2) := by decide +kernel
theorem d_Rec_weekday_17 : decode (ib f_Rec_weekday) 17 = .ok (.irem, 1) := by decide +kernel
theorem d_Rec_weekday_18 : decode (ib f_Rec_weekday) 18 = .ok (.ireturn, 1) := by decide +kernel
theorem d_Rec_between_0 : decode (ib f_Rec_between) 0 = .ok (.iload_n 1, 1) := by decide +kernel
theorem d_Rec_between_1 : decode (ib f_Rec_between) 1 = .ok (.invokestatic 304, 3) := by decide +kernel
theorem d_Rec_between_4 : decode (ib f_Rec_between) 4 = .ok (.istore_n 3, 1) := by decide +kernel
theorem d_Rec_between_5 : decode (ib f_Rec_between) 5 = .ok (.iload_n 2, 1) := by decide +kernel
theorem d_Rec_between_6 : decode (ib f_Rec_between) 6 = .ok (.invokestatic 304, 3) := by decide +kernel
theorem d_Rec_between_9 : decode (ib f_Rec_between) 9 = .ok (.istore 4, 2) := by decide +kernel
theorem d_Rec_between_11 : decode (ib f_Rec_between) 11 = .ok (.iload_n 3, 1) := by decide +kernel
theorem d_Rec_between_12 : decode (ib f_Rec_between) 12 = .ok (.iconst (-1), 1) := by decide +kernel
theorem d_Rec_between_13 : decode (ib f_Rec_between) 13 = .ok (.if_icmp .eq 9, 3) := by decide +kernel
theorem d_Rec_between_16 : decode (ib f_Rec_between) 16 = .ok (.iload 4, 2) := by decide +kernel
theorem d_Rec_between_18 : decode (ib f_Rec_between) 18 = .ok (.iconst (-1), 1) := by decide +kernel
theorem d_Rec_between_19 : decode (ib f_Rec_between) 19 = .ok (.if_icmp .ne 9, 3) := by decide +kernel
theorem d_Rec_between_22 : decode (ib f_Rec_between) 22 = .ok (.ldc_w 309, 3) := by decide +kernel
theorem d_Rec_between_25 : decode (ib f_Rec_between) 25 = .ok (.goto 7, 3) := by decide +kernel
theorem d_Rec_between_28 : decode (ib f_Rec_between) 28 = .ok (.iload 4, 2) := by decide +kernel
theorem d_Rec_between_30 : decode (ib f_Rec_between) 30 = .ok (.iload_n 3, 1) := by decide +kernel
theorem d_Rec_between_31 : decode (ib f_Rec_between) 31 = .ok (.isub, 1) := by decide +kernel
theorem d_Rec_between_32 : decode (ib f_Rec_between) 32 = .ok (.ireturn, 1) := by decide +kernel
theorem d_Rec_leans_0 : decode (ib f_Rec_leans) 0 = .ok (.aload_n 0, 1) := by decide +kernel
theorem d_Rec_leans_1 : decode (ib f_Rec_leans) 1 = .ok (.getfield 12, 3) := by decide +kernel
theorem d_Rec_leans_4 : decode (ib f_Rec_leans) 4 = .ok (.iload_n 1, 1) := by decide +kernel
theorem d_Rec_leans_5 : decode (ib f_Rec_leans) 5 = .ok (.invokevirtual 88, 3) := by decide +kernel
theorem d_Rec_leans_8 : decode (ib f_Rec_leans) 8 = .ok (.astore_n 2, 1) := by decide +kernel
theorem d_Rec_leans_9 : decode (ib f_Rec_leans) 9 = .ok (.aload_n 2, 1) := by decide +kernel
theorem d_Rec_leans_10 : decode (ib f_Rec_leans) 10 = .ok (.ifnonnull 9, 3) := by decide +kernel
theorem d_Rec_leans_13 : decode (ib f_Rec_leans) 13 = .ok (.sipush (-1000), 3) := by decide +kernel
theorem d_Rec_leans_16 : decode (ib f_Rec_leans) 16 = .ok (.goto 18, 3) := by decide +kernel
theorem d_Rec_leans_19 : decode (ib f_Rec_leans) 19 = .ok (.aload_n 0, 1) := by decide +kernel
theorem d_Rec_leans_20 : decode (ib f_Rec_leans) 20 = .ok (.getfield 57, 3) := by decide +kernel
theorem d_Rec_leans_23 : decode (ib f_Rec_leans) 23 = .ok (.aload_n 0, 1) := by decide +kernel
theorem d_Rec_leans_24 : decode (ib f_Rec_leans) 24 = .ok (.getfield 12, 3) := by decide +kernel
theorem d_Rec_leans_27 : decode (ib f_Rec_leans) 27 = .ok (.aload_n 2, 1) := by decide +kernel
theorem d_Rec_leans_28 : decode (ib f_Rec_leans) 28 = .ok (.getfield 179, 3) := by decide +kernel
theorem d_Rec_leans_31 : decode (ib f_Rec_leans) 31 = .ok (.invokevirtual 310, 3) := by decide +kernel
theorem d_Rec_leans_34 : decode (ib f_Rec_leans) 34 = .ok (.ireturn, 1) := by decide +kernel
theorem d_Rec_go_0 : decode (ib f_Rec_go) 0 = .ok (.iload_n 1, 1) := by decide +kernel
theorem d_Rec_go_1 : decode (ib f_Rec_go) 1 = .ok (.iconst (-1), 1) := by decide +kernel
theorem d_Rec_go_2 : decode (ib f_Rec_go) 2 = .ok (.if_icmp .ne 8, 3) := by decide +kernel
theorem d_Rec_go_5 : decode (ib f_Rec_go) 5 = .ok (.aload_n 0, 1) := by decide +kernel
theorem d_Rec_go_6 : decode (ib f_Rec_go) 6 = .ok (.invokevirtual 313, 3) := by decide +kernel
theorem d_Rec_go_9 : decode (ib f_Rec_go) 9 = .ok (.ireturn, 1) := by decide +kernel
theorem d_Rec_go_10 : decode (ib f_Rec_go) 10 = .ok (.iload_n 1, 1) := by decide +kernel
theorem d_Rec_go_11 : decode (ib f_Rec_go) 11 = .ok (.iconst 0, 1) := by decide +kernel
theorem d_Rec_go_12 : decode (ib f_Rec_go) 12 = .ok (.bipush 9, 2) := by decide +kernel
theorem d_Rec_go_14 : decode (ib f_Rec_go) 14 = .ok (.invokestatic 96, 3) := by decide +kernel
theorem d_Rec_go_17 : decode (ib f_Rec_go) 17 = .ok (.ifCond .eq 11, 3) := by decide +kernel
theorem d_Rec_go_20 : decode (ib f_Rec_go) 20 = .ok (.aload_n 0, 1) := by decide +kernel
theorem d_Rec_go_21 : decode (ib f_Rec_go) 21 = .ok (.iload_n 1, 1) := by decide +kernel
theorem d_Rec_go_22 : decode (ib f_Rec_go) 22 = .ok (.invokevirtual 316, 3) := by decide +kernel
theorem d_Rec_go_25 : decode (ib f_Rec_go) 25 = .ok (.goto 4, 3) := by decide +kernel
theorem d_Rec_go_28 : decode (ib f_Rec_go) 28 = .ok (.iconst (-1), 1) := by decide +kernel
theorem d_Rec_go_29 : decode (ib f_Rec_go) 29 = .ok (.ireturn, 1) := by decide +kernel
theorem d_Rec_leastWind_0 : decode (ib f_Rec_leastWind) 0 = .ok (.iconst 0, 1) := by decide +kernel
theorem d_Rec_leastWind_1 : decode (ib f_Rec_leastWind) 1 = .ok (.istore_n 1, 1) := by decide +kernel
theorem d_Rec_leastWind_2 : decode (ib f_Rec_leastWind) 2 = .ok (.iload_n 1, 1) := by decide +kernel
theorem d_Rec_leastWind_3 : decode (ib f_Rec_leastWind) 3 = .ok (.bipush 9, 2) := by decide +kernel
theorem d_Rec_leastWind_5 : decode (ib f_Rec_leastWind) 5 = .ok (.if_icmp .gt 19, 3) := by decide +kernel
theorem d_Rec_leastWind_8 : decode (ib f_Rec_leastWind) 8 = .ok (.aload_n 0, 1) := by decide +kernel
theorem d_Rec_leastWind_9 : decode (ib f_Rec_leastWind) 9 = .ok (.iload_n 1, 1) := by decide +kernel
theorem d_Rec_leastWind_10 : decode (ib f_Rec_leastWind) 10 = .ok (.invokevirtual 316, 3) := by decide +kernel
theorem d_Rec_leastWind_13 : decode (ib f_Rec_leastWind) 13 = .ok (.ifCond .le 5, 3) := by decide +kernel
theorem d_Rec_leastWind_16 : decode (ib f_Rec_leastWind) 16 = .ok (.iload_n 1, 1) := by decide +kernel
theorem d_Rec_leastWind_17 : decode (ib f_Rec_leastWind) 17 = .ok (.ireturn, 1) := by decide +kernel
theorem d_Rec_leastWind_18 : decode (ib f_Rec_leastWind) 18 = .ok (.iinc 1 1, 3) := by decide +kernel
theorem d_Rec_leastWind_21 : decode (ib f_Rec_leastWind) 21 = .ok (.goto (-19), 3) := by decide +kernel
theorem d_Rec_leastWind_24 : decode (ib f_Rec_leastWind) 24 = .ok (.iconst (-1), 1) := by decide +kernel
theorem d_Rec_leastWind_25 : decode (ib f_Rec_leastWind) 25 = .ok (.ireturn, 1) := by decide +kernel
theorem d_Rec_freeBy_0 : decode (ib f_Rec_freeBy) 0 = .ok (.aload_n 0, 1) := by decide +kernel
theorem d_Rec_freeBy_1 : decode (ib f_Rec_freeBy) 1 = .ok (.getfield 51, 3) := by decide +kernel
theorem d_Rec_freeBy_4 : decode (ib f_Rec_freeBy) 4 = .ok (.aload_n 0, 1) := by decide +kernel
theorem d_Rec_freeBy_5 : decode (ib f_Rec_freeBy) 5 = .ok (.getfield 12, 3) := by decide +kernel
theorem d_Rec_freeBy_8 : decode (ib f_Rec_freeBy) 8 = .ok (.invokevirtual 209, 3) := by decide +kernel
theorem d_Rec_freeBy_11 : decode (ib f_Rec_freeBy) 11 = .ok (.aload_n 0, 1) := by decide +kernel
theorem d_Rec_freeBy_12 : decode (ib f_Rec_freeBy) 12 = .ok (.getfield 51, 3) := by decide +kernel
theorem d_Rec_freeBy_15 : decode (ib f_Rec_freeBy) 15 = .ok (.iload_n 1, 1) := by decide +kernel
theorem d_Rec_freeBy_16 : decode (ib f_Rec_freeBy) 16 = .ok (.putfield 104, 3) := by decide +kernel
theorem d_Rec_freeBy_19 : decode (ib f_Rec_freeBy) 19 = .ok (.iconst 0, 1) := by decide +kernel
theorem d_Rec_freeBy_20 : decode (ib f_Rec_freeBy) 20 = .ok (.istore_n 2, 1) := by decide +kernel
theorem d_Rec_freeBy_21 : decode (ib f_Rec_freeBy) 21 = .ok (.iconst 0, 1) := by decide +kernel
theorem d_Rec_freeBy_22 : decode (ib f_Rec_freeBy) 22 = .ok (.istore_n 3, 1) := by decide +kernel
theorem d_Rec_freeBy_23 : decode (ib f_Rec_freeBy) 23 = .ok (.iload_n 3, 1) := by decide +kernel
theorem d_Rec_freeBy_24 : decode (ib f_Rec_freeBy) 24 = .ok (.aload_n 0, 1) := by decide +kernel
theorem d_Rec_freeBy_25 : decode (ib f_Rec_freeBy) 25 = .ok (.getfield 51, 3) := by decide +kernel
theorem d_Rec_freeBy_28 : decode (ib f_Rec_freeBy) 28 = .ok (.getfield 213, 3) := by decide +kernel
theorem d_Rec_freeBy_31 : decode (ib f_Rec_freeBy) 31 = .ok (.if_icmp .ge 55, 3) := by decide +kernel
theorem d_Rec_freeBy_34 : decode (ib f_Rec_freeBy) 34 = .ok (.aload_n 0, 1) := by decide +kernel
theorem d_Rec_freeBy_35 : decode (ib f_Rec_freeBy) 35 = .ok (.getfield 51, 3) := by decide +kernel
theorem d_Rec_freeBy_38 : decode (ib f_Rec_freeBy) 38 = .ok (.getfield 319, 3) := by decide +kernel
theorem d_Rec_freeBy_41 : decode (ib f_Rec_freeBy) 41 = .ok (.iload_n 3, 1) := by decide +kernel
theorem d_Rec_freeBy_42 : decode (ib f_Rec_freeBy) 42 = .ok (.aaload, 1) := by decide +kernel
theorem d_Rec_freeBy_43 : decode (ib f_Rec_freeBy) 43 = .ok (.astore 4, 2) := by decide +kernel
theorem d_Rec_freeBy_45 : decode (ib f_Rec_freeBy) 45 = .ok (.aload 4, 2) := by decide +kernel
theorem d_Rec_freeBy_47 : decode (ib f_Rec_freeBy) 47 = .ok (.getfield 118, 3) := by decide +kernel
theorem d_Rec_freeBy_50 : decode (ib f_Rec_freeBy) 50 = .ok (.iconst 1, 1) := by decide +kernel
theorem d_Rec_freeBy_51 : decode (ib f_Rec_freeBy) 51 = .ok (.if_icmp .gt 29, 3) := by decide +kernel
theorem d_Rec_freeBy_54 : decode (ib f_Rec_freeBy) 54 = .ok (.aload_n 0, 1) := by decide +kernel
theorem d_Rec_freeBy_55 : decode (ib f_Rec_freeBy) 55 = .ok (.getfield 19, 3) := by decide +kernel
theorem d_Rec_freeBy_58 : decode (ib f_Rec_freeBy) 58 = .ok (.getfield 185, 3) := by decide +kernel
theorem d_Rec_freeBy_61 : decode (ib f_Rec_freeBy) 61 = .ok (.iconst 1, 1) := by decide +kernel
theorem d_Rec_freeBy_62 : decode (ib f_Rec_freeBy) 62 = .ok (.aload_n 0, 1) := by decide +kernel
theorem d_Rec_freeBy_63 : decode (ib f_Rec_freeBy) 63 = .ok (.getfield 51, 3) := by decide +kernel
theorem d_Rec_freeBy_66 : decode (ib f_Rec_freeBy) 66 = .ok (.aload 4, 2) := by decide +kernel
theorem d_Rec_freeBy_68 : decode (ib f_Rec_freeBy) 68 = .ok (.invokevirtual 189, 3) := by decide +kernel
theorem d_Rec_freeBy_71 : decode (ib f_Rec_freeBy) 71 = .ok (.sipush 500, 3) := by decide +kernel
theorem d_Rec_freeBy_74 : decode (ib f_Rec_freeBy) 74 = .ok (.if_icmp .lt 6, 3) := by decide +kernel
theorem d_Rec_freeBy_77 : decode (ib f_Rec_freeBy) 77 = .ok (.iinc 2 1, 3) := by decide +kernel
theorem d_Rec_freeBy_80 : decode (ib f_Rec_freeBy) 80 = .ok (.iinc 3 1, 3) := by decide +kernel
theorem d_Rec_freeBy_83 : decode (ib f_Rec_freeBy) 83 = .ok (.goto (-60), 3) := by decide +kernel
theorem d_Rec_freeBy_86 : decode (ib f_Rec_freeBy) 86 = .ok (.iload_n 2, 1) := by decide +kernel
theorem d_Rec_freeBy_87 : decode (ib f_Rec_freeBy) 87 = .ok (.ireturn, 1) := by decide +kernel
theorem d_Rec_squires_0 : decode (ib f_Rec_squires) 0 = .ok (.iload_n 1, 1) := by decide +kernel
theorem d_Rec_squires_1 : decode (ib f_Rec_squires) 1 = .ok (.iconst 0, 1) := by decide +kernel
theorem d_Rec_squires_2 : decode (ib f_Rec_squires) 2 = .ok (.iconst 1, 1) := by decide +kernel
theorem d_Rec_squires_3 : decode (ib f_Rec_squires) 3 = .ok (.invokestatic 96, 3) := by decide +kernel
theorem d_Rec_squires_6 : decode (ib f_Rec_squires) 6 = .ok (.ifCond .eq 18, 3) := by decide +kernel
theorem d_Rec_squires_9 : decode (ib f_Rec_squires) 9 = .ok (.aload_n 0, 1) := by decide +kernel
theorem d_Rec_squires_10 : decode (ib f_Rec_squires) 10 = .ok (.getfield 57, 3) := by decide +kernel
theorem d_Rec_squires_13 : decode (ib f_Rec_squires) 13 = .ok (.aload_n 0, 1) := by decide +kernel
theorem d_Rec_squires_14 : decode (ib f_Rec_squires) 14 = .ok (.getfield 12, 3) := by decide +kernel
theorem d_Rec_squires_17 : decode (ib f_Rec_squires) 17 = .ok (.iload_n 1, 1) := by decide +kernel
theorem d_Rec_squires_18 : decode (ib f_Rec_squires) 18 = .ok (.invokevirtual 323, 3) := by decide +kernel
theorem d_Rec_squires_21 : decode (ib f_Rec_squires) 21 = .ok (.goto 4, 3) := by decide +kernel
theorem d_Rec_squires_24 : decode (ib f_Rec_squires) 24 = .ok (.iconst (-1), 1) := by decide +kernel
theorem d_Rec_squires_25 : decode (ib f_Rec_squires) 25 = .ok (.ireturn, 1) := by decide +kernel
theorem d_Rec_held_0 : decode (ib f_Rec_held) 0 = .ok (.iload_n 1, 1) := by decide +kernel
theorem d_Rec_held_1 : decode (ib f_Rec_held) 1 = .ok (.iconst 1, 1) := by decide +kernel
theorem d_Rec_held_2 : decode (ib f_Rec_held) 2 = .ok (.bipush 30, 2) := by decide +kernel
theorem d_Rec_held_4 : decode (ib f_Rec_held) 4 = .ok (.invokestatic 96, 3) := by decide +kernel
theorem d_Rec_held_7 : decode (ib f_Rec_held) 7 = .ok (.ifCond .eq 22, 3) := by decide +kernel
theorem d_Rec_held_10 : decode (ib f_Rec_held) 10 = .ok (.iload_n 2, 1) := by decide +kernel
theorem d_Rec_held_11 : decode (ib f_Rec_held) 11 = .ok (.iconst 1, 1) := by decide +kernel
theorem d_Rec_held_12 : decode (ib f_Rec_held) 12 = .ok (.bipush 9, 2) := by decide +kernel
theorem d_Rec_held_14 : decode (ib f_Rec_held) 14 = .ok (.invokestatic 96, 3) := by decide +kernel
theorem d_Rec_held_17 : decode (ib f_Rec_held) 17 = .ok (.ifCond .eq 12, 3) := by decide +kernel
theorem d_Rec_held_20 : decode (ib f_Rec_held) 20 = .ok (.iload_n 3, 1) := by decide +kernel
theorem d_Rec_held_21 : decode (ib f_Rec_held) 21 = .ok (.iconst 0, 1) := by decide +kernel
theorem d_Rec_held_22 : decode (ib f_Rec_held) 22 = .ok (.iconst 1, 1) := by decide +kernel
theorem d_Rec_held_23 : decode (ib f_Rec_held) 23 = .ok (.invokestatic 96, 3) := by decide +kernel
theorem d_Rec_held_26 : decode (ib f_Rec_held) 26 = .ok (.ifCond .ne 5, 3) := by decide +kernel
theorem d_Rec_held_29 : decode (ib f_Rec_held) 29 = .ok (.iconst (-1), 1) := by decide +kernel
theorem d_Rec_held_30 : decode (ib f_Rec_held) 30 = .ok (.ireturn, 1) := by decide +kernel
theorem d_Rec_held_31 : decode (ib f_Rec_held) 31 = .ok (.aload_n 0, 1) := by decide +kernel
theorem d_Rec_held_32 : decode (ib f_Rec_held) 32 = .ok (.getfield 57, 3) := by decide +kernel
theorem d_Rec_held_35 : decode (ib f_Rec_held) 35 = .ok (.iload_n 1, 1) := by decide +kernel
theorem d_Rec_held_36 : decode (ib f_Rec_held) 36 = .ok (.iload_n 2, 1) := by decide +kernel
theorem d_Rec_held_37 : decode (ib f_Rec_held) 37 = .ok (.iload_n 3, 1) := by decide +kernel
theorem d_Rec_held_38 : decode (ib f_Rec_held) 38 = .ok (.invokevirtual 326, 3) := by decide +kernel
theorem d_Rec_held_41 : decode (ib f_Rec_held) 41 = .ok (.ireturn, 1) := by decide +kernel
theorem d_Rec_game_0 : decode (ib f_Rec_game) 0 = .ok (.iload_n 1, 1) := by decide +kernel
theorem d_Rec_game_1 : decode (ib f_Rec_game) 1 = .ok (.iconst 0, 1) := by decide +kernel
theorem d_Rec_game_2 : decode (ib f_Rec_game) 2 = .ok (.iconst 1, 1) := by decide +kernel
theorem d_Rec_game_3 : decode (ib f_Rec_game) 3 = .ok (.invokestatic 96, 3) := by decide +kernel
theorem d_Rec_game_6 : decode (ib f_Rec_game) 6 = .ok (.ifCond .eq 18, 3) := by decide +kernel
theorem d_Rec_game_9 : decode (ib f_Rec_game) 9 = .ok (.aload_n 0, 1) := by decide +kernel
theorem d_Rec_game_10 : decode (ib f_Rec_game) 10 = .ok (.getfield 57, 3) := by decide +kernel
theorem d_Rec_game_13 : decode (ib f_Rec_game) 13 = .ok (.aload_n 0, 1) := by decide +kernel
theorem d_Rec_game_14 : decode (ib f_Rec_game) 14 = .ok (.getfield 12, 3) := by decide +kernel
theorem d_Rec_game_17 : decode (ib f_Rec_game) 17 = .ok (.iload_n 1, 1) := by decide +kernel
theorem d_Rec_game_18 : decode (ib f_Rec_game) 18 = .ok (.invokevirtual 330, 3) := by decide +kernel
theorem d_Rec_game_21 : decode (ib f_Rec_game) 21 = .ok (.goto 4, 3) := by decide +kernel
theorem d_Rec_game_24 : decode (ib f_Rec_game) 24 = .ok (.iconst (-1), 1) := by decide +kernel
theorem d_Rec_game_25 : decode (ib f_Rec_game) 25 = .ok (.ireturn, 1) := by decide +kernel
theorem d_Rec_undo_0 : decode (ib f_Rec_undo) 0 = .ok (.aload_n 0, 1) := by decide +kernel
theorem d_Rec_undo_1 : decode (ib f_Rec_undo) 1 = .ok (.getfield 41, 3) := by decide +kernel
theorem d_Rec_undo_4 : decode (ib f_Rec_undo) 4 = .ok (.ifCond .ne 5, 3) := by decide +kernel
theorem d_Rec_undo_7 : decode (ib f_Rec_undo) 7 = .ok (.iconst 0, 1) := by decide +kernel
theorem d_Rec_undo_8 : decode (ib f_Rec_undo) 8 = .ok (.ireturn, 1) := by decide +kernel
theorem d_Rec_undo_9 : decode (ib f_Rec_undo) 9 = .ok (.aload_n 0, 1) := by decide +kernel
theorem d_Rec_undo_10 : decode (ib f_Rec_undo) 10 = .ok (.dup, 1) := by decide +kernel
theorem d_Rec_undo_11 : decode (ib f_Rec_undo) 11 = .ok (.getfield 41, 3) := by decide +kernel
theorem d_Rec_undo_14 : decode (ib f_Rec_undo) 14 = .ok (.iconst 1, 1) := by decide +kernel
theorem d_Rec_undo_15 : decode (ib f_Rec_undo) 15 = .ok (.isub, 1) := by decide +kernel
theorem d_Rec_undo_16 : decode (ib f_Rec_undo) 16 = .ok (.putfield 41, 3) := by decide +kernel
theorem d_Rec_undo_19 : decode (ib f_Rec_undo) 19 = .ok (.aload_n 0, 1) := by decide +kernel
theorem d_Rec_undo_20 : decode (ib f_Rec_undo) 20 = .ok (.aload_n 0, 1) := by decide +kernel
theorem d_Rec_undo_21 : decode (ib f_Rec_undo) 21 = .ok (.getfield 37, 3) := by decide +kernel
theorem d_Rec_undo_24 : decode (ib f_Rec_undo) 24 = .ok (.bipush 6, 2) := by decide +kernel
theorem d_Rec_undo_26 : decode (ib f_Rec_undo) 26 = .ok (.iadd, 1) := by decide +kernel
theorem d_Rec_undo_27 : decode (ib f_Rec_undo) 27 = .ok (.iconst 1, 1) := by decide +kernel
theorem d_Rec_undo_28 : decode (ib f_Rec_undo) 28 = .ok (.isub, 1) := by decide +kernel
theorem d_Rec_undo_29 : decode (ib f_Rec_undo) 29 = .ok (.bipush 6, 2) := by decide +kernel
theorem d_Rec_undo_31 : decode (ib f_Rec_undo) 31 = .ok (.irem, 1) := by decide +kernel
theorem d_Rec_undo_32 : decode (ib f_Rec_undo) 32 = .ok (.putfield 37, 3) := by decide +kernel
theorem d_Rec_undo_35 : decode (ib f_Rec_undo) 35 = .ok (.aload_n 0, 1) := by decide +kernel
theorem d_Rec_undo_36 : decode (ib f_Rec_undo) 36 = .ok (.getfield 12, 3) := by decide +kernel
theorem d_Rec_undo_39 : decode (ib f_Rec_undo) 39 = .ok (.aload_n 0, 1) := by decide +kernel
theorem d_Rec_undo_40 : decode (ib f_Rec_undo) 40 = .ok (.getfield 33, 3) := by decide +kernel
theorem d_Rec_undo_43 : decode (ib f_Rec_undo) 43 = .ok (.aload_n 0, 1) := by decide +kernel
theorem d_Rec_undo_44 : decode (ib f_Rec_undo) 44 = .ok (.getfield 37, 3) := by decide +kernel
theorem d_Rec_undo_47 : decode (ib f_Rec_undo) 47 = .ok (.aaload, 1) := by decide +kernel
theorem d_Rec_undo_48 : decode (ib f_Rec_undo) 48 = .ok (.invokevirtual 209, 3) := by decide +kernel
theorem d_Rec_undo_51 : decode (ib f_Rec_undo) 51 = .ok (.iconst 1, 1) := by decide +kernel
theorem d_Rec_undo_52 : decode (ib f_Rec_undo) 52 = .ok (.ireturn, 1) := by decide +kernel
theorem d_Rec_image_0 : decode (ib f_Rec_image) 0 = .ok (.iload_n 1, 1) := by decide +kernel
theorem d_Rec_image_1 : decode (ib f_Rec_image) 1 = .ok (.ifCond .eq 32, 3) := by decide +kernel
theorem d_Rec_image_4 : decode (ib f_Rec_image) 4 = .ok (.aload_n 0, 1) := by decide +kernel
theorem d_Rec_image_5 : decode (ib f_Rec_image) 5 = .ok (.getfield 23, 3) := by decide +kernel
theorem d_Rec_image_8 : decode (ib f_Rec_image) 8 = .ok (.aload_n 0, 1) := by decide +kernel
theorem d_Rec_image_9 : decode (ib f_Rec_image) 9 = .ok (.getfield 12, 3) := by decide +kernel
theorem d_Rec_image_12 : decode (ib f_Rec_image) 12 = .ok (.invokevirtual 209, 3) := by decide +kernel
theorem d_Rec_image_15 : decode (ib f_Rec_image) 15 = .ok (.aload_n 0, 1) := by decide +kernel
theorem d_Rec_image_16 : decode (ib f_Rec_image) 16 = .ok (.getfield 26, 3) := by decide +kernel
theorem d_Rec_image_19 : decode (ib f_Rec_image) 19 = .ok (.aload_n 0, 1) := by decide +kernel
theorem d_Rec_image_20 : decode (ib f_Rec_image) 20 = .ok (.getfield 19, 3) := by decide +kernel
theorem d_Rec_image_23 : decode (ib f_Rec_image) 23 = .ok (.invokevirtual 333, 3) := by decide +kernel
theorem d_Rec_image_26 : decode (ib f_Rec_image) 26 = .ok (.aload_n 0, 1) := by decide +kernel
theorem d_Rec_image_27 : decode (ib f_Rec_image) 27 = .ok (.iconst 1, 1) := by decide +kernel
theorem d_Rec_image_28 : decode (ib f_Rec_image) 28 = .ok (.putfield 29, 3) := by decide +kernel
theorem d_Rec_image_31 : decode (ib f_Rec_image) 31 = .ok (.iconst 1, 1) := by decide +kernel
theorem d_Rec_image_32 : decode (ib f_Rec_image) 32 = .ok (.ireturn, 1) := by decide +kernel
theorem d_Rec_image_33 : decode (ib f_Rec_image) 33 = .ok (.aload_n 0, 1) := by decide +kernel
theorem d_Rec_image_34 : decode (ib f_Rec_image) 34 = .ok (.getfield 29, 3) := by decide +kernel
theorem d_Rec_image_37 : decode (ib f_Rec_image) 37 = .ok (.ifCond .ne 5, 3) := by decide +kernel
theorem d_Rec_image_40 : decode (ib f_Rec_image) 40 = .ok (.iconst 0, 1) := by decide +kernel
theorem d_Rec_image_41 : decode (ib f_Rec_image) 41 = .ok (.ireturn, 1) := by decide +kernel
theorem d_Rec_image_42 : decode (ib f_Rec_image) 42 = .ok (.aload_n 0, 1) := by decide +kernel
theorem d_Rec_image_43 : decode (ib f_Rec_image) 43 = .ok (.getfield 12, 3) := by decide +kernel
theorem d_Rec_image_46 : decode (ib f_Rec_image) 46 = .ok (.aload_n 0, 1) := by decide +kernel
theorem d_Rec_image_47 : decode (ib f_Rec_image) 47 = .ok (.getfield 23, 3) := by decide +kernel
theorem d_Rec_image_50 : decode (ib f_Rec_image) 50 = .ok (.invokevirtual 209, 3) := by decide +kernel
theorem d_Rec_image_53 : decode (ib f_Rec_image) 53 = .ok (.aload_n 0, 1) := by decide +kernel
theorem d_Rec_image_54 : decode (ib f_Rec_image) 54 = .ok (.getfield 19, 3) := by decide +kernel
theorem d_Rec_image_57 : decode (ib f_Rec_image) 57 = .ok (.aload_n 0, 1) := by decide +kernel
theorem d_Rec_image_58 : decode (ib f_Rec_image) 58 = .ok (.getfield 26, 3) := by decide +kernel
theorem d_Rec_image_61 : decode (ib f_Rec_image) 61 = .ok (.invokevirtual 333, 3) := by decide +kernel
theorem d_Rec_image_64 : decode (ib f_Rec_image) 64 = .ok (.aload_n 0, 1) := by decide +kernel
theorem d_Rec_image_65 : decode (ib f_Rec_image) 65 = .ok (.invokevirtual 78, 3) := by decide +kernel
theorem d_Rec_image_68 : decode (ib f_Rec_image) 68 = .ok (.iconst 1, 1) := by decide +kernel
theorem d_Rec_image_69 : decode (ib f_Rec_image) 69 = .ok (.ireturn, 1) := by decide +kernel
theorem d_Rec_look_0 : decode (ib f_Rec_look) 0 = .ok (.iload_n 1, 1) := by decide +kernel
theorem d_Rec_look_1 : decode (ib f_Rec_look) 1 = .ok (.tableswitch 213 0 14 #[75, 83, 91, 99, 107, 115, 123, 134, 142, 153, 161, 175, 186, 197, 208], 75) := by decide +kernel
theorem d_Rec_look_76 : decode (ib f_Rec_look) 76 = .ok (.aload_n 0, 1) := by decide +kernel
theorem d_Rec_look_77 : decode (ib f_Rec_look) 77 = .ok (.getfield 12, 3) := by decide +kernel
theorem d_Rec_look_80 : decode (ib f_Rec_look) 80 = .ok (.getfield 213, 3) := by decide +kernel
theorem d_Rec_look_83 : decode (ib f_Rec_look) 83 = .ok (.ireturn, 1) := by decide +kernel
theorem d_Rec_look_84 : decode (ib f_Rec_look) 84 = .ok (.aload_n 0, 1) := by decide +kernel
theorem d_Rec_look_85 : decode (ib f_Rec_look) 85 = .ok (.getfield 12, 3) := by decide +kernel
theorem d_Rec_look_88 : decode (ib f_Rec_look) 88 = .ok (.getfield 336, 3) := by decide +kernel
theorem d_Rec_look_91 : decode (ib f_Rec_look) 91 = .ok (.ireturn, 1) := by decide +kernel
theorem d_Rec_look_92 : decode (ib f_Rec_look) 92 = .ok (.aload_n 0, 1) := by decide +kernel
theorem d_Rec_look_93 : decode (ib f_Rec_look) 93 = .ok (.getfield 12, 3) := by decide +kernel
theorem d_Rec_look_96 : decode (ib f_Rec_look) 96 = .ok (.getfield 143, 3) := by decide +kernel
theorem d_Rec_look_99 : decode (ib f_Rec_look) 99 = .ok (.ireturn, 1) := by decide +kernel
theorem d_Rec_look_100 : decode (ib f_Rec_look) 100 = .ok (.aload_n 0, 1) := by decide +kernel
theorem d_Rec_look_101 : decode (ib f_Rec_look) 101 = .ok (.getfield 12, 3) := by decide +kernel
theorem d_Rec_look_104 : decode (ib f_Rec_look) 104 = .ok (.getfield 339, 3) := by decide +kernel
theorem d_Rec_look_107 : decode (ib f_Rec_look) 107 = .ok (.ireturn, 1) := by decide +kernel
theorem d_Rec_look_108 : decode (ib f_Rec_look) 108 = .ok (.aload_n 0, 1) := by decide +kernel
theorem d_Rec_look_109 : decode (ib f_Rec_look) 109 = .ok (.getfield 12, 3) := by decide +kernel
theorem d_Rec_look_112 : decode (ib f_Rec_look) 112 = .ok (.getfield 104, 3) := by decide +kernel
theorem d_Rec_look_115 : decode (ib f_Rec_look) 115 = .ok (.ireturn, 1) := by decide +kernel
theorem d_Rec_look_116 : decode (ib f_Rec_look) 116 = .ok (.aload_n 0, 1) := by decide +kernel
theorem d_Rec_look_117 : decode (ib f_Rec_look) 117 = .ok (.getfield 12, 3) := by decide +kernel
theorem d_Rec_look_120 : decode (ib f_Rec_look) 120 = .ok (.getfield 107, 3) := by decide +kernel
theorem d_Rec_look_123 : decode (ib f_Rec_look) 123 = .ok (.ireturn, 1) := by decide +kernel
theorem d_Rec_look_124 : decode (ib f_Rec_look) 124 = .ok (.aload_n 0, 1) := by decide +kernel
theorem d_Rec_look_125 : decode (ib f_Rec_look) 125 = .ok (.getfield 12, 3) := by decide +kernel
theorem d_Rec_look_128 : decode (ib f_Rec_look) 128 = .ok (.getfield 170, 3) := by decide +kernel
theorem d_Rec_look_131 : decode (ib f_Rec_look) 131 = .ok (.invokestatic 216, 3) := by decide +kernel
theorem d_Rec_look_134 : decode (ib f_Rec_look) 134 = .ok (.ireturn, 1) := by decide +kernel
theorem d_Rec_look_135 : decode (ib f_Rec_look) 135 = .ok (.aload_n 0, 1) := by decide +kernel
theorem d_Rec_look_136 : decode (ib f_Rec_look) 136 = .ok (.getfield 12, 3) := by decide +kernel
theorem d_Rec_look_139 : decode (ib f_Rec_look) 139 = .ok (.getfield 140, 3) := by decide +kernel
theorem d_Rec_look_142 : decode (ib f_Rec_look) 142 = .ok (.ireturn, 1) := by decide +kernel
theorem d_Rec_look_143 : decode (ib f_Rec_look) 143 = .ok (.aload_n 0, 1) := by decide +kernel
theorem d_Rec_look_144 : decode (ib f_Rec_look) 144 = .ok (.getfield 12, 3) := by decide +kernel
theorem d_Rec_look_147 : decode (ib f_Rec_look) 147 = .ok (.getfield 198, 3) := by decide +kernel
theorem d_Rec_look_150 : decode (ib f_Rec_look) 150 = .ok (.getfield 202, 3) := by decide +kernel
theorem d_Rec_look_153 : decode (ib f_Rec_look) 153 = .ok (.ireturn, 1) := by decide +kernel
theorem d_Rec_look_154 : decode (ib f_Rec_look) 154 = .ok (.aload_n 0, 1) := by decide +kernel
theorem d_Rec_look_155 : decode (ib f_Rec_look) 155 = .ok (.getfield 12, 3) := by decide +kernel
theorem d_Rec_look_158 : decode (ib f_Rec_look) 158 = .ok (.getfield 75, 3) := by decide +kernel
theorem d_Rec_look_161 : decode (ib f_Rec_look) 161 = .ok (.ireturn, 1) := by decide +kernel
theorem d_Rec_look_162 : decode (ib f_Rec_look) 162 = .ok (.aload_n 0, 1) := by decide +kernel
theorem d_Rec_look_163 : decode (ib f_Rec_look) 163 = .ok (.getfield 19, 3) := by decide +kernel
theorem d_Rec_look_166 : decode (ib f_Rec_look) 166 = .ok (.getfield 185, 3) := by decide +kernel
theorem d_Rec_look_169 : decode (ib f_Rec_look) 169 = .ok (.getfield 341, 3) := by decide +kernel
theorem d_Rec_look_172 : decode (ib f_Rec_look) 172 = .ok (.getfield 202, 3) := by decide +kernel
theorem d_Rec_look_175 : decode (ib f_Rec_look) 175 = .ok (.ireturn, 1) := by decide +kernel
theorem d_Rec_look_176 : decode (ib f_Rec_look) 176 = .ok (.aload_n 0, 1) := by decide +kernel
theorem d_Rec_look_177 : decode (ib f_Rec_look) 177 = .ok (.getfield 19, 3) := by decide +kernel
theorem d_Rec_look_180 : decode (ib f_Rec_look) 180 = .ok (.getfield 344, 3) := by decide +kernel
theorem d_Rec_look_183 : decode (ib f_Rec_look) 183 = .ok (.getfield 202, 3) := by decide +kernel
theorem d_Rec_look_186 : decode (ib f_Rec_look) 186 = .ok (.ireturn, 1) := by decide +kernel
theorem d_Rec_look_187 : decode (ib f_Rec_look) 187 = .ok (.aload_n 0, 1) := by decide +kernel
theorem d_Rec_look_188 : decode (ib f_Rec_look) 188 = .ok (.getfield 19, 3) := by decide +kernel
theorem d_Rec_look_191 : decode (ib f_Rec_look) 191 = .ok (.getfield 347, 3) := by decide +kernel
theorem d_Rec_look_194 : decode (ib f_Rec_look) 194 = .ok (.getfield 202, 3) := by decide +kernel
theorem d_Rec_look_197 : decode (ib f_Rec_look) 197 = .ok (.ireturn, 1) := by decide +kernel
theorem d_Rec_look_198 : decode (ib f_Rec_look) 198 = .ok (.aload_n 0, 1) := by decide +kernel
theorem d_Rec_look_199 : decode (ib f_Rec_look) 199 = .ok (.getfield 19, 3) := by decide +kernel
theorem d_Rec_look_202 : decode (ib f_Rec_look) 202 = .ok (.getfield 257, 3) := by decide +kernel
theorem d_Rec_look_205 : decode (ib f_Rec_look) 205 = .ok (.getfield 202, 3) := by decide +kernel
theorem d_Rec_look_208 : decode (ib f_Rec_look) 208 = .ok (.ireturn, 1) := by decide +kernel
theorem d_Rec_look_209 : decode (ib f_Rec_look) 209 = .ok (.aload_n 0, 1) := by decide +kernel
theorem d_Rec_look_210 : decode (ib f_Rec_look) 210 = .ok (.getfield 41, 3) := by decide +kernel
theorem d_Rec_look_213 : decode (ib f_Rec_look) 213 = .ok (.ireturn, 1) := by decide +kernel
theorem d_Rec_look_214 : decode (ib f_Rec_look) 214 = .ok (.iconst (-1), 1) := by decide +kernel
theorem d_Rec_look_215 : decode (ib f_Rec_look) 215 = .ok (.ireturn, 1) := by decide +kernel
theorem d_Rec_remember_0 : decode (ib f_Rec_remember) 0 = .ok (.aload_n 0, 1) := by decide +kernel
theorem d_Rec_remember_1 : decode (ib f_Rec_remember) 1 = .ok (.getfield 33, 3) := by decide +kernel
theorem d_Rec_remember_4 : decode (ib f_Rec_remember) 4 = .ok (.aload_n 0, 1) := by decide +kernel
theorem d_Rec_remember_5 : decode (ib f_Rec_remember) 5 = .ok (.getfield 37, 3) := by decide +kernel
theorem d_Rec_remember_8 : decode (ib f_Rec_remember) 8 = .ok (.aaload, 1) := by decide +kernel
theorem d_Rec_remember_9 : decode (ib f_Rec_remember) 9 = .ok (.aload_n 0, 1) := by decide +kernel
theorem d_Rec_remember_10 : decode (ib f_Rec_remember) 10 = .ok (.getfield 12, 3) := by decide +kernel
theorem d_Rec_remember_13 : decode (ib f_Rec_remember) 13 = .ok (.invokevirtual 209, 3) := by decide +kernel
theorem d_Rec_remember_16 : decode (ib f_Rec_remember) 16 = .ok (.aload_n 0, 1) := by decide +kernel
theorem d_Rec_remember_17 : decode (ib f_Rec_remember) 17 = .ok (.aload_n 0, 1) := by decide +kernel
theorem d_Rec_remember_18 : decode (ib f_Rec_remember) 18 = .ok (.getfield 37, 3) := by decide +kernel
theorem d_Rec_remember_21 : decode (ib f_Rec_remember) 21 = .ok (.iconst 1, 1) := by decide +kernel
theorem d_Rec_remember_22 : decode (ib f_Rec_remember) 22 = .ok (.iadd, 1) := by decide +kernel
theorem d_Rec_remember_23 : decode (ib f_Rec_remember) 23 = .ok (.bipush 6, 2) := by decide +kernel
theorem d_Rec_remember_25 : decode (ib f_Rec_remember) 25 = .ok (.irem, 1) := by decide +kernel
theorem d_Rec_remember_26 : decode (ib f_Rec_remember) 26 = .ok (.putfield 37, 3) := by decide +kernel
theorem d_Rec_remember_29 : decode (ib f_Rec_remember) 29 = .ok (.aload_n 0, 1) := by decide +kernel
theorem d_Rec_remember_30 : decode (ib f_Rec_remember) 30 = .ok (.aload_n 0, 1) := by decide +kernel
theorem d_Rec_remember_31 : decode (ib f_Rec_remember) 31 = .ok (.getfield 41, 3) := by decide +kernel
theorem d_Rec_remember_34 : decode (ib f_Rec_remember) 34 = .ok (.iconst 1, 1) := by decide +kernel
theorem d_Rec_remember_35 : decode (ib f_Rec_remember) 35 = .ok (.iadd, 1) := by decide +kernel
theorem d_Rec_remember_36 : decode (ib f_Rec_remember) 36 = .ok (.bipush 6, 2) := by decide +kernel
theorem d_Rec_remember_38 : decode (ib f_Rec_remember) 38 = .ok (.invokestatic 350, 3) := by decide +kernel
theorem d_Rec_remember_41 : decode (ib f_Rec_remember) 41 = .ok (.putfield 41, 3) := by decide +kernel
theorem d_Rec_remember_44 : decode (ib f_Rec_remember) 44 = .ok (.return_, 1) := by decide +kernel
theorem d_Rec_forget_0 : decode (ib f_Rec_forget) 0 = .ok (.aload_n 0, 1) := by decide +kernel
theorem d_Rec_forget_1 : decode (ib f_Rec_forget) 1 = .ok (.iconst 0, 1) := by decide +kernel
theorem d_Rec_forget_2 : decode (ib f_Rec_forget) 2 = .ok (.putfield 41, 3) := by decide +kernel
theorem d_Rec_forget_5 : decode (ib f_Rec_forget) 5 = .ok (.return_, 1) := by decide +kernel
theorem d_Rec_tell_0 : decode (ib f_Rec_tell) 0 = .ok (.iload_n 3, 1) := by decide +kernel
theorem d_Rec_tell_1 : decode (ib f_Rec_tell) 1 = .ok (.ifCond .eq 10, 3) := by decide +kernel
theorem d_Rec_tell_4 : decode (ib f_Rec_tell) 4 = .ok (.aload_n 0, 1) := by decide +kernel
theorem d_Rec_tell_5 : decode (ib f_Rec_tell) 5 = .ok (.iconst 0, 1) := by decide +kernel
theorem d_Rec_tell_6 : decode (ib f_Rec_tell) 6 = .ok (.putfield 202, 3) := by decide +kernel
theorem d_Rec_tell_9 : decode (ib f_Rec_tell) 9 = .ok (.iconst 0, 1) := by decide +kernel
theorem d_Rec_tell_10 : decode (ib f_Rec_tell) 10 = .ok (.ireturn, 1) := by decide +kernel
theorem d_Rec_tell_11 : decode (ib f_Rec_tell) 11 = .ok (.iload 4, 2) := by decide +kernel
theorem d_Rec_tell_13 : decode (ib f_Rec_tell) 13 = .ok (.ifCond .eq 10, 3) := by decide +kernel
theorem d_Rec_tell_16 : decode (ib f_Rec_tell) 16 = .ok (.aload_n 0, 1) := by decide +kernel
theorem d_Rec_tell_17 : decode (ib f_Rec_tell) 17 = .ok (.invokevirtual 355, 3) := by decide +kernel
theorem d_Rec_tell_20 : decode (ib f_Rec_tell) 20 = .ok (.ifCond .eq 5, 3) := by decide +kernel
theorem d_Rec_tell_23 : decode (ib f_Rec_tell) 23 = .ok (.iconst (-1), 1) := by decide +kernel
theorem d_Rec_tell_24 : decode (ib f_Rec_tell) 24 = .ok (.ireturn, 1) := by decide +kernel
theorem d_Rec_tell_25 : decode (ib f_Rec_tell) 25 = .ok (.aload_n 0, 1) := by decide +kernel
theorem d_Rec_tell_26 : decode (ib f_Rec_tell) 26 = .ok (.iload_n 1, 1) := by decide +kernel
theorem d_Rec_tell_27 : decode (ib f_Rec_tell) 27 = .ok (.iload_n 2, 1) := by decide +kernel
theorem d_Rec_tell_28 : decode (ib f_Rec_tell) 28 = .ok (.iconst 0, 1) := by decide +kernel
theorem d_Rec_tell_29 : decode (ib f_Rec_tell) 29 = .ok (.iconst 0, 1) := by decide +kernel
theorem d_Rec_tell_30 : decode (ib f_Rec_tell) 30 = .ok (.iconst 0, 1) := by decide +kernel
theorem d_Rec_tell_31 : decode (ib f_Rec_tell) 31 = .ok (.invokevirtual 359, 3) := by decide +kernel
theorem d_Rec_tell_34 : decode (ib f_Rec_tell) 34 = .ok (.aload_n 0, 1) := by decide +kernel
theorem d_Rec_tell_35 : decode (ib f_Rec_tell) 35 = .ok (.getfield 202, 3) := by decide +kernel
theorem d_Rec_tell_38 : decode (ib f_Rec_tell) 38 = .ok (.ireturn, 1) := by decide +kernel
theorem d_Rec_within_0 : decode (ib f_Rec_within) 0 = .ok (.iload_n 0, 1) := by decide +kernel
theorem d_Rec_within_1 : decode (ib f_Rec_within) 1 = .ok (.iload_n 1, 1) := by decide +kernel
theorem d_Rec_within_2 : decode (ib f_Rec_within) 2 = .ok (.if_icmp .lt 12, 3) := by decide +kernel
theorem d_Rec_within_5 : decode (ib f_Rec_within) 5 = .ok (.iload_n 0, 1) := by decide +kernel
theorem d_Rec_within_6 : decode (ib f_Rec_within) 6 = .ok (.iload_n 2, 1) := by decide +kernel
theorem d_Rec_within_7 : decode (ib f_Rec_within) 7 = .ok (.if_icmp .gt 7, 3) := by decide +kernel
theorem d_Rec_within_10 : decode (ib f_Rec_within) 10 = .ok (.iconst 1, 1) := by decide +kernel
theorem d_Rec_within_11 : decode (ib f_Rec_within) 11 = .ok (.goto 4, 3) := by decide +kernel
theorem d_Rec_within_14 : decode (ib f_Rec_within) 14 = .ok (.iconst 0, 1) := by decide +kernel
theorem d_Rec_within_15 : decode (ib f_Rec_within) 15 = .ok (.ireturn, 1) := by decide +kernel
theorem d_Rec_sum_0 : decode (ib f_Rec_sum) 0 = .ok (.iconst 0, 1) := by decide +kernel
theorem d_Rec_sum_1 : decode (ib f_Rec_sum) 1 = .ok (.istore_n 1, 1) := by decide +kernel
theorem d_Rec_sum_2 : decode (ib f_Rec_sum) 2 = .ok (.aload_n 0, 1) := by decide +kernel
theorem d_Rec_sum_3 : decode (ib f_Rec_sum) 3 = .ok (.astore_n 2, 1) := by decide +kernel
theorem d_Rec_sum_4 : decode (ib f_Rec_sum) 4 = .ok (.aload_n 2, 1) := by decide +kernel
theorem d_Rec_sum_5 : decode (ib f_Rec_sum) 5 = .ok (.arraylength, 1) := by decide +kernel
theorem d_Rec_sum_6 : decode (ib f_Rec_sum) 6 = .ok (.istore_n 3, 1) := by decide +kernel
theorem d_Rec_sum_7 : decode (ib f_Rec_sum) 7 = .ok (.iconst 0, 1) := by decide +kernel
theorem d_Rec_sum_8 : decode (ib f_Rec_sum) 8 = .ok (.istore 4, 2) := by decide +kernel
theorem d_Rec_sum_10 : decode (ib f_Rec_sum) 10 = .ok (.iload 4, 2) := by decide +kernel
theorem d_Rec_sum_12 : decode (ib f_Rec_sum) 12 = .ok (.iload_n 3, 1) := by decide +kernel
theorem d_Rec_sum_13 : decode (ib f_Rec_sum) 13 = .ok (.if_icmp .ge 20, 3) := by decide +kernel
theorem d_Rec_sum_16 : decode (ib f_Rec_sum) 16 = .ok (.aload_n 2, 1) := by decide +kernel
theorem d_Rec_sum_17 : decode (ib f_Rec_sum) 17 = .ok (.iload 4, 2) := by decide +kernel
theorem d_Rec_sum_19 : decode (ib f_Rec_sum) 19 = .ok (.iaload, 1) := by decide +kernel
theorem d_Rec_sum_20 : decode (ib f_Rec_sum) 20 = .ok (.istore 5, 2) := by decide +kernel
theorem d_Rec_sum_22 : decode (ib f_Rec_sum) 22 = .ok (.iload_n 1, 1) := by decide +kernel
theorem d_Rec_sum_23 : decode (ib f_Rec_sum) 23 = .ok (.iload 5, 2) := by decide +kernel
theorem d_Rec_sum_25 : decode (ib f_Rec_sum) 25 = .ok (.iadd, 1) := by decide +kernel
theorem d_Rec_sum_26 : decode (ib f_Rec_sum) 26 = .ok (.istore_n 1, 1) := by decide +kernel
theorem d_Rec_sum_27 : decode (ib f_Rec_sum) 27 = .ok (.iinc 4 1, 3) := by decide +kernel
theorem d_Rec_sum_30 : decode (ib f_Rec_sum) 30 = .ok (.goto (-20), 3) := by decide +kernel
theorem d_Rec_sum_33 : decode (ib f_Rec_sum) 33 = .ok (.iload_n 1, 1) := by decide +kernel
theorem d_Rec_sum_34 : decode (ib f_Rec_sum) 34 = .ok (.ireturn, 1) := by decide +kernel
theorem d_Mod_init_0 : decode (ib f_Mod_init) 0 = .ok (.aload_n 0, 1) := by decide +kernel
theorem d_Mod_init_1 : decode (ib f_Mod_init) 1 = .ok (.invokespecial 1, 3) := by decide +kernel
theorem d_Mod_init_4 : decode (ib f_Mod_init) 4 = .ok (.aload_n 0, 1) := by decide +kernel
theorem d_Mod_init_5 : decode (ib f_Mod_init) 5 = .ok (.sipush 270, 3) := by decide +kernel
theorem d_Mod_init_8 : decode (ib f_Mod_init) 8 = .ok (.newarray .int, 2) := by decide +kernel
theorem d_Mod_init_10 : decode (ib f_Mod_init) 10 = .ok (.putfield 7, 3) := by decide +kernel
theorem d_Mod_init_13 : decode (ib f_Mod_init) 13 = .ok (.aload_n 0, 1) := by decide +kernel
theorem d_Mod_init_14 : decode (ib f_Mod_init) 14 = .ok (.sipush 1620, 3) := by decide +kernel
theorem d_Mod_init_17 : decode (ib f_Mod_init) 17 = .ok (.newarray .int, 2) := by decide +kernel
theorem d_Mod_init_19 : decode (ib f_Mod_init) 19 = .ok (.putfield 13, 3) := by decide +kernel
theorem d_Mod_init_22 : decode (ib f_Mod_init) 22 = .ok (.aload_n 0, 1) := by decide +kernel
theorem d_Mod_init_23 : decode (ib f_Mod_init) 23 = .ok (.sipush 270, 3) := by decide +kernel
theorem d_Mod_init_26 : decode (ib f_Mod_init) 26 = .ok (.newarray .int, 2) := by decide +kernel
theorem d_Mod_init_28 : decode (ib f_Mod_init) 28 = .ok (.putfield 16, 3) := by decide +kernel
theorem d_Mod_init_31 : decode (ib f_Mod_init) 31 = .ok (.aload_n 0, 1) := by decide +kernel
theorem d_Mod_init_32 : decode (ib f_Mod_init) 32 = .ok (.sipush 600, 3) := by decide +kernel
theorem d_Mod_init_35 : decode (ib f_Mod_init) 35 = .ok (.newarray .int, 2) := by decide +kernel
theorem d_Mod_init_37 : decode (ib f_Mod_init) 37 = .ok (.putfield 19, 3) := by decide +kernel
theorem d_Mod_init_40 : decode (ib f_Mod_init) 40 = .ok (.aload_n 0, 1) := by decide +kernel
theorem d_Mod_init_41 : decode (ib f_Mod_init) 41 = .ok (.sipush 400, 3) := by decide +kernel
theorem d_Mod_init_44 : decode (ib f_Mod_init) 44 = .ok (.newarray .int, 2) := by decide +kernel
theorem d_Mod_init_46 : decode (ib f_Mod_init) 46 = .ok (.putfield 22, 3) := by decide +kernel
theorem d_Mod_init_49 : decode (ib f_Mod_init) 49 = .ok (.aload_n 0, 1) := by decide +kernel
theorem d_Mod_init_50 : decode (ib f_Mod_init) 50 = .ok (.sipush 143, 3) := by decide +kernel
theorem d_Mod_init_53 : decode (ib f_Mod_init) 53 = .ok (.newarray .int, 2) := by decide +kernel
theorem d_Mod_init_55 : decode (ib f_Mod_init) 55 = .ok (.dup, 1) := by decide +kernel
theorem d_Mod_init_56 : decode (ib f_Mod_init) 56 = .ok (.iconst 0, 1) := by decide +kernel
theorem d_Mod_init_57 : decode (ib f_Mod_init) 57 = .ok (.bipush 32, 2) := by decide +kernel
theorem d_Mod_init_59 : decode (ib f_Mod_init) 59 = .ok (.iastore, 1) := by decide +kernel
theorem d_Mod_init_60 : decode (ib f_Mod_init) 60 = .ok (.dup, 1) := by decide +kernel
theorem d_Mod_init_61 : decode (ib f_Mod_init) 61 = .ok (.iconst 1, 1) := by decide +kernel
theorem d_Mod_init_62 : decode (ib f_Mod_init) 62 = .ok (.bipush 115, 2) := by decide +kernel
theorem d_Mod_init_64 : decode (ib f_Mod_init) 64 = .ok (.iastore, 1) := by decide +kernel
theorem d_Mod_init_65 : decode (ib f_Mod_init) 65 = .ok (.dup, 1) := by decide +kernel
theorem d_Mod_init_66 : decode (ib f_Mod_init) 66 = .ok (.iconst 2, 1) := by decide +kernel
theorem d_Mod_init_67 : decode (ib f_Mod_init) 67 = .ok (.bipush 116, 2) := by decide +kernel
theorem d_Mod_init_69 : decode (ib f_Mod_init) 69 = .ok (.iastore, 1) := by decide +kernel
theorem d_Mod_init_70 : decode (ib f_Mod_init) 70 = .ok (.dup, 1) := by decide +kernel
theorem d_Mod_init_71 : decode (ib f_Mod_init) 71 = .ok (.iconst 3, 1) := by decide +kernel
theorem d_Mod_init_72 : decode (ib f_Mod_init) 72 = .ok (.bipush 105, 2) := by decide +kernel
theorem d_Mod_init_74 : decode (ib f_Mod_init) 74 = .ok (.iastore, 1) := by decide +kernel
theorem d_Mod_init_75 : decode (ib f_Mod_init) 75 = .ok (.dup, 1) := by decide +kernel
theorem d_Mod_init_76 : decode (ib f_Mod_init) 76 = .ok (.iconst 4, 1) := by decide +kernel
theorem d_Mod_init_77 : decode (ib f_Mod_init) 77 = .ok (.bipush 99, 2) := by decide +kernel
theorem d_Mod_init_79 : decode (ib f_Mod_init) 79 = .ok (.iastore, 1) := by decide +kernel
theorem d_Mod_init_80 : decode (ib f_Mod_init) 80 = .ok (.dup, 1) := by decide +kernel
theorem d_Mod_init_81 : decode (ib f_Mod_init) 81 = .ok (.iconst 5, 1) := by decide +kernel
theorem d_Mod_init_82 : decode (ib f_Mod_init) 82 = .ok (.bipush 107, 2) := by decide +kernel
theorem d_Mod_init_84 : decode (ib f_Mod_init) 84 = .ok (.iastore, 1) := by decide +kernel
theorem d_Mod_init_85 : decode (ib f_Mod_init) 85 = .ok (.dup, 1) := by decide +kernel
theorem d_Mod_init_86 : decode (ib f_Mod_init) 86 = .ok (.bipush 6, 2) := by decide +kernel
theorem d_Mod_init_88 : decode (ib f_Mod_init) 88 = .ok (.bipush 115, 2) := by decide +kernel
theorem d_Mod_init_90 : decode (ib f_Mod_init) 90 = .ok (.iastore, 1) := by decide +kernel
theorem d_Mod_init_91 : decode (ib f_Mod_init) 91 = .ok (.dup, 1) := by decide +kernel
theorem d_Mod_init_92 : decode (ib f_Mod_init) 92 = .ok (.bipush 7, 2) := by decide +kernel
theorem d_Mod_init_94 : decode (ib f_Mod_init) 94 = .ok (.bipush 32, 2) := by decide +kernel
theorem d_Mod_init_96 : decode (ib f_Mod_init) 96 = .ok (.iastore, 1) := by decide +kernel
theorem d_Mod_init_97 : decode (ib f_Mod_init) 97 = .ok (.dup, 1) := by decide +kernel
theorem d_Mod_init_98 : decode (ib f_Mod_init) 98 = .ok (.bipush 8, 2) := by decide +kernel
theorem d_Mod_init_100 : decode (ib f_Mod_init) 100 = .ok (.bipush 102, 2) := by decide +kernel
theorem d_Mod_init_102 : decode (ib f_Mod_init) 102 = .ok (.iastore, 1) := by decide +kernel
theorem d_Mod_init_103 : decode (ib f_Mod_init) 103 = .ok (.dup, 1) := by decide +kernel
theorem d_Mod_init_104 : decode (ib f_Mod_init) 104 = .ok (.bipush 9, 2) := by decide +kernel
theorem d_Mod_init_106 : decode (ib f_Mod_init) 106 = .ok (.bipush 114, 2) := by decide +kernel
theorem d_Mod_init_108 : decode (ib f_Mod_init) 108 = .ok (.iastore, 1) := by decide +kernel
theorem d_Mod_init_109 : decode (ib f_Mod_init) 109 = .ok (.dup, 1) := by decide +kernel
theorem d_Mod_init_110 : decode (ib f_Mod_init) 110 = .ok (.bipush 10, 2) := by decide +kernel
theorem d_Mod_init_112 : decode (ib f_Mod_init) 112 = .ok (.bipush 101, 2) := by decide +kernel
theorem d_Mod_init_114 : decode (ib f_Mod_init) 114 = .ok (.iastore, 1) := by decide +kernel
theorem d_Mod_init_115 : decode (ib f_Mod_init) 115 = .ok (.dup, 1) := by decide +kernel
theorem d_Mod_init_116 : decode (ib f_Mod_init) 116 = .ok (.bipush 11, 2) := by decide +kernel
theorem d_Mod_init_118 : decode (ib f_Mod_init) 118 = .ok (.bipush 101, 2) := by decide +kernel
theorem d_Mod_init_120 : decode (ib f_Mod_init) 120 = .ok (.iastore, 1) := by decide +kernel
theorem d_Mod_init_121 : decode (ib f_Mod_init) 121 = .ok (.dup, 1) := by decide +kernel
theorem d_Mod_init_122 : decode (ib f_Mod_init) 122 = .ok (.bipush 12, 2) := by decide +kernel
theorem d_Mod_init_124 : decode (ib f_Mod_init) 124 = .ok (.bipush 115, 2) := by decide +kernel
theorem d_Mod_init_126 : decode (ib f_Mod_init) 126 = .ok (.iastore, 1) := by decide +kernel
theorem d_Mod_init_127 : decode (ib f_Mod_init) 127 = .ok (.dup, 1) := by decide +kernel
theorem d_Mod_init_128 : decode (ib f_Mod_init) 128 = .ok (.bipush 13, 2) := by decide +kernel
theorem d_Mod_init_130 : decode (ib f_Mod_init) 130 = .ok (.bipush 32, 2) := by decide +kernel
theorem d_Mod_init_132 : decode (ib f_Mod_init) 132 = .ok (.iastore, 1) := by decide +kernel
theorem d_Mod_init_133 : decode (ib f_Mod_init) 133 = .ok (.dup, 1) := by decide +kernel
theorem d_Mod_init_134 : decode (ib f_Mod_init) 134 = .ok (.bipush 14, 2) := by decide +kernel
theorem d_Mod_init_136 : decode (ib f_Mod_init) 136 = .ok (.bipush 115, 2) := by decide +kernel
theorem d_Mod_init_138 : decode (ib f_Mod_init) 138 = .ok (.iastore, 1) := by decide +kernel
theorem d_Mod_init_139 : decode (ib f_Mod_init) 139 = .ok (.dup, 1) := by decide +kernel
theorem d_Mod_init_140 : decode (ib f_Mod_init) 140 = .ok (.bipush 15, 2) := by decide +kernel
theorem d_Mod_init_142 : decode (ib f_Mod_init) 142 = .ok (.bipush 108, 2) := by decide +kernel
theorem d_Mod_init_144 : decode (ib f_Mod_init) 144 = .ok (.iastore, 1) := by decide +kernel
theorem d_Mod_init_145 : decode (ib f_Mod_init) 145 = .ok (.dup, 1) := by decide +kernel
theorem d_Mod_init_146 : decode (ib f_Mod_init) 146 = .ok (.bipush 16, 2) := by decide +kernel
theorem d_Mod_init_148 : decode (ib f_Mod_init) 148 = .ok (.bipush 105, 2) := by decide +kernel
theorem d_Mod_init_150 : decode (ib f_Mod_init) 150 = .ok (.iastore, 1) := by decide +kernel
theorem d_Mod_init_151 : decode (ib f_Mod_init) 151 = .ok (.dup, 1) := by decide +kernel
theorem d_Mod_init_152 : decode (ib f_Mod_init) 152 = .ok (.bipush 17, 2) := by decide +kernel
theorem d_Mod_init_154 : decode (ib f_Mod_init) 154 = .ok (.bipush 100, 2) := by decide +kernel
theorem d_Mod_init_156 : decode (ib f_Mod_init) 156 = .ok (.iastore, 1) := by decide +kernel
theorem d_Mod_init_157 : decode (ib f_Mod_init) 157 = .ok (.dup, 1) := by decide +kernel
theorem d_Mod_init_158 : decode (ib f_Mod_init) 158 = .ok (.bipush 18, 2) := by decide +kernel
theorem d_Mod_init_160 : decode (ib f_Mod_init) 160 = .ok (.bipush 101, 2) := by decide +kernel
theorem d_Mod_init_162 : decode (ib f_Mod_init) 162 = .ok (.iastore, 1) := by decide +kernel
theorem d_Mod_init_163 : decode (ib f_Mod_init) 163 = .ok (.dup, 1) := by decide +kernel
theorem d_Mod_init_164 : decode (ib f_Mod_init) 164 = .ok (.bipush 19, 2) := by decide +kernel
theorem d_Mod_init_166 : decode (ib f_Mod_init) 166 = .ok (.bipush 115, 2) := by decide +kernel
theorem d_Mod_init_168 : decode (ib f_Mod_init) 168 = .ok (.iastore, 1) := by decide +kernel
theorem d_Mod_init_169 : decode (ib f_Mod_init) 169 = .ok (.dup, 1) := by decide +kernel
theorem d_Mod_init_170 : decode (ib f_Mod_init) 170 = .ok (.bipush 20, 2) := by decide +kernel
theorem d_Mod_init_172 : decode (ib f_Mod_init) 172 = .ok (.bipush 32, 2) := by decide +kernel
theorem d_Mod_init_174 : decode (ib f_Mod_init) 174 = .ok (.iastore, 1) := by decide +kernel
theorem d_Mod_init_175 : decode (ib f_Mod_init) 175 = .ok (.dup, 1) := by decide +kernel
theorem d_Mod_init_176 : decode (ib f_Mod_init) 176 = .ok (.bipush 21, 2) := by decide +kernel
theorem d_Mod_init_178 : decode (ib f_Mod_init) 178 = .ok (.bipush 119, 2) := by decide +kernel
theorem d_Mod_init_180 : decode (ib f_Mod_init) 180 = .ok (.iastore, 1) := by decide +kernel
theorem d_Mod_init_181 : decode (ib f_Mod_init) 181 = .ok (.dup, 1) := by decide +kernel
theorem d_Mod_init_182 : decode (ib f_Mod_init) 182 = .ok (.bipush 22, 2) := by decide +kernel
theorem d_Mod_init_184 : decode (ib f_Mod_init) 184 = .ok (.bipush 104, 2) := by decide +kernel
theorem d_Mod_init_186 : decode (ib f_Mod_init) 186 = .ok (.iastore, 1) := by decide +kernel
theorem d_Mod_init_187 : decode (ib f_Mod_init) 187 = .ok (.dup, 1) := by decide +kernel
theorem d_Mod_init_188 : decode (ib f_Mod_init) 188 = .ok (.bipush 23, 2) := by decide +kernel
theorem d_Mod_init_190 : decode (ib f_Mod_init) 190 = .ok (.bipush 101, 2) := by decide +kernel
theorem d_Mod_init_192 : decode (ib f_Mod_init) 192 = .ok (.iastore, 1) := by decide +kernel
theorem d_Mod_init_193 : decode (ib f_Mod_init) 193 = .ok (.dup, 1) := by decide +kernel
theorem d_Mod_init_194 : decode (ib f_Mod_init) 194 = .ok (.bipush 24, 2) := by decide +kernel
theorem d_Mod_init_196 : decode (ib f_Mod_init) 196 = .ok (.bipush 110, 2) := by decide +kernel
theorem d_Mod_init_198 : decode (ib f_Mod_init) 198 = .ok (.iastore, 1) := by decide +kernel
theorem d_Mod_init_199 : decode (ib f_Mod_init) 199 = .ok (.dup, 1) := by decide +kernel
theorem d_Mod_init_200 : decode (ib f_Mod_init) 200 = .ok (.bipush 25, 2) := by decide +kernel
theorem d_Mod_init_202 : decode (ib f_Mod_init) 202 = .ok (.bipush 32, 2) := by decide +kernel
theorem d_Mod_init_204 : decode (ib f_Mod_init) 204 = .ok (.iastore, 1) := by decide +kernel
theorem d_Mod_init_205 : decode (ib f_Mod_init) 205 = .ok (.dup, 1) := by decide +kernel
theorem d_Mod_init_206 : decode (ib f_Mod_init) 206 = .ok (.bipush 26, 2) := by decide +kernel
theorem d_Mod_init_208 : decode (ib f_Mod_init) 208 = .ok (.bipush 111, 2) := by decide +kernel
theorem d_Mod_init_210 : decode (ib f_Mod_init) 210 = .ok (.iastore, 1) := by decide +kernel
theorem d_Mod_init_211 : decode (ib f_Mod_init) 211 = .ok (.dup, 1) := by decide +kernel
theorem d_Mod_init_212 : decode (ib f_Mod_init) 212 = .ok (.bipush 27, 2) := by decide +kernel
theorem d_Mod_init_214 : decode (ib f_Mod_init) 214 = .ok (.bipush 114, 2) := by decide +kernel
theorem d_Mod_init_216 : decode (ib f_Mod_init) 216 = .ok (.iastore, 1) := by decide +kernel
theorem d_Mod_init_217 : decode (ib f_Mod_init) 217 = .ok (.dup, 1) := by decide +kernel
theorem d_Mod_init_218 : decode (ib f_Mod_init) 218 = .ok (.bipush 28, 2) := by decide +kernel
theorem d_Mod_init_220 : decode (ib f_Mod_init) 220 = .ok (.bipush 32, 2) := by decide +kernel
theorem d_Mod_init_222 : decode (ib f_Mod_init) 222 = .ok (.iastore, 1) := by decide +kernel
theorem d_Mod_init_223 : decode (ib f_Mod_init) 223 = .ok (.dup, 1) := by decide +kernel
theorem d_Mod_init_224 : decode (ib f_Mod_init) 224 = .ok (.bipush 29, 2) := by decide +kernel
theorem d_Mod_init_226 : decode (ib f_Mod_init) 226 = .ok (.bipush 97, 2) := by decide +kernel
theorem d_Mod_init_228 : decode (ib f_Mod_init) 228 = .ok (.iastore, 1) := by decide +kernel
theorem d_Mod_init_229 : decode (ib f_Mod_init) 229 = .ok (.dup, 1) := by decide +kernel
theorem d_Mod_init_230 : decode (ib f_Mod_init) 230 = .ok (.bipush 30, 2) := by decide +kernel
theorem d_Mod_init_232 : decode (ib f_Mod_init) 232 = .ok (.bipush 110, 2) := by decide +kernel
theorem d_Mod_init_234 : decode (ib f_Mod_init) 234 = .ok (.iastore, 1) := by decide +kernel
theorem d_Mod_init_235 : decode (ib f_Mod_init) 235 = .ok (.dup, 1) := by decide +kernel
theorem d_Mod_init_236 : decode (ib f_Mod_init) 236 = .ok (.bipush 31, 2) := by decide +kernel
theorem d_Mod_init_238 : decode (ib f_Mod_init) 238 = .ok (.bipush 100, 2) := by decide +kernel
theorem d_Mod_init_240 : decode (ib f_Mod_init) 240 = .ok (.iastore, 1) := by decide +kernel
theorem d_Mod_init_241 : decode (ib f_Mod_init) 241 = .ok (.dup, 1) := by decide +kernel
theorem d_Mod_init_242 : decode (ib f_Mod_init) 242 = .ok (.bipush 32, 2) := by decide +kernel
theorem d_Mod_init_244 : decode (ib f_Mod_init) 244 = .ok (.bipush 32, 2) := by decide +kernel
theorem d_Mod_init_246 : decode (ib f_Mod_init) 246 = .ok (.iastore, 1) := by decide +kernel
theorem d_Mod_init_247 : decode (ib f_Mod_init) 247 = .ok (.dup, 1) := by decide +kernel
theorem d_Mod_init_248 : decode (ib f_Mod_init) 248 = .ok (.bipush 33, 2) := by decide +kernel
theorem d_Mod_init_250 : decode (ib f_Mod_init) 250 = .ok (.bipush 110, 2) := by decide +kernel
theorem d_Mod_init_252 : decode (ib f_Mod_init) 252 = .ok (.iastore, 1) := by decide +kernel
theorem d_Mod_init_253 : decode (ib f_Mod_init) 253 = .ok (.dup, 1) := by decide +kernel
theorem d_Mod_init_254 : decode (ib f_Mod_init) 254 = .ok (.bipush 34, 2) := by decide +kernel
theorem d_Mod_init_256 : decode (ib f_Mod_init) 256 = .ok (.bipush 111, 2) := by decide +kernel
theorem d_Mod_init_258 : decode (ib f_Mod_init) 258 = .ok (.iastore, 1) := by decide +kernel
theorem d_Mod_init_259 : decode (ib f_Mod_init) 259 = .ok (.dup, 1) := by decide +kernel
theorem d_Mod_init_260 : decode (ib f_Mod_init) 260 = .ok (.bipush 35, 2) := by decide +kernel
theorem d_Mod_init_262 : decode (ib f_Mod_init) 262 = .ok (.bipush 116, 2) := by decide +kernel
theorem d_Mod_init_264 : decode (ib f_Mod_init) 264 = .ok (.iastore, 1) := by decide +kernel
theorem d_Mod_init_265 : decode (ib f_Mod_init) 265 = .ok (.dup, 1) := by decide +kernel
theorem d_Mod_init_266 : decode (ib f_Mod_init) 266 = .ok (.bipush 36, 2) := by decide +kernel
theorem d_Mod_init_268 : decode (ib f_Mod_init) 268 = .ok (.bipush 32, 2) := by decide +kernel
theorem d_Mod_init_270 : decode (ib f_Mod_init) 270 = .ok (.iastore, 1) := by decide +kernel
theorem d_Mod_init_271 : decode (ib f_Mod_init) 271 = .ok (.dup, 1) := by decide +kernel
theorem d_Mod_init_272 : decode (ib f_Mod_init) 272 = .ok (.bipush 37, 2) := by decide +kernel
theorem d_Mod_init_274 : decode (ib f_Mod_init) 274 = .ok (.bipush 107, 2) := by decide +kernel
theorem d_Mod_init_276 : decode (ib f_Mod_init) 276 = .ok (.iastore, 1) := by decide +kernel
theorem d_Mod_init_277 : decode (ib f_Mod_init) 277 = .ok (.dup, 1) := by decide +kernel
theorem d_Mod_init_278 : decode (ib f_Mod_init) 278 = .ok (.bipush 38, 2) := by decide +kernel
theorem d_Mod_init_280 : decode (ib f_Mod_init) 280 = .ok (.bipush 105, 2) := by decide +kernel
theorem d_Mod_init_282 : decode (ib f_Mod_init) 282 = .ok (.iastore, 1) := by decide +kernel
theorem d_Mod_init_283 : decode (ib f_Mod_init) 283 = .ok (.dup, 1) := by decide +kernel
theorem d_Mod_init_284 : decode (ib f_Mod_init) 284 = .ok (.bipush 39, 2) := by decide +kernel
theorem d_Mod_init_286 : decode (ib f_Mod_init) 286 = .ok (.bipush 110, 2) := by decide +kernel
theorem d_Mod_init_288 : decode (ib f_Mod_init) 288 = .ok (.iastore, 1) := by decide +kernel
theorem d_Mod_init_289 : decode (ib f_Mod_init) 289 = .ok (.dup, 1) := by decide +kernel
theorem d_Mod_init_290 : decode (ib f_Mod_init) 290 = .ok (.bipush 40, 2) := by decide +kernel
theorem d_Mod_init_292 : decode (ib f_Mod_init) 292 = .ok (.bipush 100, 2) := by decide +kernel
theorem d_Mod_init_294 : decode (ib f_Mod_init) 294 = .ok (.iastore, 1) := by decide +kernel
theorem d_Mod_init_295 : decode (ib f_Mod_init) 295 = .ok (.dup, 1) := by decide +kernel
theorem d_Mod_init_296 : decode (ib f_Mod_init) 296 = .ok (.bipush 41, 2) := by decide +kernel
theorem d_Mod_init_298 : decode (ib f_Mod_init) 298 = .ok (.bipush 32, 2) := by decide +kernel
theorem d_Mod_init_300 : decode (ib f_Mod_init) 300 = .ok (.iastore, 1) := by decide +kernel
theorem d_Mod_init_301 : decode (ib f_Mod_init) 301 = .ok (.dup, 1) := by decide +kernel
theorem d_Mod_init_302 : decode (ib f_Mod_init) 302 = .ok (.bipush 42, 2) := by decide +kernel
theorem d_Mod_init_304 : decode (ib f_Mod_init) 304 = .ok (.bipush 115, 2) := by decide +kernel
theorem d_Mod_init_306 : decode (ib f_Mod_init) 306 = .ok (.iastore, 1) := by decide +kernel
theorem d_Mod_init_307 : decode (ib f_Mod_init) 307 = .ok (.dup, 1) := by decide +kernel
theorem d_Mod_init_308 : decode (ib f_Mod_init) 308 = .ok (.bipush 43, 2) := by decide +kernel
theorem d_Mod_init_310 : decode (ib f_Mod_init) 310 = .ok (.bipush 105, 2) := by decide +kernel
theorem d_Mod_init_312 : decode (ib f_Mod_init) 312 = .ok (.iastore, 1) := by decide +kernel
theorem d_Mod_init_313 : decode (ib f_Mod_init) 313 = .ok (.dup, 1) := by decide +kernel
theorem d_Mod_init_314 : decode (ib f_Mod_init) 314 = .ok (.bipush 44, 2) := by decide +kernel
theorem d_Mod_init_316 : decode (ib f_Mod_init) 316 = .ok (.bipush 122, 2) := by decide +kernel
theorem d_Mod_init_318 : decode (ib f_Mod_init) 318 = .ok (.iastore, 1) := by decide +kernel
theorem d_Mod_init_319 : decode (ib f_Mod_init) 319 = .ok (.dup, 1) := by decide +kernel
theorem d_Mod_init_320 : decode (ib f_Mod_init) 320 = .ok (.bipush 45, 2) := by decide +kernel
theorem d_Mod_init_322 : decode (ib f_Mod_init) 322 = .ok (.bipush 101, 2) := by decide +kernel
theorem d_Mod_init_324 : decode (ib f_Mod_init) 324 = .ok (.iastore, 1) := by decide +kernel
theorem d_Mod_init_325 : decode (ib f_Mod_init) 325 = .ok (.dup, 1) := by decide +kernel
theorem d_Mod_init_326 : decode (ib f_Mod_init) 326 = .ok (.bipush 46, 2) := by decide +kernel
theorem d_Mod_init_328 : decode (ib f_Mod_init) 328 = .ok (.bipush 32, 2) := by decide +kernel
theorem d_Mod_init_330 : decode (ib f_Mod_init) 330 = .ok (.iastore, 1) := by decide +kernel
theorem d_Mod_init_331 : decode (ib f_Mod_init) 331 = .ok (.dup, 1) := by decide +kernel
theorem d_Mod_init_332 : decode (ib f_Mod_init) 332 = .ok (.bipush 47, 2) := by decide +kernel
theorem d_Mod_init_334 : decode (ib f_Mod_init) 334 = .ok (.bipush 108, 2) := by decide +kernel
theorem d_Mod_init_336 : decode (ib f_Mod_init) 336 = .ok (.iastore, 1) := by decide +kernel
theorem d_Mod_init_337 : decode (ib f_Mod_init) 337 = .ok (.dup, 1) := by decide +kernel
theorem d_Mod_init_338 : decode (ib f_Mod_init) 338 = .ok (.bipush 48, 2) := by decide +kernel
theorem d_Mod_init_340 : decode (ib f_Mod_init) 340 = .ok (.bipush 105, 2) := by decide +kernel
theorem d_Mod_init_342 : decode (ib f_Mod_init) 342 = .ok (.iastore, 1) := by decide +kernel
theorem d_Mod_init_343 : decode (ib f_Mod_init) 343 = .ok (.dup, 1) := by decide +kernel
theorem d_Mod_init_344 : decode (ib f_Mod_init) 344 = .ok (.bipush 49, 2) := by decide +kernel
theorem d_Mod_init_346 : decode (ib f_Mod_init) 346 = .ok (.bipush 102, 2) := by decide +kernel
theorem d_Mod_init_348 : decode (ib f_Mod_init) 348 = .ok (.iastore, 1) := by decide +kernel
theorem d_Mod_init_349 : decode (ib f_Mod_init) 349 = .ok (.dup, 1) := by decide +kernel
theorem d_Mod_init_350 : decode (ib f_Mod_init) 350 = .ok (.bipush 50, 2) := by decide +kernel
theorem d_Mod_init_352 : decode (ib f_Mod_init) 352 = .ok (.bipush 101, 2) := by decide +kernel
theorem d_Mod_init_354 : decode (ib f_Mod_init) 354 = .ok (.iastore, 1) := by decide +kernel
theorem d_Mod_init_355 : decode (ib f_Mod_init) 355 = .ok (.dup, 1) := by decide +kernel
theorem d_Mod_init_356 : decode (ib f_Mod_init) 356 = .ok (.bipush 51, 2) := by decide +kernel
theorem d_Mod_init_358 : decode (ib f_Mod_init) 358 = .ok (.bipush 32, 2) := by decide +kernel
theorem d_Mod_init_360 : decode (ib f_Mod_init) 360 = .ok (.iastore, 1) := by decide +kernel
theorem d_Mod_init_361 : decode (ib f_Mod_init) 361 = .ok (.dup, 1) := by decide +kernel
theorem d_Mod_init_362 : decode (ib f_Mod_init) 362 = .ok (.bipush 52, 2) := by decide +kernel
theorem d_Mod_init_364 : decode (ib f_Mod_init) 364 = .ok (.bipush 105, 2) := by decide +kernel
theorem d_Mod_init_366 : decode (ib f_Mod_init) 366 = .ok (.iastore, 1) := by decide +kernel
theorem d_Mod_init_367 : decode (ib f_Mod_init) 367 = .ok (.dup, 1) := by decide +kernel
theorem d_Mod_init_368 : decode (ib f_Mod_init) 368 = .ok (.bipush 53, 2) := by decide +kernel
theorem d_Mod_init_370 : decode (ib f_Mod_init) 370 = .ok (.bipush 110, 2) := by decide +kernel
theorem d_Mod_init_372 : decode (ib f_Mod_init) 372 = .ok (.iastore, 1) := by decide +kernel
theorem d_Mod_init_373 : decode (ib f_Mod_init) 373 = .ok (.dup, 1) := by decide +kernel
theorem d_Mod_init_374 : decode (ib f_Mod_init) 374 = .ok (.bipush 54, 2) := by decide +kernel
theorem d_Mod_init_376 : decode (ib f_Mod_init) 376 = .ok (.bipush 99, 2) := by decide +kernel
theorem d_Mod_init_378 : decode (ib f_Mod_init) 378 = .ok (.iastore, 1) := by decide +kernel
theorem d_Mod_init_379 : decode (ib f_Mod_init) 379 = .ok (.dup, 1) := by decide +kernel
theorem d_Mod_init_380 : decode (ib f_Mod_init) 380 = .ok (.bipush 55, 2) := by decide +kernel
theorem d_Mod_init_382 : decode (ib f_Mod_init) 382 = .ok (.bipush 104, 2) := by decide +kernel
theorem d_Mod_init_384 : decode (ib f_Mod_init) 384 = .ok (.iastore, 1) := by decide +kernel
theorem d_Mod_init_385 : decode (ib f_Mod_init) 385 = .ok (.dup, 1) := by decide +kernel
theorem d_Mod_init_386 : decode (ib f_Mod_init) 386 = .ok (.bipush 56, 2) := by decide +kernel
theorem d_Mod_init_388 : decode (ib f_Mod_init) 388 = .ok (.bipush 32, 2) := by decide +kernel
theorem d_Mod_init_390 : decode (ib f_Mod_init) 390 = .ok (.iastore, 1) := by decide +kernel
theorem d_Mod_init_391 : decode (ib f_Mod_init) 391 = .ok (.dup, 1) := by decide +kernel
theorem d_Mod_init_392 : decode (ib f_Mod_init) 392 = .ok (.bipush 57, 2) := by decide +kernel
theorem d_Mod_init_394 : decode (ib f_Mod_init) 394 = .ok (.bipush 103, 2) := by decide +kernel
theorem d_Mod_init_396 : decode (ib f_Mod_init) 396 = .ok (.iastore, 1) := by decide +kernel
theorem d_Mod_init_397 : decode (ib f_Mod_init) 397 = .ok (.dup, 1) := by decide +kernel
theorem d_Mod_init_398 : decode (ib f_Mod_init) 398 = .ok (.bipush 58, 2) := by decide +kernel
theorem d_Mod_init_400 : decode (ib f_Mod_init) 400 = .ok (.bipush 108, 2) := by decide +kernel
theorem d_Mod_init_402 : decode (ib f_Mod_init) 402 = .ok (.iastore, 1) := by decide +kernel
theorem d_Mod_init_403 : decode (ib f_Mod_init) 403 = .ok (.dup, 1) := by decide +kernel
theorem d_Mod_init_404 : decode (ib f_Mod_init) 404 = .ok (.bipush 59, 2) := by decide +kernel
theorem d_Mod_init_406 : decode (ib f_Mod_init) 406 = .ok (.bipush 117, 2) := by decide +kernel
theorem d_Mod_init_408 : decode (ib f_Mod_init) 408 = .ok (.iastore, 1) := by decide +kernel
theorem d_Mod_init_409 : decode (ib f_Mod_init) 409 = .ok (.dup, 1) := by decide +kernel
theorem d_Mod_init_410 : decode (ib f_Mod_init) 410 = .ok (.bipush 60, 2) := by decide +kernel
theorem d_Mod_init_412 : decode (ib f_Mod_init) 412 = .ok (.bipush 101, 2) := by decide +kernel
theorem d_Mod_init_414 : decode (ib f_Mod_init) 414 = .ok (.iastore, 1) := by decide +kernel
theorem d_Mod_init_415 : decode (ib f_Mod_init) 415 = .ok (.dup, 1) := by decide +kernel
theorem d_Mod_init_416 : decode (ib f_Mod_init) 416 = .ok (.bipush 61, 2) := by decide +kernel
theorem d_Mod_init_418 : decode (ib f_Mod_init) 418 = .ok (.bipush 32, 2) := by decide +kernel
theorem d_Mod_init_420 : decode (ib f_Mod_init) 420 = .ok (.iastore, 1) := by decide +kernel
theorem d_Mod_init_421 : decode (ib f_Mod_init) 421 = .ok (.dup, 1) := by decide +kernel
theorem d_Mod_init_422 : decode (ib f_Mod_init) 422 = .ok (.bipush 62, 2) := by decide +kernel
theorem d_Mod_init_424 : decode (ib f_Mod_init) 424 = .ok (.bipush 97, 2) := by decide +kernel
theorem d_Mod_init_426 : decode (ib f_Mod_init) 426 = .ok (.iastore, 1) := by decide +kernel
theorem d_Mod_init_427 : decode (ib f_Mod_init) 427 = .ok (.dup, 1) := by decide +kernel
theorem d_Mod_init_428 : decode (ib f_Mod_init) 428 = .ok (.bipush 63, 2) := by decide +kernel
theorem d_Mod_init_430 : decode (ib f_Mod_init) 430 = .ok (.bipush 103, 2) := by decide +kernel
theorem d_Mod_init_432 : decode (ib f_Mod_init) 432 = .ok (.iastore, 1) := by decide +kernel
theorem d_Mod_init_433 : decode (ib f_Mod_init) 433 = .ok (.dup, 1) := by decide +kernel
theorem d_Mod_init_434 : decode (ib f_Mod_init) 434 = .ok (.bipush 64, 2) := by decide +kernel
theorem d_Mod_init_436 : decode (ib f_Mod_init) 436 = .ok (.bipush 101, 2) := by decide +kernel
theorem d_Mod_init_438 : decode (ib f_Mod_init) 438 = .ok (.iastore, 1) := by decide +kernel
theorem d_Mod_init_439 : decode (ib f_Mod_init) 439 = .ok (.dup, 1) := by decide +kernel
theorem d_Mod_init_440 : decode (ib f_Mod_init) 440 = .ok (.bipush 65, 2) := by decide +kernel
theorem d_Mod_init_442 : decode (ib f_Mod_init) 442 = .ok (.bipush 32, 2) := by decide +kernel
theorem d_Mod_init_444 : decode (ib f_Mod_init) 444 = .ok (.iastore, 1) := by decide +kernel
theorem d_Mod_init_445 : decode (ib f_Mod_init) 445 = .ok (.dup, 1) := by decide +kernel
theorem d_Mod_init_446 : decode (ib f_Mod_init) 446 = .ok (.bipush 66, 2) := by decide +kernel
theorem d_Mod_init_448 : decode (ib f_Mod_init) 448 = .ok (.bipush 108, 2) := by decide +kernel
theorem d_Mod_init_450 : decode (ib f_Mod_init) 450 = .ok (.iastore, 1) := by decide +kernel
theorem d_Mod_init_451 : decode (ib f_Mod_init) 451 = .ok (.dup, 1) := by decide +kernel
theorem d_Mod_init_452 : decode (ib f_Mod_init) 452 = .ok (.bipush 67, 2) := by decide +kernel
theorem d_Mod_init_454 : decode (ib f_Mod_init) 454 = .ok (.bipush 105, 2) := by decide +kernel
theorem d_Mod_init_456 : decode (ib f_Mod_init) 456 = .ok (.iastore, 1) := by decide +kernel
theorem d_Mod_init_457 : decode (ib f_Mod_init) 457 = .ok (.dup, 1) := by decide +kernel
theorem d_Mod_init_458 : decode (ib f_Mod_init) 458 = .ok (.bipush 68, 2) := by decide +kernel
theorem d_Mod_init_460 : decode (ib f_Mod_init) 460 = .ok (.bipush 109, 2) := by decide +kernel
theorem d_Mod_init_462 : decode (ib f_Mod_init) 462 = .ok (.iastore, 1) := by decide +kernel
theorem d_Mod_init_463 : decode (ib f_Mod_init) 463 = .ok (.dup, 1) := by decide +kernel
theorem d_Mod_init_464 : decode (ib f_Mod_init) 464 = .ok (.bipush 69, 2) := by decide +kernel
theorem d_Mod_init_466 : decode (ib f_Mod_init) 466 = .ok (.bipush 98, 2) := by decide +kernel
theorem d_Mod_init_468 : decode (ib f_Mod_init) 468 = .ok (.iastore, 1) := by decide +kernel
theorem d_Mod_init_469 : decode (ib f_Mod_init) 469 = .ok (.dup, 1) := by decide +kernel
theorem d_Mod_init_470 : decode (ib f_Mod_init) 470 = .ok (.bipush 70, 2) := by decide +kernel
theorem d_Mod_init_472 : decode (ib f_Mod_init) 472 = .ok (.bipush 115, 2) := by decide +kernel
theorem d_Mod_init_474 : decode (ib f_Mod_init) 474 = .ok (.iastore, 1) := by decide +kernel
theorem d_Mod_init_475 : decode (ib f_Mod_init) 475 = .ok (.dup, 1) := by decide +kernel
theorem d_Mod_init_476 : decode (ib f_Mod_init) 476 = .ok (.bipush 71, 2) := by decide +kernel
theorem d_Mod_init_478 : decode (ib f_Mod_init) 478 = .ok (.bipush 32, 2) := by decide +kernel
theorem d_Mod_init_480 : decode (ib f_Mod_init) 480 = .ok (.iastore, 1) := by decide +kernel
theorem d_Mod_init_481 : decode (ib f_Mod_init) 481 = .ok (.dup, 1) := by decide +kernel
theorem d_Mod_init_482 : decode (ib f_Mod_init) 482 = .ok (.bipush 72, 2) := by decide +kernel
theorem d_Mod_init_484 : decode (ib f_Mod_init) 484 = .ok (.bipush 119, 2) := by decide +kernel
theorem d_Mod_init_486 : decode (ib f_Mod_init) 486 = .ok (.iastore, 1) := by decide +kernel
theorem d_Mod_init_487 : decode (ib f_Mod_init) 487 = .ok (.dup, 1) := by decide +kernel
theorem d_Mod_init_488 : decode (ib f_Mod_init) 488 = .ok (.bipush 73, 2) := by decide +kernel
theorem d_Mod_init_490 : decode (ib f_Mod_init) 490 = .ok (.bipush 105, 2) := by decide +kernel
theorem d_Mod_init_492 : decode (ib f_Mod_init) 492 = .ok (.iastore, 1) := by decide +kernel
theorem d_Mod_init_493 : decode (ib f_Mod_init) 493 = .ok (.dup, 1) := by decide +kernel
theorem d_Mod_init_494 : decode (ib f_Mod_init) 494 = .ok (.bipush 74, 2) := by decide +kernel
theorem d_Mod_init_496 : decode (ib f_Mod_init) 496 = .ok (.bipush 110, 2) := by decide +kernel
theorem d_Mod_init_498 : decode (ib f_Mod_init) 498 = .ok (.iastore, 1) := by decide +kernel
theorem d_Mod_init_499 : decode (ib f_Mod_init) 499 = .ok (.dup, 1) := by decide +kernel
theorem d_Mod_init_500 : decode (ib f_Mod_init) 500 = .ok (.bipush 75, 2) := by decide +kernel
theorem d_Mod_init_502 : decode (ib f_Mod_init) 502 = .ok (.bipush 100, 2) := by decide +kernel
theorem d_Mod_init_504 : decode (ib f_Mod_init) 504 = .ok (.iastore, 1) := by decide +kernel
theorem d_Mod_init_505 : decode (ib f_Mod_init) 505 = .ok (.dup, 1) := by decide +kernel
theorem d_Mod_init_506 : decode (ib f_Mod_init) 506 = .ok (.bipush 76, 2) := by decide +kernel
theorem d_Mod_init_508 : decode (ib f_Mod_init) 508 = .ok (.bipush 32, 2) := by decide +kernel
theorem d_Mod_init_510 : decode (ib f_Mod_init) 510 = .ok (.iastore, 1) := by decide +kernel
theorem d_Mod_init_511 : decode (ib f_Mod_init) 511 = .ok (.dup, 1) := by decide +kernel
theorem d_Mod_init_512 : decode (ib f_Mod_init) 512 = .ok (.bipush 77, 2) := by decide +kernel
theorem d_Mod_init_514 : decode (ib f_Mod_init) 514 = .ok (.bipush 104, 2) := by decide +kernel
theorem d_Mod_init_516 : decode (ib f_Mod_init) 516 = .ok (.iastore, 1) := by decide +kernel
theorem d_Mod_init_517 : decode (ib f_Mod_init) 517 = .ok (.dup, 1) := by decide +kernel
theorem d_Mod_init_518 : decode (ib f_Mod_init) 518 = .ok (.bipush 78, 2) := by decide +kernel
theorem d_Mod_init_520 : decode (ib f_Mod_init) 520 = .ok (.bipush 101, 2) := by decide +kernel
theorem d_Mod_init_522 : decode (ib f_Mod_init) 522 = .ok (.iastore, 1) := by decide +kernel
theorem d_Mod_init_523 : decode (ib f_Mod_init) 523 = .ok (.dup, 1) := by decide +kernel
theorem d_Mod_init_524 : decode (ib f_Mod_init) 524 = .ok (.bipush 79, 2) := by decide +kernel
theorem d_Mod_init_526 : decode (ib f_Mod_init) 526 = .ok (.bipush 97, 2) := by decide +kernel
theorem d_Mod_init_528 : decode (ib f_Mod_init) 528 = .ok (.iastore, 1) := by decide +kernel
theorem d_Mod_init_529 : decode (ib f_Mod_init) 529 = .ok (.dup, 1) := by decide +kernel
theorem d_Mod_init_530 : decode (ib f_Mod_init) 530 = .ok (.bipush 80, 2) := by decide +kernel
theorem d_Mod_init_532 : decode (ib f_Mod_init) 532 = .ok (.bipush 116, 2) := by decide +kernel
theorem d_Mod_init_534 : decode (ib f_Mod_init) 534 = .ok (.iastore, 1) := by decide +kernel
theorem d_Mod_init_535 : decode (ib f_Mod_init) 535 = .ok (.dup, 1) := by decide +kernel
theorem d_Mod_init_536 : decode (ib f_Mod_init) 536 = .ok (.bipush 81, 2) := by decide +kernel
theorem d_Mod_init_538 : decode (ib f_Mod_init) 538 = .ok (.bipush 32, 2) := by decide +kernel
theorem d_Mod_init_540 : decode (ib f_Mod_init) 540 = .ok (.iastore, 1) := by decide +kernel
theorem d_Mod_init_541 : decode (ib f_Mod_init) 541 = .ok (.dup, 1) := by decide +kernel
theorem d_Mod_init_542 : decode (ib f_Mod_init) 542 = .ok (.bipush 82, 2) := by decide +kernel
theorem d_Mod_init_544 : decode (ib f_Mod_init) 544 = .ok (.bipush 110, 2) := by decide +kernel
theorem d_Mod_init_546 : decode (ib f_Mod_init) 546 = .ok (.iastore, 1) := by decide +kernel
theorem d_Mod_init_547 : decode (ib f_Mod_init) 547 = .ok (.dup, 1) := by decide +kernel
theorem d_Mod_init_548 : decode (ib f_Mod_init) 548 = .ok (.bipush 83, 2) := by decide +kernel
theorem d_Mod_init_550 : decode (ib f_Mod_init) 550 = .ok (.bipush 101, 2) := by decide +kernel
theorem d_Mod_init_552 : decode (ib f_Mod_init) 552 = .ok (.iastore, 1) := by decide +kernel
theorem d_Mod_init_553 : decode (ib f_Mod_init) 553 = .ok (.dup, 1) := by decide +kernel
theorem d_Mod_init_554 : decode (ib f_Mod_init) 554 = .ok (.bipush 84, 2) := by decide +kernel
theorem d_Mod_init_556 : decode (ib f_Mod_init) 556 = .ok (.bipush 97, 2) := by decide +kernel
theorem d_Mod_init_558 : decode (ib f_Mod_init) 558 = .ok (.iastore, 1) := by decide +kernel
theorem d_Mod_init_559 : decode (ib f_Mod_init) 559 = .ok (.dup, 1) := by decide +kernel
theorem d_Mod_init_560 : decode (ib f_Mod_init) 560 = .ok (.bipush 85, 2) := by decide +kernel
theorem d_Mod_init_562 : decode (ib f_Mod_init) 562 = .ok (.bipush 114, 2) := by decide +kernel
theorem d_Mod_init_564 : decode (ib f_Mod_init) 564 = .ok (.iastore, 1) := by decide +kernel
theorem d_Mod_init_565 : decode (ib f_Mod_init) 565 = .ok (.dup, 1) := by decide +kernel
theorem d_Mod_init_566 : decode (ib f_Mod_init) 566 = .ok (.bipush 86, 2) := by decide +kernel
theorem d_Mod_init_568 : decode (ib f_Mod_init) 568 = .ok (.bipush 32, 2) := by decide +kernel
theorem d_Mod_init_570 : decode (ib f_Mod_init) 570 = .ok (.iastore, 1) := by decide +kernel
theorem d_Mod_init_571 : decode (ib f_Mod_init) 571 = .ok (.dup, 1) := by decide +kernel
theorem d_Mod_init_572 : decode (ib f_Mod_init) 572 = .ok (.bipush 87, 2) := by decide +kernel
theorem d_Mod_init_574 : decode (ib f_Mod_init) 574 = .ok (.bipush 100, 2) := by decide +kernel
theorem d_Mod_init_576 : decode (ib f_Mod_init) 576 = .ok (.iastore, 1) := by decide +kernel
theorem d_Mod_init_577 : decode (ib f_Mod_init) 577 = .ok (.dup, 1) := by decide +kernel
theorem d_Mod_init_578 : decode (ib f_Mod_init) 578 = .ok (.bipush 88, 2) := by decide +kernel
theorem d_Mod_init_580 : decode (ib f_Mod_init) 580 = .ok (.bipush 97, 2) := by decide +kernel
theorem d_Mod_init_582 : decode (ib f_Mod_init) 582 = .ok (.iastore, 1) := by decide +kernel
theorem d_Mod_init_583 : decode (ib f_Mod_init) 583 = .ok (.dup, 1) := by decide +kernel
theorem d_Mod_init_584 : decode (ib f_Mod_init) 584 = .ok (.bipush 89, 2) := by decide +kernel
theorem d_Mod_init_586 : decode (ib f_Mod_init) 586 = .ok (.bipush 121, 2) := by decide +kernel
theorem d_Mod_init_588 : decode (ib f_Mod_init) 588 = .ok (.iastore, 1) := by decide +kernel
theorem d_Mod_init_589 : decode (ib f_Mod_init) 589 = .ok (.dup, 1) := by decide +kernel
theorem d_Mod_init_590 : decode (ib f_Mod_init) 590 = .ok (.bipush 90, 2) := by decide +kernel
theorem d_Mod_init_592 : decode (ib f_Mod_init) 592 = .ok (.bipush 32, 2) := by decide +kernel
theorem d_Mod_init_594 : decode (ib f_Mod_init) 594 = .ok (.iastore, 1) := by decide +kernel
theorem d_Mod_init_595 : decode (ib f_Mod_init) 595 = .ok (.dup, 1) := by decide +kernel
theorem d_Mod_init_596 : decode (ib f_Mod_init) 596 = .ok (.bipush 91, 2) := by decide +kernel
theorem d_Mod_init_598 : decode (ib f_Mod_init) 598 = .ok (.bipush 111, 2) := by decide +kernel
theorem d_Mod_init_600 : decode (ib f_Mod_init) 600 = .ok (.iastore, 1) := by decide +kernel
theorem d_Mod_init_601 : decode (ib f_Mod_init) 601 = .ok (.dup, 1) := by decide +kernel
theorem d_Mod_init_602 : decode (ib f_Mod_init) 602 = .ok (.bipush 92, 2) := by decide +kernel
theorem d_Mod_init_604 : decode (ib f_Mod_init) 604 = .ok (.bipush 110, 2) := by decide +kernel
theorem d_Mod_init_606 : decode (ib f_Mod_init) 606 = .ok (.iastore, 1) := by decide +kernel
theorem d_Mod_init_607 : decode (ib f_Mod_init) 607 = .ok (.dup, 1) := by decide +kernel
theorem d_Mod_init_608 : decode (ib f_Mod_init) 608 = .ok (.bipush 93, 2) := by decide +kernel
theorem d_Mod_init_610 : decode (ib f_Mod_init) 610 = .ok (.bipush 32, 2) := by decide +kernel
theorem d_Mod_init_612 : decode (ib f_Mod_init) 612 = .ok (.iastore, 1) := by decide +kernel
theorem d_Mod_init_613 : decode (ib f_Mod_init) 613 = .ok (.dup, 1) := by decide +kernel
theorem d_Mod_init_614 : decode (ib f_Mod_init) 614 = .ok (.bipush 94, 2) := by decide +kernel
theorem d_Mod_init_616 : decode (ib f_Mod_init) 616 = .ok (.bipush 102, 2) := by decide +kernel
theorem d_Mod_init_618 : decode (ib f_Mod_init) 618 = .ok (.iastore, 1) := by decide +kernel
theorem d_Mod_init_619 : decode (ib f_Mod_init) 619 = .ok (.dup, 1) := by decide +kernel
theorem d_Mod_init_620 : decode (ib f_Mod_init) 620 = .ok (.bipush 95, 2) := by decide +kernel
theorem d_Mod_init_622 : decode (ib f_Mod_init) 622 = .ok (.bipush 108, 2) := by decide +kernel
theorem d_Mod_init_624 : decode (ib f_Mod_init) 624 = .ok (.iastore, 1) := by decide +kernel
theorem d_Mod_init_625 : decode (ib f_Mod_init) 625 = .ok (.dup, 1) := by decide +kernel
theorem d_Mod_init_626 : decode (ib f_Mod_init) 626 = .ok (.bipush 96, 2) := by decide +kernel
theorem d_Mod_init_628 : decode (ib f_Mod_init) 628 = .ok (.bipush 121, 2) := by decide +kernel
theorem d_Mod_init_630 : decode (ib f_Mod_init) 630 = .ok (.iastore, 1) := by decide +kernel
theorem d_Mod_init_631 : decode (ib f_Mod_init) 631 = .ok (.dup, 1) := by decide +kernel
theorem d_Mod_init_632 : decode (ib f_Mod_init) 632 = .ok (.bipush 97, 2) := by decide +kernel
theorem d_Mod_init_634 : decode (ib f_Mod_init) 634 = .ok (.bipush 32, 2) := by decide +kernel
theorem d_Mod_init_636 : decode (ib f_Mod_init) 636 = .ok (.iastore, 1) := by decide +kernel
theorem d_Mod_init_637 : decode (ib f_Mod_init) 637 = .ok (.dup, 1) := by decide +kernel
theorem d_Mod_init_638 : decode (ib f_Mod_init) 638 = .ok (.bipush 98, 2) := by decide +kernel
theorem d_Mod_init_640 : decode (ib f_Mod_init) 640 = .ok (.bipush 100, 2) := by decide +kernel
theorem d_Mod_init_642 : decode (ib f_Mod_init) 642 = .ok (.iastore, 1) := by decide +kernel
theorem d_Mod_init_643 : decode (ib f_Mod_init) 643 = .ok (.dup, 1) := by decide +kernel
theorem d_Mod_init_644 : decode (ib f_Mod_init) 644 = .ok (.bipush 99, 2) := by decide +kernel
theorem d_Mod_init_646 : decode (ib f_Mod_init) 646 = .ok (.bipush 97, 2) := by decide +kernel
theorem d_Mod_init_648 : decode (ib f_Mod_init) 648 = .ok (.iastore, 1) := by decide +kernel
theorem d_Mod_init_649 : decode (ib f_Mod_init) 649 = .ok (.dup, 1) := by decide +kernel
theorem d_Mod_init_650 : decode (ib f_Mod_init) 650 = .ok (.bipush 100, 2) := by decide +kernel
theorem d_Mod_init_652 : decode (ib f_Mod_init) 652 = .ok (.bipush 116, 2) := by decide +kernel
theorem d_Mod_init_654 : decode (ib f_Mod_init) 654 = .ok (.iastore, 1) := by decide +kernel
theorem d_Mod_init_655 : decode (ib f_Mod_init) 655 = .ok (.dup, 1) := by decide +kernel
theorem d_Mod_init_656 : decode (ib f_Mod_init) 656 = .ok (.bipush 101, 2) := by decide +kernel
theorem d_Mod_init_658 : decode (ib f_Mod_init) 658 = .ok (.bipush 101, 2) := by decide +kernel
theorem d_Mod_init_660 : decode (ib f_Mod_init) 660 = .ok (.iastore, 1) := by decide +kernel
theorem d_Mod_init_661 : decode (ib f_Mod_init) 661 = .ok (.dup, 1) := by decide +kernel
theorem d_Mod_init_662 : decode (ib f_Mod_init) 662 = .ok (.bipush 102, 2) := by decide +kernel
theorem d_Mod_init_664 : decode (ib f_Mod_init) 664 = .ok (.bipush 32, 2) := by decide +kernel
theorem d_Mod_init_666 : decode (ib f_Mod_init) 666 = .ok (.iastore, 1) := by decide +kernel
theorem d_Mod_init_667 : decode (ib f_Mod_init) 667 = .ok (.dup, 1) := by decide +kernel
theorem d_Mod_init_668 : decode (ib f_Mod_init) 668 = .ok (.bipush 103, 2) := by decide +kernel
theorem d_Mod_init_670 : decode (ib f_Mod_init) 670 = .ok (.bipush 115, 2) := by decide +kernel
theorem d_Mod_init_672 : decode (ib f_Mod_init) 672 = .ok (.iastore, 1) := by decide +kernel
theorem d_Mod_init_673 : decode (ib f_Mod_init) 673 = .ok (.dup, 1) := by decide +kernel
theorem d_Mod_init_674 : decode (ib f_Mod_init) 674 = .ok (.bipush 104, 2) := by decide +kernel
theorem d_Mod_init_676 : decode (ib f_Mod_init) 676 = .ok (.bipush 108, 2) := by decide +kernel
theorem d_Mod_init_678 : decode (ib f_Mod_init) 678 = .ok (.iastore, 1) := by decide +kernel
theorem d_Mod_init_679 : decode (ib f_Mod_init) 679 = .ok (.dup, 1) := by decide +kernel
theorem d_Mod_init_680 : decode (ib f_Mod_init) 680 = .ok (.bipush 105, 2) := by decide +kernel
theorem d_Mod_init_682 : decode (ib f_Mod_init) 682 = .ok (.bipush 101, 2) := by decide +kernel
theorem d_Mod_init_684 : decode (ib f_Mod_init) 684 = .ok (.iastore, 1) := by decide +kernel
theorem d_Mod_init_685 : decode (ib f_Mod_init) 685 = .ok (.dup, 1) := by decide +kernel
theorem d_Mod_init_686 : decode (ib f_Mod_init) 686 = .ok (.bipush 106, 2) := by decide +kernel
theorem d_Mod_init_688 : decode (ib f_Mod_init) 688 = .ok (.bipush 101, 2) := by decide +kernel
theorem d_Mod_init_690 : decode (ib f_Mod_init) 690 = .ok (.iastore, 1) := by decide +kernel
theorem d_Mod_init_691 : decode (ib f_Mod_init) 691 = .ok (.dup, 1) := by decide +kernel
theorem d_Mod_init_692 : decode (ib f_Mod_init) 692 = .ok (.bipush 107, 2) := by decide +kernel
theorem d_Mod_init_694 : decode (ib f_Mod_init) 694 = .ok (.bipush 118, 2) := by decide +kernel
theorem d_Mod_init_696 : decode (ib f_Mod_init) 696 = .ok (.iastore, 1) := by decide +kernel
theorem d_Mod_init_697 : decode (ib f_Mod_init) 697 = .ok (.dup, 1) := by decide +kernel
theorem d_Mod_init_698 : decode (ib f_Mod_init) 698 = .ok (.bipush 108, 2) := by decide +kernel
theorem d_Mod_init_700 : decode (ib f_Mod_init) 700 = .ok (.bipush 101, 2) := by decide +kernel
theorem d_Mod_init_702 : decode (ib f_Mod_init) 702 = .ok (.iastore, 1) := by decide +kernel
theorem d_Mod_init_703 : decode (ib f_Mod_init) 703 = .ok (.dup, 1) := by decide +kernel
theorem d_Mod_init_704 : decode (ib f_Mod_init) 704 = .ok (.bipush 109, 2) := by decide +kernel
theorem d_Mod_init_706 : decode (ib f_Mod_init) 706 = .ok (.bipush 32, 2) := by decide +kernel
theorem d_Mod_init_708 : decode (ib f_Mod_init) 708 = .ok (.iastore, 1) := by decide +kernel
theorem d_Mod_init_709 : decode (ib f_Mod_init) 709 = .ok (.dup, 1) := by decide +kernel
theorem d_Mod_init_710 : decode (ib f_Mod_init) 710 = .ok (.bipush 110, 2) := by decide +kernel
theorem d_Mod_init_712 : decode (ib f_Mod_init) 712 = .ok (.bipush 119, 2) := by decide +kernel
theorem d_Mod_init_714 : decode (ib f_Mod_init) 714 = .ok (.iastore, 1) := by decide +kernel
theorem d_Mod_init_715 : decode (ib f_Mod_init) 715 = .ok (.dup, 1) := by decide +kernel
theorem d_Mod_init_716 : decode (ib f_Mod_init) 716 = .ok (.bipush 111, 2) := by decide +kernel
theorem d_Mod_init_718 : decode (ib f_Mod_init) 718 = .ok (.bipush 111, 2) := by decide +kernel
theorem d_Mod_init_720 : decode (ib f_Mod_init) 720 = .ok (.iastore, 1) := by decide +kernel
theorem d_Mod_init_721 : decode (ib f_Mod_init) 721 = .ok (.dup, 1) := by decide +kernel
theorem d_Mod_init_722 : decode (ib f_Mod_init) 722 = .ok (.bipush 112, 2) := by decide +kernel
theorem d_Mod_init_724 : decode (ib f_Mod_init) 724 = .ok (.bipush 114, 2) := by decide +kernel
theorem d_Mod_init_726 : decode (ib f_Mod_init) 726 = .ok (.iastore, 1) := by decide +kernel
theorem d_Mod_init_727 : decode (ib f_Mod_init) 727 = .ok (.dup, 1) := by decide +kernel
theorem d_Mod_init_728 : decode (ib f_Mod_init) 728 = .ok (.bipush 113, 2) := by decide +kernel
theorem d_Mod_init_730 : decode (ib f_Mod_init) 730 = .ok (.bipush 100, 2) := by decide +kernel
theorem d_Mod_init_732 : decode (ib f_Mod_init) 732 = .ok (.iastore, 1) := by decide +kernel
theorem d_Mod_init_733 : decode (ib f_Mod_init) 733 = .ok (.dup, 1) := by decide +kernel
theorem d_Mod_init_734 : decode (ib f_Mod_init) 734 = .ok (.bipush 114, 2) := by decide +kernel
theorem d_Mod_init_736 : decode (ib f_Mod_init) 736 = .ok (.bipush 32, 2) := by decide +kernel
theorem d_Mod_init_738 : decode (ib f_Mod_init) 738 = .ok (.iastore, 1) := by decide +kernel
theorem d_Mod_init_739 : decode (ib f_Mod_init) 739 = .ok (.dup, 1) := by decide +kernel
theorem d_Mod_init_740 : decode (ib f_Mod_init) 740 = .ok (.bipush 115, 2) := by decide +kernel
theorem d_Mod_init_742 : decode (ib f_Mod_init) 742 = .ok (.bipush 119, 2) := by decide +kernel
theorem d_Mod_init_744 : decode (ib f_Mod_init) 744 = .ok (.iastore, 1) := by decide +kernel
theorem d_Mod_init_745 : decode (ib f_Mod_init) 745 = .ok (.dup, 1) := by decide +kernel
theorem d_Mod_init_746 : decode (ib f_Mod_init) 746 = .ok (.bipush 116, 2) := by decide +kernel
theorem d_Mod_init_748 : decode (ib f_Mod_init) 748 = .ok (.bipush 97, 2) := by decide +kernel
theorem d_Mod_init_750 : decode (ib f_Mod_init) 750 = .ok (.iastore, 1) := by decide +kernel
theorem d_Mod_init_751 : decode (ib f_Mod_init) 751 = .ok (.dup, 1) := by decide +kernel
theorem d_Mod_init_752 : decode (ib f_Mod_init) 752 = .ok (.bipush 117, 2) := by decide +kernel
theorem d_Mod_init_754 : decode (ib f_Mod_init) 754 = .ok (.bipush 115, 2) := by decide +kernel
theorem d_Mod_init_756 : decode (ib f_Mod_init) 756 = .ok (.iastore, 1) := by decide +kernel
theorem d_Mod_init_757 : decode (ib f_Mod_init) 757 = .ok (.dup, 1) := by decide +kernel
theorem d_Mod_init_758 : decode (ib f_Mod_init) 758 = .ok (.bipush 118, 2) := by decide +kernel
theorem d_Mod_init_760 : decode (ib f_Mod_init) 760 = .ok (.bipush 112, 2) := by decide +kernel
theorem d_Mod_init_762 : decode (ib f_Mod_init) 762 = .ok (.iastore, 1) := by decide +kernel
theorem d_Mod_init_763 : decode (ib f_Mod_init) 763 = .ok (.dup, 1) := by decide +kernel
theorem d_Mod_init_764 : decode (ib f_Mod_init) 764 = .ok (.bipush 119, 2) := by decide +kernel
theorem d_Mod_init_766 : decode (ib f_Mod_init) 766 = .ok (.bipush 32, 2) := by decide +kernel
theorem d_Mod_init_768 : decode (ib f_Mod_init) 768 = .ok (.iastore, 1) := by decide +kernel
theorem d_Mod_init_769 : decode (ib f_Mod_init) 769 = .ok (.dup, 1) := by decide +kernel
theorem d_Mod_init_770 : decode (ib f_Mod_init) 770 = .ok (.bipush 120, 2) := by decide +kernel
theorem d_Mod_init_772 : decode (ib f_Mod_init) 772 = .ok (.bipush 118, 2) := by decide +kernel
theorem d_Mod_init_774 : decode (ib f_Mod_init) 774 = .ok (.iastore, 1) := by decide +kernel
theorem d_Mod_init_775 : decode (ib f_Mod_init) 775 = .ok (.dup, 1) := by decide +kernel
theorem d_Mod_init_776 : decode (ib f_Mod_init) 776 = .ok (.bipush 121, 2) := by decide +kernel
theorem d_Mod_init_778 : decode (ib f_Mod_init) 778 = .ok (.bipush 101, 2) := by decide +kernel
theorem d_Mod_init_780 : decode (ib f_Mod_init) 780 = .ok (.iastore, 1) := by decide +kernel
theorem d_Mod_init_781 : decode (ib f_Mod_init) 781 = .ok (.dup, 1) := by decide +kernel
theorem d_Mod_init_782 : decode (ib f_Mod_init) 782 = .ok (.bipush 122, 2) := by decide +kernel
theorem d_Mod_init_784 : decode (ib f_Mod_init) 784 = .ok (.bipush 105, 2) := by decide +kernel
theorem d_Mod_init_786 : decode (ib f_Mod_init) 786 = .ok (.iastore, 1) := by decide +kernel
theorem d_Mod_init_787 : decode (ib f_Mod_init) 787 = .ok (.dup, 1) := by decide +kernel
theorem d_Mod_init_788 : decode (ib f_Mod_init) 788 = .ok (.bipush 123, 2) := by decide +kernel
theorem d_Mod_init_790 : decode (ib f_Mod_init) 790 = .ok (.bipush 108, 2) := by decide +kernel
theorem d_Mod_init_792 : decode (ib f_Mod_init) 792 = .ok (.iastore, 1) := by decide +kernel
theorem d_Mod_init_793 : decode (ib f_Mod_init) 793 = .ok (.dup, 1) := by decide +kernel
theorem d_Mod_init_794 : decode (ib f_Mod_init) 794 = .ok (.bipush 124, 2) := by decide +kernel
theorem d_Mod_init_796 : decode (ib f_Mod_init) 796 = .ok (.bipush 32, 2) := by decide +kernel
theorem d_Mod_init_798 : decode (ib f_Mod_init) 798 = .ok (.iastore, 1) := by decide +kernel
theorem d_Mod_init_799 : decode (ib f_Mod_init) 799 = .ok (.dup, 1) := by decide +kernel
theorem d_Mod_init_800 : decode (ib f_Mod_init) 800 = .ok (.bipush 125, 2) := by decide +kernel
theorem d_Mod_init_802 : decode (ib f_Mod_init) 802 = .ok (.bipush 97, 2) := by decide +kernel
theorem d_Mod_init_804 : decode (ib f_Mod_init) 804 = .ok (.iastore, 1) := by decide +kernel
theorem d_Mod_init_805 : decode (ib f_Mod_init) 805 = .ok (.dup, 1) := by decide +kernel
theorem d_Mod_init_806 : decode (ib f_Mod_init) 806 = .ok (.bipush 126, 2) := by decide +kernel
theorem d_Mod_init_808 : decode (ib f_Mod_init) 808 = .ok (.bipush 116, 2) := by decide +kernel
theorem d_Mod_init_810 : decode (ib f_Mod_init) 810 = .ok (.iastore, 1) := by decide +kernel
theorem d_Mod_init_811 : decode (ib f_Mod_init) 811 = .ok (.dup, 1) := by decide +kernel
theorem d_Mod_init_812 : decode (ib f_Mod_init) 812 = .ok (.bipush 127, 2) := by decide +kernel
theorem d_Mod_init_814 : decode (ib f_Mod_init) 814 = .ok (.bipush 32, 2) := by decide +kernel
theorem d_Mod_init_816 : decode (ib f_Mod_init) 816 = .ok (.iastore, 1) := by decide +kernel
theorem d_Mod_init_817 : decode (ib f_Mod_init) 817 = .ok (.dup, 1) := by decide +kernel
theorem d_Mod_init_818 : decode (ib f_Mod_init) 818 = .ok (.sipush 128, 3) := by decide +kernel
theorem d_Mod_init_821 : decode (ib f_Mod_init) 821 = .ok (.bipush 98, 2) := by decide +kernel
theorem d_Mod_init_823 : decode (ib f_Mod_init) 823 = .ok (.iastore, 1) := by decide +kernel
theorem d_Mod_init_824 : decode (ib f_Mod_init) 824 = .ok (.dup, 1) := by decide +kernel
theorem d_Mod_init_825 : decode (ib f_Mod_init) 825 = .ok (.sipush 129, 3) := by decide +kernel
theorem d_Mod_init_828 : decode (ib f_Mod_init) 828 = .ok (.bipush 111, 2) := by decide +kernel
theorem d_Mod_init_830 : decode (ib f_Mod_init) 830 = .ok (.iastore, 1) := by decide +kernel
theorem d_Mod_init_831 : decode (ib f_Mod_init) 831 = .ok (.dup, 1) := by decide +kernel
theorem d_Mod_init_832 : decode (ib f_Mod_init) 832 = .ok (.sipush 130, 3) := by decide +kernel
theorem d_Mod_init_835 : decode (ib f_Mod_init) 835 = .ok (.bipush 105, 2) := by decide +kernel
theorem d_Mod_init_837 : decode (ib f_Mod_init) 837 = .ok (.iastore, 1) := by decide +kernel
theorem d_Mod_init_838 : decode (ib f_Mod_init) 838 = .ok (.dup, 1) := by decide +kernel
theorem d_Mod_init_839 : decode (ib f_Mod_init) 839 = .ok (.sipush 131, 3) := by decide +kernel
theorem d_Mod_init_842 : decode (ib f_Mod_init) 842 = .ok (.bipush 108, 2) := by decide +kernel
theorem d_Mod_init_844 : decode (ib f_Mod_init) 844 = .ok (.iastore, 1) := by decide +kernel
theorem d_Mod_init_845 : decode (ib f_Mod_init) 845 = .ok (.dup, 1) := by decide +kernel
theorem d_Mod_init_846 : decode (ib f_Mod_init) 846 = .ok (.sipush 132, 3) := by decide +kernel
theorem d_Mod_init_849 : decode (ib f_Mod_init) 849 = .ok (.bipush 32, 2) := by decide +kernel
theorem d_Mod_init_851 : decode (ib f_Mod_init) 851 = .ok (.iastore, 1) := by decide +kernel
theorem d_Mod_init_852 : decode (ib f_Mod_init) 852 = .ok (.dup, 1) := by decide +kernel
theorem d_Mod_init_853 : decode (ib f_Mod_init) 853 = .ok (.sipush 133, 3) := by decide +kernel
theorem d_Mod_init_856 : decode (ib f_Mod_init) 856 = .ok (.bipush 100, 2) := by decide +kernel
theorem d_Mod_init_858 : decode (ib f_Mod_init) 858 = .ok (.iastore, 1) := by decide +kernel
theorem d_Mod_init_859 : decode (ib f_Mod_init) 859 = .ok (.dup, 1) := by decide +kernel
theorem d_Mod_init_860 : decode (ib f_Mod_init) 860 = .ok (.sipush 134, 3) := by decide +kernel
theorem d_Mod_init_863 : decode (ib f_Mod_init) 863 = .ok (.bipush 114, 2) := by decide +kernel
theorem d_Mod_init_865 : decode (ib f_Mod_init) 865 = .ok (.iastore, 1) := by decide +kernel
theorem d_Mod_init_866 : decode (ib f_Mod_init) 866 = .ok (.dup, 1) := by decide +kernel
theorem d_Mod_init_867 : decode (ib f_Mod_init) 867 = .ok (.sipush 135, 3) := by decide +kernel
theorem d_Mod_init_870 : decode (ib f_Mod_init) 870 = .ok (.bipush 121, 2) := by decide +kernel
theorem d_Mod_init_872 : decode (ib f_Mod_init) 872 = .ok (.iastore, 1) := by decide +kernel
theorem d_Mod_init_873 : decode (ib f_Mod_init) 873 = .ok (.dup, 1) := by decide +kernel
theorem d_Mod_init_874 : decode (ib f_Mod_init) 874 = .ok (.sipush 136, 3) := by decide +kernel
theorem d_Mod_init_877 : decode (ib f_Mod_init) 877 = .ok (.bipush 32, 2) := by decide +kernel
theorem d_Mod_init_879 : decode (ib f_Mod_init) 879 = .ok (.iastore, 1) := by decide +kernel
theorem d_Mod_init_880 : decode (ib f_Mod_init) 880 = .ok (.dup, 1) := by decide +kernel
theorem d_Mod_init_881 : decode (ib f_Mod_init) 881 = .ok (.sipush 137, 3) := by decide +kernel
theorem d_Mod_init_884 : decode (ib f_Mod_init) 884 = .ok (.bipush 115, 2) := by decide +kernel
theorem d_Mod_init_886 : decode (ib f_Mod_init) 886 = .ok (.iastore, 1) := by decide +kernel
theorem d_Mod_init_887 : decode (ib f_Mod_init) 887 = .ok (.dup, 1) := by decide +kernel
theorem d_Mod_init_888 : decode (ib f_Mod_init) 888 = .ok (.sipush 138, 3) := by decide +kernel
theorem d_Mod_init_891 : decode (ib f_Mod_init) 891 = .ok (.bipush 116, 2) := by decide +kernel
theorem d_Mod_init_893 : decode (ib f_Mod_init) 893 = .ok (.iastore, 1) := by decide +kernel
theorem d_Mod_init_894 : decode (ib f_Mod_init) 894 = .ok (.dup, 1) := by decide +kernel
theorem d_Mod_init_895 : decode (ib f_Mod_init) 895 = .ok (.sipush 139, 3) := by decide +kernel
theorem d_Mod_init_898 : decode (ib f_Mod_init) 898 = .ok (.bipush 114, 2) := by decide +kernel
theorem d_Mod_init_900 : decode (ib f_Mod_init) 900 = .ok (.iastore, 1) := by decide +kernel
theorem d_Mod_init_901 : decode (ib f_Mod_init) 901 = .ok (.dup, 1) := by decide +kernel
theorem d_Mod_init_902 : decode (ib f_Mod_init) 902 = .ok (.sipush 140, 3) := by decide +kernel
theorem d_Mod_init_905 : decode (ib f_Mod_init) 905 = .ok (.bipush 105, 2) := by decide +kernel
theorem d_Mod_init_907 : decode (ib f_Mod_init) 907 = .ok (.iastore, 1) := by decide +kernel
theorem d_Mod_init_908 : decode (ib f_Mod_init) 908 = .ok (.dup, 1) := by decide +kernel
theorem d_Mod_init_909 : decode (ib f_Mod_init) 909 = .ok (.sipush 141, 3) := by decide +kernel
theorem d_Mod_init_912 : decode (ib f_Mod_init) 912 = .ok (.bipush 112, 2) := by decide +kernel
theorem d_Mod_init_914 : decode (ib f_Mod_init) 914 = .ok (.iastore, 1) := by decide +kernel
theorem d_Mod_init_915 : decode (ib f_Mod_init) 915 = .ok (.dup, 1) := by decide +kernel
theorem d_Mod_init_916 : decode (ib f_Mod_init) 916 = .ok (.sipush 142, 3) := by decide +kernel
theorem d_Mod_init_919 : decode (ib f_Mod_init) 919 = .ok (.bipush 32, 2) := by decide +kernel
theorem d_Mod_init_921 : decode (ib f_Mod_init) 921 = .ok (.iastore, 1) := by decide +kernel
theorem d_Mod_init_922 : decode (ib f_Mod_init) 922 = .ok (.putfield 25, 3) := by decide +kernel
theorem d_Mod_init_925 : decode (ib f_Mod_init) 925 = .ok (.aload_n 0, 1) := by decide +kernel
theorem d_Mod_init_926 : decode (ib f_Mod_init) 926 = .ok (.iconst 2, 1) := by decide +kernel
theorem d_Mod_init_927 : decode (ib f_Mod_init) 927 = .ok (.newarray .int, 2) := by decide +kernel
theorem d_Mod_init_929 : decode (ib f_Mod_init) 929 = .ok (.putfield 28, 3) := by decide +kernel
theorem d_Mod_init_932 : decode (ib f_Mod_init) 932 = .ok (.aload_n 0, 1) := by decide +kernel
theorem d_Mod_init_933 : decode (ib f_Mod_init) 933 = .ok (.bipush 48, 2) := by decide +kernel
theorem d_Mod_init_935 : decode (ib f_Mod_init) 935 = .ok (.newarray .int, 2) := by decide +kernel
theorem d_Mod_init_937 : decode (ib f_Mod_init) 937 = .ok (.putfield 31, 3) := by decide +kernel
theorem d_Mod_init_940 : decode (ib f_Mod_init) 940 = .ok (.aload_n 0, 1) := by decide +kernel
theorem d_Mod_init_941 : decode (ib f_Mod_init) 941 = .ok (.bipush 48, 2) := by decide +kernel
theorem d_Mod_init_943 : decode (ib f_Mod_init) 943 = .ok (.newarray .int, 2) := by decide +kernel
theorem d_Mod_init_945 : decode (ib f_Mod_init) 945 = .ok (.putfield 34, 3) := by decide +kernel
theorem d_Mod_init_948 : decode (ib f_Mod_init) 948 = .ok (.aload_n 0, 1) := by decide +kernel
theorem d_Mod_init_949 : decode (ib f_Mod_init) 949 = .ok (.bipush 48, 2) := by decide +kernel
theorem d_Mod_init_951 : decode (ib f_Mod_init) 951 = .ok (.newarray .int, 2) := by decide +kernel
theorem d_Mod_init_953 : decode (ib f_Mod_init) 953 = .ok (.putfield 37, 3) := by decide +kernel
theorem d_Mod_init_956 : decode (ib f_Mod_init) 956 = .ok (.aload_n 0, 1) := by decide +kernel
theorem d_Mod_init_957 : decode (ib f_Mod_init) 957 = .ok (.bipush 48, 2) := by decide +kernel
theorem d_Mod_init_959 : decode (ib f_Mod_init) 959 = .ok (.newarray .int, 2) := by decide +kernel
theorem d_Mod_init_961 : decode (ib f_Mod_init) 961 = .ok (.putfield 40, 3) := by decide +kernel
theorem d_Mod_init_964 : decode (ib f_Mod_init) 964 = .ok (.aload_n 0, 1) := by decide +kernel
theorem d_Mod_init_965 : decode (ib f_Mod_init) 965 = .ok (.sipush 1200, 3) := by decide +kernel
theorem d_Mod_init_968 : decode (ib f_Mod_init) 968 = .ok (.newarray .int, 2) := by decide +kernel
theorem d_Mod_init_970 : decode (ib f_Mod_init) 970 = .ok (.putfield 43, 3) := by decide +kernel
theorem d_Mod_init_973 : decode (ib f_Mod_init) 973 = .ok (.aload_n 0, 1) := by decide +kernel
theorem d_Mod_init_974 : decode (ib f_Mod_init) 974 = .ok (.sipush 1200, 3) := by decide +kernel
theorem d_Mod_init_977 : decode (ib f_Mod_init) 977 = .ok (.newarray .int, 2) := by decide +kernel
theorem d_Mod_init_979 : decode (ib f_Mod_init) 979 = .ok (.putfield 46, 3) := by decide +kernel
theorem d_Mod_init_982 : decode (ib f_Mod_init) 982 = .ok (.aload_n 0, 1) := by decide +kernel
theorem d_Mod_init_983 : decode (ib f_Mod_init) 983 = .ok (.bipush 40, 2) := by decide +kernel
theorem d_Mod_init_985 : decode (ib f_Mod_init) 985 = .ok (.newarray .int, 2) := by decide +kernel
theorem d_Mod_init_987 : decode (ib f_Mod_init) 987 = .ok (.putfield 49, 3) := by decide +kernel
theorem d_Mod_init_990 : decode (ib f_Mod_init) 990 = .ok (.aload_n 0, 1) := by decide +kernel
theorem d_Mod_init_991 : decode (ib f_Mod_init) 991 = .ok (.iconst (-1), 1) := by decide +kernel
theorem d_Mod_init_992 : decode (ib f_Mod_init) 992 = .ok (.putfield 52, 3) := by decide +kernel
theorem d_Mod_init_995 : decode (ib f_Mod_init) 995 = .ok (.aload_n 0, 1) := by decide +kernel
theorem d_Mod_init_996 : decode (ib f_Mod_init) 996 = .ok (.sipush 160, 3) := by decide +kernel
theorem d_Mod_init_999 : decode (ib f_Mod_init) 999 = .ok (.newarray .int, 2) := by decide +kernel
theorem d_Mod_init_1001 : decode (ib f_Mod_init) 1001 = .ok (.putfield 56, 3) := by decide +kernel
theorem d_Mod_init_1004 : decode (ib f_Mod_init) 1004 = .ok (.aload_n 0, 1) := by decide +kernel
theorem d_Mod_init_1005 : decode (ib f_Mod_init) 1005 = .ok (.sipush 128, 3) := by decide +kernel
theorem d_Mod_init_1008 : decode (ib f_Mod_init) 1008 = .ok (.newarray .int, 2) := by decide +kernel
theorem d_Mod_init_1010 : decode (ib f_Mod_init) 1010 = .ok (.putfield 59, 3) := by decide +kernel
theorem d_Mod_init_1013 : decode (ib f_Mod_init) 1013 = .ok (.aload_n 0, 1) := by decide +kernel
theorem d_Mod_init_1014 : decode (ib f_Mod_init) 1014 = .ok (.bipush 24, 2) := by decide +kernel
theorem d_Mod_init_1016 : decode (ib f_Mod_init) 1016 = .ok (.newarray .int, 2) := by decide +kernel
theorem d_Mod_init_1018 : decode (ib f_Mod_init) 1018 = .ok (.putfield 62, 3) := by decide +kernel
theorem d_Mod_init_1021 : decode (ib f_Mod_init) 1021 = .ok (.aload_n 0, 1) := by decide +kernel
theorem d_Mod_init_1022 : decode (ib f_Mod_init) 1022 = .ok (.bipush 11, 2) := by decide +kernel
theorem d_Mod_init_1024 : decode (ib f_Mod_init) 1024 = .ok (.newarray .int, 2) := by decide +kernel
theorem d_Mod_init_1026 : decode (ib f_Mod_init) 1026 = .ok (.putfield 65, 3) := by decide +kernel
theorem d_Mod_init_1029 : decode (ib f_Mod_init) 1029 = .ok (.aload_n 0, 1) := by decide +kernel
theorem d_Mod_init_1030 : decode (ib f_Mod_init) 1030 = .ok (.sipush 420, 3) := by decide +kernel
theorem d_Mod_init_1033 : decode (ib f_Mod_init) 1033 = .ok (.newarray .int, 2) := by decide +kernel
theorem d_Mod_init_1035 : decode (ib f_Mod_init) 1035 = .ok (.putfield 68, 3) := by decide +kernel
theorem d_Mod_init_1038 : decode (ib f_Mod_init) 1038 = .ok (.aload_n 0, 1) := by decide +kernel
theorem d_Mod_init_1039 : decode (ib f_Mod_init) 1039 = .ok (.bipush 60, 2) := by decide +kernel
theorem d_Mod_init_1041 : decode (ib f_Mod_init) 1041 = .ok (.newarray .int, 2) := by decide +kernel
theorem d_Mod_init_1043 : decode (ib f_Mod_init) 1043 = .ok (.putfield 71, 3) := by decide +kernel
theorem d_Mod_init_1046 : decode (ib f_Mod_init) 1046 = .ok (.aload_n 0, 1) := by decide +kernel
theorem d_Mod_init_1047 : decode (ib f_Mod_init) 1047 = .ok (.bipush 8, 2) := by decide +kernel
theorem d_Mod_init_1049 : decode (ib f_Mod_init) 1049 = .ok (.newarray .int, 2) := by decide +kernel
theorem d_Mod_init_1051 : decode (ib f_Mod_init) 1051 = .ok (.putfield 74, 3) := by decide +kernel
theorem d_Mod_init_1054 : decode (ib f_Mod_init) 1054 = .ok (.aload_n 0, 1) := by decide +kernel
theorem d_Mod_init_1055 : decode (ib f_Mod_init) 1055 = .ok (.bipush 16, 2) := by decide +kernel
theorem d_Mod_init_1057 : decode (ib f_Mod_init) 1057 = .ok (.newarray .int, 2) := by decide +kernel
theorem d_Mod_init_1059 : decode (ib f_Mod_init) 1059 = .ok (.putfield 77, 3) := by decide +kernel
theorem d_Mod_init_1062 : decode (ib f_Mod_init) 1062 = .ok (.aload_n 0, 1) := by decide +kernel
theorem d_Mod_init_1063 : decode (ib f_Mod_init) 1063 = .ok (.bipush 6, 2) := by decide +kernel
theorem d_Mod_init_1065 : decode (ib f_Mod_init) 1065 = .ok (.newarray .int, 2) := by decide +kernel
theorem d_Mod_init_1067 : decode (ib f_Mod_init) 1067 = .ok (.putfield 80, 3) := by decide +kernel
theorem d_Mod_init_1070 : decode (ib f_Mod_init) 1070 = .ok (.aload_n 0, 1) := by decide +kernel
theorem d_Mod_init_1071 : decode (ib f_Mod_init) 1071 = .ok (.bipush 6, 2) := by decide +kernel
theorem d_Mod_init_1073 : decode (ib f_Mod_init) 1073 = .ok (.newarray .int, 2) := by decide +kernel
theorem d_Mod_init_1075 : decode (ib f_Mod_init) 1075 = .ok (.putfield 83, 3) := by decide +kernel
theorem d_Mod_init_1078 : decode (ib f_Mod_init) 1078 = .ok (.aload_n 0, 1) := by decide +kernel
theorem d_Mod_init_1079 : decode (ib f_Mod_init) 1079 = .ok (.bipush 8, 2) := by decide +kernel
theorem d_Mod_init_1081 : decode (ib f_Mod_init) 1081 = .ok (.newarray .int, 2) := by decide +kernel
theorem d_Mod_init_1083 : decode (ib f_Mod_init) 1083 = .ok (.putfield 86, 3) := by decide +kernel
theorem d_Mod_init_1086 : decode (ib f_Mod_init) 1086 = .ok (.aload_n 0, 1) := by decide +kernel
theorem d_Mod_init_1087 : decode (ib f_Mod_init) 1087 = .ok (.iconst 2, 1) := by decide +kernel
theorem d_Mod_init_1088 : decode (ib f_Mod_init) 1088 = .ok (.newarray .int, 2) := by decide +kernel
theorem d_Mod_init_1090 : decode (ib f_Mod_init) 1090 = .ok (.putfield 89, 3) := by decide +kernel
theorem d_Mod_init_1093 : decode (ib f_Mod_init) 1093 = .ok (.aload_n 0, 1) := by decide +kernel
theorem d_Mod_init_1094 : decode (ib f_Mod_init) 1094 = .ok (.bipush 16, 2) := by decide +kernel
theorem d_Mod_init_1096 : decode (ib f_Mod_init) 1096 = .ok (.newarray .int, 2) := by decide +kernel
theorem d_Mod_init_1098 : decode (ib f_Mod_init) 1098 = .ok (.putfield 92, 3) := by decide +kernel
theorem d_Mod_init_1101 : decode (ib f_Mod_init) 1101 = .ok (.aload_n 0, 1) := by decide +kernel
theorem d_Mod_init_1102 : decode (ib f_Mod_init) 1102 = .ok (.bipush 8, 2) := by decide +kernel
theorem d_Mod_init_1104 : decode (ib f_Mod_init) 1104 = .ok (.newarray .int, 2) := by decide +kernel
theorem d_Mod_init_1106 : decode (ib f_Mod_init) 1106 = .ok (.putfield 95, 3) := by decide +kernel
theorem d_Mod_init_1109 : decode (ib f_Mod_init) 1109 = .ok (.aload_n 0, 1) := by decide +kernel
theorem d_Mod_init_1110 : decode (ib f_Mod_init) 1110 = .ok (.sipush 3801, 3) := by decide +kernel
theorem d_Mod_init_1113 : decode (ib f_Mod_init) 1113 = .ok (.newarray .int, 2) := by decide +kernel
theorem d_Mod_init_1115 : decode (ib f_Mod_init) 1115 = .ok (.putfield 98, 3) := by decide +kernel
theorem d_Mod_init_1118 : decode (ib f_Mod_init) 1118 = .ok (.aload_n 0, 1) := by decide +kernel
theorem d_Mod_init_1119 : decode (ib f_Mod_init) 1119 = .ok (.bipush 31, 2) := by decide +kernel
theorem d_Mod_init_1121 : decode (ib f_Mod_init) 1121 = .ok (.newarray .int, 2) := by decide +kernel
theorem d_Mod_init_1123 : decode (ib f_Mod_init) 1123 = .ok (.putfield 101, 3) := by decide +kernel
theorem d_Mod_init_1126 : decode (ib f_Mod_init) 1126 = .ok (.aload_n 0, 1) := by decide +kernel
theorem d_Mod_init_1127 : decode (ib f_Mod_init) 1127 = .ok (.sipush 2400, 3) := by decide +kernel
theorem d_Mod_init_1130 : decode (ib f_Mod_init) 1130 = .ok (.newarray .int, 2) := by decide +kernel
theorem d_Mod_init_1132 : decode (ib f_Mod_init) 1132 = .ok (.putfield 104, 3) := by decide +kernel
theorem d_Mod_init_1135 : decode (ib f_Mod_init) 1135 = .ok (.return_, 1) := by decide +kernel
theorem d_Mod_isIn_0 : decode (ib f_Mod_isIn) 0 = .ok (.iload_n 1, 1) := by decide +kernel
theorem d_Mod_isIn_1 : decode (ib f_Mod_isIn) 1 = .ok (.iload_n 2, 1) := by decide +kernel
theorem d_Mod_isIn_2 : decode (ib f_Mod_isIn) 2 = .ok (.if_icmp .lt 12, 3) := by decide +kernel
theorem d_Mod_isIn_5 : decode (ib f_Mod_isIn) 5 = .ok (.iload_n 1, 1) := by decide +kernel
theorem d_Mod_isIn_6 : decode (ib f_Mod_isIn) 6 = .ok (.iload_n 3, 1) := by decide +kernel
theorem d_Mod_isIn_7 : decode (ib f_Mod_isIn) 7 = .ok (.if_icmp .gt 7, 3) := by decide +kernel
theorem d_Mod_isIn_10 : decode (ib f_Mod_isIn) 10 = .ok (.iconst 1, 1) := by decide +kernel
theorem d_Mod_isIn_11 : decode (ib f_Mod_isIn) 11 = .ok (.goto 4, 3) := by decide +kernel
theorem d_Mod_isIn_14 : decode (ib f_Mod_isIn) 14 = .ok (.iconst 0, 1) := by decide +kernel
theorem d_Mod_isIn_15 : decode (ib f_Mod_isIn) 15 = .ok (.ireturn, 1) := by decide +kernel
theorem d_Mod_within_0 : decode (ib f_Mod_within) 0 = .ok (.iload_n 1, 1) := by decide +kernel
theorem d_Mod_within_1 : decode (ib f_Mod_within) 1 = .ok (.iload_n 2, 1) := by decide +kernel
theorem d_Mod_within_2 : decode (ib f_Mod_within) 2 = .ok (.if_icmp .ge 7, 3) := by decide +kernel
theorem d_Mod_within_5 : decode (ib f_Mod_within) 5 = .ok (.iload_n 2, 1) := by decide +kernel
theorem d_Mod_within_6 : decode (ib f_Mod_within) 6 = .ok (.goto 13, 3) := by decide +kernel
theorem d_Mod_within_9 : decode (ib f_Mod_within) 9 = .ok (.iload_n 1, 1) := by decide +kernel
theorem d_Mod_within_10 : decode (ib f_Mod_within) 10 = .ok (.iload_n 3, 1) := by decide +kernel
theorem d_Mod_within_11 : decode (ib f_Mod_within) 11 = .ok (.if_icmp .le 7, 3) := by decide +kernel
theorem d_Mod_within_14 : decode (ib f_Mod_within) 14 = .ok (.iload_n 3, 1) := by decide +kernel
theorem d_Mod_within_15 : decode (ib f_Mod_within) 15 = .ok (.goto 4, 3) := by decide +kernel
theorem d_Mod_within_18 : decode (ib f_Mod_within) 18 = .ok (.iload_n 1, 1) := by decide +kernel
theorem d_Mod_within_19 : decode (ib f_Mod_within) 19 = .ok (.ireturn, 1) := by decide +kernel
theorem d_Mod_greater_0 : decode (ib f_Mod_greater) 0 = .ok (.iload_n 1, 1) := by decide +kernel
theorem d_Mod_greater_1 : decode (ib f_Mod_greater) 1 = .ok (.iload_n 2, 1) := by decide +kernel
theorem d_Mod_greater_2 : decode (ib f_Mod_greater) 2 = .ok (.if_icmp .le 7, 3) := by decide +kernel
theorem d_Mod_greater_5 : decode (ib f_Mod_greater) 5 = .ok (.iload_n 1, 1) := by decide +kernel
theorem d_Mod_greater_6 : decode (ib f_Mod_greater) 6 = .ok (.goto 4, 3) := by decide +kernel
theorem d_Mod_greater_9 : decode (ib f_Mod_greater) 9 = .ok (.iload_n 2, 1) := by decide +kernel
theorem d_Mod_greater_10 : decode (ib f_Mod_greater) 10 = .ok (.ireturn, 1) := by decide +kernel
theorem d_Mod_lesser_0 : decode (ib f_Mod_lesser) 0 = .ok (.iload_n 1, 1) := by decide +kernel
theorem d_Mod_lesser_1 : decode (ib f_Mod_lesser) 1 = .ok (.iload_n 2, 1) := by decide +kernel
theorem d_Mod_lesser_2 : decode (ib f_Mod_lesser) 2 = .ok (.if_icmp .ge 7, 3) := by decide +kernel
theorem d_Mod_lesser_5 : decode (ib f_Mod_lesser) 5 = .ok (.iload_n 1, 1) := by decide +kernel
theorem d_Mod_lesser_6 : decode (ib f_Mod_lesser) 6 = .ok (.goto 4, 3) := by decide +kernel
theorem d_Mod_lesser_9 : decode (ib f_Mod_lesser) 9 = .ok (.iload_n 2, 1) := by decide +kernel
theorem d_Mod_lesser_10 : decode (ib f_Mod_lesser) 10 = .ok (.ireturn, 1) := by decide +kernel
theorem d_Mod_apart_0 : decode (ib f_Mod_apart) 0 = .ok (.iload_n 1, 1) := by decide +kernel
theorem d_Mod_apart_1 : decode (ib f_Mod_apart) 1 = .ok (.iload_n 2, 1) := by decide +kernel
theorem d_Mod_apart_2 : decode (ib f_Mod_apart) 2 = .ok (.if_icmp .le 9, 3) := by decide +kernel
theorem d_Mod_apart_5 : decode (ib f_Mod_apart) 5 = .ok (.iload_n 1, 1) := by decide +kernel
theorem d_Mod_apart_6 : decode (ib f_Mod_apart) 6 = .ok (.iload_n 2, 1) := by decide +kernel
theorem d_Mod_apart_7 : decode (ib f_Mod_apart) 7 = .ok (.isub, 1) := by decide +kernel
theorem d_Mod_apart_8 : decode (ib f_Mod_apart) 8 = .ok (.goto 6, 3) := by decide +kernel
theorem d_Mod_apart_11 : decode (ib f_Mod_apart) 11 = .ok (.iload_n 2, 1) := by decide +kernel
theorem d_Mod_apart_12 : decode (ib f_Mod_apart) 12 = .ok (.iload_n 1, 1) := by decide +kernel
theorem d_Mod_apart_13 : decode (ib f_Mod_apart) 13 = .ok (.isub, 1) := by decide +kernel
theorem d_Mod_apart_14 : decode (ib f_Mod_apart) 14 = .ok (.ireturn, 1) := by decide +kernel
theorem d_Mod_added_0 : decode (ib f_Mod_added) 0 = .ok (.iload_n 1, 1) := by decide +kernel
theorem d_Mod_added_1 : decode (ib f_Mod_added) 1 = .ok (.ldc 110, 2) := by decide +kernel
theorem d_Mod_added_3 : decode (ib f_Mod_added) 3 = .ok (.iload_n 2, 1) := by decide +kernel
theorem d_Mod_added_4 : decode (ib f_Mod_added) 4 = .ok (.isub, 1) := by decide +kernel
theorem d_Mod_added_5 : decode (ib f_Mod_added) 5 = .ok (.if_icmp .lt 12, 3) := by decide +kernel
theorem d_Mod_added_8 : decode (ib f_Mod_added) 8 = .ok (.iload_n 1, 1) := by decide +kernel
theorem d_Mod_added_9 : decode (ib f_Mod_added) 9 = .ok (.ldc 110, 2) := by decide +kernel
theorem d_Mod_added_11 : decode (ib f_Mod_added) 11 = .ok (.iload_n 2, 1) := by decide +kernel
theorem d_Mod_added_12 : decode (ib f_Mod_added) 12 = .ok (.isub, 1) := by decide +kernel
theorem d_Mod_added_13 : decode (ib f_Mod_added) 13 = .ok (.isub, 1) := by decide +kernel
theorem d_Mod_added_14 : decode (ib f_Mod_added) 14 = .ok (.goto 6, 3) := by decide +kernel
theorem d_Mod_added_17 : decode (ib f_Mod_added) 17 = .ok (.iload_n 1, 1) := by decide +kernel
theorem d_Mod_added_18 : decode (ib f_Mod_added) 18 = .ok (.iload_n 2, 1) := by decide +kernel
theorem d_Mod_added_19 : decode (ib f_Mod_added) 19 = .ok (.iadd, 1) := by decide +kernel
theorem d_Mod_added_20 : decode (ib f_Mod_added) 20 = .ok (.ireturn, 1) := by decide +kernel
theorem d_Mod_onesOf_0 : decode (ib f_Mod_onesOf) 0 = .ok (.iconst 0, 1) := by decide +kernel
theorem d_Mod_onesOf_1 : decode (ib f_Mod_onesOf) 1 = .ok (.istore_n 2, 1) := by decide +kernel
theorem d_Mod_onesOf_2 : decode (ib f_Mod_onesOf) 2 = .ok (.iload_n 1, 1) := by decide +kernel
theorem d_Mod_onesOf_3 : decode (ib f_Mod_onesOf) 3 = .ok (.istore_n 3, 1) := by decide +kernel
theorem d_Mod_onesOf_4 : decode (ib f_Mod_onesOf) 4 = .ok (.iload_n 3, 1) := by decide +kernel
theorem d_Mod_onesOf_5 : decode (ib f_Mod_onesOf) 5 = .ok (.ifCond .eq 16, 3) := by decide +kernel
theorem d_Mod_onesOf_8 : decode (ib f_Mod_onesOf) 8 = .ok (.iload_n 2, 1) := by decide +kernel
theorem d_Mod_onesOf_9 : decode (ib f_Mod_onesOf) 9 = .ok (.iconst 1, 1) := by decide +kernel
theorem d_Mod_onesOf_10 : decode (ib f_Mod_onesOf) 10 = .ok (.iadd, 1) := by decide +kernel
theorem d_Mod_onesOf_11 : decode (ib f_Mod_onesOf) 11 = .ok (.istore_n 2, 1) := by decide +kernel
theorem d_Mod_onesOf_12 : decode (ib f_Mod_onesOf) 12 = .ok (.iload_n 3, 1) := by decide +kernel
theorem d_Mod_onesOf_13 : decode (ib f_Mod_onesOf) 13 = .ok (.iload_n 3, 1) := by decide +kernel
theorem d_Mod_onesOf_14 : decode (ib f_Mod_onesOf) 14 = .ok (.iconst 1, 1) := by decide +kernel
theorem d_Mod_onesOf_15 : decode (ib f_Mod_onesOf) 15 = .ok (.isub, 1) := by decide +kernel
theorem d_Mod_onesOf_16 : decode (ib f_Mod_onesOf) 16 = .ok (.iand, 1) := by decide +kernel
theorem d_Mod_onesOf_17 : decode (ib f_Mod_onesOf) 17 = .ok (.istore_n 3, 1) := by decide +kernel
theorem d_Mod_onesOf_18 : decode (ib f_Mod_onesOf) 18 = .ok (.goto (-14), 3) := by decide +kernel
theorem d_Mod_onesOf_21 : decode (ib f_Mod_onesOf) 21 = .ok (.iload_n 2, 1) := by decide +kernel
theorem d_Mod_onesOf_22 : decode (ib f_Mod_onesOf) 22 = .ok (.ireturn, 1) := by decide +kernel
theorem d_Mod_has_0 : decode (ib f_Mod_has) 0 = .ok (.iload_n 1, 1) := by decide +kernel
theorem d_Mod_has_1 : decode (ib f_Mod_has) 1 = .ok (.iload_n 2, 1) := by decide +kernel
theorem d_Mod_has_2 : decode (ib f_Mod_has) 2 = .ok (.ishr, 1) := by decide +kernel
theorem d_Mod_has_3 : decode (ib f_Mod_has) 3 = .ok (.iconst 1, 1) := by decide +kernel
theorem d_Mod_has_4 : decode (ib f_Mod_has) 4 = .ok (.iand, 1) := by decide +kernel
theorem d_Mod_has_5 : decode (ib f_Mod_has) 5 = .ok (.iconst 1, 1) := by decide +kernel
theorem d_Mod_has_6 : decode (ib f_Mod_has) 6 = .ok (.if_icmp .ne 7, 3) := by decide +kernel
theorem d_Mod_has_9 : decode (ib f_Mod_has) 9 = .ok (.iconst 1, 1) := by decide +kernel
theorem d_Mod_has_10 : decode (ib f_Mod_has) 10 = .ok (.goto 4, 3) := by decide +kernel
theorem d_Mod_has_13 : decode (ib f_Mod_has) 13 = .ok (.iconst 0, 1) := by decide +kernel
theorem d_Mod_has_14 : decode (ib f_Mod_has) 14 = .ok (.ireturn, 1) := by decide +kernel
theorem d_Mod_keepsAhead_0 : decode (ib f_Mod_keepsAhead) 0 = .ok (.aload_n 0, 1) := by decide +kernel
theorem d_Mod_keepsAhead_1 : decode (ib f_Mod_keepsAhead) 1 = .ok (.getfield 111, 3) := by decide +kernel
theorem d_Mod_keepsAhead_4 : decode (ib f_Mod_keepsAhead) 4 = .ok (.bipush 6, 2) := by decide +kernel
theorem d_Mod_keepsAhead_6 : decode (ib f_Mod_keepsAhead) 6 = .ok (.if_icmp .ne 49, 3) := by decide +kernel
theorem d_Mod_keepsAhead_9 : decode (ib f_Mod_keepsAhead) 9 = .ok (.aload_n 0, 1) := by decide +kernel
theorem d_Mod_keepsAhead_10 : decode (ib f_Mod_keepsAhead) 10 = .ok (.aload_n 0, 1) := by decide +kernel
theorem d_Mod_keepsAhead_11 : decode (ib f_Mod_keepsAhead) 11 = .ok (.getfield 111, 3) := by decide +kernel
theorem d_Mod_keepsAhead_14 : decode (ib f_Mod_keepsAhead) 14 = .ok (.iconst 1, 1) := by decide +kernel
theorem d_Mod_keepsAhead_15 : decode (ib f_Mod_keepsAhead) 15 = .ok (.isub, 1) := by decide +kernel
theorem d_Mod_keepsAhead_16 : decode (ib f_Mod_keepsAhead) 16 = .ok (.putfield 111, 3) := by decide +kernel
theorem d_Mod_keepsAhead_19 : decode (ib f_Mod_keepsAhead) 19 = .ok (.iconst 0, 1) := by decide +kernel
theorem d_Mod_keepsAhead_20 : decode (ib f_Mod_keepsAhead) 20 = .ok (.istore_n 1, 1) := by decide +kernel
theorem d_Mod_keepsAhead_21 : decode (ib f_Mod_keepsAhead) 21 = .ok (.iload_n 1, 1) := by decide +kernel
theorem d_Mod_keepsAhead_22 : decode (ib f_Mod_keepsAhead) 22 = .ok (.sipush 270, 3) := by decide +kernel
theorem d_Mod_keepsAhead_25 : decode (ib f_Mod_keepsAhead) 25 = .ok (.aload_n 0, 1) := by decide +kernel
theorem d_Mod_keepsAhead_26 : decode (ib f_Mod_keepsAhead) 26 = .ok (.getfield 111, 3) := by decide +kernel
theorem d_Mod_keepsAhead_29 : decode (ib f_Mod_keepsAhead) 29 = .ok (.imul, 1) := by decide +kernel
theorem d_Mod_keepsAhead_30 : decode (ib f_Mod_keepsAhead) 30 = .ok (.if_icmp .ge 25, 3) := by decide +kernel
theorem d_Mod_keepsAhead_33 : decode (ib f_Mod_keepsAhead) 33 = .ok (.aload_n 0, 1) := by decide +kernel
theorem d_Mod_keepsAhead_34 : decode (ib f_Mod_keepsAhead) 34 = .ok (.getfield 13, 3) := by decide +kernel
theorem d_Mod_keepsAhead_37 : decode (ib f_Mod_keepsAhead) 37 = .ok (.iload_n 1, 1) := by decide +kernel
theorem d_Mod_keepsAhead_38 : decode (ib f_Mod_keepsAhead) 38 = .ok (.aload_n 0, 1) := by decide +kernel
theorem d_Mod_keepsAhead_39 : decode (ib f_Mod_keepsAhead) 39 = .ok (.getfield 13, 3) := by decide +kernel
theorem d_Mod_keepsAhead_42 : decode (ib f_Mod_keepsAhead) 42 = .ok (.iload_n 1, 1) := by decide +kernel
theorem d_Mod_keepsAhead_43 : decode (ib f_Mod_keepsAhead) 43 = .ok (.sipush 270, 3) := by decide +kernel
theorem d_Mod_keepsAhead_46 : decode (ib f_Mod_keepsAhead) 46 = .ok (.iadd, 1) := by decide +kernel
theorem d_Mod_keepsAhead_47 : decode (ib f_Mod_keepsAhead) 47 = .ok (.iaload, 1) := by decide +kernel
theorem d_Mod_keepsAhead_48 : decode (ib f_Mod_keepsAhead) 48 = .ok (.iastore, 1) := by decide +kernel
theorem d_Mod_keepsAhead_49 : decode (ib f_Mod_keepsAhead) 49 = .ok (.iinc 1 1, 3) := by decide +kernel
theorem d_Mod_keepsAhead_52 : decode (ib f_Mod_keepsAhead) 52 = .ok (.goto (-31), 3) := by decide +kernel
theorem d_Mod_keepsAhead_55 : decode (ib f_Mod_keepsAhead) 55 = .ok (.iconst 0, 1) := by decide +kernel
theorem d_Mod_keepsAhead_56 : decode (ib f_Mod_keepsAhead) 56 = .ok (.istore_n 1, 1) := by decide +kernel
theorem d_Mod_keepsAhead_57 : decode (ib f_Mod_keepsAhead) 57 = .ok (.iload_n 1, 1) := by decide +kernel
theorem d_Mod_keepsAhead_58 : decode (ib f_Mod_keepsAhead) 58 = .ok (.sipush 270, 3) := by decide +kernel
theorem d_Mod_keepsAhead_61 : decode (ib f_Mod_keepsAhead) 61 = .ok (.if_icmp .ge 30, 3) := by decide +kernel
theorem d_Mod_keepsAhead_64 : decode (ib f_Mod_keepsAhead) 64 = .ok (.aload_n 0, 1) := by decide +kernel
theorem d_Mod_keepsAhead_65 : decode (ib f_Mod_keepsAhead) 65 = .ok (.getfield 13, 3) := by decide +kernel
theorem d_Mod_keepsAhead_68 : decode (ib f_Mod_keepsAhead) 68 = .ok (.sipush 270, 3) := by decide +kernel
theorem d_Mod_keepsAhead_71 : decode (ib f_Mod_keepsAhead) 71 = .ok (.aload_n 0, 1) := by decide +kernel
theorem d_Mod_keepsAhead_72 : decode (ib f_Mod_keepsAhead) 72 = .ok (.getfield 111, 3) := by decide +kernel
theorem d_Mod_keepsAhead_75 : decode (ib f_Mod_keepsAhead) 75 = .ok (.imul, 1) := by decide +kernel
theorem d_Mod_keepsAhead_76 : decode (ib f_Mod_keepsAhead) 76 = .ok (.iload_n 1, 1) := by decide +kernel
theorem d_Mod_keepsAhead_77 : decode (ib f_Mod_keepsAhead) 77 = .ok (.iadd, 1) := by decide +kernel
theorem d_Mod_keepsAhead_78 : decode (ib f_Mod_keepsAhead) 78 = .ok (.aload_n 0, 1) := by decide +kernel
theorem d_Mod_keepsAhead_79 : decode (ib f_Mod_keepsAhead) 79 = .ok (.getfield 7, 3) := by decide +kernel
theorem d_Mod_keepsAhead_82 : decode (ib f_Mod_keepsAhead) 82 = .ok (.iload_n 1, 1) := by decide +kernel
theorem d_Mod_keepsAhead_83 : decode (ib f_Mod_keepsAhead) 83 = .ok (.iaload, 1) := by decide +kernel
theorem d_Mod_keepsAhead_84 : decode (ib f_Mod_keepsAhead) 84 = .ok (.iastore, 1) := by decide +kernel
theorem d_Mod_keepsAhead_85 : decode (ib f_Mod_keepsAhead) 85 = .ok (.iinc 1 1, 3) := by decide +kernel
theorem d_Mod_keepsAhead_88 : decode (ib f_Mod_keepsAhead) 88 = .ok (.goto (-31), 3) := by decide +kernel
theorem d_Mod_keepsAhead_91 : decode (ib f_Mod_keepsAhead) 91 = .ok (.aload_n 0, 1) := by decide +kernel
theorem d_Mod_keepsAhead_92 : decode (ib f_Mod_keepsAhead) 92 = .ok (.aload_n 0, 1) := by decide +kernel
theorem d_Mod_keepsAhead_93 : decode (ib f_Mod_keepsAhead) 93 = .ok (.getfield 111, 3) := by decide +kernel
theorem d_Mod_keepsAhead_96 : decode (ib f_Mod_keepsAhead) 96 = .ok (.iconst 1, 1) := by decide +kernel
theorem d_Mod_keepsAhead_97 : decode (ib f_Mod_keepsAhead) 97 = .ok (.iadd, 1) := by decide +kernel
theorem d_Mod_keepsAhead_98 : decode (ib f_Mod_keepsAhead) 98 = .ok (.putfield 111, 3) := by decide +kernel
theorem d_Mod_keepsAhead_101 : decode (ib f_Mod_keepsAhead) 101 = .ok (.return_, 1) := by decide +kernel
theorem d_Mod_undo_0 : decode (ib f_Mod_undo) 0 = .ok (.aload_n 0, 1) := by decide +kernel
theorem d_Mod_undo_1 : decode (ib f_Mod_undo) 1 = .ok (.iconst 0, 1) := by decide +kernel
theorem d_Mod_undo_2 : decode (ib f_Mod_undo) 2 = .ok (.putfield 107, 3) := by decide +kernel
theorem d_Mod_undo_5 : decode (ib f_Mod_undo) 5 = .ok (.aload_n 0, 1) := by decide +kernel
theorem d_Mod_undo_6 : decode (ib f_Mod_undo) 6 = .ok (.getfield 111, 3) := by decide +kernel
theorem d_Mod_undo_9 : decode (ib f_Mod_undo) 9 = .ok (.ifCond .ne 5, 3) := by decide +kernel
theorem d_Mod_undo_12 : decode (ib f_Mod_undo) 12 = .ok (.iconst 0, 1) := by decide +kernel
theorem d_Mod_undo_13 : decode (ib f_Mod_undo) 13 = .ok (.ireturn, 1) := by decide +kernel
theorem d_Mod_undo_14 : decode (ib f_Mod_undo) 14 = .ok (.aload_n 0, 1) := by decide +kernel
theorem d_Mod_undo_15 : decode (ib f_Mod_undo) 15 = .ok (.aload_n 0, 1) := by decide +kernel
theorem d_Mod_undo_16 : decode (ib f_Mod_undo) 16 = .ok (.getfield 111, 3) := by decide +kernel
theorem d_Mod_undo_19 : decode (ib f_Mod_undo) 19 = .ok (.iconst 1, 1) := by decide +kernel
theorem d_Mod_undo_20 : decode (ib f_Mod_undo) 20 = .ok (.isub, 1) := by decide +kernel
theorem d_Mod_undo_21 : decode (ib f_Mod_undo) 21 = .ok (.putfield 111, 3) := by decide +kernel
theorem d_Mod_undo_24 : decode (ib f_Mod_undo) 24 = .ok (.iconst 0, 1) := by decide +kernel
theorem d_Mod_undo_25 : decode (ib f_Mod_undo) 25 = .ok (.istore_n 1, 1) := by decide +kernel
theorem d_Mod_undo_26 : decode (ib f_Mod_undo) 26 = .ok (.iload_n 1, 1) := by decide +kernel
theorem d_Mod_undo_27 : decode (ib f_Mod_undo) 27 = .ok (.sipush 270, 3) := by decide +kernel
theorem d_Mod_undo_30 : decode (ib f_Mod_undo) 30 = .ok (.if_icmp .ge 30, 3) := by decide +kernel
theorem d_Mod_undo_33 : decode (ib f_Mod_undo) 33 = .ok (.aload_n 0, 1) := by decide +kernel
theorem d_Mod_undo_34 : decode (ib f_Mod_undo) 34 = .ok (.getfield 7, 3) := by decide +kernel
theorem d_Mod_undo_37 : decode (ib f_Mod_undo) 37 = .ok (.iload_n 1, 1) := by decide +kernel
theorem d_Mod_undo_38 : decode (ib f_Mod_undo) 38 = .ok (.aload_n 0, 1) := by decide +kernel
theorem d_Mod_undo_39 : decode (ib f_Mod_undo) 39 = .ok (.getfield 13, 3) := by decide +kernel
theorem d_Mod_undo_42 : decode (ib f_Mod_undo) 42 = .ok (.sipush 270, 3) := by decide +kernel
theorem d_Mod_undo_45 : decode (ib f_Mod_undo) 45 = .ok (.aload_n 0, 1) := by decide +kernel
theorem d_Mod_undo_46 : decode (ib f_Mod_undo) 46 = .ok (.getfield 111, 3) := by decide +kernel
theorem d_Mod_undo_49 : decode (ib f_Mod_undo) 49 = .ok (.imul, 1) := by decide +kernel
theorem d_Mod_undo_50 : decode (ib f_Mod_undo) 50 = .ok (.iload_n 1, 1) := by decide +kernel
theorem d_Mod_undo_51 : decode (ib f_Mod_undo) 51 = .ok (.iadd, 1) := by decide +kernel
theorem d_Mod_undo_52 : decode (ib f_Mod_undo) 52 = .ok (.iaload, 1) := by decide +kernel
theorem d_Mod_undo_53 : decode (ib f_Mod_undo) 53 = .ok (.iastore, 1) := by decide +kernel
theorem d_Mod_undo_54 : decode (ib f_Mod_undo) 54 = .ok (.iinc 1 1, 3) := by decide +kernel
theorem d_Mod_undo_57 : decode (ib f_Mod_undo) 57 = .ok (.goto (-31), 3) := by decide +kernel
theorem d_Mod_undo_60 : decode (ib f_Mod_undo) 60 = .ok (.iconst 1, 1) := by decide +kernel
theorem d_Mod_undo_61 : decode (ib f_Mod_undo) 61 = .ok (.ireturn, 1) := by decide +kernel
theorem d_Mod_thinks_0 : decode (ib f_Mod_thinks) 0 = .ok (.iconst 0, 1) := by decide +kernel
theorem d_Mod_thinks_1 : decode (ib f_Mod_thinks) 1 = .ok (.istore_n 1, 1) := by decide +kernel
theorem d_Mod_thinks_2 : decode (ib f_Mod_thinks) 2 = .ok (.iload_n 1, 1) := by decide +kernel
theorem d_Mod_thinks_3 : decode (ib f_Mod_thinks) 3 = .ok (.sipush 270, 3) := by decide +kernel
theorem d_Mod_thinks_6 : decode (ib f_Mod_thinks) 6 = .ok (.if_icmp .ge 21, 3) := by decide +kernel
theorem d_Mod_thinks_9 : decode (ib f_Mod_thinks) 9 = .ok (.aload_n 0, 1) := by decide +kernel
theorem d_Mod_thinks_10 : decode (ib f_Mod_thinks) 10 = .ok (.getfield 16, 3) := by decide +kernel
theorem d_Mod_thinks_13 : decode (ib f_Mod_thinks) 13 = .ok (.iload_n 1, 1) := by decide +kernel
theorem d_Mod_thinks_14 : decode (ib f_Mod_thinks) 14 = .ok (.aload_n 0, 1) := by decide +kernel
theorem d_Mod_thinks_15 : decode (ib f_Mod_thinks) 15 = .ok (.getfield 7, 3) := by decide +kernel
theorem d_Mod_thinks_18 : decode (ib f_Mod_thinks) 18 = .ok (.iload_n 1, 1) := by decide +kernel
theorem d_Mod_thinks_19 : decode (ib f_Mod_thinks) 19 = .ok (.iaload, 1) := by decide +kernel
theorem d_Mod_thinks_20 : decode (ib f_Mod_thinks) 20 = .ok (.iastore, 1) := by decide +kernel
theorem d_Mod_thinks_21 : decode (ib f_Mod_thinks) 21 = .ok (.iinc 1 1, 3) := by decide +kernel
theorem d_Mod_thinks_24 : decode (ib f_Mod_thinks) 24 = .ok (.goto (-22), 3) := by decide +kernel
theorem d_Mod_thinks_27 : decode (ib f_Mod_thinks) 27 = .ok (.aload_n 0, 1) := by decide +kernel
theorem d_Mod_thinks_28 : decode (ib f_Mod_thinks) 28 = .ok (.iconst 1, 1) := by decide +kernel
theorem d_Mod_thinks_29 : decode (ib f_Mod_thinks) 29 = .ok (.putfield 114, 3) := by decide +kernel
theorem d_Mod_thinks_32 : decode (ib f_Mod_thinks) 32 = .ok (.return_, 1) := by decide +kernel
theorem d_Mod_endsThought_0 : decode (ib f_Mod_endsThought) 0 = .ok (.iconst 0, 1) := by decide +kernel
theorem d_Mod_endsThought_1 : decode (ib f_Mod_endsThought) 1 = .ok (.istore_n 1, 1) := by decide +kernel
theorem d_Mod_endsThought_2 : decode (ib f_Mod_endsThought) 2 = .ok (.iload_n 1, 1) := by decide +kernel
theorem d_Mod_endsThought_3 : decode (ib f_Mod_endsThought) 3 = .ok (.sipush 270, 3) := by decide +kernel
theorem d_Mod_endsThought_6 : decode (ib f_Mod_endsThought) 6 = .ok (.if_icmp .ge 21, 3) := by decide +kernel
theorem d_Mod_endsThought_9 : decode (ib f_Mod_endsThought) 9 = .ok (.aload_n 0, 1) := by decide +kernel
theorem d_Mod_endsThought_10 : decode (ib f_Mod_endsThought) 10 = .ok (.getfield 7, 3) := by decide +kernel
theorem d_Mod_endsThought_13 : decode (ib f_Mod_endsThought) 13 = .ok (.iload_n 1, 1) := by decide +kernel
theorem d_Mod_endsThought_14 : decode (ib f_Mod_endsThought) 14 = .ok (.aload_n 0, 1) := by decide +kernel
theorem d_Mod_endsThought_15 : decode (ib f_Mod_endsThought) 15 = .ok (.getfield 16, 3) := by decide +kernel
theorem d_Mod_endsThought_18 : decode (ib f_Mod_endsThought) 18 = .ok (.iload_n 1, 1) := by decide +kernel
theorem d_Mod_endsThought_19 : decode (ib f_Mod_endsThought) 19 = .ok (.iaload, 1) := by decide +kernel
theorem d_Mod_endsThought_20 : decode (ib f_Mod_endsThought) 20 = .ok (.iastore, 1) := by decide +kernel
theorem d_Mod_endsThought_21 : decode (ib f_Mod_endsThought) 21 = .ok (.iinc 1 1, 3) := by decide +kernel
theorem d_Mod_endsThought_24 : decode (ib f_Mod_endsThought) 24 = .ok (.goto (-22), 3) := by decide +kernel
theorem d_Mod_endsThought_27 : decode (ib f_Mod_endsThought) 27 = .ok (.aload_n 0, 1) := by decide +kernel
theorem d_Mod_endsThought_28 : decode (ib f_Mod_endsThought) 28 = .ok (.iconst 0, 1) := by decide +kernel
theorem d_Mod_endsThought_29 : decode (ib f_Mod_endsThought) 29 = .ok (.putfield 114, 3) := by decide +kernel
theorem d_Mod_endsThought_32 : decode (ib f_Mod_endsThought) 32 = .ok (.return_, 1) := by decide +kernel
theorem d_Mod_state_0 : decode (ib f_Mod_state) 0 = .ok (.aload_n 0, 1) := by decide +kernel
theorem d_Mod_state_1 : decode (ib f_Mod_state) 1 = .ok (.iconst 0, 1) := by decide +kernel
theorem d_Mod_state_2 : decode (ib f_Mod_state) 2 = .ok (.putfield 107, 3) := by decide +kernel
theorem d_Mod_state_5 : decode (ib f_Mod_state) 5 = .ok (.aload_n 0, 1) := by decide +kernel
theorem d_Mod_state_6 : decode (ib f_Mod_state) 6 = .ok (.getfield 7, 3) := by decide +kernel
theorem d_Mod_state_9 : decode (ib f_Mod_state) 9 = .ok (.iconst 1, 1) := by decide +kernel
theorem d_Mod_state_10 : decode (ib f_Mod_state) 10 = .ok (.iaload, 1) := by decide +kernel
theorem d_Mod_state_11 : decode (ib f_Mod_state) 11 = .ok (.istore_n 2, 1) := by decide +kernel
theorem d_Mod_state_12 : decode (ib f_Mod_state) 12 = .ok (.aload_n 0, 1) := by decide +kernel
theorem d_Mod_state_13 : decode (ib f_Mod_state) 13 = .ok (.getfield 7, 3) := by decide +kernel
theorem d_Mod_state_16 : decode (ib f_Mod_state) 16 = .ok (.iconst 1, 1) := by decide +kernel
theorem d_Mod_state_17 : decode (ib f_Mod_state) 17 = .ok (.iload_n 1, 1) := by decide +kernel
theorem d_Mod_state_18 : decode (ib f_Mod_state) 18 = .ok (.iastore, 1) := by decide +kernel
theorem d_Mod_state_19 : decode (ib f_Mod_state) 19 = .ok (.aload_n 0, 1) := by decide +kernel
theorem d_Mod_state_20 : decode (ib f_Mod_state) 20 = .ok (.iconst 0, 1) := by decide +kernel
theorem d_Mod_state_21 : decode (ib f_Mod_state) 21 = .ok (.putfield 111, 3) := by decide +kernel
theorem d_Mod_state_24 : decode (ib f_Mod_state) 24 = .ok (.iload_n 2, 1) := by decide +kernel
theorem d_Mod_state_25 : decode (ib f_Mod_state) 25 = .ok (.ireturn, 1) := by decide +kernel
theorem d_Mod_draw_0 : decode (ib f_Mod_draw) 0 = .ok (.aload_n 0, 1) := by decide +kernel
theorem d_Mod_draw_1 : decode (ib f_Mod_draw) 1 = .ok (.getfield 7, 3) := by decide +kernel
theorem d_Mod_draw_4 : decode (ib f_Mod_draw) 4 = .ok (.iconst 1, 1) := by decide +kernel
theorem d_Mod_draw_5 : decode (ib f_Mod_draw) 5 = .ok (.ldc 118, 2) := by decide +kernel
theorem d_Mod_draw_7 : decode (ib f_Mod_draw) 7 = .ok (.aload_n 0, 1) := by decide +kernel
theorem d_Mod_draw_8 : decode (ib f_Mod_draw) 8 = .ok (.getfield 7, 3) := by decide +kernel
theorem d_Mod_draw_11 : decode (ib f_Mod_draw) 11 = .ok (.iconst 1, 1) := by decide +kernel
theorem d_Mod_draw_12 : decode (ib f_Mod_draw) 12 = .ok (.iaload, 1) := by decide +kernel
theorem d_Mod_draw_13 : decode (ib f_Mod_draw) 13 = .ok (.imul, 1) := by decide +kernel
theorem d_Mod_draw_14 : decode (ib f_Mod_draw) 14 = .ok (.ldc 119, 2) := by decide +kernel
theorem d_Mod_draw_16 : decode (ib f_Mod_draw) 16 = .ok (.iadd, 1) := by decide +kernel
theorem d_Mod_draw_17 : decode (ib f_Mod_draw) 17 = .ok (.iastore, 1) := by decide +kernel
theorem d_Mod_draw_18 : decode (ib f_Mod_draw) 18 = .ok (.aload_n 0, 1) := by decide +kernel
theorem d_Mod_draw_19 : decode (ib f_Mod_draw) 19 = .ok (.getfield 7, 3) := by decide +kernel
theorem d_Mod_draw_22 : decode (ib f_Mod_draw) 22 = .ok (.iconst 1, 1) := by decide +kernel
theorem d_Mod_draw_23 : decode (ib f_Mod_draw) 23 = .ok (.iaload, 1) := by decide +kernel
theorem d_Mod_draw_24 : decode (ib f_Mod_draw) 24 = .ok (.bipush 8, 2) := by decide +kernel
theorem d_Mod_draw_26 : decode (ib f_Mod_draw) 26 = .ok (.iushr, 1) := by decide +kernel
theorem d_Mod_draw_27 : decode (ib f_Mod_draw) 27 = .ok (.iload_n 1, 1) := by decide +kernel
theorem d_Mod_draw_28 : decode (ib f_Mod_draw) 28 = .ok (.irem, 1) := by decide +kernel
theorem d_Mod_draw_29 : decode (ib f_Mod_draw) 29 = .ok (.ireturn, 1) := by decide +kernel
theorem d_Mod_isInch_0 : decode (ib f_Mod_isInch) 0 = .ok (.iload_n 1, 1) := by decide +kernel
theorem d_Mod_isInch_1 : decode (ib f_Mod_isInch) 1 = .ok (.ifCond .lt 13, 3) := by decide +kernel
theorem d_Mod_isInch_4 : decode (ib f_Mod_isInch) 4 = .ok (.iload_n 1, 1) := by decide +kernel
theorem d_Mod_isInch_5 : decode (ib f_Mod_isInch) 5 = .ok (.bipush 60, 2) := by decide +kernel
theorem d_Mod_isInch_7 : decode (ib f_Mod_isInch) 7 = .ok (.if_icmp .ge 7, 3) := by decide +kernel
theorem d_Mod_isInch_10 : decode (ib f_Mod_isInch) 10 = .ok (.iconst 1, 1) := by decide +kernel
theorem d_Mod_isInch_11 : decode (ib f_Mod_isInch) 11 = .ok (.goto 4, 3) := by decide +kernel
theorem d_Mod_isInch_14 : decode (ib f_Mod_isInch) 14 = .ok (.iconst 0, 1) := by decide +kernel
theorem d_Mod_isInch_15 : decode (ib f_Mod_isInch) 15 = .ok (.ireturn, 1) := by decide +kernel
theorem d_Mod_glue_0 : decode (ib f_Mod_glue) 0 = .ok (.aload_n 0, 1) := by decide +kernel
theorem d_Mod_glue_1 : decode (ib f_Mod_glue) 1 = .ok (.getfield 7, 3) := by decide +kernel
theorem d_Mod_glue_4 : decode (ib f_Mod_glue) 4 = .ok (.bipush 10, 2) := by decide +kernel
theorem d_Mod_glue_6 : decode (ib f_Mod_glue) 6 = .ok (.iload_n 1, 1) := by decide +kernel
theorem d_Mod_glue_7 : decode (ib f_Mod_glue) 7 = .ok (.iadd, 1) := by decide +kernel
theorem d_Mod_glue_8 : decode (ib f_Mod_glue) 8 = .ok (.iaload, 1) := by decide +kernel
theorem d_Mod_glue_9 : decode (ib f_Mod_glue) 9 = .ok (.bipush 50, 2) := by decide +kernel
theorem d_Mod_glue_11 : decode (ib f_Mod_glue) 11 = .ok (.iadd, 1) := by decide +kernel
theorem d_Mod_glue_12 : decode (ib f_Mod_glue) 12 = .ok (.ireturn, 1) := by decide +kernel
theorem d_Mod_hasGlue_0 : decode (ib f_Mod_hasGlue) 0 = .ok (.aload_n 0, 1) := by decide +kernel
theorem d_Mod_hasGlue_1 : decode (ib f_Mod_hasGlue) 1 = .ok (.getfield 7, 3) := by decide +kernel
theorem d_Mod_hasGlue_4 : decode (ib f_Mod_hasGlue) 4 = .ok (.bipush 10, 2) := by decide +kernel
theorem d_Mod_hasGlue_6 : decode (ib f_Mod_hasGlue) 6 = .ok (.iload_n 1, 1) := by decide +kernel
theorem d_Mod_hasGlue_7 : decode (ib f_Mod_hasGlue) 7 = .ok (.iadd, 1) := by decide +kernel
theorem d_Mod_hasGlue_8 : decode (ib f_Mod_hasGlue) 8 = .ok (.aload_n 0, 1) := by decide +kernel
theorem d_Mod_hasGlue_9 : decode (ib f_Mod_hasGlue) 9 = .ok (.iload_n 2, 1) := by decide +kernel
theorem d_Mod_hasGlue_10 : decode (ib f_Mod_hasGlue) 10 = .ok (.iconst 0, 1) := by decide +kernel
theorem d_Mod_hasGlue_11 : decode (ib f_Mod_hasGlue) 11 = .ok (.bipush 99, 2) := by decide +kernel
theorem d_Mod_hasGlue_13 : decode (ib f_Mod_hasGlue) 13 = .ok (.invokevirtual 120, 3) := by decide +kernel
theorem d_Mod_hasGlue_16 : decode (ib f_Mod_hasGlue) 16 = .ok (.bipush 50, 2) := by decide +kernel
theorem d_Mod_hasGlue_18 : decode (ib f_Mod_hasGlue) 18 = .ok (.isub, 1) := by decide +kernel
theorem d_Mod_hasGlue_19 : decode (ib f_Mod_hasGlue) 19 = .ok (.iastore, 1) := by decide +kernel
theorem d_Mod_hasGlue_20 : decode (ib f_Mod_hasGlue) 20 = .ok (.return_, 1) := by decide +kernel
theorem d_Mod_thingAt_0 : decode (ib f_Mod_thingAt) 0 = .ok (.sipush 130, 3) := by decide +kernel
theorem d_Mod_thingAt_3 : decode (ib f_Mod_thingAt) 3 = .ok (.bipush 7, 2) := by decide +kernel
theorem d_Mod_thingAt_5 : decode (ib f_Mod_thingAt) 5 = .ok (.iload_n 1, 1) := by decide +kernel
theorem d_Mod_thingAt_6 : decode (ib f_Mod_thingAt) 6 = .ok (.imul, 1) := by decide +kernel
theorem d_Mod_thingAt_7 : decode (ib f_Mod_thingAt) 7 = .ok (.iadd, 1) := by decide +kernel
theorem d_Mod_thingAt_8 : decode (ib f_Mod_thingAt) 8 = .ok (.ireturn, 1) := by decide +kernel
theorem d_Mod_thingOf_0 : decode (ib f_Mod_thingOf) 0 = .ok (.iconst 0, 1) := by decide +kernel
theorem d_Mod_thingOf_1 : decode (ib f_Mod_thingOf) 1 = .ok (.istore_n 2, 1) := by decide +kernel
theorem d_Mod_thingOf_2 : decode (ib f_Mod_thingOf) 2 = .ok (.iload_n 2, 1) := by decide +kernel
theorem d_Mod_thingOf_3 : decode (ib f_Mod_thingOf) 3 = .ok (.aload_n 0, 1) := by decide +kernel
theorem d_Mod_thingOf_4 : decode (ib f_Mod_thingOf) 4 = .ok (.getfield 7, 3) := by decide +kernel
theorem d_Mod_thingOf_7 : decode (ib f_Mod_thingOf) 7 = .ok (.bipush 8, 2) := by decide +kernel
theorem d_Mod_thingOf_9 : decode (ib f_Mod_thingOf) 9 = .ok (.iaload, 1) := by decide +kernel
theorem d_Mod_thingOf_10 : decode (ib f_Mod_thingOf) 10 = .ok (.if_icmp .ge 25, 3) := by decide +kernel
theorem d_Mod_thingOf_13 : decode (ib f_Mod_thingOf) 13 = .ok (.aload_n 0, 1) := by decide +kernel
theorem d_Mod_thingOf_14 : decode (ib f_Mod_thingOf) 14 = .ok (.getfield 7, 3) := by decide +kernel
theorem d_Mod_thingOf_17 : decode (ib f_Mod_thingOf) 17 = .ok (.aload_n 0, 1) := by decide +kernel
theorem d_Mod_thingOf_18 : decode (ib f_Mod_thingOf) 18 = .ok (.iload_n 2, 1) := by decide +kernel
theorem d_Mod_thingOf_19 : decode (ib f_Mod_thingOf) 19 = .ok (.invokevirtual 124, 3) := by decide +kernel
theorem d_Mod_thingOf_22 : decode (ib f_Mod_thingOf) 22 = .ok (.iaload, 1) := by decide +kernel
theorem d_Mod_thingOf_23 : decode (ib f_Mod_thingOf) 23 = .ok (.iload_n 1, 1) := by decide +kernel
theorem d_Mod_thingOf_24 : decode (ib f_Mod_thingOf) 24 = .ok (.if_icmp .ne 5, 3) := by decide +kernel
theorem d_Mod_thingOf_27 : decode (ib f_Mod_thingOf) 27 = .ok (.iload_n 2, 1) := by decide +kernel
theorem d_Mod_thingOf_28 : decode (ib f_Mod_thingOf) 28 = .ok (.ireturn, 1) := by decide +kernel
theorem d_Mod_thingOf_29 : decode (ib f_Mod_thingOf) 29 = .ok (.iinc 2 1, 3) := by decide +kernel
theorem d_Mod_thingOf_32 : decode (ib f_Mod_thingOf) 32 = .ok (.goto (-30), 3) := by decide +kernel
theorem d_Mod_thingOf_35 : decode (ib f_Mod_thingOf) 35 = .ok (.iconst (-1), 1) := by decide +kernel
theorem d_Mod_thingOf_36 : decode (ib f_Mod_thingOf) 36 = .ok (.ireturn, 1) := by decide +kernel
theorem d_Mod_stuckAt_0 : decode (ib f_Mod_stuckAt) 0 = .ok (.iconst 0, 1) := by decide +kernel
theorem d_Mod_stuckAt_1 : decode (ib f_Mod_stuckAt) 1 = .ok (.istore_n 2, 1) := by decide +kernel
theorem d_Mod_stuckAt_2 : decode (ib f_Mod_stuckAt) 2 = .ok (.iload_n 2, 1) := by decide +kernel
theorem d_Mod_stuckAt_3 : decode (ib f_Mod_stuckAt) 3 = .ok (.aload_n 0, 1) := by decide +kernel
theorem d_Mod_stuckAt_4 : decode (ib f_Mod_stuckAt) 4 = .ok (.getfield 7, 3) := by decide +kernel
theorem d_Mod_stuckAt_7 : decode (ib f_Mod_stuckAt) 7 = .ok (.bipush 8, 2) := by decide +kernel
theorem d_Mod_stuckAt_9 : decode (ib f_Mod_stuckAt) 9 = .ok (.iaload, 1) := by decide +kernel
theorem d_Mod_stuckAt_10 : decode (ib f_Mod_stuckAt) 10 = .ok (.if_icmp .ge 27, 3) := by decide +kernel
theorem d_Mod_stuckAt_13 : decode (ib f_Mod_stuckAt) 13 = .ok (.aload_n 0, 1) := by decide +kernel
theorem d_Mod_stuckAt_14 : decode (ib f_Mod_stuckAt) 14 = .ok (.getfield 7, 3) := by decide +kernel
theorem d_Mod_stuckAt_17 : decode (ib f_Mod_stuckAt) 17 = .ok (.aload_n 0, 1) := by decide +kernel
theorem d_Mod_stuckAt_18 : decode (ib f_Mod_stuckAt) 18 = .ok (.iload_n 2, 1) := by decide +kernel
theorem d_Mod_stuckAt_19 : decode (ib f_Mod_stuckAt) 19 = .ok (.invokevirtual 124, 3) := by decide +kernel
theorem d_Mod_stuckAt_22 : decode (ib f_Mod_stuckAt) 22 = .ok (.iconst 4, 1) := by decide +kernel
theorem d_Mod_stuckAt_23 : decode (ib f_Mod_stuckAt) 23 = .ok (.iadd, 1) := by decide +kernel
theorem d_Mod_stuckAt_24 : decode (ib f_Mod_stuckAt) 24 = .ok (.iaload, 1) := by decide +kernel
theorem d_Mod_stuckAt_25 : decode (ib f_Mod_stuckAt) 25 = .ok (.iload_n 1, 1) := by decide +kernel
theorem d_Mod_stuckAt_26 : decode (ib f_Mod_stuckAt) 26 = .ok (.if_icmp .ne 5, 3) := by decide +kernel
theorem d_Mod_stuckAt_29 : decode (ib f_Mod_stuckAt) 29 = .ok (.iload_n 2, 1) := by decide +kernel
theorem d_Mod_stuckAt_30 : decode (ib f_Mod_stuckAt) 30 = .ok (.ireturn, 1) := by decide +kernel
theorem d_Mod_stuckAt_31 : decode (ib f_Mod_stuckAt) 31 = .ok (.iinc 2 1, 3) := by decide +kernel
theorem d_Mod_stuckAt_34 : decode (ib f_Mod_stuckAt) 34 = .ok (.goto (-32), 3) := by decide +kernel
theorem d_Mod_stuckAt_37 : decode (ib f_Mod_stuckAt) 37 = .ok (.iconst (-1), 1) := by decide +kernel
theorem d_Mod_stuckAt_38 : decode (ib f_Mod_stuckAt) 38 = .ok (.ireturn, 1) := by decide +kernel
theorem d_Mod_isTaken_0 : decode (ib f_Mod_isTaken) 0 = .ok (.aload_n 0, 1) := by decide +kernel
theorem d_Mod_isTaken_1 : decode (ib f_Mod_isTaken) 1 = .ok (.iload_n 1, 1) := by decide +kernel
theorem d_Mod_isTaken_2 : decode (ib f_Mod_isTaken) 2 = .ok (.invokevirtual 128, 3) := by decide +kernel
theorem d_Mod_isTaken_5 : decode (ib f_Mod_isTaken) 5 = .ok (.iconst (-1), 1) := by decide +kernel
theorem d_Mod_isTaken_6 : decode (ib f_Mod_isTaken) 6 = .ok (.if_icmp .eq 7, 3) := by decide +kernel
theorem d_Mod_isTaken_9 : decode (ib f_Mod_isTaken) 9 = .ok (.iconst 1, 1) := by decide +kernel
theorem d_Mod_isTaken_10 : decode (ib f_Mod_isTaken) 10 = .ok (.goto 4, 3) := by decide +kernel
theorem d_Mod_isTaken_13 : decode (ib f_Mod_isTaken) 13 = .ok (.iconst 0, 1) := by decide +kernel
theorem d_Mod_isTaken_14 : decode (ib f_Mod_isTaken) 14 = .ok (.ireturn, 1) := by decide +kernel
theorem d_Mod_legsOfAll_0 : decode (ib f_Mod_legsOfAll) 0 = .ok (.iconst 0, 1) := by decide +kernel
theorem d_Mod_legsOfAll_1 : decode (ib f_Mod_legsOfAll) 1 = .ok (.istore_n 1, 1) := by decide +kernel
theorem d_Mod_legsOfAll_2 : decode (ib f_Mod_legsOfAll) 2 = .ok (.iconst 0, 1) := by decide +kernel
theorem d_Mod_legsOfAll_3 : decode (ib f_Mod_legsOfAll) 3 = .ok (.istore_n 2, 1) := by decide +kernel
theorem d_Mod_legsOfAll_4 : decode (ib f_Mod_legsOfAll) 4 = .ok (.iload_n 2, 1) := by decide +kernel
theorem d_Mod_legsOfAll_5 : decode (ib f_Mod_legsOfAll) 5 = .ok (.bipush 60, 2) := by decide +kernel
theorem d_Mod_legsOfAll_7 : decode (ib f_Mod_legsOfAll) 7 = .ok (.if_icmp .ge 21, 3) := by decide +kernel
theorem d_Mod_legsOfAll_10 : decode (ib f_Mod_legsOfAll) 10 = .ok (.iload_n 1, 1) := by decide +kernel
theorem d_Mod_legsOfAll_11 : decode (ib f_Mod_legsOfAll) 11 = .ok (.aload_n 0, 1) := by decide +kernel
theorem d_Mod_legsOfAll_12 : decode (ib f_Mod_legsOfAll) 12 = .ok (.getfield 7, 3) := by decide +kernel
theorem d_Mod_legsOfAll_15 : decode (ib f_Mod_legsOfAll) 15 = .ok (.bipush 70, 2) := by decide +kernel
theorem d_Mod_legsOfAll_17 : decode (ib f_Mod_legsOfAll) 17 = .ok (.iload_n 2, 1) := by decide +kernel
theorem d_Mod_legsOfAll_18 : decode (ib f_Mod_legsOfAll) 18 = .ok (.iadd, 1) := by decide +kernel
theorem d_Mod_legsOfAll_19 : decode (ib f_Mod_legsOfAll) 19 = .ok (.iaload, 1) := by decide +kernel
theorem d_Mod_legsOfAll_20 : decode (ib f_Mod_legsOfAll) 20 = .ok (.iadd, 1) := by decide +kernel
theorem d_Mod_legsOfAll_21 : decode (ib f_Mod_legsOfAll) 21 = .ok (.istore_n 1, 1) := by decide +kernel
theorem d_Mod_legsOfAll_22 : decode (ib f_Mod_legsOfAll) 22 = .ok (.iinc 2 1, 3) := by decide +kernel
theorem d_Mod_legsOfAll_25 : decode (ib f_Mod_legsOfAll) 25 = .ok (.goto (-21), 3) := by decide +kernel
theorem d_Mod_legsOfAll_28 : decode (ib f_Mod_legsOfAll) 28 = .ok (.iload_n 1, 1) := by decide +kernel
theorem d_Mod_legsOfAll_29 : decode (ib f_Mod_legsOfAll) 29 = .ok (.ireturn, 1) := by decide +kernel
theorem d_Mod_canSet_0 : decode (ib f_Mod_canSet) 0 = .ok (.iload_n 1, 1) := by decide +kernel
theorem d_Mod_canSet_1 : decode (ib f_Mod_canSet) 1 = .ok (.ifCond .ne 28, 3) := by decide +kernel
theorem d_Mod_canSet_4 : decode (ib f_Mod_canSet) 4 = .ok (.aload_n 0, 1) := by decide +kernel
theorem d_Mod_canSet_5 : decode (ib f_Mod_canSet) 5 = .ok (.iload_n 2, 1) := by decide +kernel
theorem d_Mod_canSet_6 : decode (ib f_Mod_canSet) 6 = .ok (.invokevirtual 131, 3) := by decide +kernel
theorem d_Mod_canSet_9 : decode (ib f_Mod_canSet) 9 = .ok (.ifCond .eq 18, 3) := by decide +kernel
theorem d_Mod_canSet_12 : decode (ib f_Mod_canSet) 12 = .ok (.aload_n 0, 1) := by decide +kernel
theorem d_Mod_canSet_13 : decode (ib f_Mod_canSet) 13 = .ok (.iload_n 3, 1) := by decide +kernel
theorem d_Mod_canSet_14 : decode (ib f_Mod_canSet) 14 = .ok (.iconst 0, 1) := by decide +kernel
theorem d_Mod_canSet_15 : decode (ib f_Mod_canSet) 15 = .ok (.bipush 99, 2) := by decide +kernel
theorem d_Mod_canSet_17 : decode (ib f_Mod_canSet) 17 = .ok (.invokevirtual 135, 3) := by decide +kernel
theorem d_Mod_canSet_20 : decode (ib f_Mod_canSet) 20 = .ok (.ifCond .eq 7, 3) := by decide +kernel
theorem d_Mod_canSet_23 : decode (ib f_Mod_canSet) 23 = .ok (.iconst 1, 1) := by decide +kernel
theorem d_Mod_canSet_24 : decode (ib f_Mod_canSet) 24 = .ok (.goto 4, 3) := by decide +kernel
theorem d_Mod_canSet_27 : decode (ib f_Mod_canSet) 27 = .ok (.iconst 0, 1) := by decide +kernel
theorem d_Mod_canSet_28 : decode (ib f_Mod_canSet) 28 = .ok (.ireturn, 1) := by decide +kernel
theorem d_Mod_canSet_29 : decode (ib f_Mod_canSet) 29 = .ok (.iload_n 1, 1) := by decide +kernel
theorem d_Mod_canSet_30 : decode (ib f_Mod_canSet) 30 = .ok (.iconst 4, 1) := by decide +kernel
theorem d_Mod_canSet_31 : decode (ib f_Mod_canSet) 31 = .ok (.if_icmp .eq 8, 3) := by decide +kernel
theorem d_Mod_canSet_34 : decode (ib f_Mod_canSet) 34 = .ok (.iload_n 1, 1) := by decide +kernel
theorem d_Mod_canSet_35 : decode (ib f_Mod_canSet) 35 = .ok (.iconst 5, 1) := by decide +kernel
theorem d_Mod_canSet_36 : decode (ib f_Mod_canSet) 36 = .ok (.if_icmp .ne 12, 3) := by decide +kernel
theorem d_Mod_canSet_39 : decode (ib f_Mod_canSet) 39 = .ok (.aload_n 0, 1) := by decide +kernel
theorem d_Mod_canSet_40 : decode (ib f_Mod_canSet) 40 = .ok (.iload_n 3, 1) := by decide +kernel
theorem d_Mod_canSet_41 : decode (ib f_Mod_canSet) 41 = .ok (.iconst 0, 1) := by decide +kernel
theorem d_Mod_canSet_42 : decode (ib f_Mod_canSet) 42 = .ok (.bipush 9, 2) := by decide +kernel
theorem d_Mod_canSet_44 : decode (ib f_Mod_canSet) 44 = .ok (.invokevirtual 135, 3) := by decide +kernel
theorem d_Mod_canSet_47 : decode (ib f_Mod_canSet) 47 = .ok (.ireturn, 1) := by decide +kernel
theorem d_Mod_canSet_48 : decode (ib f_Mod_canSet) 48 = .ok (.aload_n 0, 1) := by decide +kernel
theorem d_Mod_canSet_49 : decode (ib f_Mod_canSet) 49 = .ok (.iload_n 1, 1) := by decide +kernel
theorem d_Mod_canSet_50 : decode (ib f_Mod_canSet) 50 = .ok (.iconst 1, 1) := by decide +kernel
theorem d_Mod_canSet_51 : decode (ib f_Mod_canSet) 51 = .ok (.iconst 3, 1) := by decide +kernel
theorem d_Mod_canSet_52 : decode (ib f_Mod_canSet) 52 = .ok (.invokevirtual 135, 3) := by decide +kernel
theorem d_Mod_canSet_55 : decode (ib f_Mod_canSet) 55 = .ok (.ifCond .eq 46, 3) := by decide +kernel
theorem d_Mod_canSet_58 : decode (ib f_Mod_canSet) 58 = .ok (.aload_n 0, 1) := by decide +kernel
theorem d_Mod_canSet_59 : decode (ib f_Mod_canSet) 59 = .ok (.iload_n 2, 1) := by decide +kernel
theorem d_Mod_canSet_60 : decode (ib f_Mod_canSet) 60 = .ok (.invokevirtual 139, 3) := by decide +kernel
theorem d_Mod_canSet_63 : decode (ib f_Mod_canSet) 63 = .ok (.iconst (-1), 1) := by decide +kernel
theorem d_Mod_canSet_64 : decode (ib f_Mod_canSet) 64 = .ok (.if_icmp .eq 37, 3) := by decide +kernel
theorem d_Mod_canSet_67 : decode (ib f_Mod_canSet) 67 = .ok (.aload_n 0, 1) := by decide +kernel
theorem d_Mod_canSet_68 : decode (ib f_Mod_canSet) 68 = .ok (.iload_n 3, 1) := by decide +kernel
theorem d_Mod_canSet_69 : decode (ib f_Mod_canSet) 69 = .ok (.iload_n 1, 1) := by decide +kernel
theorem d_Mod_canSet_70 : decode (ib f_Mod_canSet) 70 = .ok (.iconst 1, 1) := by decide +kernel
theorem d_Mod_canSet_71 : decode (ib f_Mod_canSet) 71 = .ok (.if_icmp .ne 7, 3) := by decide +kernel
theorem d_Mod_canSet_74 : decode (ib f_Mod_canSet) 74 = .ok (.iconst 1, 1) := by decide +kernel
theorem d_Mod_canSet_75 : decode (ib f_Mod_canSet) 75 = .ok (.goto 4, 3) := by decide +kernel
theorem d_Mod_canSet_78 : decode (ib f_Mod_canSet) 78 = .ok (.iconst 0, 1) := by decide +kernel
theorem d_Mod_canSet_79 : decode (ib f_Mod_canSet) 79 = .ok (.iload_n 1, 1) := by decide +kernel
theorem d_Mod_canSet_80 : decode (ib f_Mod_canSet) 80 = .ok (.iconst 3, 1) := by decide +kernel
theorem d_Mod_canSet_81 : decode (ib f_Mod_canSet) 81 = .ok (.if_icmp .ne 8, 3) := by decide +kernel
theorem d_Mod_canSet_84 : decode (ib f_Mod_canSet) 84 = .ok (.bipush 6, 2) := by decide +kernel
theorem d_Mod_canSet_86 : decode (ib f_Mod_canSet) 86 = .ok (.goto 5, 3) := by decide +kernel
theorem d_Mod_canSet_89 : decode (ib f_Mod_canSet) 89 = .ok (.bipush 9, 2) := by decide +kernel
theorem d_Mod_canSet_91 : decode (ib f_Mod_canSet) 91 = .ok (.invokevirtual 135, 3) := by decide +kernel
theorem d_Mod_canSet_94 : decode (ib f_Mod_canSet) 94 = .ok (.ifCond .eq 7, 3) := by decide +kernel
theorem d_Mod_canSet_97 : decode (ib f_Mod_canSet) 97 = .ok (.iconst 1, 1) := by decide +kernel
theorem d_Mod_canSet_98 : decode (ib f_Mod_canSet) 98 = .ok (.goto 4, 3) := by decide +kernel
theorem d_Mod_canSet_101 : decode (ib f_Mod_canSet) 101 = .ok (.iconst 0, 1) := by decide +kernel
theorem d_Mod_canSet_102 : decode (ib f_Mod_canSet) 102 = .ok (.ireturn, 1) := by decide +kernel
theorem d_Mod_set_0 : decode (ib f_Mod_set) 0 = .ok (.aload_n 0, 1) := by decide +kernel
theorem d_Mod_set_1 : decode (ib f_Mod_set) 1 = .ok (.iconst 0, 1) := by decide +kernel
theorem d_Mod_set_2 : decode (ib f_Mod_set) 2 = .ok (.putfield 107, 3) := by decide +kernel
theorem d_Mod_set_5 : decode (ib f_Mod_set) 5 = .ok (.aload_n 0, 1) := by decide +kernel
theorem d_Mod_set_6 : decode (ib f_Mod_set) 6 = .ok (.iload_n 1, 1) := by decide +kernel
theorem d_Mod_set_7 : decode (ib f_Mod_set) 7 = .ok (.iload_n 2, 1) := by decide +kernel
theorem d_Mod_set_8 : decode (ib f_Mod_set) 8 = .ok (.iload_n 3, 1) := by decide +kernel
theorem d_Mod_set_9 : decode (ib f_Mod_set) 9 = .ok (.invokevirtual 142, 3) := by decide +kernel
theorem d_Mod_set_12 : decode (ib f_Mod_set) 12 = .ok (.ifCond .ne 5, 3) := by decide +kernel
theorem d_Mod_set_15 : decode (ib f_Mod_set) 15 = .ok (.iconst 0, 1) := by decide +kernel
theorem d_Mod_set_16 : decode (ib f_Mod_set) 16 = .ok (.ireturn, 1) := by decide +kernel
theorem d_Mod_set_17 : decode (ib f_Mod_set) 17 = .ok (.iload_n 1, 1) := by decide +kernel
theorem d_Mod_set_18 : decode (ib f_Mod_set) 18 = .ok (.ifCond .ne 9, 3) := by decide +kernel
theorem d_Mod_set_21 : decode (ib f_Mod_set) 21 = .ok (.aload_n 0, 1) := by decide +kernel
theorem d_Mod_set_22 : decode (ib f_Mod_set) 22 = .ok (.iload_n 2, 1) := by decide +kernel
theorem d_Mod_set_23 : decode (ib f_Mod_set) 23 = .ok (.iload_n 3, 1) := by decide +kernel
theorem d_Mod_set_24 : decode (ib f_Mod_set) 24 = .ok (.invokevirtual 145, 3) := by decide +kernel
theorem d_Mod_set_27 : decode (ib f_Mod_set) 27 = .ok (.iload_n 1, 1) := by decide +kernel
theorem d_Mod_set_28 : decode (ib f_Mod_set) 28 = .ok (.iconst 1, 1) := by decide +kernel
theorem d_Mod_set_29 : decode (ib f_Mod_set) 29 = .ok (.if_icmp .ne 20, 3) := by decide +kernel
theorem d_Mod_set_32 : decode (ib f_Mod_set) 32 = .ok (.aload_n 0, 1) := by decide +kernel
theorem d_Mod_set_33 : decode (ib f_Mod_set) 33 = .ok (.getfield 7, 3) := by decide +kernel
theorem d_Mod_set_36 : decode (ib f_Mod_set) 36 = .ok (.aload_n 0, 1) := by decide +kernel
theorem d_Mod_set_37 : decode (ib f_Mod_set) 37 = .ok (.aload_n 0, 1) := by decide +kernel
theorem d_Mod_set_38 : decode (ib f_Mod_set) 38 = .ok (.iload_n 2, 1) := by decide +kernel
theorem d_Mod_set_39 : decode (ib f_Mod_set) 39 = .ok (.invokevirtual 139, 3) := by decide +kernel
theorem d_Mod_set_42 : decode (ib f_Mod_set) 42 = .ok (.invokevirtual 124, 3) := by decide +kernel
theorem d_Mod_set_45 : decode (ib f_Mod_set) 45 = .ok (.iconst 2, 1) := by decide +kernel
theorem d_Mod_set_46 : decode (ib f_Mod_set) 46 = .ok (.iadd, 1) := by decide +kernel
theorem d_Mod_set_47 : decode (ib f_Mod_set) 47 = .ok (.iload_n 3, 1) := by decide +kernel
theorem d_Mod_set_48 : decode (ib f_Mod_set) 48 = .ok (.iastore, 1) := by decide +kernel
theorem d_Mod_set_49 : decode (ib f_Mod_set) 49 = .ok (.iload_n 1, 1) := by decide +kernel
theorem d_Mod_set_50 : decode (ib f_Mod_set) 50 = .ok (.iconst 2, 1) := by decide +kernel
theorem d_Mod_set_51 : decode (ib f_Mod_set) 51 = .ok (.if_icmp .ne 20, 3) := by decide +kernel
theorem d_Mod_set_54 : decode (ib f_Mod_set) 54 = .ok (.aload_n 0, 1) := by decide +kernel
theorem d_Mod_set_55 : decode (ib f_Mod_set) 55 = .ok (.getfield 7, 3) := by decide +kernel
theorem d_Mod_set_58 : decode (ib f_Mod_set) 58 = .ok (.aload_n 0, 1) := by decide +kernel
theorem d_Mod_set_59 : decode (ib f_Mod_set) 59 = .ok (.aload_n 0, 1) := by decide +kernel
theorem d_Mod_set_60 : decode (ib f_Mod_set) 60 = .ok (.iload_n 2, 1) := by decide +kernel
theorem d_Mod_set_61 : decode (ib f_Mod_set) 61 = .ok (.invokevirtual 139, 3) := by decide +kernel
theorem d_Mod_set_64 : decode (ib f_Mod_set) 64 = .ok (.invokevirtual 124, 3) := by decide +kernel
theorem d_Mod_set_67 : decode (ib f_Mod_set) 67 = .ok (.iconst 3, 1) := by decide +kernel
theorem d_Mod_set_68 : decode (ib f_Mod_set) 68 = .ok (.iadd, 1) := by decide +kernel
theorem d_Mod_set_69 : decode (ib f_Mod_set) 69 = .ok (.iload_n 3, 1) := by decide +kernel
theorem d_Mod_set_70 : decode (ib f_Mod_set) 70 = .ok (.iastore, 1) := by decide +kernel
theorem d_Mod_set_71 : decode (ib f_Mod_set) 71 = .ok (.iload_n 1, 1) := by decide +kernel
theorem d_Mod_set_72 : decode (ib f_Mod_set) 72 = .ok (.iconst 3, 1) := by decide +kernel
theorem d_Mod_set_73 : decode (ib f_Mod_set) 73 = .ok (.if_icmp .ne 21, 3) := by decide +kernel
theorem d_Mod_set_76 : decode (ib f_Mod_set) 76 = .ok (.aload_n 0, 1) := by decide +kernel
theorem d_Mod_set_77 : decode (ib f_Mod_set) 77 = .ok (.getfield 7, 3) := by decide +kernel
theorem d_Mod_set_80 : decode (ib f_Mod_set) 80 = .ok (.aload_n 0, 1) := by decide +kernel
theorem d_Mod_set_81 : decode (ib f_Mod_set) 81 = .ok (.aload_n 0, 1) := by decide +kernel
theorem d_Mod_set_82 : decode (ib f_Mod_set) 82 = .ok (.iload_n 2, 1) := by decide +kernel
theorem d_Mod_set_83 : decode (ib f_Mod_set) 83 = .ok (.invokevirtual 139, 3) := by decide +kernel
theorem d_Mod_set_86 : decode (ib f_Mod_set) 86 = .ok (.invokevirtual 124, 3) := by decide +kernel
theorem d_Mod_set_89 : decode (ib f_Mod_set) 89 = .ok (.bipush 6, 2) := by decide +kernel
theorem d_Mod_set_91 : decode (ib f_Mod_set) 91 = .ok (.iadd, 1) := by decide +kernel
theorem d_Mod_set_92 : decode (ib f_Mod_set) 92 = .ok (.iload_n 3, 1) := by decide +kernel
theorem d_Mod_set_93 : decode (ib f_Mod_set) 93 = .ok (.iastore, 1) := by decide +kernel
theorem d_Mod_set_94 : decode (ib f_Mod_set) 94 = .ok (.iload_n 1, 1) := by decide +kernel
theorem d_Mod_set_95 : decode (ib f_Mod_set) 95 = .ok (.iconst 4, 1) := by decide +kernel
theorem d_Mod_set_96 : decode (ib f_Mod_set) 96 = .ok (.if_icmp .ne 10, 3) := by decide +kernel
theorem d_Mod_set_99 : decode (ib f_Mod_set) 99 = .ok (.aload_n 0, 1) := by decide +kernel
theorem d_Mod_set_100 : decode (ib f_Mod_set) 100 = .ok (.getfield 7, 3) := by decide +kernel
theorem d_Mod_set_103 : decode (ib f_Mod_set) 103 = .ok (.iconst 3, 1) := by decide +kernel
theorem d_Mod_set_104 : decode (ib f_Mod_set) 104 = .ok (.iload_n 3, 1) := by decide +kernel
theorem d_Mod_set_105 : decode (ib f_Mod_set) 105 = .ok (.iastore, 1) := by decide +kernel
theorem d_Mod_set_106 : decode (ib f_Mod_set) 106 = .ok (.iload_n 1, 1) := by decide +kernel
theorem d_Mod_set_107 : decode (ib f_Mod_set) 107 = .ok (.iconst 5, 1) := by decide +kernel
theorem d_Mod_set_108 : decode (ib f_Mod_set) 108 = .ok (.if_icmp .ne 10, 3) := by decide +kernel
theorem d_Mod_set_111 : decode (ib f_Mod_set) 111 = .ok (.aload_n 0, 1) := by decide +kernel
theorem d_Mod_set_112 : decode (ib f_Mod_set) 112 = .ok (.getfield 7, 3) := by decide +kernel
theorem d_Mod_set_115 : decode (ib f_Mod_set) 115 = .ok (.iconst 4, 1) := by decide +kernel
theorem d_Mod_set_116 : decode (ib f_Mod_set) 116 = .ok (.iload_n 3, 1) := by decide +kernel
theorem d_Mod_set_117 : decode (ib f_Mod_set) 117 = .ok (.iastore, 1) := by decide +kernel
theorem d_Mod_set_118 : decode (ib f_Mod_set) 118 = .ok (.aload_n 0, 1) := by decide +kernel
theorem d_Mod_set_119 : decode (ib f_Mod_set) 119 = .ok (.iconst 0, 1) := by decide +kernel
theorem d_Mod_set_120 : decode (ib f_Mod_set) 120 = .ok (.putfield 111, 3) := by decide +kernel
theorem d_Mod_set_123 : decode (ib f_Mod_set) 123 = .ok (.iconst 1, 1) := by decide +kernel
theorem d_Mod_set_124 : decode (ib f_Mod_set) 124 = .ok (.ireturn, 1) := by decide +kernel
theorem d_Mod_types_0 : decode (ib f_Mod_types) 0 = .ok (.bipush 24, 2) := by decide +kernel
theorem d_Mod_types_2 : decode (ib f_Mod_types) 2 = .ok (.istore_n 2, 1) := by decide +kernel
theorem d_Mod_types_3 : decode (ib f_Mod_types) 3 = .ok (.iload_n 2, 1) := by decide +kernel
theorem d_Mod_types_4 : decode (ib f_Mod_types) 4 = .ok (.ifCond .lt 35, 3) := by decide +kernel
theorem d_Mod_types_7 : decode (ib f_Mod_types) 7 = .ok (.aload_n 0, 1) := by decide +kernel
theorem d_Mod_types_8 : decode (ib f_Mod_types) 8 = .ok (.getfield 22, 3) := by decide +kernel
theorem d_Mod_types_11 : decode (ib f_Mod_types) 11 = .ok (.aload_n 0, 1) := by decide +kernel
theorem d_Mod_types_12 : decode (ib f_Mod_types) 12 = .ok (.getfield 149, 3) := by decide +kernel
theorem d_Mod_types_15 : decode (ib f_Mod_types) 15 = .ok (.iload_n 1, 1) := by decide +kernel
theorem d_Mod_types_16 : decode (ib f_Mod_types) 16 = .ok (.iload_n 2, 1) := by decide +kernel
theorem d_Mod_types_17 : decode (ib f_Mod_types) 17 = .ok (.ishr, 1) := by decide +kernel
theorem d_Mod_types_18 : decode (ib f_Mod_types) 18 = .ok (.sipush 255, 3) := by decide +kernel
theorem d_Mod_types_21 : decode (ib f_Mod_types) 21 = .ok (.iand, 1) := by decide +kernel
theorem d_Mod_types_22 : decode (ib f_Mod_types) 22 = .ok (.iastore, 1) := by decide +kernel
theorem d_Mod_types_23 : decode (ib f_Mod_types) 23 = .ok (.aload_n 0, 1) := by decide +kernel
theorem d_Mod_types_24 : decode (ib f_Mod_types) 24 = .ok (.aload_n 0, 1) := by decide +kernel
theorem d_Mod_types_25 : decode (ib f_Mod_types) 25 = .ok (.getfield 149, 3) := by decide +kernel
theorem d_Mod_types_28 : decode (ib f_Mod_types) 28 = .ok (.iconst 1, 1) := by decide +kernel
theorem d_Mod_types_29 : decode (ib f_Mod_types) 29 = .ok (.iadd, 1) := by decide +kernel
theorem d_Mod_types_30 : decode (ib f_Mod_types) 30 = .ok (.putfield 149, 3) := by decide +kernel
theorem d_Mod_types_33 : decode (ib f_Mod_types) 33 = .ok (.iinc 2 (-8), 3) := by decide +kernel
theorem d_Mod_types_36 : decode (ib f_Mod_types) 36 = .ok (.goto (-33), 3) := by decide +kernel
theorem d_Mod_types_39 : decode (ib f_Mod_types) 39 = .ok (.return_, 1) := by decide +kernel
theorem d_Mod_feed_0 : decode (ib f_Mod_feed) 0 = .ok (.aload_n 0, 1) := by decide +kernel
theorem d_Mod_feed_1 : decode (ib f_Mod_feed) 1 = .ok (.iconst 0, 1) := by decide +kernel
theorem d_Mod_feed_2 : decode (ib f_Mod_feed) 2 = .ok (.putfield 107, 3) := by decide +kernel
theorem d_Mod_feed_5 : decode (ib f_Mod_feed) 5 = .ok (.aload_n 0, 1) := by decide +kernel
theorem d_Mod_feed_6 : decode (ib f_Mod_feed) 6 = .ok (.getfield 149, 3) := by decide +kernel
theorem d_Mod_feed_9 : decode (ib f_Mod_feed) 9 = .ok (.sipush 380, 3) := by decide +kernel
theorem d_Mod_feed_12 : decode (ib f_Mod_feed) 12 = .ok (.if_icmp .le 5, 3) := by decide +kernel
theorem d_Mod_feed_15 : decode (ib f_Mod_feed) 15 = .ok (.iconst (-1), 1) := by decide +kernel
theorem d_Mod_feed_16 : decode (ib f_Mod_feed) 16 = .ok (.ireturn, 1) := by decide +kernel
theorem d_Mod_feed_17 : decode (ib f_Mod_feed) 17 = .ok (.aload_n 0, 1) := by decide +kernel
theorem d_Mod_feed_18 : decode (ib f_Mod_feed) 18 = .ok (.iload_n 1, 1) := by decide +kernel
theorem d_Mod_feed_19 : decode (ib f_Mod_feed) 19 = .ok (.invokevirtual 152, 3) := by decide +kernel
theorem d_Mod_feed_22 : decode (ib f_Mod_feed) 22 = .ok (.aload_n 0, 1) := by decide +kernel
theorem d_Mod_feed_23 : decode (ib f_Mod_feed) 23 = .ok (.iload_n 2, 1) := by decide +kernel
theorem d_Mod_feed_24 : decode (ib f_Mod_feed) 24 = .ok (.invokevirtual 152, 3) := by decide +kernel
theorem d_Mod_feed_27 : decode (ib f_Mod_feed) 27 = .ok (.aload_n 0, 1) := by decide +kernel
theorem d_Mod_feed_28 : decode (ib f_Mod_feed) 28 = .ok (.iload_n 3, 1) := by decide +kernel
theorem d_Mod_feed_29 : decode (ib f_Mod_feed) 29 = .ok (.invokevirtual 152, 3) := by decide +kernel
theorem d_Mod_feed_32 : decode (ib f_Mod_feed) 32 = .ok (.aload_n 0, 1) := by decide +kernel
theorem d_Mod_feed_33 : decode (ib f_Mod_feed) 33 = .ok (.iload 4, 2) := by decide +kernel
theorem d_Mod_feed_35 : decode (ib f_Mod_feed) 35 = .ok (.invokevirtual 152, 3) := by decide +kernel
theorem d_Mod_feed_38 : decode (ib f_Mod_feed) 38 = .ok (.aload_n 0, 1) := by decide +kernel
theorem d_Mod_feed_39 : decode (ib f_Mod_feed) 39 = .ok (.iload 5, 2) := by decide +kernel
theorem d_Mod_feed_41 : decode (ib f_Mod_feed) 41 = .ok (.invokevirtual 152, 3) := by decide +kernel
theorem d_Mod_feed_44 : decode (ib f_Mod_feed) 44 = .ok (.aload_n 0, 1) := by decide +kernel
theorem d_Mod_feed_45 : decode (ib f_Mod_feed) 45 = .ok (.getfield 149, 3) := by decide +kernel
theorem d_Mod_feed_48 : decode (ib f_Mod_feed) 48 = .ok (.ireturn, 1) := by decide +kernel
theorem d_Mod_end_0 : decode (ib f_Mod_end) 0 = .ok (.aload_n 0, 1) := by decide +kernel
theorem d_Mod_end_1 : decode (ib f_Mod_end) 1 = .ok (.iconst 0, 1) := by decide +kernel
theorem d_Mod_end_2 : decode (ib f_Mod_end) 2 = .ok (.putfield 107, 3) := by decide +kernel
theorem d_Mod_end_5 : decode (ib f_Mod_end) 5 = .ok (.aload_n 0, 1) := by decide +kernel
theorem d_Mod_end_6 : decode (ib f_Mod_end) 6 = .ok (.iload_n 1, 1) := by decide +kernel
theorem d_Mod_end_7 : decode (ib f_Mod_end) 7 = .ok (.iconst 0, 1) := by decide +kernel
theorem d_Mod_end_8 : decode (ib f_Mod_end) 8 = .ok (.aload_n 0, 1) := by decide +kernel
theorem d_Mod_end_9 : decode (ib f_Mod_end) 9 = .ok (.getfield 149, 3) := by decide +kernel
theorem d_Mod_end_12 : decode (ib f_Mod_end) 12 = .ok (.invokevirtual 135, 3) := by decide +kernel
theorem d_Mod_end_15 : decode (ib f_Mod_end) 15 = .ok (.ifCond .ne 5, 3) := by decide +kernel
theorem d_Mod_end_18 : decode (ib f_Mod_end) 18 = .ok (.iconst 0, 1) := by decide +kernel
theorem d_Mod_end_19 : decode (ib f_Mod_end) 19 = .ok (.ireturn, 1) := by decide +kernel
theorem d_Mod_end_20 : decode (ib f_Mod_end) 20 = .ok (.aload_n 0, 1) := by decide +kernel
theorem d_Mod_end_21 : decode (ib f_Mod_end) 21 = .ok (.iload_n 1, 1) := by decide +kernel
theorem d_Mod_end_22 : decode (ib f_Mod_end) 22 = .ok (.putfield 149, 3) := by decide +kernel
theorem d_Mod_end_25 : decode (ib f_Mod_end) 25 = .ok (.iconst 1, 1) := by decide +kernel
theorem d_Mod_end_26 : decode (ib f_Mod_end) 26 = .ok (.ireturn, 1) := by decide +kernel
theorem d_Mod_raw_0 : decode (ib f_Mod_raw) 0 = .ok (.iload_n 1, 1) := by decide +kernel
theorem d_Mod_raw_1 : decode (ib f_Mod_raw) 1 = .ok (.aload_n 0, 1) := by decide +kernel
theorem d_Mod_raw_2 : decode (ib f_Mod_raw) 2 = .ok (.getfield 149, 3) := by decide +kernel
theorem d_Mod_raw_5 : decode (ib f_Mod_raw) 5 = .ok (.if_icmp .ge 12, 3) := by decide +kernel
theorem d_Mod_raw_8 : decode (ib f_Mod_raw) 8 = .ok (.aload_n 0, 1) := by decide +kernel
theorem d_Mod_raw_9 : decode (ib f_Mod_raw) 9 = .ok (.getfield 22, 3) := by decide +kernel
theorem d_Mod_raw_12 : decode (ib f_Mod_raw) 12 = .ok (.iload_n 1, 1) := by decide +kernel
theorem d_Mod_raw_13 : decode (ib f_Mod_raw) 13 = .ok (.iaload, 1) := by decide +kernel
theorem d_Mod_raw_14 : decode (ib f_Mod_raw) 14 = .ok (.goto 4, 3) := by decide +kernel
theorem d_Mod_raw_17 : decode (ib f_Mod_raw) 17 = .ok (.iconst (-1), 1) := by decide +kernel
theorem d_Mod_raw_18 : decode (ib f_Mod_raw) 18 = .ok (.ireturn, 1) := by decide +kernel
theorem d_Mod_isLetter_0 : decode (ib f_Mod_isLetter) 0 = .ok (.aload_n 0, 1) := by decide +kernel
theorem d_Mod_isLetter_1 : decode (ib f_Mod_isLetter) 1 = .ok (.iload_n 1, 1) := by decide +kernel
theorem d_Mod_isLetter_2 : decode (ib f_Mod_isLetter) 2 = .ok (.bipush 97, 2) := by decide +kernel
theorem d_Mod_isLetter_4 : decode (ib f_Mod_isLetter) 4 = .ok (.bipush 122, 2) := by decide +kernel
theorem d_Mod_isLetter_6 : decode (ib f_Mod_isLetter) 6 = .ok (.invokevirtual 135, 3) := by decide +kernel
theorem d_Mod_isLetter_9 : decode (ib f_Mod_isLetter) 9 = .ok (.ifCond .ne 15, 3) := by decide +kernel
theorem d_Mod_isLetter_12 : decode (ib f_Mod_isLetter) 12 = .ok (.aload_n 0, 1) := by decide +kernel
theorem d_Mod_isLetter_13 : decode (ib f_Mod_isLetter) 13 = .ok (.iload_n 1, 1) := by decide +kernel
theorem d_Mod_isLetter_14 : decode (ib f_Mod_isLetter) 14 = .ok (.bipush 65, 2) := by decide +kernel
theorem d_Mod_isLetter_16 : decode (ib f_Mod_isLetter) 16 = .ok (.bipush 90, 2) := by decide +kernel
theorem d_Mod_isLetter_18 : decode (ib f_Mod_isLetter) 18 = .ok (.invokevirtual 135, 3) := by decide +kernel
theorem d_Mod_isLetter_21 : decode (ib f_Mod_isLetter) 21 = .ok (.ifCond .eq 7, 3) := by decide +kernel
theorem d_Mod_isLetter_24 : decode (ib f_Mod_isLetter) 24 = .ok (.iconst 1, 1) := by decide +kernel
theorem d_Mod_isLetter_25 : decode (ib f_Mod_isLetter) 25 = .ok (.goto 4, 3) := by decide +kernel
theorem d_Mod_isLetter_28 : decode (ib f_Mod_isLetter) 28 = .ok (.iconst 0, 1) := by decide +kernel
theorem d_Mod_isLetter_29 : decode (ib f_Mod_isLetter) 29 = .ok (.ireturn, 1) := by decide +kernel
theorem d_Mod_isDigit_0 : decode (ib f_Mod_isDigit) 0 = .ok (.aload_n 0, 1) := by decide +kernel
theorem d_Mod_isDigit_1 : decode (ib f_Mod_isDigit) 1 = .ok (.iload_n 1, 1) := by decide +kernel
theorem d_Mod_isDigit_2 : decode (ib f_Mod_isDigit) 2 = .ok (.bipush 48, 2) := by decide +kernel
theorem d_Mod_isDigit_4 : decode (ib f_Mod_isDigit) 4 = .ok (.bipush 57, 2) := by decide +kernel
theorem d_Mod_isDigit_6 : decode (ib f_Mod_isDigit) 6 = .ok (.invokevirtual 135, 3) := by decide +kernel
theorem d_Mod_isDigit_9 : decode (ib f_Mod_isDigit) 9 = .ok (.ireturn, 1) := by decide +kernel
theorem d_Mod_isMarkSign_0 : decode (ib f_Mod_isMarkSign) 0 = .ok (.iload_n 1, 1) := by decide +kernel
theorem d_Mod_isMarkSign_1 : decode (ib f_Mod_isMarkSign) 1 = .ok (.bipush 59, 2) := by decide +kernel
theorem d_Mod_isMarkSign_3 : decode (ib f_Mod_isMarkSign) 3 = .ok (.if_icmp .eq 57, 3) := by decide +kernel
theorem d_Mod_isMarkSign_6 : decode (ib f_Mod_isMarkSign) 6 = .ok (.iload_n 1, 1) := by decide +kernel
theorem d_Mod_isMarkSign_7 : decode (ib f_Mod_isMarkSign) 7 = .ok (.bipush 43, 2) := by decide +kernel
theorem d_Mod_isMarkSign_9 : decode (ib f_Mod_isMarkSign) 9 = .ok (.if_icmp .eq 51, 3) := by decide +kernel
theorem d_Mod_isMarkSign_12 : decode (ib f_Mod_isMarkSign) 12 = .ok (.iload_n 1, 1) := by decide +kernel
theorem d_Mod_isMarkSign_13 : decode (ib f_Mod_isMarkSign) 13 = .ok (.bipush 45, 2) := by decide +kernel
theorem d_Mod_isMarkSign_15 : decode (ib f_Mod_isMarkSign) 15 = .ok (.if_icmp .eq 45, 3) := by decide +kernel
theorem d_Mod_isMarkSign_18 : decode (ib f_Mod_isMarkSign) 18 = .ok (.iload_n 1, 1) := by decide +kernel
theorem d_Mod_isMarkSign_19 : decode (ib f_Mod_isMarkSign) 19 = .ok (.bipush 42, 2) := by decide +kernel
theorem d_Mod_isMarkSign_21 : decode (ib f_Mod_isMarkSign) 21 = .ok (.if_icmp .eq 39, 3) := by decide +kernel
theorem d_Mod_isMarkSign_24 : decode (ib f_Mod_isMarkSign) 24 = .ok (.iload_n 1, 1) := by decide +kernel
theorem d_Mod_isMarkSign_25 : decode (ib f_Mod_isMarkSign) 25 = .ok (.bipush 47, 2) := by decide +kernel
theorem d_Mod_isMarkSign_27 : decode (ib f_Mod_isMarkSign) 27 = .ok (.if_icmp .eq 33, 3) := by decide +kernel
theorem d_Mod_isMarkSign_30 : decode (ib f_Mod_isMarkSign) 30 = .ok (.iload_n 1, 1) := by decide +kernel
theorem d_Mod_isMarkSign_31 : decode (ib f_Mod_isMarkSign) 31 = .ok (.bipush 40, 2) := by decide +kernel
theorem d_Mod_isMarkSign_33 : decode (ib f_Mod_isMarkSign) 33 = .ok (.if_icmp .eq 27, 3) := by decide +kernel
theorem d_Mod_isMarkSign_36 : decode (ib f_Mod_isMarkSign) 36 = .ok (.iload_n 1, 1) := by decide +kernel
theorem d_Mod_isMarkSign_37 : decode (ib f_Mod_isMarkSign) 37 = .ok (.bipush 41, 2) := by decide +kernel
theorem d_Mod_isMarkSign_39 : decode (ib f_Mod_isMarkSign) 39 = .ok (.if_icmp .eq 21, 3) := by decide +kernel
theorem d_Mod_isMarkSign_42 : decode (ib f_Mod_isMarkSign) 42 = .ok (.iload_n 1, 1) := by decide +kernel
theorem d_Mod_isMarkSign_43 : decode (ib f_Mod_isMarkSign) 43 = .ok (.bipush 60, 2) := by decide +kernel
theorem d_Mod_isMarkSign_45 : decode (ib f_Mod_isMarkSign) 45 = .ok (.if_icmp .eq 15, 3) := by decide +kernel
theorem d_Mod_isMarkSign_48 : decode (ib f_Mod_isMarkSign) 48 = .ok (.iload_n 1, 1) := by decide +kernel
theorem d_Mod_isMarkSign_49 : decode (ib f_Mod_isMarkSign) 49 = .ok (.bipush 61, 2) := by decide +kernel
theorem d_Mod_isMarkSign_51 : decode (ib f_Mod_isMarkSign) 51 = .ok (.if_icmp .eq 9, 3) := by decide +kernel
theorem d_Mod_isMarkSign_54 : decode (ib f_Mod_isMarkSign) 54 = .ok (.iload_n 1, 1) := by decide +kernel
theorem d_Mod_isMarkSign_55 : decode (ib f_Mod_isMarkSign) 55 = .ok (.bipush 62, 2) := by decide +kernel
theorem d_Mod_isMarkSign_57 : decode (ib f_Mod_isMarkSign) 57 = .ok (.if_icmp .ne 7, 3) := by decide +kernel
theorem d_Mod_isMarkSign_60 : decode (ib f_Mod_isMarkSign) 60 = .ok (.iconst 1, 1) := by decide +kernel
theorem d_Mod_isMarkSign_61 : decode (ib f_Mod_isMarkSign) 61 = .ok (.goto 4, 3) := by decide +kernel
theorem d_Mod_isMarkSign_64 : decode (ib f_Mod_isMarkSign) 64 = .ok (.iconst 0, 1) := by decide +kernel
theorem d_Mod_isMarkSign_65 : decode (ib f_Mod_isMarkSign) 65 = .ok (.ireturn, 1) := by decide +kernel
theorem d_Mod_wordAt_0 : decode (ib f_Mod_wordAt) 0 = .ok (.iconst (-1), 1) := by decide +kernel
theorem d_Mod_wordAt_1 : decode (ib f_Mod_wordAt) 1 = .ok (.istore_n 3, 1) := by decide +kernel
theorem d_Mod_wordAt_2 : decode (ib f_Mod_wordAt) 2 = .ok (.iconst 0, 1) := by decide +kernel
theorem d_Mod_wordAt_3 : decode (ib f_Mod_wordAt) 3 = .ok (.istore 4, 2) := by decide +kernel
theorem d_Mod_wordAt_5 : decode (ib f_Mod_wordAt) 5 = .ok (.iload 4, 2) := by decide +kernel
theorem d_Mod_wordAt_7 : decode (ib f_Mod_wordAt) 7 = .ok (.sipush 142, 3) := by decide +kernel
theorem d_Mod_wordAt_10 : decode (ib f_Mod_wordAt) 10 = .ok (.if_icmp .ge 108, 3) := by decide +kernel
theorem d_Mod_wordAt_13 : decode (ib f_Mod_wordAt) 13 = .ok (.iconst 0, 1) := by decide +kernel
theorem d_Mod_wordAt_14 : decode (ib f_Mod_wordAt) 14 = .ok (.istore 5, 2) := by decide +kernel
theorem d_Mod_wordAt_16 : decode (ib f_Mod_wordAt) 16 = .ok (.iload_n 3, 1) := by decide +kernel
theorem d_Mod_wordAt_17 : decode (ib f_Mod_wordAt) 17 = .ok (.iconst 1, 1) := by decide +kernel
theorem d_Mod_wordAt_18 : decode (ib f_Mod_wordAt) 18 = .ok (.iadd, 1) := by decide +kernel
theorem d_Mod_wordAt_19 : decode (ib f_Mod_wordAt) 19 = .ok (.istore_n 3, 1) := by decide +kernel
theorem d_Mod_wordAt_20 : decode (ib f_Mod_wordAt) 20 = .ok (.iload_n 1, 1) := by decide +kernel
theorem d_Mod_wordAt_21 : decode (ib f_Mod_wordAt) 21 = .ok (.iload 5, 2) := by decide +kernel
theorem d_Mod_wordAt_23 : decode (ib f_Mod_wordAt) 23 = .ok (.iadd, 1) := by decide +kernel
theorem d_Mod_wordAt_24 : decode (ib f_Mod_wordAt) 24 = .ok (.iload_n 2, 1) := by decide +kernel
theorem d_Mod_wordAt_25 : decode (ib f_Mod_wordAt) 25 = .ok (.if_icmp .ge 36, 3) := by decide +kernel
theorem d_Mod_wordAt_28 : decode (ib f_Mod_wordAt) 28 = .ok (.aload_n 0, 1) := by decide +kernel
theorem d_Mod_wordAt_29 : decode (ib f_Mod_wordAt) 29 = .ok (.getfield 25, 3) := by decide +kernel
theorem d_Mod_wordAt_32 : decode (ib f_Mod_wordAt) 32 = .ok (.iload 4, 2) := by decide +kernel
theorem d_Mod_wordAt_34 : decode (ib f_Mod_wordAt) 34 = .ok (.iconst 1, 1) := by decide +kernel
theorem d_Mod_wordAt_35 : decode (ib f_Mod_wordAt) 35 = .ok (.iadd, 1) := by decide +kernel
theorem d_Mod_wordAt_36 : decode (ib f_Mod_wordAt) 36 = .ok (.iload 5, 2) := by decide +kernel
theorem d_Mod_wordAt_38 : decode (ib f_Mod_wordAt) 38 = .ok (.iadd, 1) := by decide +kernel
theorem d_Mod_wordAt_39 : decode (ib f_Mod_wordAt) 39 = .ok (.iaload, 1) := by decide +kernel
theorem d_Mod_wordAt_40 : decode (ib f_Mod_wordAt) 40 = .ok (.aload_n 0, 1) := by decide +kernel
theorem d_Mod_wordAt_41 : decode (ib f_Mod_wordAt) 41 = .ok (.getfield 22, 3) := by decide +kernel
theorem d_Mod_wordAt_44 : decode (ib f_Mod_wordAt) 44 = .ok (.iload_n 1, 1) := by decide +kernel
theorem d_Mod_wordAt_45 : decode (ib f_Mod_wordAt) 45 = .ok (.iload 5, 2) := by decide +kernel
theorem d_Mod_wordAt_47 : decode (ib f_Mod_wordAt) 47 = .ok (.iadd, 1) := by decide +kernel
theorem d_Mod_wordAt_48 : decode (ib f_Mod_wordAt) 48 = .ok (.iaload, 1) := by decide +kernel
theorem d_Mod_wordAt_49 : decode (ib f_Mod_wordAt) 49 = .ok (.if_icmp .ne 12, 3) := by decide +kernel
theorem d_Mod_wordAt_52 : decode (ib f_Mod_wordAt) 52 = .ok (.iload 5, 2) := by decide +kernel
theorem d_Mod_wordAt_54 : decode (ib f_Mod_wordAt) 54 = .ok (.iconst 1, 1) := by decide +kernel
theorem d_Mod_wordAt_55 : decode (ib f_Mod_wordAt) 55 = .ok (.iadd, 1) := by decide +kernel
theorem d_Mod_wordAt_56 : decode (ib f_Mod_wordAt) 56 = .ok (.istore 5, 2) := by decide +kernel
theorem d_Mod_wordAt_58 : decode (ib f_Mod_wordAt) 58 = .ok (.goto (-38), 3) := by decide +kernel
theorem d_Mod_wordAt_61 : decode (ib f_Mod_wordAt) 61 = .ok (.iload_n 1, 1) := by decide +kernel
theorem d_Mod_wordAt_62 : decode (ib f_Mod_wordAt) 62 = .ok (.iload 5, 2) := by decide +kernel
theorem d_Mod_wordAt_64 : decode (ib f_Mod_wordAt) 64 = .ok (.iadd, 1) := by decide +kernel
theorem d_Mod_wordAt_65 : decode (ib f_Mod_wordAt) 65 = .ok (.iload_n 2, 1) := by decide +kernel
theorem d_Mod_wordAt_66 : decode (ib f_Mod_wordAt) 66 = .ok (.if_icmp .ne 22, 3) := by decide +kernel
theorem d_Mod_wordAt_69 : decode (ib f_Mod_wordAt) 69 = .ok (.aload_n 0, 1) := by decide +kernel
theorem d_Mod_wordAt_70 : decode (ib f_Mod_wordAt) 70 = .ok (.getfield 25, 3) := by decide +kernel
theorem d_Mod_wordAt_73 : decode (ib f_Mod_wordAt) 73 = .ok (.iload 4, 2) := by decide +kernel
theorem d_Mod_wordAt_75 : decode (ib f_Mod_wordAt) 75 = .ok (.iconst 1, 1) := by decide +kernel
theorem d_Mod_wordAt_76 : decode (ib f_Mod_wordAt) 76 = .ok (.iadd, 1) := by decide +kernel
theorem d_Mod_wordAt_77 : decode (ib f_Mod_wordAt) 77 = .ok (.iload 5, 2) := by decide +kernel
theorem d_Mod_wordAt_79 : decode (ib f_Mod_wordAt) 79 = .ok (.iadd, 1) := by decide +kernel
theorem d_Mod_wordAt_80 : decode (ib f_Mod_wordAt) 80 = .ok (.iaload, 1) := by decide +kernel
theorem d_Mod_wordAt_81 : decode (ib f_Mod_wordAt) 81 = .ok (.bipush 32, 2) := by decide +kernel
theorem d_Mod_wordAt_83 : decode (ib f_Mod_wordAt) 83 = .ok (.if_icmp .ne 5, 3) := by decide +kernel
theorem d_Mod_wordAt_86 : decode (ib f_Mod_wordAt) 86 = .ok (.iload_n 3, 1) := by decide +kernel
theorem d_Mod_wordAt_87 : decode (ib f_Mod_wordAt) 87 = .ok (.ireturn, 1) := by decide +kernel
theorem d_Mod_wordAt_88 : decode (ib f_Mod_wordAt) 88 = .ok (.iload 4, 2) := by decide +kernel
theorem d_Mod_wordAt_90 : decode (ib f_Mod_wordAt) 90 = .ok (.iconst 1, 1) := by decide +kernel
theorem d_Mod_wordAt_91 : decode (ib f_Mod_wordAt) 91 = .ok (.iadd, 1) := by decide +kernel
theorem d_Mod_wordAt_92 : decode (ib f_Mod_wordAt) 92 = .ok (.istore 4, 2) := by decide +kernel
theorem d_Mod_wordAt_94 : decode (ib f_Mod_wordAt) 94 = .ok (.aload_n 0, 1) := by decide +kernel
theorem d_Mod_wordAt_95 : decode (ib f_Mod_wordAt) 95 = .ok (.getfield 25, 3) := by decide +kernel
theorem d_Mod_wordAt_98 : decode (ib f_Mod_wordAt) 98 = .ok (.iload 4, 2) := by decide +kernel
theorem d_Mod_wordAt_100 : decode (ib f_Mod_wordAt) 100 = .ok (.iaload, 1) := by decide +kernel
theorem d_Mod_wordAt_101 : decode (ib f_Mod_wordAt) 101 = .ok (.bipush 32, 2) := by decide +kernel
theorem d_Mod_wordAt_103 : decode (ib f_Mod_wordAt) 103 = .ok (.if_icmp .eq 12, 3) := by decide +kernel
theorem d_Mod_wordAt_106 : decode (ib f_Mod_wordAt) 106 = .ok (.iload 4, 2) := by decide +kernel
theorem d_Mod_wordAt_108 : decode (ib f_Mod_wordAt) 108 = .ok (.iconst 1, 1) := by decide +kernel
theorem d_Mod_wordAt_109 : decode (ib f_Mod_wordAt) 109 = .ok (.iadd, 1) := by decide +kernel
theorem d_Mod_wordAt_110 : decode (ib f_Mod_wordAt) 110 = .ok (.istore 4, 2) := by decide +kernel
theorem d_Mod_wordAt_112 : decode (ib f_Mod_wordAt) 112 = .ok (.goto (-18), 3) := by decide +kernel
theorem d_Mod_wordAt_115 : decode (ib f_Mod_wordAt) 115 = .ok (.goto (-110), 3) := by decide +kernel
theorem d_Mod_wordAt_118 : decode (ib f_Mod_wordAt) 118 = .ok (.iconst (-1), 1) := by decide +kernel
theorem d_Mod_wordAt_119 : decode (ib f_Mod_wordAt) 119 = .ok (.ireturn, 1) := by decide +kernel
theorem d_Mod_reads_0 : decode (ib f_Mod_reads) 0 = .ok (.aload_n 0, 1) := by decide +kernel
theorem d_Mod_reads_1 : decode (ib f_Mod_reads) 1 = .ok (.aload_n 0, 1) := by decide +kernel
theorem d_Mod_reads_2 : decode (ib f_Mod_reads) 2 = .ok (.getfield 156, 3) := by decide +kernel
theorem d_Mod_reads_5 : decode (ib f_Mod_reads) 5 = .ok (.invokevirtual 159, 3) := by decide +kernel
theorem d_Mod_reads_8 : decode (ib f_Mod_reads) 8 = .ok (.bipush 32, 2) := by decide +kernel
theorem d_Mod_reads_10 : decode (ib f_Mod_reads) 10 = .ok (.if_icmp .eq 16, 3) := by decide +kernel
theorem d_Mod_reads_13 : decode (ib f_Mod_reads) 13 = .ok (.aload_n 0, 1) := by decide +kernel
theorem d_Mod_reads_14 : decode (ib f_Mod_reads) 14 = .ok (.aload_n 0, 1) := by decide +kernel
theorem d_Mod_reads_15 : decode (ib f_Mod_reads) 15 = .ok (.getfield 156, 3) := by decide +kernel
theorem d_Mod_reads_18 : decode (ib f_Mod_reads) 18 = .ok (.invokevirtual 159, 3) := by decide +kernel
theorem d_Mod_reads_21 : decode (ib f_Mod_reads) 21 = .ok (.bipush 10, 2) := by decide +kernel
theorem d_Mod_reads_23 : decode (ib f_Mod_reads) 23 = .ok (.if_icmp .ne 16, 3) := by decide +kernel
theorem d_Mod_reads_26 : decode (ib f_Mod_reads) 26 = .ok (.aload_n 0, 1) := by decide +kernel
theorem d_Mod_reads_27 : decode (ib f_Mod_reads) 27 = .ok (.aload_n 0, 1) := by decide +kernel
theorem d_Mod_reads_28 : decode (ib f_Mod_reads) 28 = .ok (.getfield 156, 3) := by decide +kernel
theorem d_Mod_reads_31 : decode (ib f_Mod_reads) 31 = .ok (.iconst 1, 1) := by decide +kernel
theorem d_Mod_reads_32 : decode (ib f_Mod_reads) 32 = .ok (.iadd, 1) := by decide +kernel
theorem d_Mod_reads_33 : decode (ib f_Mod_reads) 33 = .ok (.putfield 156, 3) := by decide +kernel
theorem d_Mod_reads_36 : decode (ib f_Mod_reads) 36 = .ok (.goto (-36), 3) := by decide +kernel
theorem d_Mod_reads_39 : decode (ib f_Mod_reads) 39 = .ok (.aload_n 0, 1) := by decide +kernel
theorem d_Mod_reads_40 : decode (ib f_Mod_reads) 40 = .ok (.aload_n 0, 1) := by decide +kernel
theorem d_Mod_reads_41 : decode (ib f_Mod_reads) 41 = .ok (.getfield 156, 3) := by decide +kernel
theorem d_Mod_reads_44 : decode (ib f_Mod_reads) 44 = .ok (.putfield 162, 3) := by decide +kernel
theorem d_Mod_reads_47 : decode (ib f_Mod_reads) 47 = .ok (.aload_n 0, 1) := by decide +kernel
theorem d_Mod_reads_48 : decode (ib f_Mod_reads) 48 = .ok (.iconst 1, 1) := by decide +kernel
theorem d_Mod_reads_49 : decode (ib f_Mod_reads) 49 = .ok (.putfield 165, 3) := by decide +kernel
theorem d_Mod_reads_52 : decode (ib f_Mod_reads) 52 = .ok (.aload_n 0, 1) := by decide +kernel
theorem d_Mod_reads_53 : decode (ib f_Mod_reads) 53 = .ok (.aload_n 0, 1) := by decide +kernel
theorem d_Mod_reads_54 : decode (ib f_Mod_reads) 54 = .ok (.getfield 156, 3) := by decide +kernel
theorem d_Mod_reads_57 : decode (ib f_Mod_reads) 57 = .ok (.invokevirtual 159, 3) := by decide +kernel
theorem d_Mod_reads_60 : decode (ib f_Mod_reads) 60 = .ok (.istore_n 1, 1) := by decide +kernel
theorem d_Mod_reads_61 : decode (ib f_Mod_reads) 61 = .ok (.iload_n 1, 1) := by decide +kernel
theorem d_Mod_reads_62 : decode (ib f_Mod_reads) 62 = .ok (.iconst (-1), 1) := by decide +kernel
theorem d_Mod_reads_63 : decode (ib f_Mod_reads) 63 = .ok (.if_icmp .ne 9, 3) := by decide +kernel
theorem d_Mod_reads_66 : decode (ib f_Mod_reads) 66 = .ok (.aload_n 0, 1) := by decide +kernel
theorem d_Mod_reads_67 : decode (ib f_Mod_reads) 67 = .ok (.iconst 0, 1) := by decide +kernel
theorem d_Mod_reads_68 : decode (ib f_Mod_reads) 68 = .ok (.putfield 165, 3) := by decide +kernel
theorem d_Mod_reads_71 : decode (ib f_Mod_reads) 71 = .ok (.return_, 1) := by decide +kernel
theorem d_Mod_reads_72 : decode (ib f_Mod_reads) 72 = .ok (.aload_n 0, 1) := by decide +kernel
theorem d_Mod_reads_73 : decode (ib f_Mod_reads) 73 = .ok (.aload_n 0, 1) := by decide +kernel
theorem d_Mod_reads_74 : decode (ib f_Mod_reads) 74 = .ok (.getfield 156, 3) := by decide +kernel
theorem d_Mod_reads_77 : decode (ib f_Mod_reads) 77 = .ok (.iconst 1, 1) := by decide +kernel
theorem d_Mod_reads_78 : decode (ib f_Mod_reads) 78 = .ok (.iadd, 1) := by decide +kernel
theorem d_Mod_reads_79 : decode (ib f_Mod_reads) 79 = .ok (.putfield 156, 3) := by decide +kernel
theorem d_Mod_reads_82 : decode (ib f_Mod_reads) 82 = .ok (.aload_n 0, 1) := by decide +kernel
theorem d_Mod_reads_83 : decode (ib f_Mod_reads) 83 = .ok (.iload_n 1, 1) := by decide +kernel
theorem d_Mod_reads_84 : decode (ib f_Mod_reads) 84 = .ok (.putfield 168, 3) := by decide +kernel
theorem d_Mod_reads_87 : decode (ib f_Mod_reads) 87 = .ok (.aload_n 0, 1) := by decide +kernel
theorem d_Mod_reads_88 : decode (ib f_Mod_reads) 88 = .ok (.iload_n 1, 1) := by decide +kernel
theorem d_Mod_reads_89 : decode (ib f_Mod_reads) 89 = .ok (.invokevirtual 171, 3) := by decide +kernel
theorem d_Mod_reads_92 : decode (ib f_Mod_reads) 92 = .ok (.ifCond .eq 63, 3) := by decide +kernel
theorem d_Mod_reads_95 : decode (ib f_Mod_reads) 95 = .ok (.aload_n 0, 1) := by decide +kernel
theorem d_Mod_reads_96 : decode (ib f_Mod_reads) 96 = .ok (.aload_n 0, 1) := by decide +kernel
theorem d_Mod_reads_97 : decode (ib f_Mod_reads) 97 = .ok (.aload_n 0, 1) := by decide +kernel
theorem d_Mod_reads_98 : decode (ib f_Mod_reads) 98 = .ok (.getfield 156, 3) := by decide +kernel
theorem d_Mod_reads_101 : decode (ib f_Mod_reads) 101 = .ok (.invokevirtual 159, 3) := by decide +kernel
theorem d_Mod_reads_104 : decode (ib f_Mod_reads) 104 = .ok (.invokevirtual 171, 3) := by decide +kernel
theorem d_Mod_reads_107 : decode (ib f_Mod_reads) 107 = .ok (.ifCond .eq 16, 3) := by decide +kernel
theorem d_Mod_reads_110 : decode (ib f_Mod_reads) 110 = .ok (.aload_n 0, 1) := by decide +kernel
theorem d_Mod_reads_111 : decode (ib f_Mod_reads) 111 = .ok (.aload_n 0, 1) := by decide +kernel
theorem d_Mod_reads_112 : decode (ib f_Mod_reads) 112 = .ok (.getfield 156, 3) := by decide +kernel
theorem d_Mod_reads_115 : decode (ib f_Mod_reads) 115 = .ok (.iconst 1, 1) := by decide +kernel
theorem d_Mod_reads_116 : decode (ib f_Mod_reads) 116 = .ok (.iadd, 1) := by decide +kernel
theorem d_Mod_reads_117 : decode (ib f_Mod_reads) 117 = .ok (.putfield 156, 3) := by decide +kernel
theorem d_Mod_reads_120 : decode (ib f_Mod_reads) 120 = .ok (.goto (-25), 3) := by decide +kernel
theorem d_Mod_reads_123 : decode (ib f_Mod_reads) 123 = .ok (.aload_n 0, 1) := by decide +kernel
theorem d_Mod_reads_124 : decode (ib f_Mod_reads) 124 = .ok (.aload_n 0, 1) := by decide +kernel
theorem d_Mod_reads_125 : decode (ib f_Mod_reads) 125 = .ok (.aload_n 0, 1) := by decide +kernel
theorem d_Mod_reads_126 : decode (ib f_Mod_reads) 126 = .ok (.getfield 162, 3) := by decide +kernel
theorem d_Mod_reads_129 : decode (ib f_Mod_reads) 129 = .ok (.aload_n 0, 1) := by decide +kernel
theorem d_Mod_reads_130 : decode (ib f_Mod_reads) 130 = .ok (.getfield 156, 3) := by decide +kernel
theorem d_Mod_reads_133 : decode (ib f_Mod_reads) 133 = .ok (.invokevirtual 174, 3) := by decide +kernel
theorem d_Mod_reads_136 : decode (ib f_Mod_reads) 136 = .ok (.putfield 168, 3) := by decide +kernel
theorem d_Mod_reads_139 : decode (ib f_Mod_reads) 139 = .ok (.aload_n 0, 1) := by decide +kernel
theorem d_Mod_reads_140 : decode (ib f_Mod_reads) 140 = .ok (.getfield 168, 3) := by decide +kernel
theorem d_Mod_reads_143 : decode (ib f_Mod_reads) 143 = .ok (.iconst (-1), 1) := by decide +kernel
theorem d_Mod_reads_144 : decode (ib f_Mod_reads) 144 = .ok (.if_icmp .eq 129, 3) := by decide +kernel
theorem d_Mod_reads_147 : decode (ib f_Mod_reads) 147 = .ok (.aload_n 0, 1) := by decide +kernel
theorem d_Mod_reads_148 : decode (ib f_Mod_reads) 148 = .ok (.iconst 2, 1) := by decide +kernel
theorem d_Mod_reads_149 : decode (ib f_Mod_reads) 149 = .ok (.putfield 165, 3) := by decide +kernel
theorem d_Mod_reads_152 : decode (ib f_Mod_reads) 152 = .ok (.goto 121, 3) := by decide +kernel
theorem d_Mod_reads_155 : decode (ib f_Mod_reads) 155 = .ok (.aload_n 0, 1) := by decide +kernel
theorem d_Mod_reads_156 : decode (ib f_Mod_reads) 156 = .ok (.iload_n 1, 1) := by decide +kernel
theorem d_Mod_reads_157 : decode (ib f_Mod_reads) 157 = .ok (.invokevirtual 178, 3) := by decide +kernel
theorem d_Mod_reads_160 : decode (ib f_Mod_reads) 160 = .ok (.ifCond .eq 100, 3) := by decide +kernel
theorem d_Mod_reads_163 : decode (ib f_Mod_reads) 163 = .ok (.aload_n 0, 1) := by decide +kernel
theorem d_Mod_reads_164 : decode (ib f_Mod_reads) 164 = .ok (.iload_n 1, 1) := by decide +kernel
theorem d_Mod_reads_165 : decode (ib f_Mod_reads) 165 = .ok (.bipush 48, 2) := by decide +kernel
theorem d_Mod_reads_167 : decode (ib f_Mod_reads) 167 = .ok (.isub, 1) := by decide +kernel
theorem d_Mod_reads_168 : decode (ib f_Mod_reads) 168 = .ok (.putfield 168, 3) := by decide +kernel
theorem d_Mod_reads_171 : decode (ib f_Mod_reads) 171 = .ok (.aload_n 0, 1) := by decide +kernel
theorem d_Mod_reads_172 : decode (ib f_Mod_reads) 172 = .ok (.aload_n 0, 1) := by decide +kernel
theorem d_Mod_reads_173 : decode (ib f_Mod_reads) 173 = .ok (.aload_n 0, 1) := by decide +kernel
theorem d_Mod_reads_174 : decode (ib f_Mod_reads) 174 = .ok (.getfield 156, 3) := by decide +kernel
theorem d_Mod_reads_177 : decode (ib f_Mod_reads) 177 = .ok (.invokevirtual 159, 3) := by decide +kernel
theorem d_Mod_reads_180 : decode (ib f_Mod_reads) 180 = .ok (.invokevirtual 178, 3) := by decide +kernel
theorem d_Mod_reads_183 : decode (ib f_Mod_reads) 183 = .ok (.ifCond .eq 56, 3) := by decide +kernel
theorem d_Mod_reads_186 : decode (ib f_Mod_reads) 186 = .ok (.aload_n 0, 1) := by decide +kernel
theorem d_Mod_reads_187 : decode (ib f_Mod_reads) 187 = .ok (.aload_n 0, 1) := by decide +kernel
theorem d_Mod_reads_188 : decode (ib f_Mod_reads) 188 = .ok (.getfield 168, 3) := by decide +kernel
theorem d_Mod_reads_191 : decode (ib f_Mod_reads) 191 = .ok (.sipush 10000, 3) := by decide +kernel
theorem d_Mod_reads_194 : decode (ib f_Mod_reads) 194 = .ok (.if_icmp .ge 25, 3) := by decide +kernel
theorem d_Mod_reads_197 : decode (ib f_Mod_reads) 197 = .ok (.bipush 10, 2) := by decide +kernel
theorem d_Mod_reads_199 : decode (ib f_Mod_reads) 199 = .ok (.aload_n 0, 1) := by decide +kernel
theorem d_Mod_reads_200 : decode (ib f_Mod_reads) 200 = .ok (.getfield 168, 3) := by decide +kernel
theorem d_Mod_reads_203 : decode (ib f_Mod_reads) 203 = .ok (.imul, 1) := by decide +kernel
theorem d_Mod_reads_204 : decode (ib f_Mod_reads) 204 = .ok (.aload_n 0, 1) := by decide +kernel
theorem d_Mod_reads_205 : decode (ib f_Mod_reads) 205 = .ok (.aload_n 0, 1) := by decide +kernel
theorem d_Mod_reads_206 : decode (ib f_Mod_reads) 206 = .ok (.getfield 156, 3) := by decide +kernel
theorem d_Mod_reads_209 : decode (ib f_Mod_reads) 209 = .ok (.invokevirtual 159, 3) := by decide +kernel
theorem d_Mod_reads_212 : decode (ib f_Mod_reads) 212 = .ok (.iadd, 1) := by decide +kernel
theorem d_Mod_reads_213 : decode (ib f_Mod_reads) 213 = .ok (.bipush 48, 2) := by decide +kernel
theorem d_Mod_reads_215 : decode (ib f_Mod_reads) 215 = .ok (.isub, 1) := by decide +kernel
theorem d_Mod_reads_216 : decode (ib f_Mod_reads) 216 = .ok (.goto 7, 3) := by decide +kernel
theorem d_Mod_reads_219 : decode (ib f_Mod_reads) 219 = .ok (.aload_n 0, 1) := by decide +kernel
theorem d_Mod_reads_220 : decode (ib f_Mod_reads) 220 = .ok (.getfield 168, 3) := by decide +kernel
theorem d_Mod_reads_223 : decode (ib f_Mod_reads) 223 = .ok (.putfield 168, 3) := by decide +kernel
theorem d_Mod_reads_226 : decode (ib f_Mod_reads) 226 = .ok (.aload_n 0, 1) := by decide +kernel
theorem d_Mod_reads_227 : decode (ib f_Mod_reads) 227 = .ok (.aload_n 0, 1) := by decide +kernel
theorem d_Mod_reads_228 : decode (ib f_Mod_reads) 228 = .ok (.getfield 156, 3) := by decide +kernel
theorem d_Mod_reads_231 : decode (ib f_Mod_reads) 231 = .ok (.iconst 1, 1) := by decide +kernel
theorem d_Mod_reads_232 : decode (ib f_Mod_reads) 232 = .ok (.iadd, 1) := by decide +kernel
theorem d_Mod_reads_233 : decode (ib f_Mod_reads) 233 = .ok (.putfield 156, 3) := by decide +kernel
theorem d_Mod_reads_236 : decode (ib f_Mod_reads) 236 = .ok (.goto (-65), 3) := by decide +kernel
theorem d_Mod_reads_239 : decode (ib f_Mod_reads) 239 = .ok (.aload_n 0, 1) := by decide +kernel
theorem d_Mod_reads_240 : decode (ib f_Mod_reads) 240 = .ok (.getfield 156, 3) := by decide +kernel
theorem d_Mod_reads_243 : decode (ib f_Mod_reads) 243 = .ok (.aload_n 0, 1) := by decide +kernel
theorem d_Mod_reads_244 : decode (ib f_Mod_reads) 244 = .ok (.getfield 162, 3) := by decide +kernel
theorem d_Mod_reads_247 : decode (ib f_Mod_reads) 247 = .ok (.isub, 1) := by decide +kernel
theorem d_Mod_reads_248 : decode (ib f_Mod_reads) 248 = .ok (.iconst 5, 1) := by decide +kernel
theorem d_Mod_reads_249 : decode (ib f_Mod_reads) 249 = .ok (.if_icmp .ge 24, 3) := by decide +kernel
theorem d_Mod_reads_252 : decode (ib f_Mod_reads) 252 = .ok (.aload_n 0, 1) := by decide +kernel
theorem d_Mod_reads_253 : decode (ib f_Mod_reads) 253 = .ok (.iconst 3, 1) := by decide +kernel
theorem d_Mod_reads_254 : decode (ib f_Mod_reads) 254 = .ok (.putfield 165, 3) := by decide +kernel
theorem d_Mod_reads_257 : decode (ib f_Mod_reads) 257 = .ok (.goto 16, 3) := by decide +kernel
theorem d_Mod_reads_260 : decode (ib f_Mod_reads) 260 = .ok (.aload_n 0, 1) := by decide +kernel
theorem d_Mod_reads_261 : decode (ib f_Mod_reads) 261 = .ok (.iload_n 1, 1) := by decide +kernel
theorem d_Mod_reads_262 : decode (ib f_Mod_reads) 262 = .ok (.invokevirtual 181, 3) := by decide +kernel
theorem d_Mod_reads_265 : decode (ib f_Mod_reads) 265 = .ok (.ifCond .eq 8, 3) := by decide +kernel
theorem d_Mod_reads_268 : decode (ib f_Mod_reads) 268 = .ok (.aload_n 0, 1) := by decide +kernel
theorem d_Mod_reads_269 : decode (ib f_Mod_reads) 269 = .ok (.iconst 4, 1) := by decide +kernel
theorem d_Mod_reads_270 : decode (ib f_Mod_reads) 270 = .ok (.putfield 165, 3) := by decide +kernel
theorem d_Mod_reads_273 : decode (ib f_Mod_reads) 273 = .ok (.return_, 1) := by decide +kernel
theorem d_Mod_errs_0 : decode (ib f_Mod_errs) 0 = .ok (.aload_n 0, 1) := by decide +kernel
theorem d_Mod_errs_1 : decode (ib f_Mod_errs) 1 = .ok (.iload_n 1, 1) := by decide +kernel
theorem d_Mod_errs_2 : decode (ib f_Mod_errs) 2 = .ok (.putfield 184, 3) := by decide +kernel
theorem d_Mod_errs_5 : decode (ib f_Mod_errs) 5 = .ok (.aload_n 0, 1) := by decide +kernel
theorem d_Mod_errs_6 : decode (ib f_Mod_errs) 6 = .ok (.aload_n 0, 1) := by decide +kernel
theorem d_Mod_errs_7 : decode (ib f_Mod_errs) 7 = .ok (.getfield 162, 3) := by decide +kernel
theorem d_Mod_errs_10 : decode (ib f_Mod_errs) 10 = .ok (.putfield 187, 3) := by decide +kernel
theorem d_Mod_errs_13 : decode (ib f_Mod_errs) 13 = .ok (.iconst (-1), 1) := by decide +kernel
theorem d_Mod_errs_14 : decode (ib f_Mod_errs) 14 = .ok (.ireturn, 1) := by decide +kernel
theorem d_Mod_isWord_0 : decode (ib f_Mod_isWord) 0 = .ok (.aload_n 0, 1) := by decide +kernel
theorem d_Mod_isWord_1 : decode (ib f_Mod_isWord) 1 = .ok (.getfield 165, 3) := by decide +kernel
theorem d_Mod_isWord_4 : decode (ib f_Mod_isWord) 4 = .ok (.iconst 2, 1) := by decide +kernel
theorem d_Mod_isWord_5 : decode (ib f_Mod_isWord) 5 = .ok (.if_icmp .ne 15, 3) := by decide +kernel
theorem d_Mod_isWord_8 : decode (ib f_Mod_isWord) 8 = .ok (.aload_n 0, 1) := by decide +kernel
theorem d_Mod_isWord_9 : decode (ib f_Mod_isWord) 9 = .ok (.getfield 168, 3) := by decide +kernel
theorem d_Mod_isWord_12 : decode (ib f_Mod_isWord) 12 = .ok (.iload_n 1, 1) := by decide +kernel
theorem d_Mod_isWord_13 : decode (ib f_Mod_isWord) 13 = .ok (.if_icmp .ne 7, 3) := by decide +kernel
theorem d_Mod_isWord_16 : decode (ib f_Mod_isWord) 16 = .ok (.iconst 1, 1) := by decide +kernel
theorem d_Mod_isWord_17 : decode (ib f_Mod_isWord) 17 = .ok (.goto 4, 3) := by decide +kernel
theorem d_Mod_isWord_20 : decode (ib f_Mod_isWord) 20 = .ok (.iconst 0, 1) := by decide +kernel
theorem d_Mod_isWord_21 : decode (ib f_Mod_isWord) 21 = .ok (.ireturn, 1) := by decide +kernel
theorem d_Mod_isSign_0 : decode (ib f_Mod_isSign) 0 = .ok (.aload_n 0, 1) := by decide +kernel
theorem d_Mod_isSign_1 : decode (ib f_Mod_isSign) 1 = .ok (.getfield 165, 3) := by decide +kernel
theorem d_Mod_isSign_4 : decode (ib f_Mod_isSign) 4 = .ok (.iconst 4, 1) := by decide +kernel
theorem d_Mod_isSign_5 : decode (ib f_Mod_isSign) 5 = .ok (.if_icmp .ne 15, 3) := by decide +kernel
theorem d_Mod_isSign_8 : decode (ib f_Mod_isSign) 8 = .ok (.aload_n 0, 1) := by decide +kernel
theorem d_Mod_isSign_9 : decode (ib f_Mod_isSign) 9 = .ok (.getfield 168, 3) := by decide +kernel
theorem d_Mod_isSign_12 : decode (ib f_Mod_isSign) 12 = .ok (.iload_n 1, 1) := by decide +kernel
theorem d_Mod_isSign_13 : decode (ib f_Mod_isSign) 13 = .ok (.if_icmp .ne 7, 3) := by decide +kernel
theorem d_Mod_isSign_16 : decode (ib f_Mod_isSign) 16 = .ok (.iconst 1, 1) := by decide +kernel
theorem d_Mod_isSign_17 : decode (ib f_Mod_isSign) 17 = .ok (.goto 4, 3) := by decide +kernel
theorem d_Mod_isSign_20 : decode (ib f_Mod_isSign) 20 = .ok (.iconst 0, 1) := by decide +kernel
theorem d_Mod_isSign_21 : decode (ib f_Mod_isSign) 21 = .ok (.ireturn, 1) := by decide +kernel
theorem d_Mod_emits_0 : decode (ib f_Mod_emits) 0 = .ok (.aload_n 0, 1) := by decide +kernel
theorem d_Mod_emits_1 : decode (ib f_Mod_emits) 1 = .ok (.getfield 43, 3) := by decide +kernel
theorem d_Mod_emits_4 : decode (ib f_Mod_emits) 4 = .ok (.sipush 800, 3) := by decide +kernel
theorem d_Mod_emits_7 : decode (ib f_Mod_emits) 7 = .ok (.aload_n 0, 1) := by decide +kernel
theorem d_Mod_emits_8 : decode (ib f_Mod_emits) 8 = .ok (.getfield 190, 3) := by decide +kernel
theorem d_Mod_emits_11 : decode (ib f_Mod_emits) 11 = .ok (.iadd, 1) := by decide +kernel
theorem d_Mod_emits_12 : decode (ib f_Mod_emits) 12 = .ok (.iload_n 1, 1) := by decide +kernel
theorem d_Mod_emits_13 : decode (ib f_Mod_emits) 13 = .ok (.iastore, 1) := by decide +kernel
theorem d_Mod_emits_14 : decode (ib f_Mod_emits) 14 = .ok (.aload_n 0, 1) := by decide +kernel
theorem d_Mod_emits_15 : decode (ib f_Mod_emits) 15 = .ok (.getfield 46, 3) := by decide +kernel
theorem d_Mod_emits_18 : decode (ib f_Mod_emits) 18 = .ok (.sipush 800, 3) := by decide +kernel
theorem d_Mod_emits_21 : decode (ib f_Mod_emits) 21 = .ok (.aload_n 0, 1) := by decide +kernel
theorem d_Mod_emits_22 : decode (ib f_Mod_emits) 22 = .ok (.getfield 190, 3) := by decide +kernel
theorem d_Mod_emits_25 : decode (ib f_Mod_emits) 25 = .ok (.iadd, 1) := by decide +kernel
theorem d_Mod_emits_26 : decode (ib f_Mod_emits) 26 = .ok (.iload_n 2, 1) := by decide +kernel
theorem d_Mod_emits_27 : decode (ib f_Mod_emits) 27 = .ok (.iastore, 1) := by decide +kernel
theorem d_Mod_emits_28 : decode (ib f_Mod_emits) 28 = .ok (.aload_n 0, 1) := by decide +kernel
theorem d_Mod_emits_29 : decode (ib f_Mod_emits) 29 = .ok (.aload_n 0, 1) := by decide +kernel
theorem d_Mod_emits_30 : decode (ib f_Mod_emits) 30 = .ok (.getfield 190, 3) := by decide +kernel
theorem d_Mod_emits_33 : decode (ib f_Mod_emits) 33 = .ok (.iconst 1, 1) := by decide +kernel
theorem d_Mod_emits_34 : decode (ib f_Mod_emits) 34 = .ok (.iadd, 1) := by decide +kernel
theorem d_Mod_emits_35 : decode (ib f_Mod_emits) 35 = .ok (.putfield 190, 3) := by decide +kernel
theorem d_Mod_emits_38 : decode (ib f_Mod_emits) 38 = .ok (.return_, 1) := by decide +kernel
theorem d_Mod_canAsk_0 : decode (ib f_Mod_canAsk) 0 = .ok (.aload_n 0, 1) := by decide +kernel
theorem d_Mod_canAsk_1 : decode (ib f_Mod_canAsk) 1 = .ok (.iload_n 1, 1) := by decide +kernel
theorem d_Mod_canAsk_2 : decode (ib f_Mod_canAsk) 2 = .ok (.bipush 7, 2) := by decide +kernel
theorem d_Mod_canAsk_4 : decode (ib f_Mod_canAsk) 4 = .ok (.bipush 17, 2) := by decide +kernel
theorem d_Mod_canAsk_6 : decode (ib f_Mod_canAsk) 6 = .ok (.invokevirtual 135, 3) := by decide +kernel
theorem d_Mod_canAsk_9 : decode (ib f_Mod_canAsk) 9 = .ok (.ireturn, 1) := by decide +kernel
theorem d_Mod_readUnit_0 : decode (ib f_Mod_readUnit) 0 = .ok (.aload_n 0, 1) := by decide +kernel
theorem d_Mod_readUnit_1 : decode (ib f_Mod_readUnit) 1 = .ok (.getfield 165, 3) := by decide +kernel
theorem d_Mod_readUnit_4 : decode (ib f_Mod_readUnit) 4 = .ok (.iconst 2, 1) := by decide +kernel
theorem d_Mod_readUnit_5 : decode (ib f_Mod_readUnit) 5 = .ok (.if_icmp .ne 18, 3) := by decide +kernel
theorem d_Mod_readUnit_8 : decode (ib f_Mod_readUnit) 8 = .ok (.aload_n 0, 1) := by decide +kernel
theorem d_Mod_readUnit_9 : decode (ib f_Mod_readUnit) 9 = .ok (.aload_n 0, 1) := by decide +kernel
theorem d_Mod_readUnit_10 : decode (ib f_Mod_readUnit) 10 = .ok (.getfield 168, 3) := by decide +kernel
theorem d_Mod_readUnit_13 : decode (ib f_Mod_readUnit) 13 = .ok (.invokevirtual 193, 3) := by decide +kernel
theorem d_Mod_readUnit_16 : decode (ib f_Mod_readUnit) 16 = .ok (.ifCond .eq 7, 3) := by decide +kernel
theorem d_Mod_readUnit_19 : decode (ib f_Mod_readUnit) 19 = .ok (.iconst 1, 1) := by decide +kernel
theorem d_Mod_readUnit_20 : decode (ib f_Mod_readUnit) 20 = .ok (.goto 4, 3) := by decide +kernel
theorem d_Mod_readUnit_23 : decode (ib f_Mod_readUnit) 23 = .ok (.iconst 0, 1) := by decide +kernel
theorem d_Mod_readUnit_24 : decode (ib f_Mod_readUnit) 24 = .ok (.istore_n 1, 1) := by decide +kernel
theorem d_Mod_readUnit_25 : decode (ib f_Mod_readUnit) 25 = .ok (.iload_n 1, 1) := by decide +kernel
theorem d_Mod_readUnit_26 : decode (ib f_Mod_readUnit) 26 = .ok (.ifCond .ne 17, 3) := by decide +kernel
theorem d_Mod_readUnit_29 : decode (ib f_Mod_readUnit) 29 = .ok (.aload_n 0, 1) := by decide +kernel
theorem d_Mod_readUnit_30 : decode (ib f_Mod_readUnit) 30 = .ok (.getfield 165, 3) := by decide +kernel
theorem d_Mod_readUnit_33 : decode (ib f_Mod_readUnit) 33 = .ok (.iconst 3, 1) := by decide +kernel
theorem d_Mod_readUnit_34 : decode (ib f_Mod_readUnit) 34 = .ok (.if_icmp .eq 9, 3) := by decide +kernel
theorem d_Mod_readUnit_37 : decode (ib f_Mod_readUnit) 37 = .ok (.aload_n 0, 1) := by decide +kernel
theorem d_Mod_readUnit_38 : decode (ib f_Mod_readUnit) 38 = .ok (.iconst 1, 1) := by decide +kernel
theorem d_Mod_readUnit_39 : decode (ib f_Mod_readUnit) 39 = .ok (.invokevirtual 196, 3) := by decide +kernel
theorem d_Mod_readUnit_42 : decode (ib f_Mod_readUnit) 42 = .ok (.ireturn, 1) := by decide +kernel
theorem d_Mod_readUnit_43 : decode (ib f_Mod_readUnit) 43 = .ok (.aload_n 0, 1) := by decide +kernel
theorem d_Mod_readUnit_44 : decode (ib f_Mod_readUnit) 44 = .ok (.iload_n 1, 1) := by decide +kernel
theorem d_Mod_readUnit_45 : decode (ib f_Mod_readUnit) 45 = .ok (.ifCond .eq 7, 3) := by decide +kernel
theorem d_Mod_readUnit_48 : decode (ib f_Mod_readUnit) 48 = .ok (.iconst 1, 1) := by decide +kernel
theorem d_Mod_readUnit_49 : decode (ib f_Mod_readUnit) 49 = .ok (.goto 4, 3) := by decide +kernel
theorem d_Mod_readUnit_52 : decode (ib f_Mod_readUnit) 52 = .ok (.iconst 0, 1) := by decide +kernel
theorem d_Mod_readUnit_53 : decode (ib f_Mod_readUnit) 53 = .ok (.iload_n 1, 1) := by decide +kernel
theorem d_Mod_readUnit_54 : decode (ib f_Mod_readUnit) 54 = .ok (.ifCond .eq 13, 3) := by decide +kernel
theorem d_Mod_readUnit_57 : decode (ib f_Mod_readUnit) 57 = .ok (.aload_n 0, 1) := by decide +kernel
theorem d_Mod_readUnit_58 : decode (ib f_Mod_readUnit) 58 = .ok (.getfield 168, 3) := by decide +kernel
theorem d_Mod_readUnit_61 : decode (ib f_Mod_readUnit) 61 = .ok (.bipush 7, 2) := by decide +kernel
theorem d_Mod_readUnit_63 : decode (ib f_Mod_readUnit) 63 = .ok (.isub, 1) := by decide +kernel
theorem d_Mod_readUnit_64 : decode (ib f_Mod_readUnit) 64 = .ok (.goto 7, 3) := by decide +kernel
theorem d_Mod_readUnit_67 : decode (ib f_Mod_readUnit) 67 = .ok (.aload_n 0, 1) := by decide +kernel
theorem d_Mod_readUnit_68 : decode (ib f_Mod_readUnit) 68 = .ok (.getfield 168, 3) := by decide +kernel
theorem d_Mod_readUnit_71 : decode (ib f_Mod_readUnit) 71 = .ok (.invokevirtual 199, 3) := by decide +kernel
theorem d_Mod_readUnit_74 : decode (ib f_Mod_readUnit) 74 = .ok (.aload_n 0, 1) := by decide +kernel
theorem d_Mod_readUnit_75 : decode (ib f_Mod_readUnit) 75 = .ok (.invokevirtual 202, 3) := by decide +kernel
theorem d_Mod_readUnit_78 : decode (ib f_Mod_readUnit) 78 = .ok (.iconst 0, 1) := by decide +kernel
theorem d_Mod_readUnit_79 : decode (ib f_Mod_readUnit) 79 = .ok (.ireturn, 1) := by decide +kernel
theorem d_Mod_readProduct_0 : decode (ib f_Mod_readProduct) 0 = .ok (.aload_n 0, 1) := by decide +kernel
theorem d_Mod_readProduct_1 : decode (ib f_Mod_readProduct) 1 = .ok (.invokevirtual 205, 3) := by decide +kernel
theorem d_Mod_readProduct_4 : decode (ib f_Mod_readProduct) 4 = .ok (.iconst (-1), 1) := by decide +kernel
theorem d_Mod_readProduct_5 : decode (ib f_Mod_readProduct) 5 = .ok (.if_icmp .ne 5, 3) := by decide +kernel
theorem d_Mod_readProduct_8 : decode (ib f_Mod_readProduct) 8 = .ok (.iconst (-1), 1) := by decide +kernel
theorem d_Mod_readProduct_9 : decode (ib f_Mod_readProduct) 9 = .ok (.ireturn, 1) := by decide +kernel
theorem d_Mod_readProduct_10 : decode (ib f_Mod_readProduct) 10 = .ok (.aload_n 0, 1) := by decide +kernel
theorem d_Mod_readProduct_11 : decode (ib f_Mod_readProduct) 11 = .ok (.bipush 42, 2) := by decide +kernel
theorem d_Mod_readProduct_13 : decode (ib f_Mod_readProduct) 13 = .ok (.invokevirtual 209, 3) := by decide +kernel
theorem d_Mod_readProduct_16 : decode (ib f_Mod_readProduct) 16 = .ok (.ifCond .ne 12, 3) := by decide +kernel
theorem d_Mod_readProduct_19 : decode (ib f_Mod_readProduct) 19 = .ok (.aload_n 0, 1) := by decide +kernel
theorem d_Mod_readProduct_20 : decode (ib f_Mod_readProduct) 20 = .ok (.bipush 47, 2) := by decide +kernel
theorem d_Mod_readProduct_22 : decode (ib f_Mod_readProduct) 22 = .ok (.invokevirtual 209, 3) := by decide +kernel
theorem d_Mod_readProduct_25 : decode (ib f_Mod_readProduct) 25 = .ok (.ifCond .eq 76, 3) := by decide +kernel
theorem d_Mod_readProduct_28 : decode (ib f_Mod_readProduct) 28 = .ok (.aload_n 0, 1) := by decide +kernel
theorem d_Mod_readProduct_29 : decode (ib f_Mod_readProduct) 29 = .ok (.bipush 42, 2) := by decide +kernel
theorem d_Mod_readProduct_31 : decode (ib f_Mod_readProduct) 31 = .ok (.invokevirtual 209, 3) := by decide +kernel
theorem d_Mod_readProduct_34 : decode (ib f_Mod_readProduct) 34 = .ok (.istore_n 1, 1) := by decide +kernel
theorem d_Mod_readProduct_35 : decode (ib f_Mod_readProduct) 35 = .ok (.aload_n 0, 1) := by decide +kernel
theorem d_Mod_readProduct_36 : decode (ib f_Mod_readProduct) 36 = .ok (.invokevirtual 202, 3) := by decide +kernel
theorem d_Mod_readProduct_39 : decode (ib f_Mod_readProduct) 39 = .ok (.iload_n 1, 1) := by decide +kernel
theorem d_Mod_readProduct_40 : decode (ib f_Mod_readProduct) 40 = .ok (.ifCond .ne 17, 3) := by decide +kernel
theorem d_Mod_readProduct_43 : decode (ib f_Mod_readProduct) 43 = .ok (.aload_n 0, 1) := by decide +kernel
theorem d_Mod_readProduct_44 : decode (ib f_Mod_readProduct) 44 = .ok (.getfield 165, 3) := by decide +kernel
theorem d_Mod_readProduct_47 : decode (ib f_Mod_readProduct) 47 = .ok (.iconst 3, 1) := by decide +kernel
theorem d_Mod_readProduct_48 : decode (ib f_Mod_readProduct) 48 = .ok (.if_icmp .eq 9, 3) := by decide +kernel
theorem d_Mod_readProduct_51 : decode (ib f_Mod_readProduct) 51 = .ok (.aload_n 0, 1) := by decide +kernel
theorem d_Mod_readProduct_52 : decode (ib f_Mod_readProduct) 52 = .ok (.iconst 1, 1) := by decide +kernel
theorem d_Mod_readProduct_53 : decode (ib f_Mod_readProduct) 53 = .ok (.invokevirtual 196, 3) := by decide +kernel
theorem d_Mod_readProduct_56 : decode (ib f_Mod_readProduct) 56 = .ok (.ireturn, 1) := by decide +kernel
theorem d_Mod_readProduct_57 : decode (ib f_Mod_readProduct) 57 = .ok (.iload_n 1, 1) := by decide +kernel
theorem d_Mod_readProduct_58 : decode (ib f_Mod_readProduct) 58 = .ok (.ifCond .ne 16, 3) := by decide +kernel
theorem d_Mod_readProduct_61 : decode (ib f_Mod_readProduct) 61 = .ok (.aload_n 0, 1) := by decide +kernel
theorem d_Mod_readProduct_62 : decode (ib f_Mod_readProduct) 62 = .ok (.getfield 168, 3) := by decide +kernel
theorem d_Mod_readProduct_65 : decode (ib f_Mod_readProduct) 65 = .ok (.ifCond .ne 9, 3) := by decide +kernel
theorem d_Mod_readProduct_68 : decode (ib f_Mod_readProduct) 68 = .ok (.aload_n 0, 1) := by decide +kernel
theorem d_Mod_readProduct_69 : decode (ib f_Mod_readProduct) 69 = .ok (.iconst 2, 1) := by decide +kernel
theorem d_Mod_readProduct_70 : decode (ib f_Mod_readProduct) 70 = .ok (.invokevirtual 196, 3) := by decide +kernel
theorem d_Mod_readProduct_73 : decode (ib f_Mod_readProduct) 73 = .ok (.ireturn, 1) := by decide +kernel
theorem d_Mod_readProduct_74 : decode (ib f_Mod_readProduct) 74 = .ok (.aload_n 0, 1) := by decide +kernel
theorem d_Mod_readProduct_75 : decode (ib f_Mod_readProduct) 75 = .ok (.invokevirtual 205, 3) := by decide +kernel
theorem d_Mod_readProduct_78 : decode (ib f_Mod_readProduct) 78 = .ok (.iconst (-1), 1) := by decide +kernel
theorem d_Mod_readProduct_79 : decode (ib f_Mod_readProduct) 79 = .ok (.if_icmp .ne 5, 3) := by decide +kernel
theorem d_Mod_readProduct_82 : decode (ib f_Mod_readProduct) 82 = .ok (.iconst (-1), 1) := by decide +kernel
theorem d_Mod_readProduct_83 : decode (ib f_Mod_readProduct) 83 = .ok (.ireturn, 1) := by decide +kernel
theorem d_Mod_readProduct_84 : decode (ib f_Mod_readProduct) 84 = .ok (.aload_n 0, 1) := by decide +kernel
theorem d_Mod_readProduct_85 : decode (ib f_Mod_readProduct) 85 = .ok (.iload_n 1, 1) := by decide +kernel
theorem d_Mod_readProduct_86 : decode (ib f_Mod_readProduct) 86 = .ok (.ifCond .eq 7, 3) := by decide +kernel
theorem d_Mod_readProduct_89 : decode (ib f_Mod_readProduct) 89 = .ok (.iconst 4, 1) := by decide +kernel
theorem d_Mod_readProduct_90 : decode (ib f_Mod_readProduct) 90 = .ok (.goto 4, 3) := by decide +kernel
theorem d_Mod_readProduct_93 : decode (ib f_Mod_readProduct) 93 = .ok (.iconst 5, 1) := by decide +kernel
theorem d_Mod_readProduct_94 : decode (ib f_Mod_readProduct) 94 = .ok (.iconst 0, 1) := by decide +kernel
theorem d_Mod_readProduct_95 : decode (ib f_Mod_readProduct) 95 = .ok (.invokevirtual 199, 3) := by decide +kernel
theorem d_Mod_readProduct_98 : decode (ib f_Mod_readProduct) 98 = .ok (.goto (-88), 3) := by decide +kernel
theorem d_Mod_readProduct_101 : decode (ib f_Mod_readProduct) 101 = .ok (.iconst 0, 1) := by decide +kernel
theorem d_Mod_readProduct_102 : decode (ib f_Mod_readProduct) 102 = .ok (.ireturn, 1) := by decide +kernel
theorem d_Mod_readSum_0 : decode (ib f_Mod_readSum) 0 = .ok (.aload_n 0, 1) := by decide +kernel
theorem d_Mod_readSum_1 : decode (ib f_Mod_readSum) 1 = .ok (.invokevirtual 212, 3) := by decide +kernel
theorem d_Mod_readSum_4 : decode (ib f_Mod_readSum) 4 = .ok (.iconst (-1), 1) := by decide +kernel
theorem d_Mod_readSum_5 : decode (ib f_Mod_readSum) 5 = .ok (.if_icmp .ne 5, 3) := by decide +kernel
theorem d_Mod_readSum_8 : decode (ib f_Mod_readSum) 8 = .ok (.iconst (-1), 1) := by decide +kernel
theorem d_Mod_readSum_9 : decode (ib f_Mod_readSum) 9 = .ok (.ireturn, 1) := by decide +kernel
theorem d_Mod_readSum_10 : decode (ib f_Mod_readSum) 10 = .ok (.aload_n 0, 1) := by decide +kernel
theorem d_Mod_readSum_11 : decode (ib f_Mod_readSum) 11 = .ok (.bipush 43, 2) := by decide +kernel
theorem d_Mod_readSum_13 : decode (ib f_Mod_readSum) 13 = .ok (.invokevirtual 209, 3) := by decide +kernel
theorem d_Mod_readSum_16 : decode (ib f_Mod_readSum) 16 = .ok (.ifCond .ne 12, 3) := by decide +kernel
theorem d_Mod_readSum_19 : decode (ib f_Mod_readSum) 19 = .ok (.aload_n 0, 1) := by decide +kernel
theorem d_Mod_readSum_20 : decode (ib f_Mod_readSum) 20 = .ok (.bipush 45, 2) := by decide +kernel
theorem d_Mod_readSum_22 : decode (ib f_Mod_readSum) 22 = .ok (.invokevirtual 209, 3) := by decide +kernel
theorem d_Mod_readSum_25 : decode (ib f_Mod_readSum) 25 = .ok (.ifCond .eq 41, 3) := by decide +kernel
theorem d_Mod_readSum_28 : decode (ib f_Mod_readSum) 28 = .ok (.aload_n 0, 1) := by decide +kernel
theorem d_Mod_readSum_29 : decode (ib f_Mod_readSum) 29 = .ok (.getfield 168, 3) := by decide +kernel
theorem d_Mod_readSum_32 : decode (ib f_Mod_readSum) 32 = .ok (.bipush 43, 2) := by decide +kernel
theorem d_Mod_readSum_34 : decode (ib f_Mod_readSum) 34 = .ok (.if_icmp .ne 7, 3) := by decide +kernel
theorem d_Mod_readSum_37 : decode (ib f_Mod_readSum) 37 = .ok (.iconst 2, 1) := by decide +kernel
theorem d_Mod_readSum_38 : decode (ib f_Mod_readSum) 38 = .ok (.goto 4, 3) := by decide +kernel
theorem d_Mod_readSum_41 : decode (ib f_Mod_readSum) 41 = .ok (.iconst 3, 1) := by decide +kernel
theorem d_Mod_readSum_42 : decode (ib f_Mod_readSum) 42 = .ok (.istore_n 1, 1) := by decide +kernel
theorem d_Mod_readSum_43 : decode (ib f_Mod_readSum) 43 = .ok (.aload_n 0, 1) := by decide +kernel
theorem d_Mod_readSum_44 : decode (ib f_Mod_readSum) 44 = .ok (.invokevirtual 202, 3) := by decide +kernel
theorem d_Mod_readSum_47 : decode (ib f_Mod_readSum) 47 = .ok (.aload_n 0, 1) := by decide +kernel
theorem d_Mod_readSum_48 : decode (ib f_Mod_readSum) 48 = .ok (.invokevirtual 212, 3) := by decide +kernel
theorem d_Mod_readSum_51 : decode (ib f_Mod_readSum) 51 = .ok (.iconst (-1), 1) := by decide +kernel
theorem d_Mod_readSum_52 : decode (ib f_Mod_readSum) 52 = .ok (.if_icmp .ne 5, 3) := by decide +kernel
