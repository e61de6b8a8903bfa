theorem dL_placeOf_0 : decode cL_placeOf 0 = .ok (.iconst 0, 1) := by decide +kernel
theorem dL_placeOf_1 : decode cL_placeOf 1 = .ok (.istore_n 2, 1) := by decide +kernel
theorem dL_placeOf_2 : decode cL_placeOf 2 = .ok (.aload_n 0, 1) := by decide +kernel
theorem dL_placeOf_3 : decode cL_placeOf 3 = .ok (.iload_n 2, 1) := by decide +kernel
theorem dL_placeOf_4 : decode cL_placeOf 4 = .ok (.iaload, 1) := by decide +kernel
theorem dL_placeOf_5 : decode cL_placeOf 5 = .ok (.iload_n 1, 1) := by decide +kernel
theorem dL_placeOf_6 : decode cL_placeOf 6 = .ok (.if_icmp .eq 9, 3) := by decide +kernel
theorem dL_placeOf_9 : decode cL_placeOf 9 = .ok (.iinc 2 1, 3) := by decide +kernel
theorem dL_placeOf_12 : decode cL_placeOf 12 = .ok (.goto (-10), 3) := by decide +kernel
theorem dL_placeOf_15 : decode cL_placeOf 15 = .ok (.iload_n 2, 1) := by decide +kernel
theorem dL_placeOf_16 : decode cL_placeOf 16 = .ok (.ireturn, 1) := by decide +kernel
theorem dL_at_0 : decode cL_at 0 = .ok (.iconst (-1), 1) := by decide +kernel
theorem dL_at_1 : decode cL_at 1 = .ok (.istore 5, 2) := by decide +kernel
theorem dL_at_3 : decode cL_at 3 = .ok (.iconst 0, 1) := by decide +kernel
theorem dL_at_4 : decode cL_at 4 = .ok (.istore 6, 2) := by decide +kernel
theorem dL_at_6 : decode cL_at 6 = .ok (.iload 6, 2) := by decide +kernel
theorem dL_at_8 : decode cL_at 8 = .ok (.aload_n 2, 1) := by decide +kernel
theorem dL_at_9 : decode cL_at 9 = .ok (.iconst 2, 1) := by decide +kernel
theorem dL_at_10 : decode cL_at 10 = .ok (.iaload, 1) := by decide +kernel
theorem dL_at_11 : decode cL_at 11 = .ok (.if_icmp .ge 103, 3) := by decide +kernel
theorem dL_at_14 : decode cL_at 14 = .ok (.aload_n 0, 1) := by decide +kernel
theorem dL_at_15 : decode cL_at 15 = .ok (.aload_n 1, 1) := by decide +kernel
theorem dL_at_16 : decode cL_at 16 = .ok (.bipush 6, 2) := by decide +kernel
theorem dL_at_18 : decode cL_at 18 = .ok (.iload 6, 2) := by decide +kernel
theorem dL_at_20 : decode cL_at 20 = .ok (.imul, 1) := by decide +kernel
theorem dL_at_21 : decode cL_at 21 = .ok (.iaload, 1) := by decide +kernel
theorem dL_at_22 : decode cL_at 22 = .ok (.invokestatic 9, 3) := by decide +kernel
theorem dL_at_25 : decode cL_at 25 = .ok (.istore 7, 2) := by decide +kernel
theorem dL_at_27 : decode cL_at 27 = .ok (.iload_n 3, 1) := by decide +kernel
theorem dL_at_28 : decode cL_at 28 = .ok (.iload 7, 2) := by decide +kernel
theorem dL_at_30 : decode cL_at 30 = .ok (.if_icmp .lt 23, 3) := by decide +kernel
theorem dL_at_33 : decode cL_at 33 = .ok (.iload_n 3, 1) := by decide +kernel
theorem dL_at_34 : decode cL_at 34 = .ok (.iload 7, 2) := by decide +kernel
theorem dL_at_36 : decode cL_at 36 = .ok (.aload_n 1, 1) := by decide +kernel
theorem dL_at_37 : decode cL_at 37 = .ok (.bipush 6, 2) := by decide +kernel
theorem dL_at_39 : decode cL_at 39 = .ok (.iload 6, 2) := by decide +kernel
theorem dL_at_41 : decode cL_at 41 = .ok (.imul, 1) := by decide +kernel
theorem dL_at_42 : decode cL_at 42 = .ok (.iconst 2, 1) := by decide +kernel
theorem dL_at_43 : decode cL_at 43 = .ok (.iadd, 1) := by decide +kernel
theorem dL_at_44 : decode cL_at 44 = .ok (.iaload, 1) := by decide +kernel
theorem dL_at_45 : decode cL_at 45 = .ok (.iadd, 1) := by decide +kernel
theorem dL_at_46 : decode cL_at 46 = .ok (.if_icmp .ge 7, 3) := by decide +kernel
theorem dL_at_49 : decode cL_at 49 = .ok (.iconst 1, 1) := by decide +kernel
theorem dL_at_50 : decode cL_at 50 = .ok (.goto 4, 3) := by decide +kernel
theorem dL_at_53 : decode cL_at 53 = .ok (.iconst 0, 1) := by decide +kernel
theorem dL_at_54 : decode cL_at 54 = .ok (.istore 8, 2) := by decide +kernel
theorem dL_at_56 : decode cL_at 56 = .ok (.iload 8, 2) := by decide +kernel
theorem dL_at_58 : decode cL_at 58 = .ok (.ifCond .eq 46, 3) := by decide +kernel
theorem dL_at_61 : decode cL_at 61 = .ok (.iload 4, 2) := by decide +kernel
theorem dL_at_63 : decode cL_at 63 = .ok (.aload_n 1, 1) := by decide +kernel
theorem dL_at_64 : decode cL_at 64 = .ok (.bipush 6, 2) := by decide +kernel
theorem dL_at_66 : decode cL_at 66 = .ok (.iload 6, 2) := by decide +kernel
theorem dL_at_68 : decode cL_at 68 = .ok (.imul, 1) := by decide +kernel
theorem dL_at_69 : decode cL_at 69 = .ok (.iconst 1, 1) := by decide +kernel
theorem dL_at_70 : decode cL_at 70 = .ok (.iadd, 1) := by decide +kernel
theorem dL_at_71 : decode cL_at 71 = .ok (.iaload, 1) := by decide +kernel
theorem dL_at_72 : decode cL_at 72 = .ok (.if_icmp .lt 32, 3) := by decide +kernel
theorem dL_at_75 : decode cL_at 75 = .ok (.iload 4, 2) := by decide +kernel
theorem dL_at_77 : decode cL_at 77 = .ok (.aload_n 1, 1) := by decide +kernel
theorem dL_at_78 : decode cL_at 78 = .ok (.bipush 6, 2) := by decide +kernel
theorem dL_at_80 : decode cL_at 80 = .ok (.iload 6, 2) := by decide +kernel
theorem dL_at_82 : decode cL_at 82 = .ok (.imul, 1) := by decide +kernel
theorem dL_at_83 : decode cL_at 83 = .ok (.iconst 1, 1) := by decide +kernel
theorem dL_at_84 : decode cL_at 84 = .ok (.iadd, 1) := by decide +kernel
theorem dL_at_85 : decode cL_at 85 = .ok (.iaload, 1) := by decide +kernel
theorem dL_at_86 : decode cL_at 86 = .ok (.aload_n 1, 1) := by decide +kernel
theorem dL_at_87 : decode cL_at 87 = .ok (.bipush 6, 2) := by decide +kernel
theorem dL_at_89 : decode cL_at 89 = .ok (.iload 6, 2) := by decide +kernel
theorem dL_at_91 : decode cL_at 91 = .ok (.imul, 1) := by decide +kernel
theorem dL_at_92 : decode cL_at 92 = .ok (.iconst 3, 1) := by decide +kernel
theorem dL_at_93 : decode cL_at 93 = .ok (.iadd, 1) := by decide +kernel
theorem dL_at_94 : decode cL_at 94 = .ok (.iaload, 1) := by decide +kernel
theorem dL_at_95 : decode cL_at 95 = .ok (.iadd, 1) := by decide +kernel
theorem dL_at_96 : decode cL_at 96 = .ok (.if_icmp .ge 8, 3) := by decide +kernel
theorem dL_at_99 : decode cL_at 99 = .ok (.iload 6, 2) := by decide +kernel
theorem dL_at_101 : decode cL_at 101 = .ok (.goto 5, 3) := by decide +kernel
theorem dL_at_104 : decode cL_at 104 = .ok (.iload 5, 2) := by decide +kernel
theorem dL_at_106 : decode cL_at 106 = .ok (.istore 5, 2) := by decide +kernel
theorem dL_at_108 : decode cL_at 108 = .ok (.iinc 6 1, 3) := by decide +kernel
theorem dL_at_111 : decode cL_at 111 = .ok (.goto (-105), 3) := by decide +kernel
theorem dL_at_114 : decode cL_at 114 = .ok (.iload 5, 2) := by decide +kernel
theorem dL_at_116 : decode cL_at 116 = .ok (.ireturn, 1) := by decide +kernel
theorem dL_shows_0 : decode cL_shows 0 = .ok (.iconst 0, 1) := by decide +kernel
theorem dL_shows_1 : decode cL_shows 1 = .ok (.istore_n 3, 1) := by decide +kernel
theorem dL_shows_2 : decode cL_shows 2 = .ok (.aload_n 1, 1) := by decide +kernel
theorem dL_shows_3 : decode cL_shows 3 = .ok (.bipush 6, 2) := by decide +kernel
theorem dL_shows_5 : decode cL_shows 5 = .ok (.iload_n 2, 1) := by decide +kernel
theorem dL_shows_6 : decode cL_shows 6 = .ok (.imul, 1) := by decide +kernel
theorem dL_shows_7 : decode cL_shows 7 = .ok (.iconst 1, 1) := by decide +kernel
theorem dL_shows_8 : decode cL_shows 8 = .ok (.iadd, 1) := by decide +kernel
theorem dL_shows_9 : decode cL_shows 9 = .ok (.iaload, 1) := by decide +kernel
theorem dL_shows_10 : decode cL_shows 10 = .ok (.istore 4, 2) := by decide +kernel
theorem dL_shows_12 : decode cL_shows 12 = .ok (.iload 4, 2) := by decide +kernel
theorem dL_shows_14 : decode cL_shows 14 = .ok (.aload_n 1, 1) := by decide +kernel
theorem dL_shows_15 : decode cL_shows 15 = .ok (.bipush 6, 2) := by decide +kernel
theorem dL_shows_17 : decode cL_shows 17 = .ok (.iload_n 2, 1) := by decide +kernel
theorem dL_shows_18 : decode cL_shows 18 = .ok (.imul, 1) := by decide +kernel
theorem dL_shows_19 : decode cL_shows 19 = .ok (.iconst 1, 1) := by decide +kernel
theorem dL_shows_20 : decode cL_shows 20 = .ok (.iadd, 1) := by decide +kernel
theorem dL_shows_21 : decode cL_shows 21 = .ok (.iaload, 1) := by decide +kernel
theorem dL_shows_22 : decode cL_shows 22 = .ok (.aload_n 1, 1) := by decide +kernel
theorem dL_shows_23 : decode cL_shows 23 = .ok (.bipush 6, 2) := by decide +kernel
theorem dL_shows_25 : decode cL_shows 25 = .ok (.iload_n 2, 1) := by decide +kernel
theorem dL_shows_26 : decode cL_shows 26 = .ok (.imul, 1) := by decide +kernel
theorem dL_shows_27 : decode cL_shows 27 = .ok (.iconst 3, 1) := by decide +kernel
theorem dL_shows_28 : decode cL_shows 28 = .ok (.iadd, 1) := by decide +kernel
theorem dL_shows_29 : decode cL_shows 29 = .ok (.iaload, 1) := by decide +kernel
theorem dL_shows_30 : decode cL_shows 30 = .ok (.iadd, 1) := by decide +kernel
theorem dL_shows_31 : decode cL_shows 31 = .ok (.if_icmp .ge 22, 3) := by decide +kernel
theorem dL_shows_34 : decode cL_shows 34 = .ok (.iload_n 3, 1) := by decide +kernel
theorem dL_shows_35 : decode cL_shows 35 = .ok (.iconst 1, 1) := by decide +kernel
theorem dL_shows_36 : decode cL_shows 36 = .ok (.aload_n 0, 1) := by decide +kernel
theorem dL_shows_37 : decode cL_shows 37 = .ok (.iconst 4, 1) := by decide +kernel
theorem dL_shows_38 : decode cL_shows 38 = .ok (.iload 4, 2) := by decide +kernel
theorem dL_shows_40 : decode cL_shows 40 = .ok (.imul, 1) := by decide +kernel
theorem dL_shows_41 : decode cL_shows 41 = .ok (.iconst 3, 1) := by decide +kernel
theorem dL_shows_42 : decode cL_shows 42 = .ok (.iadd, 1) := by decide +kernel
theorem dL_shows_43 : decode cL_shows 43 = .ok (.iaload, 1) := by decide +kernel
theorem dL_shows_44 : decode cL_shows 44 = .ok (.isub, 1) := by decide +kernel
theorem dL_shows_45 : decode cL_shows 45 = .ok (.iadd, 1) := by decide +kernel
theorem dL_shows_46 : decode cL_shows 46 = .ok (.istore_n 3, 1) := by decide +kernel
theorem dL_shows_47 : decode cL_shows 47 = .ok (.iinc 4 1, 3) := by decide +kernel
theorem dL_shows_50 : decode cL_shows 50 = .ok (.goto (-38), 3) := by decide +kernel
theorem dL_shows_53 : decode cL_shows 53 = .ok (.iload_n 3, 1) := by decide +kernel
theorem dL_shows_54 : decode cL_shows 54 = .ok (.ireturn, 1) := by decide +kernel
theorem dL_wants_0 : decode cL_wants 0 = .ok (.iconst 0, 1) := by decide +kernel
theorem dL_wants_1 : decode cL_wants 1 = .ok (.istore_n 3, 1) := by decide +kernel
theorem dL_wants_2 : decode cL_wants 2 = .ok (.iconst (-1), 1) := by decide +kernel
theorem dL_wants_3 : decode cL_wants 3 = .ok (.istore 4, 2) := by decide +kernel
theorem dL_wants_5 : decode cL_wants 5 = .ok (.iconst 0, 1) := by decide +kernel
theorem dL_wants_6 : decode cL_wants 6 = .ok (.istore 5, 2) := by decide +kernel
theorem dL_wants_8 : decode cL_wants 8 = .ok (.iload 5, 2) := by decide +kernel
theorem dL_wants_10 : decode cL_wants 10 = .ok (.aload_n 0, 1) := by decide +kernel
theorem dL_wants_11 : decode cL_wants 11 = .ok (.iload_n 1, 1) := by decide +kernel
theorem dL_wants_12 : decode cL_wants 12 = .ok (.invokestatic 17, 3) := by decide +kernel
theorem dL_wants_15 : decode cL_wants 15 = .ok (.if_icmp .ge 84, 3) := by decide +kernel
theorem dL_wants_18 : decode cL_wants 18 = .ok (.aload_n 0, 1) := by decide +kernel
theorem dL_wants_19 : decode cL_wants 19 = .ok (.iload_n 1, 1) := by decide +kernel
theorem dL_wants_20 : decode cL_wants 20 = .ok (.iload 5, 2) := by decide +kernel
theorem dL_wants_22 : decode cL_wants 22 = .ok (.invokestatic 21, 3) := by decide +kernel
theorem dL_wants_25 : decode cL_wants 25 = .ok (.istore 6, 2) := by decide +kernel
theorem dL_wants_27 : decode cL_wants 27 = .ok (.aload_n 0, 1) := by decide +kernel
theorem dL_wants_28 : decode cL_wants 28 = .ok (.iload_n 1, 1) := by decide +kernel
theorem dL_wants_29 : decode cL_wants 29 = .ok (.iload 5, 2) := by decide +kernel
theorem dL_wants_31 : decode cL_wants 31 = .ok (.invokestatic 25, 3) := by decide +kernel
theorem dL_wants_34 : decode cL_wants 34 = .ok (.istore 7, 2) := by decide +kernel
theorem dL_wants_36 : decode cL_wants 36 = .ok (.iload 7, 2) := by decide +kernel
theorem dL_wants_38 : decode cL_wants 38 = .ok (.ifCond .ne 8, 3) := by decide +kernel
theorem dL_wants_41 : decode cL_wants 41 = .ok (.iload 6, 2) := by decide +kernel
theorem dL_wants_43 : decode cL_wants 43 = .ok (.goto 7, 3) := by decide +kernel
theorem dL_wants_46 : decode cL_wants 46 = .ok (.iload 7, 2) := by decide +kernel
theorem dL_wants_48 : decode cL_wants 48 = .ok (.iconst 1, 1) := by decide +kernel
theorem dL_wants_49 : decode cL_wants 49 = .ok (.iadd, 1) := by decide +kernel
theorem dL_wants_50 : decode cL_wants 50 = .ok (.istore 8, 2) := by decide +kernel
theorem dL_wants_52 : decode cL_wants 52 = .ok (.iload_n 3, 1) := by decide +kernel
theorem dL_wants_53 : decode cL_wants 53 = .ok (.iload 8, 2) := by decide +kernel
theorem dL_wants_55 : decode cL_wants 55 = .ok (.if_icmp .ge 8, 3) := by decide +kernel
theorem dL_wants_58 : decode cL_wants 58 = .ok (.iload 8, 2) := by decide +kernel
theorem dL_wants_60 : decode cL_wants 60 = .ok (.goto 4, 3) := by decide +kernel
theorem dL_wants_63 : decode cL_wants 63 = .ok (.iload_n 3, 1) := by decide +kernel
theorem dL_wants_64 : decode cL_wants 64 = .ok (.istore_n 3, 1) := by decide +kernel
theorem dL_wants_65 : decode cL_wants 65 = .ok (.iload_n 3, 1) := by decide +kernel
theorem dL_wants_66 : decode cL_wants 66 = .ok (.iload 6, 2) := by decide +kernel
theorem dL_wants_68 : decode cL_wants 68 = .ok (.iload 7, 2) := by decide +kernel
theorem dL_wants_70 : decode cL_wants 70 = .ok (.isub, 1) := by decide +kernel
theorem dL_wants_71 : decode cL_wants 71 = .ok (.if_icmp .ge 11, 3) := by decide +kernel
theorem dL_wants_74 : decode cL_wants 74 = .ok (.iload 6, 2) := by decide +kernel
theorem dL_wants_76 : decode cL_wants 76 = .ok (.iload 7, 2) := by decide +kernel
theorem dL_wants_78 : decode cL_wants 78 = .ok (.isub, 1) := by decide +kernel
theorem dL_wants_79 : decode cL_wants 79 = .ok (.goto 4, 3) := by decide +kernel
theorem dL_wants_82 : decode cL_wants 82 = .ok (.iload_n 3, 1) := by decide +kernel
theorem dL_wants_83 : decode cL_wants 83 = .ok (.istore_n 3, 1) := by decide +kernel
theorem dL_wants_84 : decode cL_wants 84 = .ok (.iload 4, 2) := by decide +kernel
theorem dL_wants_86 : decode cL_wants 86 = .ok (.iconst 1, 1) := by decide +kernel
theorem dL_wants_87 : decode cL_wants 87 = .ok (.iload 6, 2) := by decide +kernel
theorem dL_wants_89 : decode cL_wants 89 = .ok (.iadd, 1) := by decide +kernel
theorem dL_wants_90 : decode cL_wants 90 = .ok (.iadd, 1) := by decide +kernel
theorem dL_wants_91 : decode cL_wants 91 = .ok (.istore 4, 2) := by decide +kernel
theorem dL_wants_93 : decode cL_wants 93 = .ok (.iinc 5 1, 3) := by decide +kernel
theorem dL_wants_96 : decode cL_wants 96 = .ok (.goto (-88), 3) := by decide +kernel
theorem dL_wants_99 : decode cL_wants 99 = .ok (.iload_n 2, 1) := by decide +kernel
theorem dL_wants_100 : decode cL_wants 100 = .ok (.ifCond .eq 13, 3) := by decide +kernel
theorem dL_wants_103 : decode cL_wants 103 = .ok (.iload 4, 2) := by decide +kernel
theorem dL_wants_105 : decode cL_wants 105 = .ok (.ifCond .le 8, 3) := by decide +kernel
theorem dL_wants_108 : decode cL_wants 108 = .ok (.iload 4, 2) := by decide +kernel
theorem dL_wants_110 : decode cL_wants 110 = .ok (.goto 4, 3) := by decide +kernel
theorem dL_wants_113 : decode cL_wants 113 = .ok (.iload_n 3, 1) := by decide +kernel
theorem dL_wants_114 : decode cL_wants 114 = .ok (.ireturn, 1) := by decide +kernel
theorem dL_leftOf_0 : decode cL_leftOf 0 = .ok (.iload_n 0, 1) := by decide +kernel
theorem dL_leftOf_1 : decode cL_leftOf 1 = .ok (.ifCond .ge 7, 3) := by decide +kernel
theorem dL_leftOf_4 : decode cL_leftOf 4 = .ok (.iconst 1, 1) := by decide +kernel
theorem dL_leftOf_5 : decode cL_leftOf 5 = .ok (.goto 4, 3) := by decide +kernel
theorem dL_leftOf_8 : decode cL_leftOf 8 = .ok (.iconst 0, 1) := by decide +kernel
theorem dL_leftOf_9 : decode cL_leftOf 9 = .ok (.istore_n 1, 1) := by decide +kernel
theorem dL_leftOf_10 : decode cL_leftOf 10 = .ok (.iload_n 0, 1) := by decide +kernel
theorem dL_leftOf_11 : decode cL_leftOf 11 = .ok (.ifCond .ge 8, 3) := by decide +kernel
theorem dL_leftOf_14 : decode cL_leftOf 14 = .ok (.iload_n 0, 1) := by decide +kernel
theorem dL_leftOf_15 : decode cL_leftOf 15 = .ok (.ineg, 1) := by decide +kernel
theorem dL_leftOf_16 : decode cL_leftOf 16 = .ok (.goto 4, 3) := by decide +kernel
theorem dL_leftOf_19 : decode cL_leftOf 19 = .ok (.iload_n 0, 1) := by decide +kernel
theorem dL_leftOf_20 : decode cL_leftOf 20 = .ok (.bipush 100, 2) := by decide +kernel
theorem dL_leftOf_22 : decode cL_leftOf 22 = .ok (.idiv, 1) := by decide +kernel
theorem dL_leftOf_23 : decode cL_leftOf 23 = .ok (.istore_n 2, 1) := by decide +kernel
theorem dL_leftOf_24 : decode cL_leftOf 24 = .ok (.iload_n 1, 1) := by decide +kernel
theorem dL_leftOf_25 : decode cL_leftOf 25 = .ok (.iload_n 2, 1) := by decide +kernel
theorem dL_leftOf_26 : decode cL_leftOf 26 = .ok (.bipush 10, 2) := by decide +kernel
theorem dL_leftOf_28 : decode cL_leftOf 28 = .ok (.if_icmp .ge 7, 3) := by decide +kernel
theorem dL_leftOf_31 : decode cL_leftOf 31 = .ok (.iconst 1, 1) := by decide +kernel
theorem dL_leftOf_32 : decode cL_leftOf 32 = .ok (.goto 47, 3) := by decide +kernel
theorem dL_leftOf_35 : decode cL_leftOf 35 = .ok (.iload_n 2, 1) := by decide +kernel
theorem dL_leftOf_36 : decode cL_leftOf 36 = .ok (.bipush 100, 2) := by decide +kernel
theorem dL_leftOf_38 : decode cL_leftOf 38 = .ok (.if_icmp .ge 7, 3) := by decide +kernel
theorem dL_leftOf_41 : decode cL_leftOf 41 = .ok (.iconst 2, 1) := by decide +kernel
theorem dL_leftOf_42 : decode cL_leftOf 42 = .ok (.goto 37, 3) := by decide +kernel
theorem dL_leftOf_45 : decode cL_leftOf 45 = .ok (.iload_n 2, 1) := by decide +kernel
theorem dL_leftOf_46 : decode cL_leftOf 46 = .ok (.sipush 1000, 3) := by decide +kernel
theorem dL_leftOf_49 : decode cL_leftOf 49 = .ok (.if_icmp .ge 7, 3) := by decide +kernel
theorem dL_leftOf_52 : decode cL_leftOf 52 = .ok (.iconst 3, 1) := by decide +kernel
theorem dL_leftOf_53 : decode cL_leftOf 53 = .ok (.goto 26, 3) := by decide +kernel
theorem dL_leftOf_56 : decode cL_leftOf 56 = .ok (.iload_n 2, 1) := by decide +kernel
theorem dL_leftOf_57 : decode cL_leftOf 57 = .ok (.sipush 10000, 3) := by decide +kernel
theorem dL_leftOf_60 : decode cL_leftOf 60 = .ok (.if_icmp .ge 7, 3) := by decide +kernel
theorem dL_leftOf_63 : decode cL_leftOf 63 = .ok (.iconst 4, 1) := by decide +kernel
theorem dL_leftOf_64 : decode cL_leftOf 64 = .ok (.goto 15, 3) := by decide +kernel
theorem dL_leftOf_67 : decode cL_leftOf 67 = .ok (.iload_n 2, 1) := by decide +kernel
theorem dL_leftOf_68 : decode cL_leftOf 68 = .ok (.ldc 28, 2) := by decide +kernel
theorem dL_leftOf_70 : decode cL_leftOf 70 = .ok (.if_icmp .ge 7, 3) := by decide +kernel
theorem dL_leftOf_73 : decode cL_leftOf 73 = .ok (.iconst 5, 1) := by decide +kernel
theorem dL_leftOf_74 : decode cL_leftOf 74 = .ok (.goto 5, 3) := by decide +kernel
theorem dL_leftOf_77 : decode cL_leftOf 77 = .ok (.bipush 6, 2) := by decide +kernel
theorem dL_leftOf_79 : decode cL_leftOf 79 = .ok (.iadd, 1) := by decide +kernel
theorem dL_leftOf_80 : decode cL_leftOf 80 = .ok (.ireturn, 1) := by decide +kernel
theorem dL_figures_0 : decode cL_figures 0 = .ok (.iconst 0, 1) := by decide +kernel
theorem dL_figures_1 : decode cL_figures 1 = .ok (.istore 7, 2) := by decide +kernel
theorem dL_figures_3 : decode cL_figures 3 = .ok (.iconst 0, 1) := by decide +kernel
theorem dL_figures_4 : decode cL_figures 4 = .ok (.istore 8, 2) := by decide +kernel
theorem dL_figures_6 : decode cL_figures 6 = .ok (.iconst 0, 1) := by decide +kernel
theorem dL_figures_7 : decode cL_figures 7 = .ok (.istore 9, 2) := by decide +kernel
theorem dL_figures_9 : decode cL_figures 9 = .ok (.iconst 0, 1) := by decide +kernel
theorem dL_figures_10 : decode cL_figures 10 = .ok (.istore 10, 2) := by decide +kernel
theorem dL_figures_12 : decode cL_figures 12 = .ok (.iconst 0, 1) := by decide +kernel
theorem dL_figures_13 : decode cL_figures 13 = .ok (.istore 11, 2) := by decide +kernel
theorem dL_figures_15 : decode cL_figures 15 = .ok (.iload 11, 2) := by decide +kernel
theorem dL_figures_17 : decode cL_figures 17 = .ok (.aload 4, 2) := by decide +kernel
theorem dL_figures_19 : decode cL_figures 19 = .ok (.iconst 2, 1) := by decide +kernel
theorem dL_figures_20 : decode cL_figures 20 = .ok (.iaload, 1) := by decide +kernel
theorem dL_figures_21 : decode cL_figures 21 = .ok (.if_icmp .ge 190, 3) := by decide +kernel
theorem dL_figures_24 : decode cL_figures 24 = .ok (.aload_n 2, 1) := by decide +kernel
theorem dL_figures_25 : decode cL_figures 25 = .ok (.bipush 6, 2) := by decide +kernel
theorem dL_figures_27 : decode cL_figures 27 = .ok (.iload 11, 2) := by decide +kernel
theorem dL_figures_29 : decode cL_figures 29 = .ok (.imul, 1) := by decide +kernel
theorem dL_figures_30 : decode cL_figures 30 = .ok (.iconst 1, 1) := by decide +kernel
theorem dL_figures_31 : decode cL_figures 31 = .ok (.iadd, 1) := by decide +kernel
theorem dL_figures_32 : decode cL_figures 32 = .ok (.iaload, 1) := by decide +kernel
theorem dL_figures_33 : decode cL_figures 33 = .ok (.iload 6, 2) := by decide +kernel
theorem dL_figures_35 : decode cL_figures 35 = .ok (.if_icmp .ne 170, 3) := by decide +kernel
theorem dL_figures_38 : decode cL_figures 38 = .ok (.aload_n 2, 1) := by decide +kernel
theorem dL_figures_39 : decode cL_figures 39 = .ok (.bipush 6, 2) := by decide +kernel
theorem dL_figures_41 : decode cL_figures 41 = .ok (.iload 11, 2) := by decide +kernel
theorem dL_figures_43 : decode cL_figures 43 = .ok (.imul, 1) := by decide +kernel
theorem dL_figures_44 : decode cL_figures 44 = .ok (.iconst 5, 1) := by decide +kernel
theorem dL_figures_45 : decode cL_figures 45 = .ok (.iadd, 1) := by decide +kernel
theorem dL_figures_46 : decode cL_figures 46 = .ok (.iaload, 1) := by decide +kernel
theorem dL_figures_47 : decode cL_figures 47 = .ok (.ifCond .lt 158, 3) := by decide +kernel
theorem dL_figures_50 : decode cL_figures 50 = .ok (.aload_n 0, 1) := by decide +kernel
theorem dL_figures_51 : decode cL_figures 51 = .ok (.iconst 4, 1) := by decide +kernel
theorem dL_figures_52 : decode cL_figures 52 = .ok (.iload 6, 2) := by decide +kernel
theorem dL_figures_54 : decode cL_figures 54 = .ok (.imul, 1) := by decide +kernel
theorem dL_figures_55 : decode cL_figures 55 = .ok (.iconst 3, 1) := by decide +kernel
theorem dL_figures_56 : decode cL_figures 56 = .ok (.iadd, 1) := by decide +kernel
theorem dL_figures_57 : decode cL_figures 57 = .ok (.iaload, 1) := by decide +kernel
theorem dL_figures_58 : decode cL_figures 58 = .ok (.ifCond .ne 147, 3) := by decide +kernel
theorem dL_figures_61 : decode cL_figures 61 = .ok (.aload_n 3, 1) := by decide +kernel
theorem dL_figures_62 : decode cL_figures 62 = .ok (.iload 11, 2) := by decide +kernel
theorem dL_figures_64 : decode cL_figures 64 = .ok (.iaload, 1) := by decide +kernel
theorem dL_figures_65 : decode cL_figures 65 = .ok (.invokestatic 29, 3) := by decide +kernel
theorem dL_figures_68 : decode cL_figures 68 = .ok (.istore 12, 2) := by decide +kernel
theorem dL_figures_70 : decode cL_figures 70 = .ok (.aload_n 2, 1) := by decide +kernel
theorem dL_figures_71 : decode cL_figures 71 = .ok (.bipush 6, 2) := by decide +kernel
theorem dL_figures_73 : decode cL_figures 73 = .ok (.iload 11, 2) := by decide +kernel
theorem dL_figures_75 : decode cL_figures 75 = .ok (.imul, 1) := by decide +kernel
theorem dL_figures_76 : decode cL_figures 76 = .ok (.iconst 5, 1) := by decide +kernel
theorem dL_figures_77 : decode cL_figures 77 = .ok (.iadd, 1) := by decide +kernel
theorem dL_figures_78 : decode cL_figures 78 = .ok (.iaload, 1) := by decide +kernel
theorem dL_figures_79 : decode cL_figures 79 = .ok (.ifCond .ne 7, 3) := by decide +kernel
theorem dL_figures_82 : decode cL_figures 82 = .ok (.iconst 0, 1) := by decide +kernel
theorem dL_figures_83 : decode cL_figures 83 = .ok (.goto 14, 3) := by decide +kernel
theorem dL_figures_86 : decode cL_figures 86 = .ok (.aload_n 2, 1) := by decide +kernel
theorem dL_figures_87 : decode cL_figures 87 = .ok (.bipush 6, 2) := by decide +kernel
theorem dL_figures_89 : decode cL_figures 89 = .ok (.iload 11, 2) := by decide +kernel
theorem dL_figures_91 : decode cL_figures 91 = .ok (.imul, 1) := by decide +kernel
theorem dL_figures_92 : decode cL_figures 92 = .ok (.iconst 5, 1) := by decide +kernel
theorem dL_figures_93 : decode cL_figures 93 = .ok (.iadd, 1) := by decide +kernel
theorem dL_figures_94 : decode cL_figures 94 = .ok (.iaload, 1) := by decide +kernel
theorem dL_figures_95 : decode cL_figures 95 = .ok (.iconst 1, 1) := by decide +kernel
theorem dL_figures_96 : decode cL_figures 96 = .ok (.iadd, 1) := by decide +kernel
theorem dL_figures_97 : decode cL_figures 97 = .ok (.aload_n 2, 1) := by decide +kernel
theorem dL_figures_98 : decode cL_figures 98 = .ok (.bipush 6, 2) := by decide +kernel
theorem dL_figures_100 : decode cL_figures 100 = .ok (.iload 11, 2) := by decide +kernel
theorem dL_figures_102 : decode cL_figures 102 = .ok (.imul, 1) := by decide +kernel
theorem dL_figures_103 : decode cL_figures 103 = .ok (.iconst 4, 1) := by decide +kernel
theorem dL_figures_104 : decode cL_figures 104 = .ok (.iadd, 1) := by decide +kernel
theorem dL_figures_105 : decode cL_figures 105 = .ok (.iaload, 1) := by decide +kernel
theorem dL_figures_106 : decode cL_figures 106 = .ok (.ifCond .le 7, 3) := by decide +kernel
theorem dL_figures_109 : decode cL_figures 109 = .ok (.iconst 1, 1) := by decide +kernel
theorem dL_figures_110 : decode cL_figures 110 = .ok (.goto 4, 3) := by decide +kernel
theorem dL_figures_113 : decode cL_figures 113 = .ok (.iconst 0, 1) := by decide +kernel
theorem dL_figures_114 : decode cL_figures 114 = .ok (.iadd, 1) := by decide +kernel
theorem dL_figures_115 : decode cL_figures 115 = .ok (.istore 13, 2) := by decide +kernel
theorem dL_figures_117 : decode cL_figures 117 = .ok (.iload 12, 2) := by decide +kernel
theorem dL_figures_119 : decode cL_figures 119 = .ok (.iload 9, 2) := by decide +kernel
theorem dL_figures_121 : decode cL_figures 121 = .ok (.if_icmp .le 8, 3) := by decide +kernel
theorem dL_figures_124 : decode cL_figures 124 = .ok (.iload 12, 2) := by decide +kernel
theorem dL_figures_126 : decode cL_figures 126 = .ok (.goto 5, 3) := by decide +kernel
theorem dL_figures_129 : decode cL_figures 129 = .ok (.iload 9, 2) := by decide +kernel
theorem dL_figures_131 : decode cL_figures 131 = .ok (.istore 9, 2) := by decide +kernel
theorem dL_figures_133 : decode cL_figures 133 = .ok (.iload 13, 2) := by decide +kernel
theorem dL_figures_135 : decode cL_figures 135 = .ok (.iload 10, 2) := by decide +kernel
theorem dL_figures_137 : decode cL_figures 137 = .ok (.if_icmp .le 8, 3) := by decide +kernel
theorem dL_figures_140 : decode cL_figures 140 = .ok (.iload 13, 2) := by decide +kernel
theorem dL_figures_142 : decode cL_figures 142 = .ok (.goto 5, 3) := by decide +kernel
theorem dL_figures_145 : decode cL_figures 145 = .ok (.iload 10, 2) := by decide +kernel
theorem dL_figures_147 : decode cL_figures 147 = .ok (.istore 10, 2) := by decide +kernel
theorem dL_figures_149 : decode cL_figures 149 = .ok (.aload_n 1, 1) := by decide +kernel
theorem dL_figures_150 : decode cL_figures 150 = .ok (.iconst 3, 1) := by decide +kernel
theorem dL_figures_151 : decode cL_figures 151 = .ok (.aload_n 2, 1) := by decide +kernel
theorem dL_figures_152 : decode cL_figures 152 = .ok (.bipush 6, 2) := by decide +kernel
theorem dL_figures_154 : decode cL_figures 154 = .ok (.iload 11, 2) := by decide +kernel
theorem dL_figures_156 : decode cL_figures 156 = .ok (.imul, 1) := by decide +kernel
theorem dL_figures_157 : decode cL_figures 157 = .ok (.iaload, 1) := by decide +kernel
theorem dL_figures_158 : decode cL_figures 158 = .ok (.imul, 1) := by decide +kernel
theorem dL_figures_159 : decode cL_figures 159 = .ok (.iaload, 1) := by decide +kernel
theorem dL_figures_160 : decode cL_figures 160 = .ok (.iconst 1, 1) := by decide +kernel
theorem dL_figures_161 : decode cL_figures 161 = .ok (.if_icmp .ne 44, 3) := by decide +kernel
theorem dL_figures_164 : decode cL_figures 164 = .ok (.iload 7, 2) := by decide +kernel
theorem dL_figures_166 : decode cL_figures 166 = .ok (.aload_n 3, 1) := by decide +kernel
theorem dL_figures_167 : decode cL_figures 167 = .ok (.iload 11, 2) := by decide +kernel
theorem dL_figures_169 : decode cL_figures 169 = .ok (.iaload, 1) := by decide +kernel
theorem dL_figures_170 : decode cL_figures 170 = .ok (.ifCond .le 10, 3) := by decide +kernel
theorem dL_figures_173 : decode cL_figures 173 = .ok (.aload_n 3, 1) := by decide +kernel
theorem dL_figures_174 : decode cL_figures 174 = .ok (.iload 11, 2) := by decide +kernel
theorem dL_figures_176 : decode cL_figures 176 = .ok (.iaload, 1) := by decide +kernel
theorem dL_figures_177 : decode cL_figures 177 = .ok (.goto 4, 3) := by decide +kernel
theorem dL_figures_180 : decode cL_figures 180 = .ok (.iconst 0, 1) := by decide +kernel
theorem dL_figures_181 : decode cL_figures 181 = .ok (.iadd, 1) := by decide +kernel
theorem dL_figures_182 : decode cL_figures 182 = .ok (.istore 7, 2) := by decide +kernel
theorem dL_figures_184 : decode cL_figures 184 = .ok (.iload 8, 2) := by decide +kernel
theorem dL_figures_186 : decode cL_figures 186 = .ok (.aload_n 3, 1) := by decide +kernel
theorem dL_figures_187 : decode cL_figures 187 = .ok (.iload 11, 2) := by decide +kernel
theorem dL_figures_189 : decode cL_figures 189 = .ok (.iaload, 1) := by decide +kernel
theorem dL_figures_190 : decode cL_figures 190 = .ok (.ifCond .ge 11, 3) := by decide +kernel
theorem dL_figures_193 : decode cL_figures 193 = .ok (.aload_n 3, 1) := by decide +kernel
theorem dL_figures_194 : decode cL_figures 194 = .ok (.iload 11, 2) := by decide +kernel
theorem dL_figures_196 : decode cL_figures 196 = .ok (.iaload, 1) := by decide +kernel
theorem dL_figures_197 : decode cL_figures 197 = .ok (.ineg, 1) := by decide +kernel
theorem dL_figures_198 : decode cL_figures 198 = .ok (.goto 4, 3) := by decide +kernel
theorem dL_figures_201 : decode cL_figures 201 = .ok (.iconst 0, 1) := by decide +kernel
theorem dL_figures_202 : decode cL_figures 202 = .ok (.isub, 1) := by decide +kernel
theorem dL_figures_203 : decode cL_figures 203 = .ok (.istore 8, 2) := by decide +kernel
theorem dL_figures_205 : decode cL_figures 205 = .ok (.iinc 11 1, 3) := by decide +kernel
theorem dL_figures_208 : decode cL_figures 208 = .ok (.goto (-193), 3) := by decide +kernel
theorem dL_figures_211 : decode cL_figures 211 = .ok (.iload 9, 2) := by decide +kernel
theorem dL_figures_213 : decode cL_figures 213 = .ok (.ifCond .le 59, 3) := by decide +kernel
theorem dL_figures_216 : decode cL_figures 216 = .ok (.aload_n 0, 1) := by decide +kernel
theorem dL_figures_217 : decode cL_figures 217 = .ok (.iconst 4, 1) := by decide +kernel
theorem dL_figures_218 : decode cL_figures 218 = .ok (.iload 6, 2) := by decide +kernel
theorem dL_figures_220 : decode cL_figures 220 = .ok (.imul, 1) := by decide +kernel
theorem dL_figures_221 : decode cL_figures 221 = .ok (.iconst 2, 1) := by decide +kernel
theorem dL_figures_222 : decode cL_figures 222 = .ok (.iadd, 1) := by decide +kernel
theorem dL_figures_223 : decode cL_figures 223 = .ok (.iaload, 1) := by decide +kernel
theorem dL_figures_224 : decode cL_figures 224 = .ok (.iconst 1, 1) := by decide +kernel
theorem dL_figures_225 : decode cL_figures 225 = .ok (.if_icmp .ne 47, 3) := by decide +kernel
theorem dL_figures_228 : decode cL_figures 228 = .ok (.iload 7, 2) := by decide +kernel
theorem dL_figures_230 : decode cL_figures 230 = .ok (.invokestatic 29, 3) := by decide +kernel
theorem dL_figures_233 : decode cL_figures 233 = .ok (.iload 9, 2) := by decide +kernel
theorem dL_figures_235 : decode cL_figures 235 = .ok (.if_icmp .le 11, 3) := by decide +kernel
theorem dL_figures_238 : decode cL_figures 238 = .ok (.iload 7, 2) := by decide +kernel
theorem dL_figures_240 : decode cL_figures 240 = .ok (.invokestatic 29, 3) := by decide +kernel
theorem dL_figures_243 : decode cL_figures 243 = .ok (.goto 5, 3) := by decide +kernel
theorem dL_figures_246 : decode cL_figures 246 = .ok (.iload 9, 2) := by decide +kernel
theorem dL_figures_248 : decode cL_figures 248 = .ok (.istore 9, 2) := by decide +kernel
theorem dL_figures_250 : decode cL_figures 250 = .ok (.iload 8, 2) := by decide +kernel
theorem dL_figures_252 : decode cL_figures 252 = .ok (.invokestatic 29, 3) := by decide +kernel
theorem dL_figures_255 : decode cL_figures 255 = .ok (.iload 9, 2) := by decide +kernel
theorem dL_figures_257 : decode cL_figures 257 = .ok (.if_icmp .le 11, 3) := by decide +kernel
theorem dL_figures_260 : decode cL_figures 260 = .ok (.iload 8, 2) := by decide +kernel
theorem dL_figures_262 : decode cL_figures 262 = .ok (.invokestatic 29, 3) := by decide +kernel
theorem dL_figures_265 : decode cL_figures 265 = .ok (.goto 5, 3) := by decide +kernel
theorem dL_figures_268 : decode cL_figures 268 = .ok (.iload 9, 2) := by decide +kernel
theorem dL_figures_270 : decode cL_figures 270 = .ok (.istore 9, 2) := by decide +kernel
theorem dL_figures_272 : decode cL_figures 272 = .ok (.aload 5, 2) := by decide +kernel
theorem dL_figures_274 : decode cL_figures 274 = .ok (.bipush 12, 2) := by decide +kernel
theorem dL_figures_276 : decode cL_figures 276 = .ok (.iload 6, 2) := by decide +kernel
theorem dL_figures_278 : decode cL_figures 278 = .ok (.iadd, 1) := by decide +kernel
theorem dL_figures_279 : decode cL_figures 279 = .ok (.iload 9, 2) := by decide +kernel
theorem dL_figures_281 : decode cL_figures 281 = .ok (.iastore, 1) := by decide +kernel
theorem dL_figures_282 : decode cL_figures 282 = .ok (.aload 5, 2) := by decide +kernel
theorem dL_figures_284 : decode cL_figures 284 = .ok (.bipush 16, 2) := by decide +kernel
theorem dL_figures_286 : decode cL_figures 286 = .ok (.iload 6, 2) := by decide +kernel
theorem dL_figures_288 : decode cL_figures 288 = .ok (.iadd, 1) := by decide +kernel
theorem dL_figures_289 : decode cL_figures 289 = .ok (.iload 10, 2) := by decide +kernel
theorem dL_figures_291 : decode cL_figures 291 = .ok (.iastore, 1) := by decide +kernel
theorem dL_figures_292 : decode cL_figures 292 = .ok (.return_, 1) := by decide +kernel
theorem dL_grow_0 : decode cL_grow 0 = .ok (.iconst 2, 1) := by decide +kernel
theorem dL_grow_1 : decode cL_grow 1 = .ok (.istore 7, 2) := by decide +kernel
theorem dL_grow_3 : decode cL_grow 3 = .ok (.iload 7, 2) := by decide +kernel
theorem dL_grow_5 : decode cL_grow 5 = .ok (.iconst 5, 1) := by decide +kernel
theorem dL_grow_6 : decode cL_grow 6 = .ok (.if_icmp .ge 270, 3) := by decide +kernel
theorem dL_grow_9 : decode cL_grow 9 = .ok (.iconst 0, 1) := by decide +kernel
theorem dL_grow_10 : decode cL_grow 10 = .ok (.istore 8, 2) := by decide +kernel
theorem dL_grow_12 : decode cL_grow 12 = .ok (.iload 8, 2) := by decide +kernel
theorem dL_grow_14 : decode cL_grow 14 = .ok (.aload_n 3, 1) := by decide +kernel
theorem dL_grow_15 : decode cL_grow 15 = .ok (.iconst 2, 1) := by decide +kernel
theorem dL_grow_16 : decode cL_grow 16 = .ok (.iaload, 1) := by decide +kernel
theorem dL_grow_17 : decode cL_grow 17 = .ok (.if_icmp .ge 253, 3) := by decide +kernel
theorem dL_grow_20 : decode cL_grow 20 = .ok (.aload_n 1, 1) := by decide +kernel
theorem dL_grow_21 : decode cL_grow 21 = .ok (.bipush 6, 2) := by decide +kernel
theorem dL_grow_23 : decode cL_grow 23 = .ok (.iload 8, 2) := by decide +kernel
theorem dL_grow_25 : decode cL_grow 25 = .ok (.imul, 1) := by decide +kernel
theorem dL_grow_26 : decode cL_grow 26 = .ok (.iconst 1, 1) := by decide +kernel
theorem dL_grow_27 : decode cL_grow 27 = .ok (.iadd, 1) := by decide +kernel
theorem dL_grow_28 : decode cL_grow 28 = .ok (.iaload, 1) := by decide +kernel
theorem dL_grow_29 : decode cL_grow 29 = .ok (.istore 9, 2) := by decide +kernel
theorem dL_grow_31 : decode cL_grow 31 = .ok (.iload 9, 2) := by decide +kernel
theorem dL_grow_33 : decode cL_grow 33 = .ok (.aload_n 1, 1) := by decide +kernel
theorem dL_grow_34 : decode cL_grow 34 = .ok (.bipush 6, 2) := by decide +kernel
theorem dL_grow_36 : decode cL_grow 36 = .ok (.iload 8, 2) := by decide +kernel
theorem dL_grow_38 : decode cL_grow 38 = .ok (.imul, 1) := by decide +kernel
theorem dL_grow_39 : decode cL_grow 39 = .ok (.iconst 3, 1) := by decide +kernel
theorem dL_grow_40 : decode cL_grow 40 = .ok (.iadd, 1) := by decide +kernel
theorem dL_grow_41 : decode cL_grow 41 = .ok (.iaload, 1) := by decide +kernel
theorem dL_grow_42 : decode cL_grow 42 = .ok (.iadd, 1) := by decide +kernel
theorem dL_grow_43 : decode cL_grow 43 = .ok (.istore 10, 2) := by decide +kernel
theorem dL_grow_45 : decode cL_grow 45 = .ok (.aload_n 0, 1) := by decide +kernel
theorem dL_grow_46 : decode cL_grow 46 = .ok (.aload_n 1, 1) := by decide +kernel
theorem dL_grow_47 : decode cL_grow 47 = .ok (.iload 8, 2) := by decide +kernel
theorem dL_grow_49 : decode cL_grow 49 = .ok (.invokestatic 33, 3) := by decide +kernel
theorem dL_grow_52 : decode cL_grow 52 = .ok (.iload 7, 2) := by decide +kernel
theorem dL_grow_54 : decode cL_grow 54 = .ok (.if_icmp .ne 19, 3) := by decide +kernel
theorem dL_grow_57 : decode cL_grow 57 = .ok (.aload_n 2, 1) := by decide +kernel
theorem dL_grow_58 : decode cL_grow 58 = .ok (.iload 8, 2) := by decide +kernel
theorem dL_grow_60 : decode cL_grow 60 = .ok (.iload 6, 2) := by decide +kernel
theorem dL_grow_62 : decode cL_grow 62 = .ok (.invokestatic 37, 3) := by decide +kernel
theorem dL_grow_65 : decode cL_grow 65 = .ok (.iload 7, 2) := by decide +kernel
theorem dL_grow_67 : decode cL_grow 67 = .ok (.isub, 1) := by decide +kernel
theorem dL_grow_68 : decode cL_grow 68 = .ok (.iconst 1, 1) := by decide +kernel
theorem dL_grow_69 : decode cL_grow 69 = .ok (.iadd, 1) := by decide +kernel
theorem dL_grow_70 : decode cL_grow 70 = .ok (.goto 4, 3) := by decide +kernel
theorem dL_grow_73 : decode cL_grow 73 = .ok (.iconst 0, 1) := by decide +kernel
theorem dL_grow_74 : decode cL_grow 74 = .ok (.istore 11, 2) := by decide +kernel
theorem dL_grow_76 : decode cL_grow 76 = .ok (.iload 9, 2) := by decide +kernel
theorem dL_grow_78 : decode cL_grow 78 = .ok (.istore 12, 2) := by decide +kernel
theorem dL_grow_80 : decode cL_grow 80 = .ok (.iload 12, 2) := by decide +kernel
theorem dL_grow_82 : decode cL_grow 82 = .ok (.iload 10, 2) := by decide +kernel
theorem dL_grow_84 : decode cL_grow 84 = .ok (.if_icmp .ge 37, 3) := by decide +kernel
theorem dL_grow_87 : decode cL_grow 87 = .ok (.iload 11, 2) := by decide +kernel
theorem dL_grow_89 : decode cL_grow 89 = .ok (.aload_n 0, 1) := by decide +kernel
theorem dL_grow_90 : decode cL_grow 90 = .ok (.iconst 4, 1) := by decide +kernel
theorem dL_grow_91 : decode cL_grow 91 = .ok (.iload 12, 2) := by decide +kernel
theorem dL_grow_93 : decode cL_grow 93 = .ok (.imul, 1) := by decide +kernel
theorem dL_grow_94 : decode cL_grow 94 = .ok (.iconst 3, 1) := by decide +kernel
theorem dL_grow_95 : decode cL_grow 95 = .ok (.iadd, 1) := by decide +kernel
theorem dL_grow_96 : decode cL_grow 96 = .ok (.iaload, 1) := by decide +kernel
theorem dL_grow_97 : decode cL_grow 97 = .ok (.ifCond .ne 14, 3) := by decide +kernel
theorem dL_grow_100 : decode cL_grow 100 = .ok (.aload 4, 2) := by decide +kernel
theorem dL_grow_102 : decode cL_grow 102 = .ok (.iload 5, 2) := by decide +kernel
theorem dL_grow_104 : decode cL_grow 104 = .ok (.iload 12, 2) := by decide +kernel
theorem dL_grow_106 : decode cL_grow 106 = .ok (.iadd, 1) := by decide +kernel
theorem dL_grow_107 : decode cL_grow 107 = .ok (.iaload, 1) := by decide +kernel
theorem dL_grow_108 : decode cL_grow 108 = .ok (.goto 4, 3) := by decide +kernel
theorem dL_grow_111 : decode cL_grow 111 = .ok (.iconst 0, 1) := by decide +kernel
theorem dL_grow_112 : decode cL_grow 112 = .ok (.isub, 1) := by decide +kernel
theorem dL_grow_113 : decode cL_grow 113 = .ok (.istore 11, 2) := by decide +kernel
theorem dL_grow_115 : decode cL_grow 115 = .ok (.iinc 12 1, 3) := by decide +kernel
theorem dL_grow_118 : decode cL_grow 118 = .ok (.goto (-38), 3) := by decide +kernel
theorem dL_grow_121 : decode cL_grow 121 = .ok (.iload 11, 2) := by decide +kernel
theorem dL_grow_123 : decode cL_grow 123 = .ok (.ifCond .le 141, 3) := by decide +kernel
theorem dL_grow_126 : decode cL_grow 126 = .ok (.iconst (-1), 1) := by decide +kernel
theorem dL_grow_127 : decode cL_grow 127 = .ok (.istore 12, 2) := by decide +kernel
theorem dL_grow_129 : decode cL_grow 129 = .ok (.iconst (-1), 1) := by decide +kernel
theorem dL_grow_130 : decode cL_grow 130 = .ok (.istore 13, 2) := by decide +kernel
theorem dL_grow_132 : decode cL_grow 132 = .ok (.iload 10, 2) := by decide +kernel
theorem dL_grow_134 : decode cL_grow 134 = .ok (.iconst 1, 1) := by decide +kernel
theorem dL_grow_135 : decode cL_grow 135 = .ok (.isub, 1) := by decide +kernel
theorem dL_grow_136 : decode cL_grow 136 = .ok (.istore 14, 2) := by decide +kernel
theorem dL_grow_138 : decode cL_grow 138 = .ok (.iload 14, 2) := by decide +kernel
theorem dL_grow_140 : decode cL_grow 140 = .ok (.iload 9, 2) := by decide +kernel
theorem dL_grow_142 : decode cL_grow 142 = .ok (.if_icmp .lt 94, 3) := by decide +kernel
theorem dL_grow_145 : decode cL_grow 145 = .ok (.aload_n 0, 1) := by decide +kernel
theorem dL_grow_146 : decode cL_grow 146 = .ok (.iconst 4, 1) := by decide +kernel
theorem dL_grow_147 : decode cL_grow 147 = .ok (.iload 14, 2) := by decide +kernel
theorem dL_grow_149 : decode cL_grow 149 = .ok (.imul, 1) := by decide +kernel
theorem dL_grow_150 : decode cL_grow 150 = .ok (.iconst 3, 1) := by decide +kernel
theorem dL_grow_151 : decode cL_grow 151 = .ok (.iadd, 1) := by decide +kernel
theorem dL_grow_152 : decode cL_grow 152 = .ok (.iaload, 1) := by decide +kernel
theorem dL_grow_153 : decode cL_grow 153 = .ok (.ifCond .ne 7, 3) := by decide +kernel
theorem dL_grow_156 : decode cL_grow 156 = .ok (.iconst 1, 1) := by decide +kernel
theorem dL_grow_157 : decode cL_grow 157 = .ok (.goto 4, 3) := by decide +kernel
theorem dL_grow_160 : decode cL_grow 160 = .ok (.iconst 0, 1) := by decide +kernel
theorem dL_grow_161 : decode cL_grow 161 = .ok (.istore 15, 2) := by decide +kernel
theorem dL_grow_163 : decode cL_grow 163 = .ok (.iload 15, 2) := by decide +kernel
theorem dL_grow_165 : decode cL_grow 165 = .ok (.ifCond .eq 13, 3) := by decide +kernel
theorem dL_grow_168 : decode cL_grow 168 = .ok (.iload 13, 2) := by decide +kernel
theorem dL_grow_170 : decode cL_grow 170 = .ok (.ifCond .ge 8, 3) := by decide +kernel
theorem dL_grow_173 : decode cL_grow 173 = .ok (.iload 14, 2) := by decide +kernel
theorem dL_grow_175 : decode cL_grow 175 = .ok (.goto 5, 3) := by decide +kernel
theorem dL_grow_178 : decode cL_grow 178 = .ok (.iload 13, 2) := by decide +kernel
theorem dL_grow_180 : decode cL_grow 180 = .ok (.istore 13, 2) := by decide +kernel
theorem dL_grow_182 : decode cL_grow 182 = .ok (.iload 15, 2) := by decide +kernel
theorem dL_grow_184 : decode cL_grow 184 = .ok (.ifCond .eq 42, 3) := by decide +kernel
theorem dL_grow_187 : decode cL_grow 187 = .ok (.aload_n 0, 1) := by decide +kernel
theorem dL_grow_188 : decode cL_grow 188 = .ok (.iconst 4, 1) := by decide +kernel
theorem dL_grow_189 : decode cL_grow 189 = .ok (.iload 14, 2) := by decide +kernel
theorem dL_grow_191 : decode cL_grow 191 = .ok (.imul, 1) := by decide +kernel
theorem dL_grow_192 : decode cL_grow 192 = .ok (.iaload, 1) := by decide +kernel
theorem dL_grow_193 : decode cL_grow 193 = .ok (.iconst 1, 1) := by decide +kernel
theorem dL_grow_194 : decode cL_grow 194 = .ok (.if_icmp .eq 32, 3) := by decide +kernel
theorem dL_grow_197 : decode cL_grow 197 = .ok (.iload 12, 2) := by decide +kernel
theorem dL_grow_199 : decode cL_grow 199 = .ok (.ifCond .lt 22, 3) := by decide +kernel
theorem dL_grow_202 : decode cL_grow 202 = .ok (.aload 4, 2) := by decide +kernel
theorem dL_grow_204 : decode cL_grow 204 = .ok (.iload 5, 2) := by decide +kernel
theorem dL_grow_206 : decode cL_grow 206 = .ok (.iload 14, 2) := by decide +kernel
theorem dL_grow_208 : decode cL_grow 208 = .ok (.iadd, 1) := by decide +kernel
theorem dL_grow_209 : decode cL_grow 209 = .ok (.iaload, 1) := by decide +kernel
theorem dL_grow_210 : decode cL_grow 210 = .ok (.aload 4, 2) := by decide +kernel
theorem dL_grow_212 : decode cL_grow 212 = .ok (.iload 5, 2) := by decide +kernel
theorem dL_grow_214 : decode cL_grow 214 = .ok (.iload 12, 2) := by decide +kernel
theorem dL_grow_216 : decode cL_grow 216 = .ok (.iadd, 1) := by decide +kernel
theorem dL_grow_217 : decode cL_grow 217 = .ok (.iaload, 1) := by decide +kernel
theorem dL_grow_218 : decode cL_grow 218 = .ok (.if_icmp .gt 8, 3) := by decide +kernel
theorem dL_grow_221 : decode cL_grow 221 = .ok (.iload 14, 2) := by decide +kernel
theorem dL_grow_223 : decode cL_grow 223 = .ok (.goto 5, 3) := by decide +kernel
theorem dL_grow_226 : decode cL_grow 226 = .ok (.iload 12, 2) := by decide +kernel
theorem dL_grow_228 : decode cL_grow 228 = .ok (.istore 12, 2) := by decide +kernel
theorem dL_grow_230 : decode cL_grow 230 = .ok (.iinc 14 (-1), 3) := by decide +kernel
theorem dL_grow_233 : decode cL_grow 233 = .ok (.goto (-95), 3) := by decide +kernel
theorem dL_grow_236 : decode cL_grow 236 = .ok (.aload 4, 2) := by decide +kernel
theorem dL_grow_238 : decode cL_grow 238 = .ok (.iload 5, 2) := by decide +kernel
theorem dL_grow_240 : decode cL_grow 240 = .ok (.iload 12, 2) := by decide +kernel
theorem dL_grow_242 : decode cL_grow 242 = .ok (.ifCond .ge 8, 3) := by decide +kernel
theorem dL_grow_245 : decode cL_grow 245 = .ok (.iload 13, 2) := by decide +kernel
theorem dL_grow_247 : decode cL_grow 247 = .ok (.goto 5, 3) := by decide +kernel
theorem dL_grow_250 : decode cL_grow 250 = .ok (.iload 12, 2) := by decide +kernel
theorem dL_grow_252 : decode cL_grow 252 = .ok (.iadd, 1) := by decide +kernel
theorem dL_grow_253 : decode cL_grow 253 = .ok (.dup2, 1) := by decide +kernel
theorem dL_grow_254 : decode cL_grow 254 = .ok (.iaload, 1) := by decide +kernel
theorem dL_grow_255 : decode cL_grow 255 = .ok (.iconst 1, 1) := by decide +kernel
theorem dL_grow_256 : decode cL_grow 256 = .ok (.iadd, 1) := by decide +kernel
theorem dL_grow_257 : decode cL_grow 257 = .ok (.iastore, 1) := by decide +kernel
theorem dL_grow_258 : decode cL_grow 258 = .ok (.iinc 11 (-1), 3) := by decide +kernel
theorem dL_grow_261 : decode cL_grow 261 = .ok (.goto (-140), 3) := by decide +kernel
theorem dL_grow_264 : decode cL_grow 264 = .ok (.iinc 8 1, 3) := by decide +kernel
theorem dL_grow_267 : decode cL_grow 267 = .ok (.goto (-255), 3) := by decide +kernel
theorem dL_grow_270 : decode cL_grow 270 = .ok (.iinc 7 1, 3) := by decide +kernel
theorem dL_grow_273 : decode cL_grow 273 = .ok (.goto (-270), 3) := by decide +kernel
theorem dL_grow_276 : decode cL_grow 276 = .ok (.return_, 1) := by decide +kernel
section
variable {p : Program} {l : Launch} {e : Env} {s : State} {m : MethodId} {args : Array Value} {below : List Frame} {meth : Method} {c : Code} {G : Gx} {e0 : Nat} {α : Ax} {κ : Nat → Int} {B : Nat}
def wp_L_placeOf_2 (p1 : Int) (Qm : Int → Mem → Prop) : Nat → Int → Mem → Prop
  | 0 => fun _ _ => False
  | n + 1 => fun y2 M => (0 ≤ y2 ∧ y2 < 10) ∧ (((M 106 0 y2) = p1 → Qm y2 M) ∧ (¬ (M 106 0 y2) = p1 → (inR (y2 + 1)) ∧ wp_L_placeOf_2 p1 Qm n (y2 + 1) M))
def wp_L_placeOf (p1 : Int) (M : Mem) (Qm : Int → Mem → Prop) : Prop := (∃ n4 : Nat, wp_L_placeOf_2 p1 Qm n4 0 M)
set_option maxHeartbeats 4000000 in
set_option maxRecDepth 100000 in
theorem t_L_placeOf_2 {p1 : Int} (X : CX p m c cL_placeOf 3 s args RL G B κ meth (some .int)) (hp1 : inR p1) {Qm : Int → Mem → Prop} : ∀ n : Nat, ∀ y2 : Int, ∀ M : Mem, wp_L_placeOf_2 p1 Qm n y2 M → inR y2 → ∀ (H : Heap) (locs : List Loc), Rp G e0 α κ B M H → va_S (fun q => B ≤ q) s.heap H locs → ∀ (ls : Array Slot), lv_has ls 3 [(0, .ref (α 106 0)), (1, .int (Int32.ofInt p1)), (2, .int (Int32.ofInt y2))] → WI p l e 0 s m args below meth c G e0 α κ B Qm H locs 2 ls [] := by
  intro n
  induction n with
  | zero =>
    intro y2 M hw hy2 H locs hR hS ls hl
    exact hw.elim
  | succ n ih =>
    intro y2 M hw hy2 H locs hR hS ls hl
    have hw : (0 ≤ y2 ∧ y2 < 10) ∧ (((M 106 0 y2) = p1 → Qm y2 M) ∧ (¬ (M 106 0 y2) = p1 → (inR (y2 + 1)) ∧ wp_L_placeOf_2 p1 Qm n (y2 + 1) M)) := hw
    refine lv_aload_n X.1.1 X.1.2.1 dL_placeOf_2 rfl (lv_at hl 0 rfl) ?_
    refine lv_iload_n X.1.1 X.1.2.1 dL_placeOf_3 rfl (lv_at hl 2 rfl) ?_
    have c1 := hw.1
    have hw := hw.2
    refine ra_106 X hR (okf X.2.2.1 rfl) c1 dL_placeOf_4 ?_
    have r2 := hR.r 106 0 y2
    refine lv_iload_n X.1.1 X.1.2.1 dL_placeOf_5 rfl (lv_at hl 1 rfl) ?_
    refine sa_icmp_eq (tgt := 15) X.1 r2 hp1 dL_placeOf_6 (by decide) (fun hc => ?_) (fun hc => ?_)
    · have hw := hw.1 hc
      refine lv_iload_n X.1.1 X.1.2.1 dL_placeOf_15 rfl (lv_at hl 2 rfl) ?_
      exact sa_iret X.1 X.2.2.2.1 X.2.2.2.2 hR hS hy2 hw dL_placeOf_16
    · have hw := hw.2 hc
      have c3 := hw.1
      have hw := hw.2
      refine lv_iinc (v := Int32.ofInt (y2 + 1)) (lv' := [(2, .int (Int32.ofInt (y2 + 1))), (0, .ref (α 106 0)), (1, .int (Int32.ofInt p1))]) X.1.1 X.1.2.1 dL_placeOf_9 hl (k := 2) rfl (Int32.ofInt_add _ _).symm (by decide) rfl (fun ls hl => ?_)
      refine lv_goto (tgt := 2) X.1.1 X.1.2.1 dL_placeOf_12 (by decide) ?_
      exact ih _ _ hw c3 _ _ hR hS _ (lv_sub hl [1, 2, 0] rfl)
set_option maxHeartbeats 4000000 in
set_option maxRecDepth 100000 in
theorem t_L_placeOf {p1 : Int} (X : CX p m c cL_placeOf 3 s args RL G B κ meth (some .int)) (hp1 : inR p1) {M : Mem} {Qm : Int → Mem → Prop} (hw : wp_L_placeOf p1 M Qm) (H : Heap) (locs : List Loc) (hR : Rp G e0 α κ B M H) (hS : va_S (fun q => B ≤ q) s.heap H locs) (ls : Array Slot) (hl : lv_has ls 3 [(0, .ref (α 106 0)), (1, .int (Int32.ofInt p1))]) : WI p l e 0 s m args below meth c G e0 α κ B Qm H locs 0 ls [] := by
  have hw : (∃ n4 : Nat, wp_L_placeOf_2 p1 Qm n4 0 M) := hw
  refine sa_const X.1 dL_placeOf_0 ?_
  refine lv_istore_n (lv' := [(2, .int (Int32.ofInt 0)), (0, .ref (α 106 0)), (1, .int (Int32.ofInt p1))]) X.1.1 X.1.2.1 dL_placeOf_1 rfl hl (by decide) rfl (fun ls hl => ?_)
  obtain ⟨n4, hw⟩ := hw
  exact t_L_placeOf_2 X hp1 n4 _ _ hw (inR_c (a := 0) rfl) _ _ hR hS _ (lv_sub hl [1, 2, 0] rfl)
theorem m_L_placeOf {l : Launch} {G : Gx} {e0 : Nat} {α : Ax} {κ : Nat → Int} {B : Nat} {p1 : Int} (hκ : kOK κ) (hp1 : inR p1) {M : Mem} {Qm : Int → Mem → Prop} (hw : wp_L_placeOf p1 M Qm) : CI l yL_placeOf (Cond.code yL_placeOf cL_placeOf 3 (some .int)) 0 G e0 α κ B [.ref (α 106 0), .int (Int32.ofInt p1)] M Qm :=
  CI.mk hκ (by decide +kernel) rfl (Nat.le_of_ble_eq_true rfl) (lv := [(0, .ref (α 106 0)), (1, .int (Int32.ofInt p1))]) rfl (fun p e s m args below meth c ls X hR hS hl => t_L_placeOf X hp1 hw _ _ hR hS ls hl)
theorem cs_L_placeOf {cc : ByteArray} {nL : Nat} {own : String} {ret : Option FieldType} {idx pc : Nat} {p1 : Int} (X : CX p m c cc nL s args own G B κ meth ret) (hp1 : inR p1) {kc : Nat} {R : Room} {cells slots : Nat} (hRr : RmOK R kc) (hcel : cells ≤ R.cells ∧ slots ≤ R.slots) (hk : 0 + 1 ≤ kc) {M : Mem} {H : Heap} {locs : List Loc} (hR : Rp G e0 α κ B M H) (hS : va_S (fun q => B ≤ q) s.heap H locs) (k1 : Cond.methodLink own idx yL_placeOf ∈ gw) {ls : Array Slot} (hml : ls.size = nL) {rest : List Value} (hd : decode cc pc = .ok (.invokestatic idx, 3)) (hrest : (rest.map fun v => v.category).sum ≤ 8) {Q : State → Prop} {Qm : Int → Mem → Prop} (hw : wp_L_placeOf p1 M Qm) (kk : ∀ (r : Int) (M1 : Mem) (H1 : Heap) (locs1 : List Loc), Qm r M1 → inR r → Rp G e0 α κ B M1 H1 → va_S (fun q => B ≤ q) s.heap H1 locs1 → W p l e R s m args below meth c H1 locs1 cells slots Q (F0 m (pc + 3) ls (.int (Int32.ofInt r) :: rest))) : W p l e R s m args below meth c H locs cells slots Q (F0 m pc ls (.int (Int32.ofInt p1) :: .ref (α 106 0) :: rest)) :=
  sa_callSI 0 (n := 2) (As := [.ref (α 106 0), .int (Int32.ofInt p1)]) (rest := rest) X.1 X.2.1 hR hS (m_L_placeOf X.2.2.1 hp1 hw) k1 kw_926 kw_37 kw_927 ⟨by decide +kernel, by decide +kernel, by decide +kernel⟩ (rm_ok hRr hk (by decide)) rfl rfl hrest hml hd hcel kk
def wp_L_at_6 (p3 : Int) (p4 : Int) (Qm : Int → Mem → Prop) : Nat → Int → Int → Mem → Prop
  | 0 => fun _ _ _ => False
  | n + 1 => fun y5 y6 M => (((M 112 0 2) ≤ y6 → Qm y5 M) ∧ (y6 < (M 112 0 2) → (inR (6 * y6)) ∧ (0 ≤ (6 * y6) ∧ (6 * y6) < 60) ∧ wp_L_placeOf (M 107 0 (6 * y6)) M fun (x6 : Int) (M5 : Mem) => (x6 ≤ p3 → (inR (6 * y6)) ∧ (inR ((6 * y6) + 2)) ∧ (0 ≤ ((6 * y6) + 2) ∧ ((6 * y6) + 2) < 60) ∧ (inR (x6 + (M5 107 0 ((6 * y6) + 2)))) ∧ True) ∧ (¬ (if p3 < x6 then (0 : Int) else (if (x6 + (M5 107 0 ((6 * y6) + 2))) ≤ p3 then (0 : Int) else 1)) = 0 → (inR (6 * y6)) ∧ (inR ((6 * y6) + 1)) ∧ (0 ≤ ((6 * y6) + 1) ∧ ((6 * y6) + 1) < 60) ∧ ((M5 107 0 ((6 * y6) + 1)) ≤ p4 → (inR (6 * y6)) ∧ (inR ((6 * y6) + 1)) ∧ (0 ≤ ((6 * y6) + 1) ∧ ((6 * y6) + 1) < 60) ∧ (inR (6 * y6)) ∧ (inR ((6 * y6) + 3)) ∧ (0 ≤ ((6 * y6) + 3) ∧ ((6 * y6) + 3) < 60) ∧ (inR ((M5 107 0 ((6 * y6) + 1)) + (M5 107 0 ((6 * y6) + 3)))) ∧ True) ∧ True) ∧ (inR (y6 + 1)) ∧ wp_L_at_6 p3 p4 Qm n (if (if p3 < x6 then (0 : Int) else (if (x6 + (M5 107 0 ((6 * y6) + 2))) ≤ p3 then (0 : Int) else 1)) = 0 then y5 else (if p4 < (M5 107 0 ((6 * y6) + 1)) then y5 else (if ((M5 107 0 ((6 * y6) + 1)) + (M5 107 0 ((6 * y6) + 3))) ≤ p4 then y5 else y6))) (y6 + 1) M5))
def wp_L_at (p3 : Int) (p4 : Int) (M : Mem) (Qm : Int → Mem → Prop) : Prop := (∃ n38 : Nat, wp_L_at_6 p3 p4 Qm n38 (-1) 0 M)
set_option maxHeartbeats 4000000 in
set_option maxRecDepth 100000 in
theorem t_L_at_6 {p3 : Int} {p4 : Int} (X : CX p m c cL_at 9 s args RL G B κ meth (some .int)) (hp3 : inR p3) (hp4 : inR p4) {Qm : Int → Mem → Prop} : ∀ n : Nat, ∀ y5 : Int, ∀ y6 : Int, ∀ M : Mem, wp_L_at_6 p3 p4 Qm n y5 y6 M → inR y5 → inR y6 → ∀ (H : Heap) (locs : List Loc), Rp G e0 α κ B M H → va_S (fun q => B ≤ q) s.heap H locs → ∀ (ls : Array Slot), lv_has ls 9 [(0, .ref (α 106 0)), (1, .ref (α 107 0)), (2, .ref (α 112 0)), (3, .int (Int32.ofInt p3)), (4, .int (Int32.ofInt p4)), (5, .int (Int32.ofInt y5)), (6, .int (Int32.ofInt y6))] → WI p l e 1 s m args below meth c G e0 α κ B Qm H locs 6 ls [] := by
  intro n
  induction n with
  | zero =>
    intro y5 y6 M hw hy5 hy6 H locs hR hS ls hl
    exact hw.elim
  | succ n ih =>
    intro y5 y6 M hw hy5 hy6 H locs hR hS ls hl
    have hw : (((M 112 0 2) ≤ y6 → Qm y5 M) ∧ (y6 < (M 112 0 2) → (inR (6 * y6)) ∧ (0 ≤ (6 * y6) ∧ (6 * y6) < 60) ∧ wp_L_placeOf (M 107 0 (6 * y6)) M fun (x6 : Int) (M5 : Mem) => (x6 ≤ p3 → (inR (6 * y6)) ∧ (inR ((6 * y6) + 2)) ∧ (0 ≤ ((6 * y6) + 2) ∧ ((6 * y6) + 2) < 60) ∧ (inR (x6 + (M5 107 0 ((6 * y6) + 2)))) ∧ True) ∧ (¬ (if p3 < x6 then (0 : Int) else (if (x6 + (M5 107 0 ((6 * y6) + 2))) ≤ p3 then (0 : Int) else 1)) = 0 → (inR (6 * y6)) ∧ (inR ((6 * y6) + 1)) ∧ (0 ≤ ((6 * y6) + 1) ∧ ((6 * y6) + 1) < 60) ∧ ((M5 107 0 ((6 * y6) + 1)) ≤ p4 → (inR (6 * y6)) ∧ (inR ((6 * y6) + 1)) ∧ (0 ≤ ((6 * y6) + 1) ∧ ((6 * y6) + 1) < 60) ∧ (inR (6 * y6)) ∧ (inR ((6 * y6) + 3)) ∧ (0 ≤ ((6 * y6) + 3) ∧ ((6 * y6) + 3) < 60) ∧ (inR ((M5 107 0 ((6 * y6) + 1)) + (M5 107 0 ((6 * y6) + 3)))) ∧ True) ∧ True) ∧ (inR (y6 + 1)) ∧ wp_L_at_6 p3 p4 Qm n (if (if p3 < x6 then (0 : Int) else (if (x6 + (M5 107 0 ((6 * y6) + 2))) ≤ p3 then (0 : Int) else 1)) = 0 then y5 else (if p4 < (M5 107 0 ((6 * y6) + 1)) then y5 else (if ((M5 107 0 ((6 * y6) + 1)) + (M5 107 0 ((6 * y6) + 3))) ≤ p4 then y5 else y6))) (y6 + 1) M5)) := hw
    refine lv_iload X.1.1 X.1.2.1 dL_at_6 (lv_at hl 6 rfl) ?_
    refine lv_aload_n X.1.1 X.1.2.1 dL_at_8 rfl (lv_at hl 2 rfl) ?_
    refine sa_const X.1 dL_at_9 ?_
    refine ra_112 X hR (okf X.2.2.1 rfl) ⟨by decide, by decide⟩ dL_at_10 ?_
    have r1 := hR.r 112 0 2
    refine sa_icmp_ge (tgt := 114) X.1 hy6 r1 dL_at_11 (by decide) (fun hc => ?_) (fun hc => ?_)
    · have hw := hw.1 hc
      refine lv_iload X.1.1 X.1.2.1 dL_at_114 (lv_at hl 5 rfl) ?_
      exact sa_iret X.1 X.2.2.2.1 X.2.2.2.2 hR hS hy5 hw dL_at_116
    · have hw := hw.2 hc
      refine lv_aload_n X.1.1 X.1.2.1 dL_at_14 rfl (lv_at hl 0 rfl) ?_
      refine lv_aload_n X.1.1 X.1.2.1 dL_at_15 rfl (lv_at hl 1 rfl) ?_
      refine sa_bipush X.1 dL_at_16 (by decide) ?_
      refine lv_iload X.1.1 X.1.2.1 dL_at_18 (lv_at hl 6 rfl) ?_
      have c2 := hw.1
      have hw := hw.2
      refine sa_imul X.1 dL_at_20 ?_
      have c3 := hw.1
      have hw := hw.2
      refine ra_107 X hR (okf X.2.2.1 rfl) c3 dL_at_21 ?_
      have r4 := hR.r 107 0 (6 * y6)
      refine cs_L_placeOf X r4 (kc := 1) rmL_ok rm_c (by decide) hR hS kw_925 hl.1 dL_at_22 (Nat.le_of_ble_eq_true rfl) hw (fun x6 M5 H locs hw r7 hR hS => ?_)
      refine lv_istore (lv' := [(7, .int (Int32.ofInt x6)), (0, .ref (α 106 0)), (1, .ref (α 107 0)), (2, .ref (α 112 0)), (3, .int (Int32.ofInt p3)), (4, .int (Int32.ofInt p4)), (5, .int (Int32.ofInt y5)), (6, .int (Int32.ofInt y6))]) X.1.1 X.1.2.1 dL_at_25 hl (by decide) rfl (fun ls hl => ?_)
      refine lv_iload_n X.1.1 X.1.2.1 dL_at_27 rfl (lv_at hl 4 rfl) ?_
      refine lv_iload X.1.1 X.1.2.1 dL_at_28 (lv_at hl 0 rfl) ?_
      have s14 := hw.1
      have hw := hw.2
      have r15 := inR_ite (c := p3 < x6) (inR_c (a := 0) rfl) (inR_ite (c := (x6 + (M5 107 0 ((6 * y6) + 2))) ≤ p3) (inR_c (a := 0) rfl) (inR_c (a := 1) rfl))
      refine cut_j (A := ∀ v16 : Int, v16 = (if p3 < x6 then (0 : Int) else (if (x6 + (M5 107 0 ((6 * y6) + 2))) ≤ p3 then (0 : Int) else 1)) → WI p l e 1 s m args below meth c G e0 α κ B Qm H locs 54 ls [.int (Int32.ofInt v16)]) (fun J17 => ?_) ?_
      · refine sa_icmp_lt (tgt := 53) X.1 hp3 r7 dL_at_30 (by decide) (fun hc => ?_) (fun hc => ?_)
        · skip
          refine sa_const X.1 dL_at_53 ?_
          exact J17 (0) (if_pos (c := p3 < x6) hc).symm
        · have hw := s14 hc
          refine lv_iload_n X.1.1 X.1.2.1 dL_at_33 rfl (lv_at hl 4 rfl) ?_
          refine lv_iload X.1.1 X.1.2.1 dL_at_34 (lv_at hl 0 rfl) ?_
          refine lv_aload_n X.1.1 X.1.2.1 dL_at_36 rfl (lv_at hl 2 rfl) ?_
          refine sa_bipush X.1 dL_at_37 (by decide) ?_
          refine lv_iload X.1.1 X.1.2.1 dL_at_39 (lv_at hl 7 rfl) ?_
          have c8 := hw.1
          have hw := hw.2
          refine sa_imul X.1 dL_at_41 ?_
          refine sa_const X.1 dL_at_42 ?_
          have c9 := hw.1
          have hw := hw.2
          refine sa_iadd X.1 dL_at_43 ?_
          have c10 := hw.1
          have hw := hw.2
          refine ra_107 X hR (okf X.2.2.1 rfl) c10 dL_at_44 ?_
          have c11 := hw.1
          have hw := hw.2
          refine sa_iadd X.1 dL_at_45 ?_
          refine cut_j (A := ∀ v12 : Int, v12 = (if (x6 + (M5 107 0 ((6 * y6) + 2))) ≤ p3 then (0 : Int) else 1) → WI p l e 1 s m args below meth c G e0 α κ B Qm H locs 54 ls [.int (Int32.ofInt v12)]) (fun J13 => ?_) ?_
          · refine sa_icmp_ge (tgt := 53) X.1 hp3 c11 dL_at_46 (by decide) (fun hc => ?_) (fun hc => ?_)
            · skip
              refine sa_const X.1 dL_at_53 ?_
              exact J13 (0) (if_pos (c := (x6 + (M5 107 0 ((6 * y6) + 2))) ≤ p3) hc).symm
            · skip
              refine sa_const X.1 dL_at_49 ?_
              refine lv_goto (tgt := 54) X.1.1 X.1.2.1 dL_at_50 (by decide) ?_
              exact J13 (1) (if_neg (c := (x6 + (M5 107 0 ((6 * y6) + 2))) ≤ p3) (Int.not_le.mpr hc)).symm
          intro v12 hv12
          subst hv12
          exact J17 ((if (x6 + (M5 107 0 ((6 * y6) + 2))) ≤ p3 then (0 : Int) else 1)) (if_neg (c := p3 < x6) (Int.not_lt.mpr hc)).symm
      intro v16 hv16
      subst hv16
      refine lv_istore (lv' := [(8, .int (Int32.ofInt (if p3 < x6 then (0 : Int) else (if (x6 + (M5 107 0 ((6 * y6) + 2))) ≤ p3 then (0 : Int) else 1)))), (7, .int (Int32.ofInt x6)), (0, .ref (α 106 0)), (1, .ref (α 107 0)), (2, .ref (α 112 0)), (3, .int (Int32.ofInt p3)), (4, .int (Int32.ofInt p4)), (5, .int (Int32.ofInt y5)), (6, .int (Int32.ofInt y6))]) X.1.1 X.1.2.1 dL_at_54 hl (by decide) rfl (fun ls hl => ?_)
      refine lv_iload X.1.1 X.1.2.1 dL_at_56 (lv_at hl 0 rfl) ?_
      have s33 := hw.1
      have hw := hw.2
      have r34 := inR_ite (c := (if p3 < x6 then (0 : Int) else (if (x6 + (M5 107 0 ((6 * y6) + 2))) ≤ p3 then (0 : Int) else 1)) = 0) hy5 (inR_ite (c := p4 < (M5 107 0 ((6 * y6) + 1))) hy5 (inR_ite (c := ((M5 107 0 ((6 * y6) + 1)) + (M5 107 0 ((6 * y6) + 3))) ≤ p4) hy5 hy6))
      refine cut_j (A := ∀ v35 : Int, v35 = (if (if p3 < x6 then (0 : Int) else (if (x6 + (M5 107 0 ((6 * y6) + 2))) ≤ p3 then (0 : Int) else 1)) = 0 then y5 else (if p4 < (M5 107 0 ((6 * y6) + 1)) then y5 else (if ((M5 107 0 ((6 * y6) + 1)) + (M5 107 0 ((6 * y6) + 3))) ≤ p4 then y5 else y6))) → WI p l e 1 s m args below meth c G e0 α κ B Qm H locs 106 ls [.int (Int32.ofInt v35)]) (fun J36 => ?_) ?_
      · refine sa_if_eq (tgt := 104) X.1 r15 dL_at_58 (by decide) (fun hc => ?_) (fun hc => ?_)
        · skip
          refine lv_iload X.1.1 X.1.2.1 dL_at_104 (lv_at hl 7 rfl) ?_
          exact J36 (y5) (if_pos (c := (if p3 < x6 then (0 : Int) else (if (x6 + (M5 107 0 ((6 * y6) + 2))) ≤ p3 then (0 : Int) else 1)) = 0) hc).symm
        · have hw := s33 hc
          refine lv_iload X.1.1 X.1.2.1 dL_at_61 (lv_at hl 6 rfl) ?_
          refine lv_aload_n X.1.1 X.1.2.1 dL_at_63 rfl (lv_at hl 3 rfl) ?_
          refine sa_bipush X.1 dL_at_64 (by decide) ?_
          refine lv_iload X.1.1 X.1.2.1 dL_at_66 (lv_at hl 8 rfl) ?_
          have c18 := hw.1
          have hw := hw.2
          refine sa_imul X.1 dL_at_68 ?_
          refine sa_const X.1 dL_at_69 ?_
          have c19 := hw.1
          have hw := hw.2
          refine sa_iadd X.1 dL_at_70 ?_
          have c20 := hw.1
          have hw := hw.2
          refine ra_107 X hR (okf X.2.2.1 rfl) c20 dL_at_71 ?_
          have s30 := hw.1
          have hw := hw.2
          refine cut_j (A := ∀ v31 : Int, v31 = (if p4 < (M5 107 0 ((6 * y6) + 1)) then y5 else (if ((M5 107 0 ((6 * y6) + 1)) + (M5 107 0 ((6 * y6) + 3))) ≤ p4 then y5 else y6)) → WI p l e 1 s m args below meth c G e0 α κ B Qm H locs 106 ls [.int (Int32.ofInt v31)]) (fun J32 => ?_) ?_
          · refine sa_icmp_lt (tgt := 104) X.1 hp4 (hR.r 107 0 ((6 * y6) + 1)) dL_at_72 (by decide) (fun hc => ?_) (fun hc => ?_)
            · skip
              refine lv_iload X.1.1 X.1.2.1 dL_at_104 (lv_at hl 7 rfl) ?_
              exact J32 (y5) (if_pos (c := p4 < (M5 107 0 ((6 * y6) + 1))) hc).symm
            · have hw := s30 hc
              refine lv_iload X.1.1 X.1.2.1 dL_at_75 (lv_at hl 6 rfl) ?_
              refine lv_aload_n X.1.1 X.1.2.1 dL_at_77 rfl (lv_at hl 3 rfl) ?_
              refine sa_bipush X.1 dL_at_78 (by decide) ?_
              refine lv_iload X.1.1 X.1.2.1 dL_at_80 (lv_at hl 8 rfl) ?_
              have c21 := hw.1
              have hw := hw.2
              refine sa_imul X.1 dL_at_82 ?_
              refine sa_const X.1 dL_at_83 ?_
              have c22 := hw.1
              have hw := hw.2
              refine sa_iadd X.1 dL_at_84 ?_
              have c23 := hw.1
              have hw := hw.2
              refine ra_107 X hR (okf X.2.2.1 rfl) c23 dL_at_85 ?_
              refine lv_aload_n X.1.1 X.1.2.1 dL_at_86 rfl (lv_at hl 3 rfl) ?_
              refine sa_bipush X.1 dL_at_87 (by decide) ?_
              refine lv_iload X.1.1 X.1.2.1 dL_at_89 (lv_at hl 8 rfl) ?_
              have c24 := hw.1
              have hw := hw.2
              refine sa_imul X.1 dL_at_91 ?_
              refine sa_const X.1 dL_at_92 ?_
              have c25 := hw.1
              have hw := hw.2
              refine sa_iadd X.1 dL_at_93 ?_
              have c26 := hw.1
              have hw := hw.2
              refine ra_107 X hR (okf X.2.2.1 rfl) c26 dL_at_94 ?_
              have c27 := hw.1
              have hw := hw.2
              refine sa_iadd X.1 dL_at_95 ?_
              refine cut_j (A := ∀ v28 : Int, v28 = (if ((M5 107 0 ((6 * y6) + 1)) + (M5 107 0 ((6 * y6) + 3))) ≤ p4 then y5 else y6) → WI p l e 1 s m args below meth c G e0 α κ B Qm H locs 106 ls [.int (Int32.ofInt v28)]) (fun J29 => ?_) ?_
              · refine sa_icmp_ge (tgt := 104) X.1 hp4 c27 dL_at_96 (by decide) (fun hc => ?_) (fun hc => ?_)
                · skip
                  refine lv_iload X.1.1 X.1.2.1 dL_at_104 (lv_at hl 7 rfl) ?_
                  exact J29 (y5) (if_pos (c := ((M5 107 0 ((6 * y6) + 1)) + (M5 107 0 ((6 * y6) + 3))) ≤ p4) hc).symm
                · skip
                  refine lv_iload X.1.1 X.1.2.1 dL_at_99 (lv_at hl 8 rfl) ?_
                  refine lv_goto (tgt := 106) X.1.1 X.1.2.1 dL_at_101 (by decide) ?_
                  exact J29 (y6) (if_neg (c := ((M5 107 0 ((6 * y6) + 1)) + (M5 107 0 ((6 * y6) + 3))) ≤ p4) (Int.not_le.mpr hc)).symm
              intro v28 hv28
              subst hv28
              exact J32 ((if ((M5 107 0 ((6 * y6) + 1)) + (M5 107 0 ((6 * y6) + 3))) ≤ p4 then y5 else y6)) (if_neg (c := p4 < (M5 107 0 ((6 * y6) + 1))) (Int.not_lt.mpr hc)).symm
          intro v31 hv31
          subst hv31
          exact J36 ((if p4 < (M5 107 0 ((6 * y6) + 1)) then y5 else (if ((M5 107 0 ((6 * y6) + 1)) + (M5 107 0 ((6 * y6) + 3))) ≤ p4 then y5 else y6))) (if_neg (c := (if p3 < x6 then (0 : Int) else (if (x6 + (M5 107 0 ((6 * y6) + 2))) ≤ p3 then (0 : Int) else 1)) = 0) hc).symm
      intro v35 hv35
      subst hv35
      refine lv_istore (lv' := [(5, .int (Int32.ofInt (if (if p3 < x6 then (0 : Int) else (if (x6 + (M5 107 0 ((6 * y6) + 2))) ≤ p3 then (0 : Int) else 1)) = 0 then y5 else (if p4 < (M5 107 0 ((6 * y6) + 1)) then y5 else (if ((M5 107 0 ((6 * y6) + 1)) + (M5 107 0 ((6 * y6) + 3))) ≤ p4 then y5 else y6))))), (8, .int (Int32.ofInt (if p3 < x6 then (0 : Int) else (if (x6 + (M5 107 0 ((6 * y6) + 2))) ≤ p3 then (0 : Int) else 1)))), (7, .int (Int32.ofInt x6)), (0, .ref (α 106 0)), (1, .ref (α 107 0)), (2, .ref (α 112 0)), (3, .int (Int32.ofInt p3)), (4, .int (Int32.ofInt p4)), (6, .int (Int32.ofInt y6))]) X.1.1 X.1.2.1 dL_at_106 hl (by decide) rfl (fun ls hl => ?_)
      have c37 := hw.1
      have hw := hw.2
      refine lv_iinc (v := Int32.ofInt (y6 + 1)) (lv' := [(6, .int (Int32.ofInt (y6 + 1))), (5, .int (Int32.ofInt (if (if p3 < x6 then (0 : Int) else (if (x6 + (M5 107 0 ((6 * y6) + 2))) ≤ p3 then (0 : Int) else 1)) = 0 then y5 else (if p4 < (M5 107 0 ((6 * y6) + 1)) then y5 else (if ((M5 107 0 ((6 * y6) + 1)) + (M5 107 0 ((6 * y6) + 3))) ≤ p4 then y5 else y6))))), (8, .int (Int32.ofInt (if p3 < x6 then (0 : Int) else (if (x6 + (M5 107 0 ((6 * y6) + 2))) ≤ p3 then (0 : Int) else 1)))), (7, .int (Int32.ofInt x6)), (0, .ref (α 106 0)), (1, .ref (α 107 0)), (2, .ref (α 112 0)), (3, .int (Int32.ofInt p3)), (4, .int (Int32.ofInt p4))]) X.1.1 X.1.2.1 dL_at_108 hl (k := 8) rfl (Int32.ofInt_add _ _).symm (by decide) rfl (fun ls hl => ?_)
      refine lv_goto (tgt := 6) X.1.1 X.1.2.1 dL_at_111 (by decide) ?_
      exact ih _ _ _ hw r34 c37 _ _ hR hS _ (lv_sub hl [4, 5, 6, 7, 8, 1, 0] rfl)
set_option maxHeartbeats 4000000 in
set_option maxRecDepth 100000 in
theorem t_L_at {p3 : Int} {p4 : Int} (X : CX p m c cL_at 9 s args RL G B κ meth (some .int)) (hp3 : inR p3) (hp4 : inR p4) {M : Mem} {Qm : Int → Mem → Prop} (hw : wp_L_at p3 p4 M Qm) (H : Heap) (locs : List Loc) (hR : Rp G e0 α κ B M H) (hS : va_S (fun q => B ≤ q) s.heap H locs) (ls : Array Slot) (hl : lv_has ls 9 [(0, .ref (α 106 0)), (1, .ref (α 107 0)), (2, .ref (α 112 0)), (3, .int (Int32.ofInt p3)), (4, .int (Int32.ofInt p4))]) : WI p l e 1 s m args below meth c G e0 α κ B Qm H locs 0 ls [] := by
  have hw : (∃ n38 : Nat, wp_L_at_6 p3 p4 Qm n38 (-1) 0 M) := hw
  refine sa_const X.1 dL_at_0 ?_
  refine lv_istore (lv' := [(5, .int (Int32.ofInt (-1))), (0, .ref (α 106 0)), (1, .ref (α 107 0)), (2, .ref (α 112 0)), (3, .int (Int32.ofInt p3)), (4, .int (Int32.ofInt p4))]) X.1.1 X.1.2.1 dL_at_1 hl (by decide) rfl (fun ls hl => ?_)
  refine sa_const X.1 dL_at_3 ?_
  refine lv_istore (lv' := [(6, .int (Int32.ofInt 0)), (5, .int (Int32.ofInt (-1))), (0, .ref (α 106 0)), (1, .ref (α 107 0)), (2, .ref (α 112 0)), (3, .int (Int32.ofInt p3)), (4, .int (Int32.ofInt p4))]) X.1.1 X.1.2.1 dL_at_4 hl (by decide) rfl (fun ls hl => ?_)
  obtain ⟨n38, hw⟩ := hw
  exact t_L_at_6 X hp3 hp4 n38 _ _ _ hw (inR_c (a := -1) rfl) (inR_c (a := 0) rfl) _ _ hR hS _ (lv_sub hl [2, 3, 4, 5, 6, 1, 0] rfl)
theorem m_L_at {l : Launch} {G : Gx} {e0 : Nat} {α : Ax} {κ : Nat → Int} {B : Nat} {p3 : Int} {p4 : Int} (hκ : kOK κ) (hp3 : inR p3) (hp4 : inR p4) {M : Mem} {Qm : Int → Mem → Prop} (hw : wp_L_at p3 p4 M Qm) : CI l yL_at (Cond.code yL_at cL_at 9 (some .int)) 1 G e0 α κ B [.ref (α 106 0), .ref (α 107 0), .ref (α 112 0), .int (Int32.ofInt p3), .int (Int32.ofInt p4)] M Qm :=
  CI.mk hκ (by decide +kernel) rfl (Nat.le_of_ble_eq_true rfl) (lv := [(0, .ref (α 106 0)), (1, .ref (α 107 0)), (2, .ref (α 112 0)), (3, .int (Int32.ofInt p3)), (4, .int (Int32.ofInt p4))]) rfl (fun p e s m args below meth c ls X hR hS hl => t_L_at X hp3 hp4 hw _ _ hR hS ls hl)
theorem cs_L_at {cc : ByteArray} {nL : Nat} {own : String} {ret : Option FieldType} {idx pc : Nat} {p3 : Int} {p4 : Int} (X : CX p m c cc nL s args own G B κ meth ret) (hp3 : inR p3) (hp4 : inR p4) {kc : Nat} {R : Room} {cells slots : Nat} (hRr : RmOK R kc) (hcel : cells ≤ R.cells ∧ slots ≤ R.slots) (hk : 1 + 1 ≤ kc) {M : Mem} {H : Heap} {locs : List Loc} (hR : Rp G e0 α κ B M H) (hS : va_S (fun q => B ≤ q) s.heap H locs) (k1 : Cond.methodLink own idx yL_at ∈ gw) {ls : Array Slot} (hml : ls.size = nL) {rest : List Value} (hd : decode cc pc = .ok (.invokestatic idx, 3)) (hrest : (rest.map fun v => v.category).sum ≤ 8) {Q : State → Prop} {Qm : Int → Mem → Prop} (hw : wp_L_at p3 p4 M Qm) (kk : ∀ (r : Int) (M1 : Mem) (H1 : Heap) (locs1 : List Loc), Qm r M1 → inR r → Rp G e0 α κ B M1 H1 → va_S (fun q => B ≤ q) s.heap H1 locs1 → W p l e R s m args below meth c H1 locs1 cells slots Q (F0 m (pc + 3) ls (.int (Int32.ofInt r) :: rest))) : W p l e R s m args below meth c H locs cells slots Q (F0 m pc ls (.int (Int32.ofInt p4) :: .int (Int32.ofInt p3) :: .ref (α 112 0) :: .ref (α 107 0) :: .ref (α 106 0) :: rest)) :=
  sa_callSI 1 (n := 5) (As := [.ref (α 106 0), .ref (α 107 0), .ref (α 112 0), .int (Int32.ofInt p3), .int (Int32.ofInt p4)]) (rest := rest) X.1 X.2.1 hR hS (m_L_at X.2.2.1 hp3 hp4 hw) k1 kw_929 kw_37 kw_930 ⟨by decide +kernel, by decide +kernel, by decide +kernel⟩ (rm_ok hRr hk (by decide)) rfl rfl hrest hml hd hcel kk
def wp_L_shows_12 (p2 : Int) (Qm : Int → Mem → Prop) : Nat → Int → Int → Mem → Prop
  | 0 => fun _ _ _ => False
  | n + 1 => fun y3 y4 M => (inR (6 * p2)) ∧ (inR ((6 * p2) + 1)) ∧ (0 ≤ ((6 * p2) + 1) ∧ ((6 * p2) + 1) < 60) ∧ (inR (6 * p2)) ∧ (inR ((6 * p2) + 3)) ∧ (0 ≤ ((6 * p2) + 3) ∧ ((6 * p2) + 3) < 60) ∧ (inR ((M 107 0 ((6 * p2) + 1)) + (M 107 0 ((6 * p2) + 3)))) ∧ ((((M 107 0 ((6 * p2) + 1)) + (M 107 0 ((6 * p2) + 3))) ≤ y4 → Qm y3 M) ∧ (y4 < ((M 107 0 ((6 * p2) + 1)) + (M 107 0 ((6 * p2) + 3))) → (inR (4 * y4)) ∧ (inR ((4 * y4) + 3)) ∧ (0 ≤ ((4 * y4) + 3) ∧ ((4 * y4) + 3) < 16) ∧ (inR (1 - (M 104 0 ((4 * y4) + 3)))) ∧ (inR (y3 + (1 - (M 104 0 ((4 * y4) + 3))))) ∧ (inR (y4 + 1)) ∧ wp_L_shows_12 p2 Qm n (y3 + (1 - (M 104 0 ((4 * y4) + 3)))) (y4 + 1) M))
def wp_L_shows (p2 : Int) (M : Mem) (Qm : Int → Mem → Prop) : Prop := (inR (6 * p2)) ∧ (inR ((6 * p2) + 1)) ∧ (0 ≤ ((6 * p2) + 1) ∧ ((6 * p2) + 1) < 60) ∧ (∃ n21 : Nat, wp_L_shows_12 p2 Qm n21 0 (M 107 0 ((6 * p2) + 1)) M)
set_option maxHeartbeats 4000000 in
set_option maxRecDepth 100000 in
theorem t_L_shows_12 {p2 : Int} (X : CX p m c cL_shows 5 s args RL G B κ meth (some .int)) (hp2 : inR p2) {Qm : Int → Mem → Prop} : ∀ n : Nat, ∀ y3 : Int, ∀ y4 : Int, ∀ M : Mem, wp_L_shows_12 p2 Qm n y3 y4 M → inR y3 → inR y4 → ∀ (H : Heap) (locs : List Loc), Rp G e0 α κ B M H → va_S (fun q => B ≤ q) s.heap H locs → ∀ (ls : Array Slot), lv_has ls 5 [(0, .ref (α 104 0)), (1, .ref (α 107 0)), (2, .int (Int32.ofInt p2)), (3, .int (Int32.ofInt y3)), (4, .int (Int32.ofInt y4))] → WI p l e 0 s m args below meth c G e0 α κ B Qm H locs 12 ls [] := by
  intro n
  induction n with
  | zero =>
    intro y3 y4 M hw hy3 hy4 H locs hR hS ls hl
    exact hw.elim
  | succ n ih =>
    intro y3 y4 M hw hy3 hy4 H locs hR hS ls hl
    have hw : (inR (6 * p2)) ∧ (inR ((6 * p2) + 1)) ∧ (0 ≤ ((6 * p2) + 1) ∧ ((6 * p2) + 1) < 60) ∧ (inR (6 * p2)) ∧ (inR ((6 * p2) + 3)) ∧ (0 ≤ ((6 * p2) + 3) ∧ ((6 * p2) + 3) < 60) ∧ (inR ((M 107 0 ((6 * p2) + 1)) + (M 107 0 ((6 * p2) + 3)))) ∧ ((((M 107 0 ((6 * p2) + 1)) + (M 107 0 ((6 * p2) + 3))) ≤ y4 → Qm y3 M) ∧ (y4 < ((M 107 0 ((6 * p2) + 1)) + (M 107 0 ((6 * p2) + 3))) → (inR (4 * y4)) ∧ (inR ((4 * y4) + 3)) ∧ (0 ≤ ((4 * y4) + 3) ∧ ((4 * y4) + 3) < 16) ∧ (inR (1 - (M 104 0 ((4 * y4) + 3)))) ∧ (inR (y3 + (1 - (M 104 0 ((4 * y4) + 3))))) ∧ (inR (y4 + 1)) ∧ wp_L_shows_12 p2 Qm n (y3 + (1 - (M 104 0 ((4 * y4) + 3)))) (y4 + 1) M)) := hw
    refine lv_iload X.1.1 X.1.2.1 dL_shows_12 (lv_at hl 4 rfl) ?_
    refine lv_aload_n X.1.1 X.1.2.1 dL_shows_14 rfl (lv_at hl 1 rfl) ?_
    refine sa_bipush X.1 dL_shows_15 (by decide) ?_
    refine lv_iload_n X.1.1 X.1.2.1 dL_shows_17 rfl (lv_at hl 2 rfl) ?_
    have c5 := hw.1
    have hw := hw.2
    refine sa_imul X.1 dL_shows_18 ?_
    refine sa_const X.1 dL_shows_19 ?_
    have c6 := hw.1
    have hw := hw.2
    refine sa_iadd X.1 dL_shows_20 ?_
    have c7 := hw.1
    have hw := hw.2
    refine ra_107 X hR (okf X.2.2.1 rfl) c7 dL_shows_21 ?_
    have r8 := hR.r 107 0 ((6 * p2) + 1)
    refine lv_aload_n X.1.1 X.1.2.1 dL_shows_22 rfl (lv_at hl 1 rfl) ?_
    refine sa_bipush X.1 dL_shows_23 (by decide) ?_
    refine lv_iload_n X.1.1 X.1.2.1 dL_shows_25 rfl (lv_at hl 2 rfl) ?_
    have c9 := hw.1
    have hw := hw.2
    refine sa_imul X.1 dL_shows_26 ?_
    refine sa_const X.1 dL_shows_27 ?_
    have c10 := hw.1
    have hw := hw.2
    refine sa_iadd X.1 dL_shows_28 ?_
    have c11 := hw.1
    have hw := hw.2
    refine ra_107 X hR (okf X.2.2.1 rfl) c11 dL_shows_29 ?_
    have r12 := hR.r 107 0 ((6 * p2) + 3)
    have c13 := hw.1
    have hw := hw.2
    refine sa_iadd X.1 dL_shows_30 ?_
    refine sa_icmp_ge (tgt := 53) X.1 hy4 c13 dL_shows_31 (by decide) (fun hc => ?_) (fun hc => ?_)
    · have hw := hw.1 hc
      refine lv_iload_n X.1.1 X.1.2.1 dL_shows_53 rfl (lv_at hl 3 rfl) ?_
      exact sa_iret X.1 X.2.2.2.1 X.2.2.2.2 hR hS hy3 hw dL_shows_54
    · have hw := hw.2 hc
      refine lv_iload_n X.1.1 X.1.2.1 dL_shows_34 rfl (lv_at hl 3 rfl) ?_
      refine sa_const X.1 dL_shows_35 ?_
      refine lv_aload_n X.1.1 X.1.2.1 dL_shows_36 rfl (lv_at hl 0 rfl) ?_
      refine sa_const X.1 dL_shows_37 ?_
      refine lv_iload X.1.1 X.1.2.1 dL_shows_38 (lv_at hl 4 rfl) ?_
      have c14 := hw.1
      have hw := hw.2
      refine sa_imul X.1 dL_shows_40 ?_
      refine sa_const X.1 dL_shows_41 ?_
      have c15 := hw.1
      have hw := hw.2
      refine sa_iadd X.1 dL_shows_42 ?_
      have c16 := hw.1
      have hw := hw.2
      refine ra_104 X hR (okf X.2.2.1 rfl) c16 dL_shows_43 ?_
      have r17 := hR.r 104 0 ((4 * y4) + 3)
      have c18 := hw.1
      have hw := hw.2
      refine sa_isub X.1 dL_shows_44 ?_
      have c19 := hw.1
      have hw := hw.2
      refine sa_iadd X.1 dL_shows_45 ?_
      refine lv_istore_n (lv' := [(3, .int (Int32.ofInt (y3 + (1 - (M 104 0 ((4 * y4) + 3)))))), (0, .ref (α 104 0)), (1, .ref (α 107 0)), (2, .int (Int32.ofInt p2)), (4, .int (Int32.ofInt y4))]) X.1.1 X.1.2.1 dL_shows_46 rfl hl (by decide) rfl (fun ls hl => ?_)
      have c20 := hw.1
      have hw := hw.2
      refine lv_iinc (v := Int32.ofInt (y4 + 1)) (lv' := [(4, .int (Int32.ofInt (y4 + 1))), (3, .int (Int32.ofInt (y3 + (1 - (M 104 0 ((4 * y4) + 3)))))), (0, .ref (α 104 0)), (1, .ref (α 107 0)), (2, .int (Int32.ofInt p2))]) X.1.1 X.1.2.1 dL_shows_47 hl (k := 4) rfl (Int32.ofInt_add _ _).symm (by decide) rfl (fun ls hl => ?_)
      refine lv_goto (tgt := 12) X.1.1 X.1.2.1 dL_shows_50 (by decide) ?_
      exact ih _ _ _ hw c19 c20 _ _ hR hS _ (lv_sub hl [2, 3, 4, 1, 0] rfl)
set_option maxHeartbeats 4000000 in
set_option maxRecDepth 100000 in
theorem t_L_shows {p2 : Int} (X : CX p m c cL_shows 5 s args RL G B κ meth (some .int)) (hp2 : inR p2) {M : Mem} {Qm : Int → Mem → Prop} (hw : wp_L_shows p2 M Qm) (H : Heap) (locs : List Loc) (hR : Rp G e0 α κ B M H) (hS : va_S (fun q => B ≤ q) s.heap H locs) (ls : Array Slot) (hl : lv_has ls 5 [(0, .ref (α 104 0)), (1, .ref (α 107 0)), (2, .int (Int32.ofInt p2))]) : WI p l e 0 s m args below meth c G e0 α κ B Qm H locs 0 ls [] := by
  have hw : (inR (6 * p2)) ∧ (inR ((6 * p2) + 1)) ∧ (0 ≤ ((6 * p2) + 1) ∧ ((6 * p2) + 1) < 60) ∧ (∃ n21 : Nat, wp_L_shows_12 p2 Qm n21 0 (M 107 0 ((6 * p2) + 1)) M) := hw
  refine sa_const X.1 dL_shows_0 ?_
  refine lv_istore_n (lv' := [(3, .int (Int32.ofInt 0)), (0, .ref (α 104 0)), (1, .ref (α 107 0)), (2, .int (Int32.ofInt p2))]) X.1.1 X.1.2.1 dL_shows_1 rfl hl (by decide) rfl (fun ls hl => ?_)
  refine lv_aload_n X.1.1 X.1.2.1 dL_shows_2 rfl (lv_at hl 2 rfl) ?_
  refine sa_bipush X.1 dL_shows_3 (by decide) ?_
  refine lv_iload_n X.1.1 X.1.2.1 dL_shows_5 rfl (lv_at hl 3 rfl) ?_
  have c1 := hw.1
  have hw := hw.2
  refine sa_imul X.1 dL_shows_6 ?_
  refine sa_const X.1 dL_shows_7 ?_
  have c2 := hw.1
  have hw := hw.2
  refine sa_iadd X.1 dL_shows_8 ?_
  have c3 := hw.1
  have hw := hw.2
  refine ra_107 X hR (okf X.2.2.1 rfl) c3 dL_shows_9 ?_
  have r4 := hR.r 107 0 ((6 * p2) + 1)
  refine lv_istore (lv' := [(4, .int (Int32.ofInt (M 107 0 ((6 * p2) + 1)))), (3, .int (Int32.ofInt 0)), (0, .ref (α 104 0)), (1, .ref (α 107 0)), (2, .int (Int32.ofInt p2))]) X.1.1 X.1.2.1 dL_shows_10 hl (by decide) rfl (fun ls hl => ?_)
  obtain ⟨n21, hw⟩ := hw
  exact t_L_shows_12 X hp2 n21 _ _ _ hw (inR_c (a := 0) rfl) r4 _ _ hR hS _ (lv_sub hl [2, 3, 4, 1, 0] rfl)
theorem m_L_shows {l : Launch} {G : Gx} {e0 : Nat} {α : Ax} {κ : Nat → Int} {B : Nat} {p2 : Int} (hκ : kOK κ) (hp2 : inR p2) {M : Mem} {Qm : Int → Mem → Prop} (hw : wp_L_shows p2 M Qm) : CI l yL_shows (Cond.code yL_shows cL_shows 5 (some .int)) 0 G e0 α κ B [.ref (α 104 0), .ref (α 107 0), .int (Int32.ofInt p2)] M Qm :=
  CI.mk hκ (by decide +kernel) rfl (Nat.le_of_ble_eq_true rfl) (lv := [(0, .ref (α 104 0)), (1, .ref (α 107 0)), (2, .int (Int32.ofInt p2))]) rfl (fun p e s m args below meth c ls X hR hS hl => t_L_shows X hp2 hw _ _ hR hS ls hl)
theorem cs_L_shows {cc : ByteArray} {nL : Nat} {own : String} {ret : Option FieldType} {idx pc : Nat} {p2 : Int} (X : CX p m c cc nL s args own G B κ meth ret) (hp2 : inR p2) {kc : Nat} {R : Room} {cells slots : Nat} (hRr : RmOK R kc) (hcel : cells ≤ R.cells ∧ slots ≤ R.slots) (hk : 0 + 1 ≤ kc) {M : Mem} {H : Heap} {locs : List Loc} (hR : Rp G e0 α κ B M H) (hS : va_S (fun q => B ≤ q) s.heap H locs) (k1 : Cond.methodLink own idx yL_shows ∈ gw) {ls : Array Slot} (hml : ls.size = nL) {rest : List Value} (hd : decode cc pc = .ok (.invokestatic idx, 3)) (hrest : (rest.map fun v => v.category).sum ≤ 8) {Q : State → Prop} {Qm : Int → Mem → Prop} (hw : wp_L_shows p2 M Qm) (kk : ∀ (r : Int) (M1 : Mem) (H1 : Heap) (locs1 : List Loc), Qm r M1 → inR r → Rp G e0 α κ B M1 H1 → va_S (fun q => B ≤ q) s.heap H1 locs1 → W p l e R s m args below meth c H1 locs1 cells slots Q (F0 m (pc + 3) ls (.int (Int32.ofInt r) :: rest))) : W p l e R s m args below meth c H locs cells slots Q (F0 m pc ls (.int (Int32.ofInt p2) :: .ref (α 107 0) :: .ref (α 104 0) :: rest)) :=
  sa_callSI 0 (n := 3) (As := [.ref (α 104 0), .ref (α 107 0), .int (Int32.ofInt p2)]) (rest := rest) X.1 X.2.1 hR hS (m_L_shows X.2.2.1 hp2 hw) k1 kw_1236 kw_37 kw_1237 ⟨by decide +kernel, by decide +kernel, by decide +kernel⟩ (rm_ok hRr hk (by decide)) rfl rfl hrest hml hd hcel kk
def wp_L_wants_8 (p1 : Int) (p2 : Int) (Qm : Int → Mem → Prop) : Nat → Int → Int → Int → Mem → Prop
  | 0 => fun _ _ _ _ => False
  | n + 1 => fun y3 y4 y5 M => wp_L_words p1 M fun (x2 : Int) (M1 : Mem) => ((x2 ≤ y5 → Qm (if p2 = 0 then y3 else (if y4 ≤ 0 then y3 else y4)) M1) ∧ (y5 < x2 → wp_L_length p1 y5 M1 fun (x10 : Int) (M9 : Mem) => wp_L_cut p1 y5 M9 fun (x13 : Int) (M12 : Mem) => (¬ x13 = 0 → (inR (x13 + 1)) ∧ True) ∧ (inR (if ¬ x13 = 0 then (x13 + 1) else x10)) ∧ (inR (x10 - x13)) ∧ ((if (if ¬ x13 = 0 then (x13 + 1) else x10) ≤ y3 then y3 else (if ¬ x13 = 0 then (x13 + 1) else x10)) < (x10 - x13) → (inR (x10 - x13)) ∧ True) ∧ (inR (if (x10 - x13) ≤ (if (if ¬ x13 = 0 then (x13 + 1) else x10) ≤ y3 then y3 else (if ¬ x13 = 0 then (x13 + 1) else x10)) then (if (if ¬ x13 = 0 then (x13 + 1) else x10) ≤ y3 then y3 else (if ¬ x13 = 0 then (x13 + 1) else x10)) else (x10 - x13))) ∧ (inR (1 + x10)) ∧ (inR (y4 + (1 + x10))) ∧ (inR (y5 + 1)) ∧ wp_L_wants_8 p1 p2 Qm n (if (x10 - x13) ≤ (if (if ¬ x13 = 0 then (x13 + 1) else x10) ≤ y3 then y3 else (if ¬ x13 = 0 then (x13 + 1) else x10)) then (if (if ¬ x13 = 0 then (x13 + 1) else x10) ≤ y3 then y3 else (if ¬ x13 = 0 then (x13 + 1) else x10)) else (x10 - x13)) (y4 + (1 + x10)) (y5 + 1) M12))
def wp_L_wants (p1 : Int) (p2 : Int) (M : Mem) (Qm : Int → Mem → Prop) : Prop := (∃ n32 : Nat, wp_L_wants_8 p1 p2 Qm n32 0 (-1) 0 M)
set_option maxHeartbeats 4000000 in
set_option maxRecDepth 100000 in
theorem t_L_wants_8 {p1 : Int} {p2 : Int} (X : CX p m c cL_wants 9 s args RL G B κ meth (some .int)) (hp1 : inR p1) (hp2 : inR p2) {Qm : Int → Mem → Prop} : ∀ n : Nat, ∀ y3 : Int, ∀ y4 : Int, ∀ y5 : Int, ∀ M : Mem, wp_L_wants_8 p1 p2 Qm n y3 y4 y5 M → inR y3 → inR y4 → inR y5 → ∀ (H : Heap) (locs : List Loc), Rp G e0 α κ B M H → va_S (fun q => B ≤ q) s.heap H locs → ∀ (ls : Array Slot), lv_has ls 9 [(0, .ref (α 108 0)), (1, .int (Int32.ofInt p1)), (2, .int (Int32.ofInt p2)), (3, .int (Int32.ofInt y3)), (4, .int (Int32.ofInt y4)), (5, .int (Int32.ofInt y5))] → WI p l e 2 s m args below meth c G e0 α κ B Qm H locs 8 ls [] := by
  intro n
  induction n with
  | zero =>
    intro y3 y4 y5 M hw hy3 hy4 hy5 H locs hR hS ls hl
    exact hw.elim
  | succ n ih =>
    intro y3 y4 y5 M hw hy3 hy4 hy5 H locs hR hS ls hl
    have hw : wp_L_words p1 M fun (x2 : Int) (M1 : Mem) => ((x2 ≤ y5 → Qm (if p2 = 0 then y3 else (if y4 ≤ 0 then y3 else y4)) M1) ∧ (y5 < x2 → wp_L_length p1 y5 M1 fun (x10 : Int) (M9 : Mem) => wp_L_cut p1 y5 M9 fun (x13 : Int) (M12 : Mem) => (¬ x13 = 0 → (inR (x13 + 1)) ∧ True) ∧ (inR (if ¬ x13 = 0 then (x13 + 1) else x10)) ∧ (inR (x10 - x13)) ∧ ((if (if ¬ x13 = 0 then (x13 + 1) else x10) ≤ y3 then y3 else (if ¬ x13 = 0 then (x13 + 1) else x10)) < (x10 - x13) → (inR (x10 - x13)) ∧ True) ∧ (inR (if (x10 - x13) ≤ (if (if ¬ x13 = 0 then (x13 + 1) else x10) ≤ y3 then y3 else (if ¬ x13 = 0 then (x13 + 1) else x10)) then (if (if ¬ x13 = 0 then (x13 + 1) else x10) ≤ y3 then y3 else (if ¬ x13 = 0 then (x13 + 1) else x10)) else (x10 - x13))) ∧ (inR (1 + x10)) ∧ (inR (y4 + (1 + x10))) ∧ (inR (y5 + 1)) ∧ wp_L_wants_8 p1 p2 Qm n (if (x10 - x13) ≤ (if (if ¬ x13 = 0 then (x13 + 1) else x10) ≤ y3 then y3 else (if ¬ x13 = 0 then (x13 + 1) else x10)) then (if (if ¬ x13 = 0 then (x13 + 1) else x10) ≤ y3 then y3 else (if ¬ x13 = 0 then (x13 + 1) else x10)) else (x10 - x13)) (y4 + (1 + x10)) (y5 + 1) M12)) := hw
    refine lv_iload X.1.1 X.1.2.1 dL_wants_8 (lv_at hl 5 rfl) ?_
    refine lv_aload_n X.1.1 X.1.2.1 dL_wants_10 rfl (lv_at hl 0 rfl) ?_
    refine lv_iload_n X.1.1 X.1.2.1 dL_wants_11 rfl (lv_at hl 1 rfl) ?_
    refine cs_L_words X hp1 (kc := 2) rmL_ok rm_c (by decide) hR hS kw_1066 hl.1 dL_wants_12 (Nat.le_of_ble_eq_true rfl) hw (fun x2 M1 H locs hw r3 hR hS => ?_)
    refine sa_icmp_ge (tgt := 99) X.1 hy5 r3 dL_wants_15 (by decide) (fun hc => ?_) (fun hc => ?_)
    · have hw := hw.1 hc
      refine lv_iload_n X.1.1 X.1.2.1 dL_wants_99 rfl (lv_at hl 2 rfl) ?_
      have r6 := inR_ite (c := p2 = 0) hy3 (inR_ite (c := y4 ≤ 0) hy3 hy4)
      refine cut_j (A := ∀ v7 : Int, v7 = (if p2 = 0 then y3 else (if y4 ≤ 0 then y3 else y4)) → WI p l e 2 s m args below meth c G e0 α κ B Qm H locs 114 ls [.int (Int32.ofInt v7)]) (fun J8 => ?_) ?_
      · refine sa_if_eq (tgt := 113) X.1 hp2 dL_wants_100 (by decide) (fun hc => ?_) (fun hc => ?_)
        · skip
          refine lv_iload_n X.1.1 X.1.2.1 dL_wants_113 rfl (lv_at hl 3 rfl) ?_
          exact J8 (y3) (if_pos (c := p2 = 0) hc).symm
        · skip
          refine lv_iload X.1.1 X.1.2.1 dL_wants_103 (lv_at hl 4 rfl) ?_
          refine cut_j (A := ∀ v4 : Int, v4 = (if y4 ≤ 0 then y3 else y4) → WI p l e 2 s m args below meth c G e0 α κ B Qm H locs 114 ls [.int (Int32.ofInt v4)]) (fun J5 => ?_) ?_
          · refine sa_if_le (tgt := 113) X.1 hy4 dL_wants_105 (by decide) (fun hc => ?_) (fun hc => ?_)
            · skip
              refine lv_iload_n X.1.1 X.1.2.1 dL_wants_113 rfl (lv_at hl 3 rfl) ?_
              exact J5 (y3) (if_pos (c := y4 ≤ 0) hc).symm
            · skip
              refine lv_iload X.1.1 X.1.2.1 dL_wants_108 (lv_at hl 4 rfl) ?_
              refine lv_goto (tgt := 114) X.1.1 X.1.2.1 dL_wants_110 (by decide) ?_
              exact J5 (y4) (if_neg (c := y4 ≤ 0) (Int.not_le.mpr hc)).symm
          intro v4 hv4
          subst hv4
          exact J8 ((if y4 ≤ 0 then y3 else y4)) (if_neg (c := p2 = 0) hc).symm
      intro v7 hv7
      subst hv7
      exact sa_iret X.1 X.2.2.2.1 X.2.2.2.2 hR hS r6 hw dL_wants_114
    · have hw := hw.2 hc
      refine lv_aload_n X.1.1 X.1.2.1 dL_wants_18 rfl (lv_at hl 0 rfl) ?_
      refine lv_iload_n X.1.1 X.1.2.1 dL_wants_19 rfl (lv_at hl 1 rfl) ?_
      refine lv_iload X.1.1 X.1.2.1 dL_wants_20 (lv_at hl 5 rfl) ?_
      refine cs_L_length X hp1 hy5 (kc := 2) rmL_ok rm_c (by decide) hR hS kw_1241 hl.1 dL_wants_22 (Nat.le_of_ble_eq_true rfl) hw (fun x10 M9 H locs hw r11 hR hS => ?_)
      refine lv_istore (lv' := [(6, .int (Int32.ofInt x10)), (0, .ref (α 108 0)), (1, .int (Int32.ofInt p1)), (2, .int (Int32.ofInt p2)), (3, .int (Int32.ofInt y3)), (4, .int (Int32.ofInt y4)), (5, .int (Int32.ofInt y5))]) X.1.1 X.1.2.1 dL_wants_25 hl (by decide) rfl (fun ls hl => ?_)
      refine lv_aload_n X.1.1 X.1.2.1 dL_wants_27 rfl (lv_at hl 1 rfl) ?_
      refine lv_iload_n X.1.1 X.1.2.1 dL_wants_28 rfl (lv_at hl 2 rfl) ?_
      refine lv_iload X.1.1 X.1.2.1 dL_wants_29 (lv_at hl 6 rfl) ?_
      refine cs_L_cut X hp1 hy5 (kc := 2) rmL_ok rm_c (by decide) hR hS kw_1245 hl.1 dL_wants_31 (Nat.le_of_ble_eq_true rfl) hw (fun x13 M12 H locs hw r14 hR hS => ?_)
      refine lv_istore (lv' := [(7, .int (Int32.ofInt x13)), (6, .int (Int32.ofInt x10)), (0, .ref (α 108 0)), (1, .int (Int32.ofInt p1)), (2, .int (Int32.ofInt p2)), (3, .int (Int32.ofInt y3)), (4, .int (Int32.ofInt y4)), (5, .int (Int32.ofInt y5))]) X.1.1 X.1.2.1 dL_wants_34 hl (by decide) rfl (fun ls hl => ?_)
      refine lv_iload X.1.1 X.1.2.1 dL_wants_36 (lv_at hl 0 rfl) ?_
      have s16 := hw.1
      have hw := hw.2
      have c17 := hw.1
      have hw := hw.2
      refine cut_j (A := ∀ v18 : Int, v18 = (if ¬ x13 = 0 then (x13 + 1) else x10) → WI p l e 2 s m args below meth c G e0 α κ B Qm H locs 50 ls [.int (Int32.ofInt v18)]) (fun J19 => ?_) ?_
      · refine sa_if_ne (tgt := 46) X.1 r14 dL_wants_38 (by decide) (fun hc => ?_) (fun hc => ?_)
        · have hw := s16 hc
          refine lv_iload X.1.1 X.1.2.1 dL_wants_46 (lv_at hl 0 rfl) ?_
          refine sa_const X.1 dL_wants_48 ?_
          have c15 := hw.1
          have hw := hw.2
          refine sa_iadd X.1 dL_wants_49 ?_
          exact J19 ((x13 + 1)) (if_pos (c := ¬ x13 = 0) hc).symm
        · skip
          refine lv_iload X.1.1 X.1.2.1 dL_wants_41 (lv_at hl 1 rfl) ?_
          refine lv_goto (tgt := 50) X.1.1 X.1.2.1 dL_wants_43 (by decide) ?_
          exact J19 (x10) (if_neg (c := ¬ x13 = 0) (fun z => z hc)).symm
      intro v18 hv18
      subst hv18
      refine lv_istore (lv' := [(8, .int (Int32.ofInt (if ¬ x13 = 0 then (x13 + 1) else x10))), (7, .int (Int32.ofInt x13)), (6, .int (Int32.ofInt x10)), (0, .ref (α 108 0)), (1, .int (Int32.ofInt p1)), (2, .int (Int32.ofInt p2)), (3, .int (Int32.ofInt y3)), (4, .int (Int32.ofInt y4)), (5, .int (Int32.ofInt y5))]) X.1.1 X.1.2.1 dL_wants_50 hl (by decide) rfl (fun ls hl => ?_)
      refine lv_iload_n X.1.1 X.1.2.1 dL_wants_52 rfl (lv_at hl 6 rfl) ?_
      refine lv_iload X.1.1 X.1.2.1 dL_wants_53 (lv_at hl 0 rfl) ?_
      have r20 := inR_ite (c := (if ¬ x13 = 0 then (x13 + 1) else x10) ≤ y3) hy3 c17
      refine cut_j (A := ∀ v21 : Int, v21 = (if (if ¬ x13 = 0 then (x13 + 1) else x10) ≤ y3 then y3 else (if ¬ x13 = 0 then (x13 + 1) else x10)) → WI p l e 2 s m args below meth c G e0 α κ B Qm H locs 64 ls [.int (Int32.ofInt v21)]) (fun J22 => ?_) ?_
      · refine sa_icmp_ge (tgt := 63) X.1 hy3 c17 dL_wants_55 (by decide) (fun hc => ?_) (fun hc => ?_)
        · skip
          refine lv_iload_n X.1.1 X.1.2.1 dL_wants_63 rfl (lv_at hl 6 rfl) ?_
          exact J22 (y3) (if_pos (c := (if ¬ x13 = 0 then (x13 + 1) else x10) ≤ y3) hc).symm
        · skip
          refine lv_iload X.1.1 X.1.2.1 dL_wants_58 (lv_at hl 0 rfl) ?_
          refine lv_goto (tgt := 64) X.1.1 X.1.2.1 dL_wants_60 (by decide) ?_
          exact J22 ((if ¬ x13 = 0 then (x13 + 1) else x10)) (if_neg (c := (if ¬ x13 = 0 then (x13 + 1) else x10) ≤ y3) (Int.not_le.mpr hc)).symm
      intro v21 hv21
      subst hv21
      refine lv_istore_n (lv' := [(3, .int (Int32.ofInt (if (if ¬ x13 = 0 then (x13 + 1) else x10) ≤ y3 then y3 else (if ¬ x13 = 0 then (x13 + 1) else x10)))), (8, .int (Int32.ofInt (if ¬ x13 = 0 then (x13 + 1) else x10))), (7, .int (Int32.ofInt x13)), (6, .int (Int32.ofInt x10)), (0, .ref (α 108 0)), (1, .int (Int32.ofInt p1)), (2, .int (Int32.ofInt p2)), (4, .int (Int32.ofInt y4)), (5, .int (Int32.ofInt y5))]) X.1.1 X.1.2.1 dL_wants_64 rfl hl (by decide) rfl (fun ls hl => ?_)
      refine lv_iload_n X.1.1 X.1.2.1 dL_wants_65 rfl (lv_at hl 0 rfl) ?_
      refine lv_iload X.1.1 X.1.2.1 dL_wants_66 (lv_at hl 3 rfl) ?_
      refine lv_iload X.1.1 X.1.2.1 dL_wants_68 (lv_at hl 2 rfl) ?_
      have c23 := hw.1
      have hw := hw.2
      refine sa_isub X.1 dL_wants_70 ?_
      have s25 := hw.1
      have hw := hw.2
      have c26 := hw.1
      have hw := hw.2
      refine cut_j (A := ∀ v27 : Int, v27 = (if (x10 - x13) ≤ (if (if ¬ x13 = 0 then (x13 + 1) else x10) ≤ y3 then y3 else (if ¬ x13 = 0 then (x13 + 1) else x10)) then (if (if ¬ x13 = 0 then (x13 + 1) else x10) ≤ y3 then y3 else (if ¬ x13 = 0 then (x13 + 1) else x10)) else (x10 - x13)) → WI p l e 2 s m args below meth c G e0 α κ B Qm H locs 83 ls [.int (Int32.ofInt v27)]) (fun J28 => ?_) ?_
      · refine sa_icmp_ge (tgt := 82) X.1 r20 c23 dL_wants_71 (by decide) (fun hc => ?_) (fun hc => ?_)
        · skip
          refine lv_iload_n X.1.1 X.1.2.1 dL_wants_82 rfl (lv_at hl 0 rfl) ?_
          exact J28 ((if (if ¬ x13 = 0 then (x13 + 1) else x10) ≤ y3 then y3 else (if ¬ x13 = 0 then (x13 + 1) else x10))) (if_pos (c := (x10 - x13) ≤ (if (if ¬ x13 = 0 then (x13 + 1) else x10) ≤ y3 then y3 else (if ¬ x13 = 0 then (x13 + 1) else x10))) hc).symm
        · have hw := s25 hc
          refine lv_iload X.1.1 X.1.2.1 dL_wants_74 (lv_at hl 3 rfl) ?_
          refine lv_iload X.1.1 X.1.2.1 dL_wants_76 (lv_at hl 2 rfl) ?_
          have c24 := hw.1
          have hw := hw.2
          refine sa_isub X.1 dL_wants_78 ?_
          refine lv_goto (tgt := 83) X.1.1 X.1.2.1 dL_wants_79 (by decide) ?_
          exact J28 ((x10 - x13)) (if_neg (c := (x10 - x13) ≤ (if (if ¬ x13 = 0 then (x13 + 1) else x10) ≤ y3 then y3 else (if ¬ x13 = 0 then (x13 + 1) else x10))) (Int.not_le.mpr hc)).symm
      intro v27 hv27
      subst hv27
      refine lv_istore_n (lv' := [(3, .int (Int32.ofInt (if (x10 - x13) ≤ (if (if ¬ x13 = 0 then (x13 + 1) else x10) ≤ y3 then y3 else (if ¬ x13 = 0 then (x13 + 1) else x10)) then (if (if ¬ x13 = 0 then (x13 + 1) else x10) ≤ y3 then y3 else (if ¬ x13 = 0 then (x13 + 1) else x10)) else (x10 - x13)))), (8, .int (Int32.ofInt (if ¬ x13 = 0 then (x13 + 1) else x10))), (7, .int (Int32.ofInt x13)), (6, .int (Int32.ofInt x10)), (0, .ref (α 108 0)), (1, .int (Int32.ofInt p1)), (2, .int (Int32.ofInt p2)), (4, .int (Int32.ofInt y4)), (5, .int (Int32.ofInt y5))]) X.1.1 X.1.2.1 dL_wants_83 rfl hl (by decide) rfl (fun ls hl => ?_)
      refine lv_iload X.1.1 X.1.2.1 dL_wants_84 (lv_at hl 7 rfl) ?_
      refine sa_const X.1 dL_wants_86 ?_
      refine lv_iload X.1.1 X.1.2.1 dL_wants_87 (lv_at hl 3 rfl) ?_
      have c29 := hw.1
      have hw := hw.2
      refine sa_iadd X.1 dL_wants_89 ?_
      have c30 := hw.1
      have hw := hw.2
      refine sa_iadd X.1 dL_wants_90 ?_
      refine lv_istore (lv' := [(4, .int (Int32.ofInt (y4 + (1 + x10)))), (3, .int (Int32.ofInt (if (x10 - x13) ≤ (if (if ¬ x13 = 0 then (x13 + 1) else x10) ≤ y3 then y3 else (if ¬ x13 = 0 then (x13 + 1) else x10)) then (if (if ¬ x13 = 0 then (x13 + 1) else x10) ≤ y3 then y3 else (if ¬ x13 = 0 then (x13 + 1) else x10)) else (x10 - x13)))), (8, .int (Int32.ofInt (if ¬ x13 = 0 then (x13 + 1) else x10))), (7, .int (Int32.ofInt x13)), (6, .int (Int32.ofInt x10)), (0, .ref (α 108 0)), (1, .int (Int32.ofInt p1)), (2, .int (Int32.ofInt p2)), (5, .int (Int32.ofInt y5))]) X.1.1 X.1.2.1 dL_wants_91 hl (by decide) rfl (fun ls hl => ?_)
      have c31 := hw.1
      have hw := hw.2
      refine lv_iinc (v := Int32.ofInt (y5 + 1)) (lv' := [(5, .int (Int32.ofInt (y5 + 1))), (4, .int (Int32.ofInt (y4 + (1 + x10)))), (3, .int (Int32.ofInt (if (x10 - x13) ≤ (if (if ¬ x13 = 0 then (x13 + 1) else x10) ≤ y3 then y3 else (if ¬ x13 = 0 then (x13 + 1) else x10)) then (if (if ¬ x13 = 0 then (x13 + 1) else x10) ≤ y3 then y3 else (if ¬ x13 = 0 then (x13 + 1) else x10)) else (x10 - x13)))), (8, .int (Int32.ofInt (if ¬ x13 = 0 then (x13 + 1) else x10))), (7, .int (Int32.ofInt x13)), (6, .int (Int32.ofInt x10)), (0, .ref (α 108 0)), (1, .int (Int32.ofInt p1)), (2, .int (Int32.ofInt p2))]) X.1.1 X.1.2.1 dL_wants_93 hl (k := 8) rfl (Int32.ofInt_add _ _).symm (by decide) rfl (fun ls hl => ?_)
      refine lv_goto (tgt := 8) X.1.1 X.1.2.1 dL_wants_96 (by decide) ?_
      exact ih _ _ _ _ hw c26 c30 c31 _ _ hR hS _ (lv_sub hl [6, 7, 8, 2, 1, 0] rfl)
set_option maxHeartbeats 4000000 in
set_option maxRecDepth 100000 in
theorem t_L_wants {p1 : Int} {p2 : Int} (X : CX p m c cL_wants 9 s args RL G B κ meth (some .int)) (hp1 : inR p1) (hp2 : inR p2) {M : Mem} {Qm : Int → Mem → Prop} (hw : wp_L_wants p1 p2 M Qm) (H : Heap) (locs : List Loc) (hR : Rp G e0 α κ B M H) (hS : va_S (fun q => B ≤ q) s.heap H locs) (ls : Array Slot) (hl : lv_has ls 9 [(0, .ref (α 108 0)), (1, .int (Int32.ofInt p1)), (2, .int (Int32.ofInt p2))]) : WI p l e 2 s m args below meth c G e0 α κ B Qm H locs 0 ls [] := by
  have hw : (∃ n32 : Nat, wp_L_wants_8 p1 p2 Qm n32 0 (-1) 0 M) := hw
  refine sa_const X.1 dL_wants_0 ?_
  refine lv_istore_n (lv' := [(3, .int (Int32.ofInt 0)), (0, .ref (α 108 0)), (1, .int (Int32.ofInt p1)), (2, .int (Int32.ofInt p2))]) X.1.1 X.1.2.1 dL_wants_1 rfl hl (by decide) rfl (fun ls hl => ?_)
  refine sa_const X.1 dL_wants_2 ?_
  refine lv_istore (lv' := [(4, .int (Int32.ofInt (-1))), (3, .int (Int32.ofInt 0)), (0, .ref (α 108 0)), (1, .int (Int32.ofInt p1)), (2, .int (Int32.ofInt p2))]) X.1.1 X.1.2.1 dL_wants_3 hl (by decide) rfl (fun ls hl => ?_)
  refine sa_const X.1 dL_wants_5 ?_
  refine lv_istore (lv' := [(5, .int (Int32.ofInt 0)), (4, .int (Int32.ofInt (-1))), (3, .int (Int32.ofInt 0)), (0, .ref (α 108 0)), (1, .int (Int32.ofInt p1)), (2, .int (Int32.ofInt p2))]) X.1.1 X.1.2.1 dL_wants_6 hl (by decide) rfl (fun ls hl => ?_)
  obtain ⟨n32, hw⟩ := hw
  exact t_L_wants_8 X hp1 hp2 n32 _ _ _ _ hw (inR_c (a := 0) rfl) (inR_c (a := -1) rfl) (inR_c (a := 0) rfl) _ _ hR hS _ (lv_sub hl [3, 4, 5, 2, 1, 0] rfl)
theorem m_L_wants {l : Launch} {G : Gx} {e0 : Nat} {α : Ax} {κ : Nat → Int} {B : Nat} {p1 : Int} {p2 : Int} (hκ : kOK κ) (hp1 : inR p1) (hp2 : inR p2) {M : Mem} {Qm : Int → Mem → Prop} (hw : wp_L_wants p1 p2 M Qm) : CI l yL_wants (Cond.code yL_wants cL_wants 9 (some .int)) 2 G e0 α κ B [.ref (α 108 0), .int (Int32.ofInt p1), .int (Int32.ofInt p2)] M Qm :=
  CI.mk hκ (by decide +kernel) rfl (Nat.le_of_ble_eq_true rfl) (lv := [(0, .ref (α 108 0)), (1, .int (Int32.ofInt p1)), (2, .int (Int32.ofInt p2))]) rfl (fun p e s m args below meth c ls X hR hS hl => t_L_wants X hp1 hp2 hw _ _ hR hS ls hl)
theorem cs_L_wants {cc : ByteArray} {nL : Nat} {own : String} {ret : Option FieldType} {idx pc : Nat} {p1 : Int} {p2 : Int} (X : CX p m c cc nL s args own G B κ meth ret) (hp1 : inR p1) (hp2 : inR p2) {kc : Nat} {R : Room} {cells slots : Nat} (hRr : RmOK R kc) (hcel : cells ≤ R.cells ∧ slots ≤ R.slots) (hk : 2 + 1 ≤ kc) {M : Mem} {H : Heap} {locs : List Loc} (hR : Rp G e0 α κ B M H) (hS : va_S (fun q => B ≤ q) s.heap H locs) (k1 : Cond.methodLink own idx yL_wants ∈ gw) {ls : Array Slot} (hml : ls.size = nL) {rest : List Value} (hd : decode cc pc = .ok (.invokestatic idx, 3)) (hrest : (rest.map fun v => v.category).sum ≤ 8) {Q : State → Prop} {Qm : Int → Mem → Prop} (hw : wp_L_wants p1 p2 M Qm) (kk : ∀ (r : Int) (M1 : Mem) (H1 : Heap) (locs1 : List Loc), Qm r M1 → inR r → Rp G e0 α κ B M1 H1 → va_S (fun q => B ≤ q) s.heap H1 locs1 → W p l e R s m args below meth c H1 locs1 cells slots Q (F0 m (pc + 3) ls (.int (Int32.ofInt r) :: rest))) : W p l e R s m args below meth c H locs cells slots Q (F0 m pc ls (.int (Int32.ofInt p2) :: .int (Int32.ofInt p1) :: .ref (α 108 0) :: rest)) :=
  sa_callSI 2 (n := 3) (As := [.ref (α 108 0), .int (Int32.ofInt p1), .int (Int32.ofInt p2)]) (rest := rest) X.1 X.2.1 hR hS (m_L_wants X.2.2.1 hp1 hp2 hw) k1 kw_1239 kw_37 kw_1240 ⟨by decide +kernel, by decide +kernel, by decide +kernel⟩ (rm_ok hRr hk (by decide)) rfl rfl hrest hml hd hcel kk
def wp_L_leftOf (p0 : Int) (M : Mem) (Qm : Int → Mem → Prop) : Prop := (p0 < 0 → (inR (-p0)) ∧ True) ∧ (inR (if 0 ≤ p0 then p0 else (-p0))) ∧ (inR ((if 0 ≤ p0 then (0 : Int) else 1) + (if 10 ≤ (Int.tdiv (if 0 ≤ p0 then p0 else (-p0)) 100) then (if 100 ≤ (Int.tdiv (if 0 ≤ p0 then p0 else (-p0)) 100) then (if 1000 ≤ (Int.tdiv (if 0 ≤ p0 then p0 else (-p0)) 100) then (if 10000 ≤ (Int.tdiv (if 0 ≤ p0 then p0 else (-p0)) 100) then (if 100000 ≤ (Int.tdiv (if 0 ≤ p0 then p0 else (-p0)) 100) then (6 : Int) else 5) else 4) else 3) else 2) else 1))) ∧ Qm ((if 0 ≤ p0 then (0 : Int) else 1) + (if 10 ≤ (Int.tdiv (if 0 ≤ p0 then p0 else (-p0)) 100) then (if 100 ≤ (Int.tdiv (if 0 ≤ p0 then p0 else (-p0)) 100) then (if 1000 ≤ (Int.tdiv (if 0 ≤ p0 then p0 else (-p0)) 100) then (if 10000 ≤ (Int.tdiv (if 0 ≤ p0 then p0 else (-p0)) 100) then (if 100000 ≤ (Int.tdiv (if 0 ≤ p0 then p0 else (-p0)) 100) then (6 : Int) else 5) else 4) else 3) else 2) else 1)) M
set_option maxHeartbeats 4000000 in
set_option maxRecDepth 100000 in
theorem t_L_leftOf {p0 : Int} (X : CX p m c cL_leftOf 3 s args RL G B κ meth (some .int)) (hp0 : inR p0) {M : Mem} {Qm : Int → Mem → Prop} (hw : wp_L_leftOf p0 M Qm) (H : Heap) (locs : List Loc) (hR : Rp G e0 α κ B M H) (hS : va_S (fun q => B ≤ q) s.heap H locs) (ls : Array Slot) (hl : lv_has ls 3 [(0, .int (Int32.ofInt p0))]) : WI p l e 0 s m args below meth c G e0 α κ B Qm H locs 0 ls [] := by
  have hw : (p0 < 0 → (inR (-p0)) ∧ True) ∧ (inR (if 0 ≤ p0 then p0 else (-p0))) ∧ (inR ((if 0 ≤ p0 then (0 : Int) else 1) + (if 10 ≤ (Int.tdiv (if 0 ≤ p0 then p0 else (-p0)) 100) then (if 100 ≤ (Int.tdiv (if 0 ≤ p0 then p0 else (-p0)) 100) then (if 1000 ≤ (Int.tdiv (if 0 ≤ p0 then p0 else (-p0)) 100) then (if 10000 ≤ (Int.tdiv (if 0 ≤ p0 then p0 else (-p0)) 100) then (if 100000 ≤ (Int.tdiv (if 0 ≤ p0 then p0 else (-p0)) 100) then (6 : Int) else 5) else 4) else 3) else 2) else 1))) ∧ Qm ((if 0 ≤ p0 then (0 : Int) else 1) + (if 10 ≤ (Int.tdiv (if 0 ≤ p0 then p0 else (-p0)) 100) then (if 100 ≤ (Int.tdiv (if 0 ≤ p0 then p0 else (-p0)) 100) then (if 1000 ≤ (Int.tdiv (if 0 ≤ p0 then p0 else (-p0)) 100) then (if 10000 ≤ (Int.tdiv (if 0 ≤ p0 then p0 else (-p0)) 100) then (if 100000 ≤ (Int.tdiv (if 0 ≤ p0 then p0 else (-p0)) 100) then (6 : Int) else 5) else 4) else 3) else 2) else 1)) M := hw
  refine lv_iload_n X.1.1 X.1.2.1 dL_leftOf_0 rfl (lv_at hl 0 rfl) ?_
  have r1 := inR_ite (c := 0 ≤ p0) (inR_c (a := 0) rfl) (inR_c (a := 1) rfl)
  refine cut_j (A := ∀ v2 : Int, v2 = (if 0 ≤ p0 then (0 : Int) else 1) → WI p l e 0 s m args below meth c G e0 α κ B Qm H locs 9 ls [.int (Int32.ofInt v2)]) (fun J3 => ?_) ?_
  · refine sa_if_ge (tgt := 8) X.1 hp0 dL_leftOf_1 (by decide) (fun hc => ?_) (fun hc => ?_)
    · skip
      refine sa_const X.1 dL_leftOf_8 ?_
      exact J3 (0) (if_pos (c := 0 ≤ p0) hc).symm
    · skip
      refine sa_const X.1 dL_leftOf_4 ?_
      refine lv_goto (tgt := 9) X.1.1 X.1.2.1 dL_leftOf_5 (by decide) ?_
      exact J3 (1) (if_neg (c := 0 ≤ p0) (Int.not_le.mpr hc)).symm
  intro v2 hv2
  subst hv2
  refine lv_istore_n (lv' := [(1, .int (Int32.ofInt (if 0 ≤ p0 then (0 : Int) else 1))), (0, .int (Int32.ofInt p0))]) X.1.1 X.1.2.1 dL_leftOf_9 rfl hl (by decide) rfl (fun ls hl => ?_)
  refine lv_iload_n X.1.1 X.1.2.1 dL_leftOf_10 rfl (lv_at hl 1 rfl) ?_
  have s5 := hw.1
  have hw := hw.2
  have c6 := hw.1
  have hw := hw.2
  refine cut_j (A := ∀ v7 : Int, v7 = (if 0 ≤ p0 then p0 else (-p0)) → WI p l e 0 s m args below meth c G e0 α κ B Qm H locs 20 ls [.int (Int32.ofInt v7)]) (fun J8 => ?_) ?_
  · refine sa_if_ge (tgt := 19) X.1 hp0 dL_leftOf_11 (by decide) (fun hc => ?_) (fun hc => ?_)
    · skip
      refine lv_iload_n X.1.1 X.1.2.1 dL_leftOf_19 rfl (lv_at hl 1 rfl) ?_
      exact J8 (p0) (if_pos (c := 0 ≤ p0) hc).symm
    · have hw := s5 hc
      refine lv_iload_n X.1.1 X.1.2.1 dL_leftOf_14 rfl (lv_at hl 1 rfl) ?_
      have c4 := hw.1
      have hw := hw.2
      refine sa_ineg X.1 dL_leftOf_15 ?_
      refine lv_goto (tgt := 20) X.1.1 X.1.2.1 dL_leftOf_16 (by decide) ?_
      exact J8 ((-p0)) (if_neg (c := 0 ≤ p0) (Int.not_le.mpr hc)).symm
  intro v7 hv7
  subst hv7
  refine sa_bipush X.1 dL_leftOf_20 (by decide) ?_
  have r9 := inR_tdiv c6 (inR_c (a := 100) rfl) (by decide)
  refine sa_idiv X.1 c6 (inR_c (a := 100) rfl) (Int.ne_of_gt (by decide)) dL_leftOf_22 ?_
  refine lv_istore_n (lv' := [(2, .int (Int32.ofInt (Int.tdiv (if 0 ≤ p0 then p0 else (-p0)) 100))), (1, .int (Int32.ofInt (if 0 ≤ p0 then (0 : Int) else 1))), (0, .int (Int32.ofInt p0))]) X.1.1 X.1.2.1 dL_leftOf_23 rfl hl (by decide) rfl (fun ls hl => ?_)
  refine lv_iload_n X.1.1 X.1.2.1 dL_leftOf_24 rfl (lv_at hl 1 rfl) ?_
  refine lv_iload_n X.1.1 X.1.2.1 dL_leftOf_25 rfl (lv_at hl 0 rfl) ?_
  refine sa_bipush X.1 dL_leftOf_26 (by decide) ?_
  have r18 := inR_ite (c := 10 ≤ (Int.tdiv (if 0 ≤ p0 then p0 else (-p0)) 100)) (inR_ite (c := 100 ≤ (Int.tdiv (if 0 ≤ p0 then p0 else (-p0)) 100)) (inR_ite (c := 1000 ≤ (Int.tdiv (if 0 ≤ p0 then p0 else (-p0)) 100)) (inR_ite (c := 10000 ≤ (Int.tdiv (if 0 ≤ p0 then p0 else (-p0)) 100)) (inR_ite (c := 100000 ≤ (Int.tdiv (if 0 ≤ p0 then p0 else (-p0)) 100)) (inR_c (a := 6) rfl) (inR_c (a := 5) rfl)) (inR_c (a := 4) rfl)) (inR_c (a := 3) rfl)) (inR_c (a := 2) rfl)) (inR_c (a := 1) rfl)
  refine cut_j (A := ∀ v19 : Int, v19 = (if 10 ≤ (Int.tdiv (if 0 ≤ p0 then p0 else (-p0)) 100) then (if 100 ≤ (Int.tdiv (if 0 ≤ p0 then p0 else (-p0)) 100) then (if 1000 ≤ (Int.tdiv (if 0 ≤ p0 then p0 else (-p0)) 100) then (if 10000 ≤ (Int.tdiv (if 0 ≤ p0 then p0 else (-p0)) 100) then (if 100000 ≤ (Int.tdiv (if 0 ≤ p0 then p0 else (-p0)) 100) then (6 : Int) else 5) else 4) else 3) else 2) else 1) → WI p l e 0 s m args below meth c G e0 α κ B Qm H locs 79 ls [.int (Int32.ofInt v19), .int (Int32.ofInt (if 0 ≤ p0 then (0 : Int) else 1))]) (fun J20 => ?_) ?_
  · refine sa_icmp_ge (tgt := 35) X.1 r9 (inR_c (a := 10) rfl) dL_leftOf_28 (by decide) (fun hc => ?_) (fun hc => ?_)
    · skip
      refine lv_iload_n X.1.1 X.1.2.1 dL_leftOf_35 rfl (lv_at hl 0 rfl) ?_
      refine sa_bipush X.1 dL_leftOf_36 (by decide) ?_
      refine cut_j (A := ∀ v16 : Int, v16 = (if 100 ≤ (Int.tdiv (if 0 ≤ p0 then p0 else (-p0)) 100) then (if 1000 ≤ (Int.tdiv (if 0 ≤ p0 then p0 else (-p0)) 100) then (if 10000 ≤ (Int.tdiv (if 0 ≤ p0 then p0 else (-p0)) 100) then (if 100000 ≤ (Int.tdiv (if 0 ≤ p0 then p0 else (-p0)) 100) then (6 : Int) else 5) else 4) else 3) else 2) → WI p l e 0 s m args below meth c G e0 α κ B Qm H locs 79 ls [.int (Int32.ofInt v16), .int (Int32.ofInt (if 0 ≤ p0 then (0 : Int) else 1))]) (fun J17 => ?_) ?_
      · refine sa_icmp_ge (tgt := 45) X.1 r9 (inR_c (a := 100) rfl) dL_leftOf_38 (by decide) (fun hc => ?_) (fun hc => ?_)
        · skip
          refine lv_iload_n X.1.1 X.1.2.1 dL_leftOf_45 rfl (lv_at hl 0 rfl) ?_
          refine sa_sipush X.1 dL_leftOf_46 (by decide) ?_
          refine cut_j (A := ∀ v14 : Int, v14 = (if 1000 ≤ (Int.tdiv (if 0 ≤ p0 then p0 else (-p0)) 100) then (if 10000 ≤ (Int.tdiv (if 0 ≤ p0 then p0 else (-p0)) 100) then (if 100000 ≤ (Int.tdiv (if 0 ≤ p0 then p0 else (-p0)) 100) then (6 : Int) else 5) else 4) else 3) → WI p l e 0 s m args below meth c G e0 α κ B Qm H locs 79 ls [.int (Int32.ofInt v14), .int (Int32.ofInt (if 0 ≤ p0 then (0 : Int) else 1))]) (fun J15 => ?_) ?_
          · refine sa_icmp_ge (tgt := 56) X.1 r9 (inR_c (a := 1000) rfl) dL_leftOf_49 (by decide) (fun hc => ?_) (fun hc => ?_)
            · skip
              refine lv_iload_n X.1.1 X.1.2.1 dL_leftOf_56 rfl (lv_at hl 0 rfl) ?_
              refine sa_sipush X.1 dL_leftOf_57 (by decide) ?_
              refine cut_j (A := ∀ v12 : Int, v12 = (if 10000 ≤ (Int.tdiv (if 0 ≤ p0 then p0 else (-p0)) 100) then (if 100000 ≤ (Int.tdiv (if 0 ≤ p0 then p0 else (-p0)) 100) then (6 : Int) else 5) else 4) → WI p l e 0 s m args below meth c G e0 α κ B Qm H locs 79 ls [.int (Int32.ofInt v12), .int (Int32.ofInt (if 0 ≤ p0 then (0 : Int) else 1))]) (fun J13 => ?_) ?_
              · refine sa_icmp_ge (tgt := 67) X.1 r9 (inR_c (a := 10000) rfl) dL_leftOf_60 (by decide) (fun hc => ?_) (fun hc => ?_)
                · skip
                  refine lv_iload_n X.1.1 X.1.2.1 dL_leftOf_67 rfl (lv_at hl 0 rfl) ?_
                  refine sa_ldc (n := 100000) X.1 (by decide) kw_1234 dL_leftOf_68 ?_
                  refine cut_j (A := ∀ v10 : Int, v10 = (if 100000 ≤ (Int.tdiv (if 0 ≤ p0 then p0 else (-p0)) 100) then (6 : Int) else 5) → WI p l e 0 s m args below meth c G e0 α κ B Qm H locs 79 ls [.int (Int32.ofInt v10), .int (Int32.ofInt (if 0 ≤ p0 then (0 : Int) else 1))]) (fun J11 => ?_) ?_
                  · refine sa_icmp_ge (tgt := 77) X.1 r9 (inR_c (a := 100000) rfl) dL_leftOf_70 (by decide) (fun hc => ?_) (fun hc => ?_)
                    · skip
                      refine sa_bipush X.1 dL_leftOf_77 (by decide) ?_
                      exact J11 (6) (if_pos (c := 100000 ≤ (Int.tdiv (if 0 ≤ p0 then p0 else (-p0)) 100)) hc).symm
                    · skip
                      refine sa_const X.1 dL_leftOf_73 ?_
                      refine lv_goto (tgt := 79) X.1.1 X.1.2.1 dL_leftOf_74 (by decide) ?_
                      exact J11 (5) (if_neg (c := 100000 ≤ (Int.tdiv (if 0 ≤ p0 then p0 else (-p0)) 100)) (Int.not_le.mpr hc)).symm
                  intro v10 hv10
                  subst hv10
                  exact J13 ((if 100000 ≤ (Int.tdiv (if 0 ≤ p0 then p0 else (-p0)) 100) then (6 : Int) else 5)) (if_pos (c := 10000 ≤ (Int.tdiv (if 0 ≤ p0 then p0 else (-p0)) 100)) hc).symm
                · skip
                  refine sa_const X.1 dL_leftOf_63 ?_
                  refine lv_goto (tgt := 79) X.1.1 X.1.2.1 dL_leftOf_64 (by decide) ?_
                  exact J13 (4) (if_neg (c := 10000 ≤ (Int.tdiv (if 0 ≤ p0 then p0 else (-p0)) 100)) (Int.not_le.mpr hc)).symm
              intro v12 hv12
              subst hv12
              exact J15 ((if 10000 ≤ (Int.tdiv (if 0 ≤ p0 then p0 else (-p0)) 100) then (if 100000 ≤ (Int.tdiv (if 0 ≤ p0 then p0 else (-p0)) 100) then (6 : Int) else 5) else 4)) (if_pos (c := 1000 ≤ (Int.tdiv (if 0 ≤ p0 then p0 else (-p0)) 100)) hc).symm
            · skip
              refine sa_const X.1 dL_leftOf_52 ?_
              refine lv_goto (tgt := 79) X.1.1 X.1.2.1 dL_leftOf_53 (by decide) ?_
              exact J15 (3) (if_neg (c := 1000 ≤ (Int.tdiv (if 0 ≤ p0 then p0 else (-p0)) 100)) (Int.not_le.mpr hc)).symm
          intro v14 hv14
          subst hv14
          exact J17 ((if 1000 ≤ (Int.tdiv (if 0 ≤ p0 then p0 else (-p0)) 100) then (if 10000 ≤ (Int.tdiv (if 0 ≤ p0 then p0 else (-p0)) 100) then (if 100000 ≤ (Int.tdiv (if 0 ≤ p0 then p0 else (-p0)) 100) then (6 : Int) else 5) else 4) else 3)) (if_pos (c := 100 ≤ (Int.tdiv (if 0 ≤ p0 then p0 else (-p0)) 100)) hc).symm
        · skip
          refine sa_const X.1 dL_leftOf_41 ?_
          refine lv_goto (tgt := 79) X.1.1 X.1.2.1 dL_leftOf_42 (by decide) ?_
          exact J17 (2) (if_neg (c := 100 ≤ (Int.tdiv (if 0 ≤ p0 then p0 else (-p0)) 100)) (Int.not_le.mpr hc)).symm
      intro v16 hv16
      subst hv16
      exact J20 ((if 100 ≤ (Int.tdiv (if 0 ≤ p0 then p0 else (-p0)) 100) then (if 1000 ≤ (Int.tdiv (if 0 ≤ p0 then p0 else (-p0)) 100) then (if 10000 ≤ (Int.tdiv (if 0 ≤ p0 then p0 else (-p0)) 100) then (if 100000 ≤ (Int.tdiv (if 0 ≤ p0 then p0 else (-p0)) 100) then (6 : Int) else 5) else 4) else 3) else 2)) (if_pos (c := 10 ≤ (Int.tdiv (if 0 ≤ p0 then p0 else (-p0)) 100)) hc).symm
    · skip
      refine sa_const X.1 dL_leftOf_31 ?_
      refine lv_goto (tgt := 79) X.1.1 X.1.2.1 dL_leftOf_32 (by decide) ?_
      exact J20 (1) (if_neg (c := 10 ≤ (Int.tdiv (if 0 ≤ p0 then p0 else (-p0)) 100)) (Int.not_le.mpr hc)).symm
  intro v19 hv19
  subst hv19
  have c21 := hw.1
  have hw := hw.2
  refine sa_iadd X.1 dL_leftOf_79 ?_
  exact sa_iret X.1 X.2.2.2.1 X.2.2.2.2 hR hS c21 hw dL_leftOf_80
theorem m_L_leftOf {l : Launch} {G : Gx} {e0 : Nat} {α : Ax} {κ : Nat → Int} {B : Nat} {p0 : Int} (hκ : kOK κ) (hp0 : inR p0) {M : Mem} {Qm : Int → Mem → Prop} (hw : wp_L_leftOf p0 M Qm) : CI l yL_leftOf (Cond.code yL_leftOf cL_leftOf 3 (some .int)) 0 G e0 α κ B [.int (Int32.ofInt p0)] M Qm :=
  CI.mk hκ (by decide +kernel) rfl (Nat.le_of_ble_eq_true rfl) (lv := [(0, .int (Int32.ofInt p0))]) rfl (fun p e s m args below meth c ls X hR hS hl => t_L_leftOf X hp0 hw _ _ hR hS ls hl)
theorem cs_L_leftOf {cc : ByteArray} {nL : Nat} {own : String} {ret : Option FieldType} {idx pc : Nat} {p0 : Int} (X : CX p m c cc nL s args own G B κ meth ret) (hp0 : inR p0) {kc : Nat} {R : Room} {cells slots : Nat} (hRr : RmOK R kc) (hcel : cells ≤ R.cells ∧ slots ≤ R.slots) (hk : 0 + 1 ≤ kc) {M : Mem} {H : Heap} {locs : List Loc} (hR : Rp G e0 α κ B M H) (hS : va_S (fun q => B ≤ q) s.heap H locs) (k1 : Cond.methodLink own idx yL_leftOf ∈ gw) {ls : Array Slot} (hml : ls.size = nL) {rest : List Value} (hd : decode cc pc = .ok (.invokestatic idx, 3)) (hrest : (rest.map fun v => v.category).sum ≤ 8) {Q : State → Prop} {Qm : Int → Mem → Prop} (hw : wp_L_leftOf p0 M Qm) (kk : ∀ (r : Int) (M1 : Mem) (H1 : Heap) (locs1 : List Loc), Qm r M1 → inR r → Rp G e0 α κ B M1 H1 → va_S (fun q => B ≤ q) s.heap H1 locs1 → W p l e R s m args below meth c H1 locs1 cells slots Q (F0 m (pc + 3) ls (.int (Int32.ofInt r) :: rest))) : W p l e R s m args below meth c H locs cells slots Q (F0 m pc ls (.int (Int32.ofInt p0) :: rest)) :=
  sa_callSI 0 (n := 1) (As := [.int (Int32.ofInt p0)]) (rest := rest) X.1 X.2.1 hR hS (m_L_leftOf X.2.2.1 hp0 hw) k1 kw_1232 kw_37 kw_1233 ⟨by decide +kernel, by decide +kernel, by decide +kernel⟩ (rm_ok hRr hk (by decide)) rfl rfl hrest hml hd hcel kk
def wp_L_figures_272 (p6 : Int) (Qm : Mem → Prop) (y9 : Int) (y10 : Int) (M : Mem) : Prop := (inR (12 + p6)) ∧ (0 ≤ (12 + p6) ∧ (12 + p6) < 30) ∧ ∀ M4 : Mem, M4 = up M 113 0 (12 + p6) y9 → (inR (16 + p6)) ∧ (0 ≤ (16 + p6) ∧ (16 + p6) < 30) ∧ ∀ M8 : Mem, M8 = up M4 113 0 (16 + p6) y10 → Qm M8
def wp_L_figures_270 (p6 : Int) (Qm : Mem → Prop) (y10 : Int) (z0 : Int) (M : Mem) : Prop := wp_L_figures_272 p6 Qm z0 y10 M
def wp_L_figures_248 (p6 : Int) (Qm : Mem → Prop) (y8 : Int) (y10 : Int) (z0 : Int) (M : Mem) : Prop := wp_L_leftOf y8 M fun (x18 : Int) (M17 : Mem) => ((x18 ≤ z0 → wp_L_figures_270 p6 Qm y10 z0 M17) ∧ (z0 < x18 → wp_L_leftOf y8 M17 fun (x21 : Int) (M20 : Mem) => wp_L_figures_270 p6 Qm y10 x21 M20))
def wp_L_figures_205 (p6 : Int) (Qm : Mem → Prop) (K15 : Int → Int → Int → Int → Int → Mem → Prop) (y7 : Int) (y8 : Int) (y9 : Int) (y10 : Int) (y11 : Int) (M : Mem) : Prop := (inR (y11 + 1)) ∧ K15 y7 y8 y9 y10 (y11 + 1) M
def wp_L_figures_15 (p6 : Int) (Qm : Mem → Prop) : Nat → Int → Int → Int → Int → Int → Mem → Prop
  | 0 => fun _ _ _ _ _ _ => False
  | n + 1 => fun y7 y8 y9 y10 y11 M => (((M 112 0 2) ≤ y11 → ((y9 ≤ 0 → wp_L_figures_272 p6 Qm y9 y10 M) ∧ (0 < y9 → (inR (4 * p6)) ∧ (inR ((4 * p6) + 2)) ∧ (0 ≤ ((4 * p6) + 2) ∧ ((4 * p6) + 2) < 16) ∧ ((¬ (M 104 0 ((4 * p6) + 2)) = 1 → wp_L_figures_272 p6 Qm y9 y10 M) ∧ ((M 104 0 ((4 * p6) + 2)) = 1 → wp_L_leftOf y7 M fun (x15 : Int) (M14 : Mem) => ((x15 ≤ y9 → wp_L_figures_248 p6 Qm y8 y10 y9 M14) ∧ (y9 < x15 → wp_L_leftOf y7 M14 fun (x24 : Int) (M23 : Mem) => wp_L_figures_248 p6 Qm y8 y10 x24 M23))))))) ∧ (y11 < (M 112 0 2) → (inR (6 * y11)) ∧ (inR ((6 * y11) + 1)) ∧ (0 ≤ ((6 * y11) + 1) ∧ ((6 * y11) + 1) < 60) ∧ ((¬ (M 107 0 ((6 * y11) + 1)) = p6 → wp_L_figures_205 p6 Qm (wp_L_figures_15 p6 Qm n) y7 y8 y9 y10 y11 M) ∧ ((M 107 0 ((6 * y11) + 1)) = p6 → (inR (6 * y11)) ∧ (inR ((6 * y11) + 5)) ∧ (0 ≤ ((6 * y11) + 5) ∧ ((6 * y11) + 5) < 60) ∧ (((M 107 0 ((6 * y11) + 5)) < 0 → wp_L_figures_205 p6 Qm (wp_L_figures_15 p6 Qm n) y7 y8 y9 y10 y11 M) ∧ (0 ≤ (M 107 0 ((6 * y11) + 5)) → (inR (4 * p6)) ∧ (inR ((4 * p6) + 3)) ∧ (0 ≤ ((4 * p6) + 3) ∧ ((4 * p6) + 3) < 16) ∧ ((¬ (M 104 0 ((4 * p6) + 3)) = 0 → wp_L_figures_205 p6 Qm (wp_L_figures_15 p6 Qm n) y7 y8 y9 y10 y11 M) ∧ ((M 104 0 ((4 * p6) + 3)) = 0 → (0 ≤ y11 ∧ y11 < 10) ∧ wp_L_leftOf (M 109 0 y11) M fun (x42 : Int) (M41 : Mem) => (inR (6 * y11)) ∧ (inR ((6 * y11) + 5)) ∧ (0 ≤ ((6 * y11) + 5) ∧ ((6 * y11) + 5) < 60) ∧ (¬ (M41 107 0 ((6 * y11) + 5)) = 0 → (inR (6 * y11)) ∧ (inR ((6 * y11) + 5)) ∧ (0 ≤ ((6 * y11) + 5) ∧ ((6 * y11) + 5) < 60) ∧ (inR ((M41 107 0 ((6 * y11) + 5)) + 1)) ∧ True) ∧ (inR (if ¬ (M41 107 0 ((6 * y11) + 5)) = 0 then ((M41 107 0 ((6 * y11) + 5)) + 1) else 0)) ∧ (inR (6 * y11)) ∧ (inR ((6 * y11) + 4)) ∧ (0 ≤ ((6 * y11) + 4) ∧ ((6 * y11) + 4) < 60) ∧ (inR ((if ¬ (M41 107 0 ((6 * y11) + 5)) = 0 then ((M41 107 0 ((6 * y11) + 5)) + 1) else 0) + (if (M41 107 0 ((6 * y11) + 4)) ≤ 0 then (0 : Int) else 1))) ∧ (inR (6 * y11)) ∧ (0 ≤ (6 * y11) ∧ (6 * y11) < 60) ∧ (inR (3 * (M41 107 0 (6 * y11)))) ∧ (0 ≤ (3 * (M41 107 0 (6 * y11))) ∧ (3 * (M41 107 0 (6 * y11))) < 30) ∧ ((¬ (M41 105 0 (3 * (M41 107 0 (6 * y11)))) = 1 → wp_L_figures_205 p6 Qm (wp_L_figures_15 p6 Qm n) y7 y8 (if x42 ≤ y9 then y9 else x42) (if ((if ¬ (M41 107 0 ((6 * y11) + 5)) = 0 then ((M41 107 0 ((6 * y11) + 5)) + 1) else 0) + (if (M41 107 0 ((6 * y11) + 4)) ≤ 0 then (0 : Int) else 1)) ≤ y10 then y10 else ((if ¬ (M41 107 0 ((6 * y11) + 5)) = 0 then ((M41 107 0 ((6 * y11) + 5)) + 1) else 0) + (if (M41 107 0 ((6 * y11) + 4)) ≤ 0 then (0 : Int) else 1))) y11 M41) ∧ ((M41 105 0 (3 * (M41 107 0 (6 * y11)))) = 1 → (0 ≤ y11 ∧ y11 < 10) ∧ (0 < (M41 109 0 y11) → (0 ≤ y11 ∧ y11 < 10) ∧ True) ∧ (inR (y7 + (if (M41 109 0 y11) ≤ 0 then (0 : Int) else (M41 109 0 y11)))) ∧ (0 ≤ y11 ∧ y11 < 10) ∧ ((M41 109 0 y11) < 0 → (0 ≤ y11 ∧ y11 < 10) ∧ (inR (-(M41 109 0 y11))) ∧ True) ∧ (inR (if 0 ≤ (M41 109 0 y11) then (0 : Int) else (-(M41 109 0 y11)))) ∧ (inR (y8 - (if 0 ≤ (M41 109 0 y11) then (0 : Int) else (-(M41 109 0 y11))))) ∧ wp_L_figures_205 p6 Qm (wp_L_figures_15 p6 Qm n) (y7 + (if (M41 109 0 y11) ≤ 0 then (0 : Int) else (M41 109 0 y11))) (y8 - (if 0 ≤ (M41 109 0 y11) then (0 : Int) else (-(M41 109 0 y11)))) (if x42 ≤ y9 then y9 else x42) (if ((if ¬ (M41 107 0 ((6 * y11) + 5)) = 0 then ((M41 107 0 ((6 * y11) + 5)) + 1) else 0) + (if (M41 107 0 ((6 * y11) + 4)) ≤ 0 then (0 : Int) else 1)) ≤ y10 then y10 else ((if ¬ (M41 107 0 ((6 * y11) + 5)) = 0 then ((M41 107 0 ((6 * y11) + 5)) + 1) else 0) + (if (M41 107 0 ((6 * y11) + 4)) ≤ 0 then (0 : Int) else 1))) y11 M41))))))))))
def wp_L_figures (p6 : Int) (M : Mem) (Qm : Mem → Prop) : Prop := (∃ n93 : Nat, wp_L_figures_15 p6 Qm n93 0 0 0 0 0 M)
set_option maxHeartbeats 4000000 in
set_option maxRecDepth 100000 in
theorem t_L_figures_272 {p6 : Int} (X : CX p m c cL_figures 14 s args RL G B κ meth none) (hp6 : inR p6) {Qm : Mem → Prop} : ∀ y9 : Int, ∀ y10 : Int, ∀ M : Mem, wp_L_figures_272 p6 Qm y9 y10 M → inR y9 → inR y10 → ∀ (H : Heap) (locs : List Loc), Rp G e0 α κ B M H → va_S (fun q => B ≤ q) s.heap H locs → ∀ (ls : Array Slot), lv_has ls 14 [(5, .ref (α 113 0)), (6, .int (Int32.ofInt p6)), (9, .int (Int32.ofInt y9)), (10, .int (Int32.ofInt y10))] → WV p l e 1 s m args below meth c G e0 α κ B Qm H locs 272 ls [] := by
  intro y9 y10 M hw hy9 hy10 H locs hR hS ls hl
  have hw : (inR (12 + p6)) ∧ (0 ≤ (12 + p6) ∧ (12 + p6) < 30) ∧ ∀ M4 : Mem, M4 = up M 113 0 (12 + p6) y9 → (inR (16 + p6)) ∧ (0 ≤ (16 + p6) ∧ (16 + p6) < 30) ∧ ∀ M8 : Mem, M8 = up M4 113 0 (16 + p6) y10 → Qm M8 := hw
  refine lv_aload X.1.1 X.1.2.1 dL_figures_272 (lv_at hl 0 rfl) ?_
  refine sa_bipush X.1 dL_figures_274 (by decide) ?_
  refine lv_iload X.1.1 X.1.2.1 dL_figures_276 (lv_at hl 1 rfl) ?_
  have c2 := hw.1
  have hw := hw.2
  refine sa_iadd X.1 dL_figures_278 ?_
  refine lv_iload X.1.1 X.1.2.1 dL_figures_279 (lv_at hl 2 rfl) ?_
  have c3 := hw.1
  have hw := hw.2
  refine wa_113 X hR hS (okf X.2.2.1 rfl) c3 hy9 dL_figures_281 (fun H locs hR hS => ?_)
  obtain ⟨M4, e5⟩ : ∃ z : Mem, z = up M 113 0 (12 + p6) y9 := ⟨_, rfl⟩
  rw [← e5] at hR
  have hw := hw M4 e5
  refine lv_aload X.1.1 X.1.2.1 dL_figures_282 (lv_at hl 0 rfl) ?_
  refine sa_bipush X.1 dL_figures_284 (by decide) ?_
  refine lv_iload X.1.1 X.1.2.1 dL_figures_286 (lv_at hl 1 rfl) ?_
  have c6 := hw.1
  have hw := hw.2
  refine sa_iadd X.1 dL_figures_288 ?_
  refine lv_iload X.1.1 X.1.2.1 dL_figures_289 (lv_at hl 3 rfl) ?_
  have c7 := hw.1
  have hw := hw.2
  refine wa_113 X hR hS (okf X.2.2.1 rfl) c7 hy10 dL_figures_291 (fun H locs hR hS => ?_)
  obtain ⟨M8, e9⟩ : ∃ z : Mem, z = up M4 113 0 (16 + p6) y10 := ⟨_, rfl⟩
  rw [← e9] at hR
  have hw := hw M8 e9
  exact sa_vret X.1 X.2.2.2.1 X.2.2.2.2 hR hS hw dL_figures_292
set_option maxHeartbeats 4000000 in
set_option maxRecDepth 100000 in
theorem t_L_figures_270 {p6 : Int} (X : CX p m c cL_figures 14 s args RL G B κ meth none) (hp6 : inR p6) {Qm : Mem → Prop} : ∀ y10 : Int, ∀ z0 : Int, ∀ M : Mem, wp_L_figures_270 p6 Qm y10 z0 M → inR y10 → inR z0 → ∀ (H : Heap) (locs : List Loc), Rp G e0 α κ B M H → va_S (fun q => B ≤ q) s.heap H locs → ∀ (ls : Array Slot), lv_has ls 14 [(5, .ref (α 113 0)), (6, .int (Int32.ofInt p6)), (10, .int (Int32.ofInt y10))] → WV p l e 1 s m args below meth c G e0 α κ B Qm H locs 270 ls [.int (Int32.ofInt z0)] := by
  intro y10 z0 M hw hy10 hz0 H locs hR hS ls hl
  have hw : wp_L_figures_272 p6 Qm z0 y10 M := hw
  refine lv_istore (lv' := [(9, .int (Int32.ofInt z0)), (5, .ref (α 113 0)), (6, .int (Int32.ofInt p6)), (10, .int (Int32.ofInt y10))]) X.1.1 X.1.2.1 dL_figures_270 hl (by decide) rfl (fun ls hl => ?_)
  exact t_L_figures_272 X hp6 _ _ _ hw hz0 hy10 _ _ hR hS _ (lv_sub hl [1, 2, 0, 3] rfl)
set_option maxHeartbeats 4000000 in
set_option maxRecDepth 100000 in
theorem t_L_figures_248 {p6 : Int} (X : CX p m c cL_figures 14 s args RL G B κ meth none) (hp6 : inR p6) {Qm : Mem → Prop} : ∀ y8 : Int, ∀ y10 : Int, ∀ z0 : Int, ∀ M : Mem, wp_L_figures_248 p6 Qm y8 y10 z0 M → inR y8 → inR y10 → inR z0 → ∀ (H : Heap) (locs : List Loc), Rp G e0 α κ B M H → va_S (fun q => B ≤ q) s.heap H locs → ∀ (ls : Array Slot), lv_has ls 14 [(5, .ref (α 113 0)), (6, .int (Int32.ofInt p6)), (8, .int (Int32.ofInt y8)), (10, .int (Int32.ofInt y10))] → WV p l e 1 s m args below meth c G e0 α κ B Qm H locs 248 ls [.int (Int32.ofInt z0)] := by
  intro y8 y10 z0 M hw hy8 hy10 hz0 H locs hR hS ls hl
  have hw : wp_L_leftOf y8 M fun (x18 : Int) (M17 : Mem) => ((x18 ≤ z0 → wp_L_figures_270 p6 Qm y10 z0 M17) ∧ (z0 < x18 → wp_L_leftOf y8 M17 fun (x21 : Int) (M20 : Mem) => wp_L_figures_270 p6 Qm y10 x21 M20)) := hw
  refine lv_istore (lv' := [(9, .int (Int32.ofInt z0)), (5, .ref (α 113 0)), (6, .int (Int32.ofInt p6)), (8, .int (Int32.ofInt y8)), (10, .int (Int32.ofInt y10))]) X.1.1 X.1.2.1 dL_figures_248 hl (by decide) rfl (fun ls hl => ?_)
  refine lv_iload X.1.1 X.1.2.1 dL_figures_250 (lv_at hl 3 rfl) ?_
  refine cs_L_leftOf X hy8 (kc := 1) rmL_ok rm_c (by decide) hR hS kw_1231 hl.1 dL_figures_252 (Nat.le_of_ble_eq_true rfl) hw (fun x18 M17 H locs hw r19 hR hS => ?_)
  refine lv_iload X.1.1 X.1.2.1 dL_figures_255 (lv_at hl 0 rfl) ?_
  refine sa_icmp_le (tgt := 268) X.1 r19 hz0 dL_figures_257 (by decide) (fun hc => ?_) (fun hc => ?_)
  · have hw := hw.1 hc
    refine lv_iload X.1.1 X.1.2.1 dL_figures_268 (lv_at hl 0 rfl) ?_
    exact t_L_figures_270 X hp6 _ _ _ hw hy10 hz0 _ _ hR hS _ (lv_sub hl [1, 2, 4] rfl)
  · have hw := hw.2 hc
    refine lv_iload X.1.1 X.1.2.1 dL_figures_260 (lv_at hl 3 rfl) ?_
    refine cs_L_leftOf X hy8 (kc := 1) rmL_ok rm_c (by decide) hR hS kw_1231 hl.1 dL_figures_262 (Nat.le_of_ble_eq_true rfl) hw (fun x21 M20 H locs hw r22 hR hS => ?_)
    refine lv_goto (tgt := 270) X.1.1 X.1.2.1 dL_figures_265 (by decide) ?_
    exact t_L_figures_270 X hp6 _ _ _ hw hy10 r22 _ _ hR hS _ (lv_sub hl [1, 2, 4] rfl)
set_option maxHeartbeats 4000000 in
set_option maxRecDepth 100000 in
theorem t_L_figures_205 {p6 : Int} (X : CX p m c cL_figures 14 s args RL G B κ meth none) (hp6 : inR p6) {Qm : Mem → Prop} {K15 : Int → Int → Int → Int → Int → Mem → Prop} (hK15 : ∀ y7 : Int, ∀ y8 : Int, ∀ y9 : Int, ∀ y10 : Int, ∀ y11 : Int, ∀ M : Mem, K15 y7 y8 y9 y10 y11 M → inR y7 → inR y8 → inR y9 → inR y10 → inR y11 → ∀ (H : Heap) (locs : List Loc), Rp G e0 α κ B M H → va_S (fun q => B ≤ q) s.heap H locs → ∀ (ls : Array Slot), lv_has ls 14 [(0, .ref (α 104 0)), (1, .ref (α 105 0)), (2, .ref (α 107 0)), (3, .ref (α 109 0)), (4, .ref (α 112 0)), (5, .ref (α 113 0)), (6, .int (Int32.ofInt p6)), (7, .int (Int32.ofInt y7)), (8, .int (Int32.ofInt y8)), (9, .int (Int32.ofInt y9)), (10, .int (Int32.ofInt y10)), (11, .int (Int32.ofInt y11))] → WV p l e 1 s m args below meth c G e0 α κ B Qm H locs 15 ls []) : ∀ y7 : Int, ∀ y8 : Int, ∀ y9 : Int, ∀ y10 : Int, ∀ y11 : Int, ∀ M : Mem, wp_L_figures_205 p6 Qm K15 y7 y8 y9 y10 y11 M → inR y7 → inR y8 → inR y9 → inR y10 → inR y11 → ∀ (H : Heap) (locs : List Loc), Rp G e0 α κ B M H → va_S (fun q => B ≤ q) s.heap H locs → ∀ (ls : Array Slot), lv_has ls 14 [(0, .ref (α 104 0)), (1, .ref (α 105 0)), (2, .ref (α 107 0)), (3, .ref (α 109 0)), (4, .ref (α 112 0)), (5, .ref (α 113 0)), (6, .int (Int32.ofInt p6)), (7, .int (Int32.ofInt y7)), (8, .int (Int32.ofInt y8)), (9, .int (Int32.ofInt y9)), (10, .int (Int32.ofInt y10)), (11, .int (Int32.ofInt y11))] → WV p l e 1 s m args below meth c G e0 α κ B Qm H locs 205 ls [] := by
  intro y7 y8 y9 y10 y11 M hw hy7 hy8 hy9 hy10 hy11 H locs hR hS ls hl
  have hw : (inR (y11 + 1)) ∧ K15 y7 y8 y9 y10 (y11 + 1) M := hw
  have c30 := hw.1
  have hw := hw.2
  refine lv_iinc (v := Int32.ofInt (y11 + 1)) (lv' := [(11, .int (Int32.ofInt (y11 + 1))), (0, .ref (α 104 0)), (1, .ref (α 105 0)), (2, .ref (α 107 0)), (3, .ref (α 109 0)), (4, .ref (α 112 0)), (5, .ref (α 113 0)), (6, .int (Int32.ofInt p6)), (7, .int (Int32.ofInt y7)), (8, .int (Int32.ofInt y8)), (9, .int (Int32.ofInt y9)), (10, .int (Int32.ofInt y10))]) X.1.1 X.1.2.1 dL_figures_205 hl (k := 11) rfl (Int32.ofInt_add _ _).symm (by decide) rfl (fun ls hl => ?_)
  refine lv_goto (tgt := 15) X.1.1 X.1.2.1 dL_figures_208 (by decide) ?_
  exact hK15 _ _ _ _ _ _ hw hy7 hy8 hy9 hy10 c30 _ _ hR hS _ (lv_sub hl [1, 2, 3, 4, 5, 6, 7, 8, 9, 10, 11, 0] rfl)
set_option maxHeartbeats 4000000 in
set_option maxRecDepth 100000 in
theorem t_L_figures_15 {p6 : Int} (X : CX p m c cL_figures 14 s args RL G B κ meth none) (hp6 : inR p6) {Qm : Mem → Prop} : ∀ n : Nat, ∀ y7 : Int, ∀ y8 : Int, ∀ y9 : Int, ∀ y10 : Int, ∀ y11 : Int, ∀ M : Mem, wp_L_figures_15 p6 Qm n y7 y8 y9 y10 y11 M → inR y7 → inR y8 → inR y9 → inR y10 → inR y11 → ∀ (H : Heap) (locs : List Loc), Rp G e0 α κ B M H → va_S (fun q => B ≤ q) s.heap H locs → ∀ (ls : Array Slot), lv_has ls 14 [(0, .ref (α 104 0)), (1, .ref (α 105 0)), (2, .ref (α 107 0)), (3, .ref (α 109 0)), (4, .ref (α 112 0)), (5, .ref (α 113 0)), (6, .int (Int32.ofInt p6)), (7, .int (Int32.ofInt y7)), (8, .int (Int32.ofInt y8)), (9, .int (Int32.ofInt y9)), (10, .int (Int32.ofInt y10)), (11, .int (Int32.ofInt y11))] → WV p l e 1 s m args below meth c G e0 α κ B Qm H locs 15 ls [] := by
  intro n
  induction n with
  | zero =>
    intro y7 y8 y9 y10 y11 M hw hy7 hy8 hy9 hy10 hy11 H locs hR hS ls hl
    exact hw.elim
  | succ n ih =>
    intro y7 y8 y9 y10 y11 M hw hy7 hy8 hy9 hy10 hy11 H locs hR hS ls hl
    have hw : (((M 112 0 2) ≤ y11 → ((y9 ≤ 0 → wp_L_figures_272 p6 Qm y9 y10 M) ∧ (0 < y9 → (inR (4 * p6)) ∧ (inR ((4 * p6) + 2)) ∧ (0 ≤ ((4 * p6) + 2) ∧ ((4 * p6) + 2) < 16) ∧ ((¬ (M 104 0 ((4 * p6) + 2)) = 1 → wp_L_figures_272 p6 Qm y9 y10 M) ∧ ((M 104 0 ((4 * p6) + 2)) = 1 → wp_L_leftOf y7 M fun (x15 : Int) (M14 : Mem) => ((x15 ≤ y9 → wp_L_figures_248 p6 Qm y8 y10 y9 M14) ∧ (y9 < x15 → wp_L_leftOf y7 M14 fun (x24 : Int) (M23 : Mem) => wp_L_figures_248 p6 Qm y8 y10 x24 M23))))))) ∧ (y11 < (M 112 0 2) → (inR (6 * y11)) ∧ (inR ((6 * y11) + 1)) ∧ (0 ≤ ((6 * y11) + 1) ∧ ((6 * y11) + 1) < 60) ∧ ((¬ (M 107 0 ((6 * y11) + 1)) = p6 → wp_L_figures_205 p6 Qm (wp_L_figures_15 p6 Qm n) y7 y8 y9 y10 y11 M) ∧ ((M 107 0 ((6 * y11) + 1)) = p6 → (inR (6 * y11)) ∧ (inR ((6 * y11) + 5)) ∧ (0 ≤ ((6 * y11) + 5) ∧ ((6 * y11) + 5) < 60) ∧ (((M 107 0 ((6 * y11) + 5)) < 0 → wp_L_figures_205 p6 Qm (wp_L_figures_15 p6 Qm n) y7 y8 y9 y10 y11 M) ∧ (0 ≤ (M 107 0 ((6 * y11) + 5)) → (inR (4 * p6)) ∧ (inR ((4 * p6) + 3)) ∧ (0 ≤ ((4 * p6) + 3) ∧ ((4 * p6) + 3) < 16) ∧ ((¬ (M 104 0 ((4 * p6) + 3)) = 0 → wp_L_figures_205 p6 Qm (wp_L_figures_15 p6 Qm n) y7 y8 y9 y10 y11 M) ∧ ((M 104 0 ((4 * p6) + 3)) = 0 → (0 ≤ y11 ∧ y11 < 10) ∧ wp_L_leftOf (M 109 0 y11) M fun (x42 : Int) (M41 : Mem) => (inR (6 * y11)) ∧ (inR ((6 * y11) + 5)) ∧ (0 ≤ ((6 * y11) + 5) ∧ ((6 * y11) + 5) < 60) ∧ (¬ (M41 107 0 ((6 * y11) + 5)) = 0 → (inR (6 * y11)) ∧ (inR ((6 * y11) + 5)) ∧ (0 ≤ ((6 * y11) + 5) ∧ ((6 * y11) + 5) < 60) ∧ (inR ((M41 107 0 ((6 * y11) + 5)) + 1)) ∧ True) ∧ (inR (if ¬ (M41 107 0 ((6 * y11) + 5)) = 0 then ((M41 107 0 ((6 * y11) + 5)) + 1) else 0)) ∧ (inR (6 * y11)) ∧ (inR ((6 * y11) + 4)) ∧ (0 ≤ ((6 * y11) + 4) ∧ ((6 * y11) + 4) < 60) ∧ (inR ((if ¬ (M41 107 0 ((6 * y11) + 5)) = 0 then ((M41 107 0 ((6 * y11) + 5)) + 1) else 0) + (if (M41 107 0 ((6 * y11) + 4)) ≤ 0 then (0 : Int) else 1))) ∧ (inR (6 * y11)) ∧ (0 ≤ (6 * y11) ∧ (6 * y11) < 60) ∧ (inR (3 * (M41 107 0 (6 * y11)))) ∧ (0 ≤ (3 * (M41 107 0 (6 * y11))) ∧ (3 * (M41 107 0 (6 * y11))) < 30) ∧ ((¬ (M41 105 0 (3 * (M41 107 0 (6 * y11)))) = 1 → wp_L_figures_205 p6 Qm (wp_L_figures_15 p6 Qm n) y7 y8 (if x42 ≤ y9 then y9 else x42) (if ((if ¬ (M41 107 0 ((6 * y11) + 5)) = 0 then ((M41 107 0 ((6 * y11) + 5)) + 1) else 0) + (if (M41 107 0 ((6 * y11) + 4)) ≤ 0 then (0 : Int) else 1)) ≤ y10 then y10 else ((if ¬ (M41 107 0 ((6 * y11) + 5)) = 0 then ((M41 107 0 ((6 * y11) + 5)) + 1) else 0) + (if (M41 107 0 ((6 * y11) + 4)) ≤ 0 then (0 : Int) else 1))) y11 M41) ∧ ((M41 105 0 (3 * (M41 107 0 (6 * y11)))) = 1 → (0 ≤ y11 ∧ y11 < 10) ∧ (0 < (M41 109 0 y11) → (0 ≤ y11 ∧ y11 < 10) ∧ True) ∧ (inR (y7 + (if (M41 109 0 y11) ≤ 0 then (0 : Int) else (M41 109 0 y11)))) ∧ (0 ≤ y11 ∧ y11 < 10) ∧ ((M41 109 0 y11) < 0 → (0 ≤ y11 ∧ y11 < 10) ∧ (inR (-(M41 109 0 y11))) ∧ True) ∧ (inR (if 0 ≤ (M41 109 0 y11) then (0 : Int) else (-(M41 109 0 y11)))) ∧ (inR (y8 - (if 0 ≤ (M41 109 0 y11) then (0 : Int) else (-(M41 109 0 y11))))) ∧ wp_L_figures_205 p6 Qm (wp_L_figures_15 p6 Qm n) (y7 + (if (M41 109 0 y11) ≤ 0 then (0 : Int) else (M41 109 0 y11))) (y8 - (if 0 ≤ (M41 109 0 y11) then (0 : Int) else (-(M41 109 0 y11)))) (if x42 ≤ y9 then y9 else x42) (if ((if ¬ (M41 107 0 ((6 * y11) + 5)) = 0 then ((M41 107 0 ((6 * y11) + 5)) + 1) else 0) + (if (M41 107 0 ((6 * y11) + 4)) ≤ 0 then (0 : Int) else 1)) ≤ y10 then y10 else ((if ¬ (M41 107 0 ((6 * y11) + 5)) = 0 then ((M41 107 0 ((6 * y11) + 5)) + 1) else 0) + (if (M41 107 0 ((6 * y11) + 4)) ≤ 0 then (0 : Int) else 1))) y11 M41)))))))))) := hw
    refine lv_iload X.1.1 X.1.2.1 dL_figures_15 (lv_at hl 11 rfl) ?_
    refine lv_aload X.1.1 X.1.2.1 dL_figures_17 (lv_at hl 4 rfl) ?_
    refine sa_const X.1 dL_figures_19 ?_
    refine ra_112 X hR (okf X.2.2.1 rfl) ⟨by decide, by decide⟩ dL_figures_20 ?_
    have r1 := hR.r 112 0 2
    refine sa_icmp_ge (tgt := 211) X.1 hy11 r1 dL_figures_21 (by decide) (fun hc => ?_) (fun hc => ?_)
    · have hw := hw.1 hc
      refine lv_iload X.1.1 X.1.2.1 dL_figures_211 (lv_at hl 9 rfl) ?_
      refine sa_if_le (tgt := 272) X.1 hy9 dL_figures_213 (by decide) (fun hc => ?_) (fun hc => ?_)
      · have hw := hw.1 hc
        exact t_L_figures_272 X hp6 _ _ _ hw hy9 hy10 _ _ hR hS _ (lv_sub hl [5, 6, 9, 10] rfl)
      · have hw := hw.2 hc
        refine lv_aload_n X.1.1 X.1.2.1 dL_figures_216 rfl (lv_at hl 0 rfl) ?_
        refine sa_const X.1 dL_figures_217 ?_
        refine lv_iload X.1.1 X.1.2.1 dL_figures_218 (lv_at hl 6 rfl) ?_
        have c10 := hw.1
        have hw := hw.2
        refine sa_imul X.1 dL_figures_220 ?_
        refine sa_const X.1 dL_figures_221 ?_
        have c11 := hw.1
        have hw := hw.2
        refine sa_iadd X.1 dL_figures_222 ?_
        have c12 := hw.1
        have hw := hw.2
        refine ra_104 X hR (okf X.2.2.1 rfl) c12 dL_figures_223 ?_
        have r13 := hR.r 104 0 ((4 * p6) + 2)
        refine sa_const X.1 dL_figures_224 ?_
        refine sa_icmp_ne (tgt := 272) X.1 r13 (inR_c (a := 1) rfl) dL_figures_225 (by decide) (fun hc => ?_) (fun hc => ?_)
        · have hw := hw.1 hc
          exact t_L_figures_272 X hp6 _ _ _ hw hy9 hy10 _ _ hR hS _ (lv_sub hl [5, 6, 9, 10] rfl)
        · have hw := hw.2 hc
          refine lv_iload X.1.1 X.1.2.1 dL_figures_228 (lv_at hl 7 rfl) ?_
          refine cs_L_leftOf X hy7 (kc := 1) rmL_ok rm_c (by decide) hR hS kw_1231 hl.1 dL_figures_230 (Nat.le_of_ble_eq_true rfl) hw (fun x15 M14 H locs hw r16 hR hS => ?_)
          refine lv_iload X.1.1 X.1.2.1 dL_figures_233 (lv_at hl 9 rfl) ?_
          refine sa_icmp_le (tgt := 246) X.1 r16 hy9 dL_figures_235 (by decide) (fun hc => ?_) (fun hc => ?_)
          · have hw := hw.1 hc
            refine lv_iload X.1.1 X.1.2.1 dL_figures_246 (lv_at hl 9 rfl) ?_
            exact t_L_figures_248 X hp6 _ _ _ _ hw hy8 hy10 hy9 _ _ hR hS _ (lv_sub hl [5, 6, 8, 10] rfl)
          · have hw := hw.2 hc
            refine lv_iload X.1.1 X.1.2.1 dL_figures_238 (lv_at hl 7 rfl) ?_
            refine cs_L_leftOf X hy7 (kc := 1) rmL_ok rm_c (by decide) hR hS kw_1231 hl.1 dL_figures_240 (Nat.le_of_ble_eq_true rfl) hw (fun x24 M23 H locs hw r25 hR hS => ?_)
            refine lv_goto (tgt := 248) X.1.1 X.1.2.1 dL_figures_243 (by decide) ?_
            exact t_L_figures_248 X hp6 _ _ _ _ hw hy8 hy10 r25 _ _ hR hS _ (lv_sub hl [5, 6, 8, 10] rfl)
    · have hw := hw.2 hc
      refine lv_aload_n X.1.1 X.1.2.1 dL_figures_24 rfl (lv_at hl 2 rfl) ?_
      refine sa_bipush X.1 dL_figures_25 (by decide) ?_
      refine lv_iload X.1.1 X.1.2.1 dL_figures_27 (lv_at hl 11 rfl) ?_
      have c26 := hw.1
      have hw := hw.2
      refine sa_imul X.1 dL_figures_29 ?_
      refine sa_const X.1 dL_figures_30 ?_
      have c27 := hw.1
      have hw := hw.2
      refine sa_iadd X.1 dL_figures_31 ?_
      have c28 := hw.1
      have hw := hw.2
      refine ra_107 X hR (okf X.2.2.1 rfl) c28 dL_figures_32 ?_
      have r29 := hR.r 107 0 ((6 * y11) + 1)
      refine lv_iload X.1.1 X.1.2.1 dL_figures_33 (lv_at hl 6 rfl) ?_
      refine sa_icmp_ne (tgt := 205) X.1 r29 hp6 dL_figures_35 (by decide) (fun hc => ?_) (fun hc => ?_)
      · have hw := hw.1 hc
        exact t_L_figures_205 X hp6 ih _ _ _ _ _ _ hw hy7 hy8 hy9 hy10 hy11 _ _ hR hS _ (lv_sub hl [0, 1, 2, 3, 4, 5, 6, 7, 8, 9, 10, 11] rfl)
      · have hw := hw.2 hc
        refine lv_aload_n X.1.1 X.1.2.1 dL_figures_38 rfl (lv_at hl 2 rfl) ?_
        refine sa_bipush X.1 dL_figures_39 (by decide) ?_
        refine lv_iload X.1.1 X.1.2.1 dL_figures_41 (lv_at hl 11 rfl) ?_
        have c31 := hw.1
        have hw := hw.2
        refine sa_imul X.1 dL_figures_43 ?_
        refine sa_const X.1 dL_figures_44 ?_
        have c32 := hw.1
        have hw := hw.2
        refine sa_iadd X.1 dL_figures_45 ?_
        have c33 := hw.1
        have hw := hw.2
        refine ra_107 X hR (okf X.2.2.1 rfl) c33 dL_figures_46 ?_
        have r34 := hR.r 107 0 ((6 * y11) + 5)
        refine sa_if_lt (tgt := 205) X.1 r34 dL_figures_47 (by decide) (fun hc => ?_) (fun hc => ?_)
        · have hw := hw.1 hc
          exact t_L_figures_205 X hp6 ih _ _ _ _ _ _ hw hy7 hy8 hy9 hy10 hy11 _ _ hR hS _ (lv_sub hl [0, 1, 2, 3, 4, 5, 6, 7, 8, 9, 10, 11] rfl)
        · have hw := hw.2 hc
          refine lv_aload_n X.1.1 X.1.2.1 dL_figures_50 rfl (lv_at hl 0 rfl) ?_
          refine sa_const X.1 dL_figures_51 ?_
          refine lv_iload X.1.1 X.1.2.1 dL_figures_52 (lv_at hl 6 rfl) ?_
          have c35 := hw.1
          have hw := hw.2
          refine sa_imul X.1 dL_figures_54 ?_
          refine sa_const X.1 dL_figures_55 ?_
          have c36 := hw.1
          have hw := hw.2
          refine sa_iadd X.1 dL_figures_56 ?_
          have c37 := hw.1
          have hw := hw.2
          refine ra_104 X hR (okf X.2.2.1 rfl) c37 dL_figures_57 ?_
          have r38 := hR.r 104 0 ((4 * p6) + 3)
          refine sa_if_ne (tgt := 205) X.1 r38 dL_figures_58 (by decide) (fun hc => ?_) (fun hc => ?_)
          · have hw := hw.1 hc
            exact t_L_figures_205 X hp6 ih _ _ _ _ _ _ hw hy7 hy8 hy9 hy10 hy11 _ _ hR hS _ (lv_sub hl [0, 1, 2, 3, 4, 5, 6, 7, 8, 9, 10, 11] rfl)
          · have hw := hw.2 hc
            refine lv_aload_n X.1.1 X.1.2.1 dL_figures_61 rfl (lv_at hl 3 rfl) ?_
            refine lv_iload X.1.1 X.1.2.1 dL_figures_62 (lv_at hl 11 rfl) ?_
            have c39 := hw.1
            have hw := hw.2
            refine ra_109 X hR (okf X.2.2.1 rfl) c39 dL_figures_64 ?_
            have r40 := hR.r 109 0 y11
            refine cs_L_leftOf X r40 (kc := 1) rmL_ok rm_c (by decide) hR hS kw_1231 hl.1 dL_figures_65 (Nat.le_of_ble_eq_true rfl) hw (fun x42 M41 H locs hw r43 hR hS => ?_)
            refine lv_istore (lv' := [(12, .int (Int32.ofInt x42)), (0, .ref (α 104 0)), (1, .ref (α 105 0)), (2, .ref (α 107 0)), (3, .ref (α 109 0)), (4, .ref (α 112 0)), (5, .ref (α 113 0)), (6, .int (Int32.ofInt p6)), (7, .int (Int32.ofInt y7)), (8, .int (Int32.ofInt y8)), (9, .int (Int32.ofInt y9)), (10, .int (Int32.ofInt y10)), (11, .int (Int32.ofInt y11))]) X.1.1 X.1.2.1 dL_figures_68 hl (by decide) rfl (fun ls hl => ?_)
            refine lv_aload_n X.1.1 X.1.2.1 dL_figures_70 rfl (lv_at hl 3 rfl) ?_
            refine sa_bipush X.1 dL_figures_71 (by decide) ?_
            refine lv_iload X.1.1 X.1.2.1 dL_figures_73 (lv_at hl 12 rfl) ?_
            have c44 := hw.1
            have hw := hw.2
            refine sa_imul X.1 dL_figures_75 ?_
            refine sa_const X.1 dL_figures_76 ?_
            have c45 := hw.1
            have hw := hw.2
            refine sa_iadd X.1 dL_figures_77 ?_
            have c46 := hw.1
            have hw := hw.2
            refine ra_107 X hR (okf X.2.2.1 rfl) c46 dL_figures_78 ?_
            have r47 := hR.r 107 0 ((6 * y11) + 5)
            have s52 := hw.1
            have hw := hw.2
            have c53 := hw.1
            have hw := hw.2
            refine cut_j (A := ∀ v54 : Int, v54 = (if ¬ (M41 107 0 ((6 * y11) + 5)) = 0 then ((M41 107 0 ((6 * y11) + 5)) + 1) else 0) → WV p l e 1 s m args below meth c G e0 α κ B Qm H locs 97 ls [.int (Int32.ofInt v54)]) (fun J55 => ?_) ?_
            · refine sa_if_ne (tgt := 86) X.1 r47 dL_figures_79 (by decide) (fun hc => ?_) (fun hc => ?_)
              · have hw := s52 hc
                refine lv_aload_n X.1.1 X.1.2.1 dL_figures_86 rfl (lv_at hl 3 rfl) ?_
                refine sa_bipush X.1 dL_figures_87 (by decide) ?_
                refine lv_iload X.1.1 X.1.2.1 dL_figures_89 (lv_at hl 12 rfl) ?_
                have c48 := hw.1
                have hw := hw.2
                refine sa_imul X.1 dL_figures_91 ?_
                refine sa_const X.1 dL_figures_92 ?_
                have c49 := hw.1
                have hw := hw.2
                refine sa_iadd X.1 dL_figures_93 ?_
                have c50 := hw.1
                have hw := hw.2
                refine ra_107 X hR (okf X.2.2.1 rfl) c50 dL_figures_94 ?_
                refine sa_const X.1 dL_figures_95 ?_
                have c51 := hw.1
                have hw := hw.2
                refine sa_iadd X.1 dL_figures_96 ?_
                exact J55 (((M41 107 0 ((6 * y11) + 5)) + 1)) (if_pos (c := ¬ (M41 107 0 ((6 * y11) + 5)) = 0) hc).symm
              · skip
                refine sa_const X.1 dL_figures_82 ?_
                refine lv_goto (tgt := 97) X.1.1 X.1.2.1 dL_figures_83 (by decide) ?_
                exact J55 (0) (if_neg (c := ¬ (M41 107 0 ((6 * y11) + 5)) = 0) (fun z => z hc)).symm
            intro v54 hv54
            subst hv54
            refine lv_aload_n X.1.1 X.1.2.1 dL_figures_97 rfl (lv_at hl 3 rfl) ?_
            refine sa_bipush X.1 dL_figures_98 (by decide) ?_
            refine lv_iload X.1.1 X.1.2.1 dL_figures_100 (lv_at hl 12 rfl) ?_
            have c56 := hw.1
            have hw := hw.2
            refine sa_imul X.1 dL_figures_102 ?_
            refine sa_const X.1 dL_figures_103 ?_
            have c57 := hw.1
            have hw := hw.2
            refine sa_iadd X.1 dL_figures_104 ?_
            have c58 := hw.1
            have hw := hw.2
            refine ra_107 X hR (okf X.2.2.1 rfl) c58 dL_figures_105 ?_
            have r59 := hR.r 107 0 ((6 * y11) + 4)
            have r60 := inR_ite (c := (M41 107 0 ((6 * y11) + 4)) ≤ 0) (inR_c (a := 0) rfl) (inR_c (a := 1) rfl)
            refine cut_j (A := ∀ v61 : Int, v61 = (if (M41 107 0 ((6 * y11) + 4)) ≤ 0 then (0 : Int) else 1) → WV p l e 1 s m args below meth c G e0 α κ B Qm H locs 114 ls [.int (Int32.ofInt v61), .int (Int32.ofInt (if ¬ (M41 107 0 ((6 * y11) + 5)) = 0 then ((M41 107 0 ((6 * y11) + 5)) + 1) else 0))]) (fun J62 => ?_) ?_
            · refine sa_if_le (tgt := 113) X.1 r59 dL_figures_106 (by decide) (fun hc => ?_) (fun hc => ?_)
              · skip
                refine sa_const X.1 dL_figures_113 ?_
                exact J62 (0) (if_pos (c := (M41 107 0 ((6 * y11) + 4)) ≤ 0) hc).symm
              · skip
                refine sa_const X.1 dL_figures_109 ?_
                refine lv_goto (tgt := 114) X.1.1 X.1.2.1 dL_figures_110 (by decide) ?_
                exact J62 (1) (if_neg (c := (M41 107 0 ((6 * y11) + 4)) ≤ 0) (Int.not_le.mpr hc)).symm
            intro v61 hv61
            subst hv61
            have c63 := hw.1
            have hw := hw.2
            refine sa_iadd X.1 dL_figures_114 ?_
            refine lv_istore (lv' := [(13, .int (Int32.ofInt ((if ¬ (M41 107 0 ((6 * y11) + 5)) = 0 then ((M41 107 0 ((6 * y11) + 5)) + 1) else 0) + (if (M41 107 0 ((6 * y11) + 4)) ≤ 0 then (0 : Int) else 1)))), (12, .int (Int32.ofInt x42)), (0, .ref (α 104 0)), (1, .ref (α 105 0)), (2, .ref (α 107 0)), (3, .ref (α 109 0)), (4, .ref (α 112 0)), (5, .ref (α 113 0)), (6, .int (Int32.ofInt p6)), (7, .int (Int32.ofInt y7)), (8, .int (Int32.ofInt y8)), (9, .int (Int32.ofInt y9)), (10, .int (Int32.ofInt y10)), (11, .int (Int32.ofInt y11))]) X.1.1 X.1.2.1 dL_figures_115 hl (by decide) rfl (fun ls hl => ?_)
            refine lv_iload X.1.1 X.1.2.1 dL_figures_117 (lv_at hl 1 rfl) ?_
            refine lv_iload X.1.1 X.1.2.1 dL_figures_119 (lv_at hl 11 rfl) ?_
            have r64 := inR_ite (c := x42 ≤ y9) hy9 r43
            refine cut_j (A := ∀ v65 : Int, v65 = (if x42 ≤ y9 then y9 else x42) → WV p l e 1 s m args below meth c G e0 α κ B Qm H locs 131 ls [.int (Int32.ofInt v65)]) (fun J66 => ?_) ?_
            · refine sa_icmp_le (tgt := 129) X.1 r43 hy9 dL_figures_121 (by decide) (fun hc => ?_) (fun hc => ?_)
              · skip
                refine lv_iload X.1.1 X.1.2.1 dL_figures_129 (lv_at hl 11 rfl) ?_
                exact J66 (y9) (if_pos (c := x42 ≤ y9) hc).symm
              · skip
                refine lv_iload X.1.1 X.1.2.1 dL_figures_124 (lv_at hl 1 rfl) ?_
                refine lv_goto (tgt := 131) X.1.1 X.1.2.1 dL_figures_126 (by decide) ?_
                exact J66 (x42) (if_neg (c := x42 ≤ y9) (Int.not_le.mpr hc)).symm
            intro v65 hv65
            subst hv65
            refine lv_istore (lv' := [(9, .int (Int32.ofInt (if x42 ≤ y9 then y9 else x42))), (13, .int (Int32.ofInt ((if ¬ (M41 107 0 ((6 * y11) + 5)) = 0 then ((M41 107 0 ((6 * y11) + 5)) + 1) else 0) + (if (M41 107 0 ((6 * y11) + 4)) ≤ 0 then (0 : Int) else 1)))), (12, .int (Int32.ofInt x42)), (0, .ref (α 104 0)), (1, .ref (α 105 0)), (2, .ref (α 107 0)), (3, .ref (α 109 0)), (4, .ref (α 112 0)), (5, .ref (α 113 0)), (6, .int (Int32.ofInt p6)), (7, .int (Int32.ofInt y7)), (8, .int (Int32.ofInt y8)), (10, .int (Int32.ofInt y10)), (11, .int (Int32.ofInt y11))]) X.1.1 X.1.2.1 dL_figures_131 hl (by decide) rfl (fun ls hl => ?_)
            refine lv_iload X.1.1 X.1.2.1 dL_figures_133 (lv_at hl 1 rfl) ?_
            refine lv_iload X.1.1 X.1.2.1 dL_figures_135 (lv_at hl 12 rfl) ?_
            have r67 := inR_ite (c := ((if ¬ (M41 107 0 ((6 * y11) + 5)) = 0 then ((M41 107 0 ((6 * y11) + 5)) + 1) else 0) + (if (M41 107 0 ((6 * y11) + 4)) ≤ 0 then (0 : Int) else 1)) ≤ y10) hy10 c63
            refine cut_j (A := ∀ v68 : Int, v68 = (if ((if ¬ (M41 107 0 ((6 * y11) + 5)) = 0 then ((M41 107 0 ((6 * y11) + 5)) + 1) else 0) + (if (M41 107 0 ((6 * y11) + 4)) ≤ 0 then (0 : Int) else 1)) ≤ y10 then y10 else ((if ¬ (M41 107 0 ((6 * y11) + 5)) = 0 then ((M41 107 0 ((6 * y11) + 5)) + 1) else 0) + (if (M41 107 0 ((6 * y11) + 4)) ≤ 0 then (0 : Int) else 1))) → WV p l e 1 s m args below meth c G e0 α κ B Qm H locs 147 ls [.int (Int32.ofInt v68)]) (fun J69 => ?_) ?_
            · refine sa_icmp_le (tgt := 145) X.1 c63 hy10 dL_figures_137 (by decide) (fun hc => ?_) (fun hc => ?_)
              · skip
                refine lv_iload X.1.1 X.1.2.1 dL_figures_145 (lv_at hl 12 rfl) ?_
                exact J69 (y10) (if_pos (c := ((if ¬ (M41 107 0 ((6 * y11) + 5)) = 0 then ((M41 107 0 ((6 * y11) + 5)) + 1) else 0) + (if (M41 107 0 ((6 * y11) + 4)) ≤ 0 then (0 : Int) else 1)) ≤ y10) hc).symm
              · skip
                refine lv_iload X.1.1 X.1.2.1 dL_figures_140 (lv_at hl 1 rfl) ?_
                refine lv_goto (tgt := 147) X.1.1 X.1.2.1 dL_figures_142 (by decide) ?_
                exact J69 (((if ¬ (M41 107 0 ((6 * y11) + 5)) = 0 then ((M41 107 0 ((6 * y11) + 5)) + 1) else 0) + (if (M41 107 0 ((6 * y11) + 4)) ≤ 0 then (0 : Int) else 1))) (if_neg (c := ((if ¬ (M41 107 0 ((6 * y11) + 5)) = 0 then ((M41 107 0 ((6 * y11) + 5)) + 1) else 0) + (if (M41 107 0 ((6 * y11) + 4)) ≤ 0 then (0 : Int) else 1)) ≤ y10) (Int.not_le.mpr hc)).symm
            intro v68 hv68
            subst hv68
            refine lv_istore (lv' := [(10, .int (Int32.ofInt (if ((if ¬ (M41 107 0 ((6 * y11) + 5)) = 0 then ((M41 107 0 ((6 * y11) + 5)) + 1) else 0) + (if (M41 107 0 ((6 * y11) + 4)) ≤ 0 then (0 : Int) else 1)) ≤ y10 then y10 else ((if ¬ (M41 107 0 ((6 * y11) + 5)) = 0 then ((M41 107 0 ((6 * y11) + 5)) + 1) else 0) + (if (M41 107 0 ((6 * y11) + 4)) ≤ 0 then (0 : Int) else 1))))), (9, .int (Int32.ofInt (if x42 ≤ y9 then y9 else x42))), (13, .int (Int32.ofInt ((if ¬ (M41 107 0 ((6 * y11) + 5)) = 0 then ((M41 107 0 ((6 * y11) + 5)) + 1) else 0) + (if (M41 107 0 ((6 * y11) + 4)) ≤ 0 then (0 : Int) else 1)))), (12, .int (Int32.ofInt x42)), (0, .ref (α 104 0)), (1, .ref (α 105 0)), (2, .ref (α 107 0)), (3, .ref (α 109 0)), (4, .ref (α 112 0)), (5, .ref (α 113 0)), (6, .int (Int32.ofInt p6)), (7, .int (Int32.ofInt y7)), (8, .int (Int32.ofInt y8)), (11, .int (Int32.ofInt y11))]) X.1.1 X.1.2.1 dL_figures_147 hl (by decide) rfl (fun ls hl => ?_)
            refine lv_aload_n X.1.1 X.1.2.1 dL_figures_149 rfl (lv_at hl 5 rfl) ?_
            refine sa_const X.1 dL_figures_150 ?_
            refine lv_aload_n X.1.1 X.1.2.1 dL_figures_151 rfl (lv_at hl 6 rfl) ?_
            refine sa_bipush X.1 dL_figures_152 (by decide) ?_
            refine lv_iload X.1.1 X.1.2.1 dL_figures_154 (lv_at hl 13 rfl) ?_
            have c70 := hw.1
            have hw := hw.2
            refine sa_imul X.1 dL_figures_156 ?_
            have c71 := hw.1
            have hw := hw.2
            refine ra_107 X hR (okf X.2.2.1 rfl) c71 dL_figures_157 ?_
            have r72 := hR.r 107 0 (6 * y11)
            have c73 := hw.1
            have hw := hw.2
            refine sa_imul X.1 dL_figures_158 ?_
            have c74 := hw.1
            have hw := hw.2
            refine ra_105 X hR (okf X.2.2.1 rfl) c74 dL_figures_159 ?_
            have r75 := hR.r 105 0 (3 * (M41 107 0 (6 * y11)))
            refine sa_const X.1 dL_figures_160 ?_
            refine sa_icmp_ne (tgt := 205) X.1 r75 (inR_c (a := 1) rfl) dL_figures_161 (by decide) (fun hc => ?_) (fun hc => ?_)
            · have hw := hw.1 hc
              exact t_L_figures_205 X hp6 ih _ _ _ _ _ _ hw hy7 hy8 r64 r67 hy11 _ _ hR hS _ (lv_sub hl [4, 5, 6, 7, 8, 9, 10, 11, 12, 1, 0, 13] rfl)
            · have hw := hw.2 hc
              refine lv_iload X.1.1 X.1.2.1 dL_figures_164 (lv_at hl 11 rfl) ?_
              refine lv_aload_n X.1.1 X.1.2.1 dL_figures_166 rfl (lv_at hl 7 rfl) ?_
              refine lv_iload X.1.1 X.1.2.1 dL_figures_167 (lv_at hl 13 rfl) ?_
              have c76 := hw.1
              have hw := hw.2
              refine ra_109 X hR (okf X.2.2.1 rfl) c76 dL_figures_169 ?_
              have r77 := hR.r 109 0 y11
              have s79 := hw.1
              have hw := hw.2
              have r80 := inR_ite (c := (M41 109 0 y11) ≤ 0) (inR_c (a := 0) rfl) (hR.r 109 0 y11)
              refine cut_j (A := ∀ v81 : Int, v81 = (if (M41 109 0 y11) ≤ 0 then (0 : Int) else (M41 109 0 y11)) → WV p l e 1 s m args below meth c G e0 α κ B Qm H locs 181 ls [.int (Int32.ofInt v81), .int (Int32.ofInt y7)]) (fun J82 => ?_) ?_
              · refine sa_if_le (tgt := 180) X.1 r77 dL_figures_170 (by decide) (fun hc => ?_) (fun hc => ?_)
                · skip
                  refine sa_const X.1 dL_figures_180 ?_
                  exact J82 (0) (if_pos (c := (M41 109 0 y11) ≤ 0) hc).symm
                · have hw := s79 hc
                  refine lv_aload_n X.1.1 X.1.2.1 dL_figures_173 rfl (lv_at hl 7 rfl) ?_
                  refine lv_iload X.1.1 X.1.2.1 dL_figures_174 (lv_at hl 13 rfl) ?_
                  have c78 := hw.1
                  have hw := hw.2
                  refine ra_109 X hR (okf X.2.2.1 rfl) c78 dL_figures_176 ?_
                  refine lv_goto (tgt := 181) X.1.1 X.1.2.1 dL_figures_177 (by decide) ?_
                  exact J82 ((M41 109 0 y11)) (if_neg (c := (M41 109 0 y11) ≤ 0) (Int.not_le.mpr hc)).symm
              intro v81 hv81
              subst hv81
              have c83 := hw.1
              have hw := hw.2
              refine sa_iadd X.1 dL_figures_181 ?_
              refine lv_istore (lv' := [(7, .int (Int32.ofInt (y7 + (if (M41 109 0 y11) ≤ 0 then (0 : Int) else (M41 109 0 y11))))), (10, .int (Int32.ofInt (if ((if ¬ (M41 107 0 ((6 * y11) + 5)) = 0 then ((M41 107 0 ((6 * y11) + 5)) + 1) else 0) + (if (M41 107 0 ((6 * y11) + 4)) ≤ 0 then (0 : Int) else 1)) ≤ y10 then y10 else ((if ¬ (M41 107 0 ((6 * y11) + 5)) = 0 then ((M41 107 0 ((6 * y11) + 5)) + 1) else 0) + (if (M41 107 0 ((6 * y11) + 4)) ≤ 0 then (0 : Int) else 1))))), (9, .int (Int32.ofInt (if x42 ≤ y9 then y9 else x42))), (13, .int (Int32.ofInt ((if ¬ (M41 107 0 ((6 * y11) + 5)) = 0 then ((M41 107 0 ((6 * y11) + 5)) + 1) else 0) + (if (M41 107 0 ((6 * y11) + 4)) ≤ 0 then (0 : Int) else 1)))), (12, .int (Int32.ofInt x42)), (0, .ref (α 104 0)), (1, .ref (α 105 0)), (2, .ref (α 107 0)), (3, .ref (α 109 0)), (4, .ref (α 112 0)), (5, .ref (α 113 0)), (6, .int (Int32.ofInt p6)), (8, .int (Int32.ofInt y8)), (11, .int (Int32.ofInt y11))]) X.1.1 X.1.2.1 dL_figures_182 hl (by decide) rfl (fun ls hl => ?_)
              refine lv_iload X.1.1 X.1.2.1 dL_figures_184 (lv_at hl 12 rfl) ?_
              refine lv_aload_n X.1.1 X.1.2.1 dL_figures_186 rfl (lv_at hl 8 rfl) ?_
              refine lv_iload X.1.1 X.1.2.1 dL_figures_187 (lv_at hl 13 rfl) ?_
              have c84 := hw.1
              have hw := hw.2
              refine ra_109 X hR (okf X.2.2.1 rfl) c84 dL_figures_189 ?_
              have r85 := hR.r 109 0 y11
              have s88 := hw.1
              have hw := hw.2
              have c89 := hw.1
              have hw := hw.2
              refine cut_j (A := ∀ v90 : Int, v90 = (if 0 ≤ (M41 109 0 y11) then (0 : Int) else (-(M41 109 0 y11))) → WV p l e 1 s m args below meth c G e0 α κ B Qm H locs 202 ls [.int (Int32.ofInt v90), .int (Int32.ofInt y8)]) (fun J91 => ?_) ?_
              · refine sa_if_ge (tgt := 201) X.1 r85 dL_figures_190 (by decide) (fun hc => ?_) (fun hc => ?_)
                · skip
                  refine sa_const X.1 dL_figures_201 ?_
                  exact J91 (0) (if_pos (c := 0 ≤ (M41 109 0 y11)) hc).symm
                · have hw := s88 hc
                  refine lv_aload_n X.1.1 X.1.2.1 dL_figures_193 rfl (lv_at hl 8 rfl) ?_
                  refine lv_iload X.1.1 X.1.2.1 dL_figures_194 (lv_at hl 13 rfl) ?_
                  have c86 := hw.1
                  have hw := hw.2
                  refine ra_109 X hR (okf X.2.2.1 rfl) c86 dL_figures_196 ?_
                  have c87 := hw.1
                  have hw := hw.2
                  refine sa_ineg X.1 dL_figures_197 ?_
                  refine lv_goto (tgt := 202) X.1.1 X.1.2.1 dL_figures_198 (by decide) ?_
                  exact J91 ((-(M41 109 0 y11))) (if_neg (c := 0 ≤ (M41 109 0 y11)) (Int.not_le.mpr hc)).symm
              intro v90 hv90
              subst hv90
              have c92 := hw.1
              have hw := hw.2
              refine sa_isub X.1 dL_figures_202 ?_
              refine lv_istore (lv' := [(8, .int (Int32.ofInt (y8 - (if 0 ≤ (M41 109 0 y11) then (0 : Int) else (-(M41 109 0 y11)))))), (7, .int (Int32.ofInt (y7 + (if (M41 109 0 y11) ≤ 0 then (0 : Int) else (M41 109 0 y11))))), (10, .int (Int32.ofInt (if ((if ¬ (M41 107 0 ((6 * y11) + 5)) = 0 then ((M41 107 0 ((6 * y11) + 5)) + 1) else 0) + (if (M41 107 0 ((6 * y11) + 4)) ≤ 0 then (0 : Int) else 1)) ≤ y10 then y10 else ((if ¬ (M41 107 0 ((6 * y11) + 5)) = 0 then ((M41 107 0 ((6 * y11) + 5)) + 1) else 0) + (if (M41 107 0 ((6 * y11) + 4)) ≤ 0 then (0 : Int) else 1))))), (9, .int (Int32.ofInt (if x42 ≤ y9 then y9 else x42))), (13, .int (Int32.ofInt ((if ¬ (M41 107 0 ((6 * y11) + 5)) = 0 then ((M41 107 0 ((6 * y11) + 5)) + 1) else 0) + (if (M41 107 0 ((6 * y11) + 4)) ≤ 0 then (0 : Int) else 1)))), (12, .int (Int32.ofInt x42)), (0, .ref (α 104 0)), (1, .ref (α 105 0)), (2, .ref (α 107 0)), (3, .ref (α 109 0)), (4, .ref (α 112 0)), (5, .ref (α 113 0)), (6, .int (Int32.ofInt p6)), (11, .int (Int32.ofInt y11))]) X.1.1 X.1.2.1 dL_figures_203 hl (by decide) rfl (fun ls hl => ?_)
              exact t_L_figures_205 X hp6 ih _ _ _ _ _ _ hw c83 c92 r64 r67 hy11 _ _ hR hS _ (lv_sub hl [6, 7, 8, 9, 10, 11, 12, 1, 0, 3, 2, 13] rfl)
set_option maxHeartbeats 4000000 in
set_option maxRecDepth 100000 in
theorem t_L_figures {p6 : Int} (X : CX p m c cL_figures 14 s args RL G B κ meth none) (hp6 : inR p6) {M : Mem} {Qm : Mem → Prop} (hw : wp_L_figures p6 M Qm) (H : Heap) (locs : List Loc) (hR : Rp G e0 α κ B M H) (hS : va_S (fun q => B ≤ q) s.heap H locs) (ls : Array Slot) (hl : lv_has ls 14 [(0, .ref (α 104 0)), (1, .ref (α 105 0)), (2, .ref (α 107 0)), (3, .ref (α 109 0)), (4, .ref (α 112 0)), (5, .ref (α 113 0)), (6, .int (Int32.ofInt p6))]) : WV p l e 1 s m args below meth c G e0 α κ B Qm H locs 0 ls [] := by
  have hw : (∃ n93 : Nat, wp_L_figures_15 p6 Qm n93 0 0 0 0 0 M) := hw
  refine sa_const X.1 dL_figures_0 ?_
  refine lv_istore (lv' := [(7, .int (Int32.ofInt 0)), (0, .ref (α 104 0)), (1, .ref (α 105 0)), (2, .ref (α 107 0)), (3, .ref (α 109 0)), (4, .ref (α 112 0)), (5, .ref (α 113 0)), (6, .int (Int32.ofInt p6))]) X.1.1 X.1.2.1 dL_figures_1 hl (by decide) rfl (fun ls hl => ?_)
  refine sa_const X.1 dL_figures_3 ?_
  refine lv_istore (lv' := [(8, .int (Int32.ofInt 0)), (7, .int (Int32.ofInt 0)), (0, .ref (α 104 0)), (1, .ref (α 105 0)), (2, .ref (α 107 0)), (3, .ref (α 109 0)), (4, .ref (α 112 0)), (5, .ref (α 113 0)), (6, .int (Int32.ofInt p6))]) X.1.1 X.1.2.1 dL_figures_4 hl (by decide) rfl (fun ls hl => ?_)
  refine sa_const X.1 dL_figures_6 ?_
  refine lv_istore (lv' := [(9, .int (Int32.ofInt 0)), (8, .int (Int32.ofInt 0)), (7, .int (Int32.ofInt 0)), (0, .ref (α 104 0)), (1, .ref (α 105 0)), (2, .ref (α 107 0)), (3, .ref (α 109 0)), (4, .ref (α 112 0)), (5, .ref (α 113 0)), (6, .int (Int32.ofInt p6))]) X.1.1 X.1.2.1 dL_figures_7 hl (by decide) rfl (fun ls hl => ?_)
  refine sa_const X.1 dL_figures_9 ?_
  refine lv_istore (lv' := [(10, .int (Int32.ofInt 0)), (9, .int (Int32.ofInt 0)), (8, .int (Int32.ofInt 0)), (7, .int (Int32.ofInt 0)), (0, .ref (α 104 0)), (1, .ref (α 105 0)), (2, .ref (α 107 0)), (3, .ref (α 109 0)), (4, .ref (α 112 0)), (5, .ref (α 113 0)), (6, .int (Int32.ofInt p6))]) X.1.1 X.1.2.1 dL_figures_10 hl (by decide) rfl (fun ls hl => ?_)
  refine sa_const X.1 dL_figures_12 ?_
  refine lv_istore (lv' := [(11, .int (Int32.ofInt 0)), (10, .int (Int32.ofInt 0)), (9, .int (Int32.ofInt 0)), (8, .int (Int32.ofInt 0)), (7, .int (Int32.ofInt 0)), (0, .ref (α 104 0)), (1, .ref (α 105 0)), (2, .ref (α 107 0)), (3, .ref (α 109 0)), (4, .ref (α 112 0)), (5, .ref (α 113 0)), (6, .int (Int32.ofInt p6))]) X.1.1 X.1.2.1 dL_figures_13 hl (by decide) rfl (fun ls hl => ?_)
  obtain ⟨n93, hw⟩ := hw
  exact t_L_figures_15 X hp6 n93 _ _ _ _ _ _ hw (inR_c (a := 0) rfl) (inR_c (a := 0) rfl) (inR_c (a := 0) rfl) (inR_c (a := 0) rfl) (inR_c (a := 0) rfl) _ _ hR hS _ (lv_sub hl [5, 6, 7, 8, 9, 10, 11, 4, 3, 2, 1, 0] rfl)
theorem m_L_figures {l : Launch} {G : Gx} {e0 : Nat} {α : Ax} {κ : Nat → Int} {B : Nat} {p6 : Int} (hκ : kOK κ) (hp6 : inR p6) {M : Mem} {Qm : Mem → Prop} (hw : wp_L_figures p6 M Qm) : CV l yL_figures (Cond.code yL_figures cL_figures 14 none) 1 G e0 α κ B [.ref (α 104 0), .ref (α 105 0), .ref (α 107 0), .ref (α 109 0), .ref (α 112 0), .ref (α 113 0), .int (Int32.ofInt p6)] M Qm :=
  CV.mk hκ (by decide +kernel) rfl (Nat.le_of_ble_eq_true rfl) (lv := [(0, .ref (α 104 0)), (1, .ref (α 105 0)), (2, .ref (α 107 0)), (3, .ref (α 109 0)), (4, .ref (α 112 0)), (5, .ref (α 113 0)), (6, .int (Int32.ofInt p6))]) rfl (fun p e s m args below meth c ls X hR hS hl => t_L_figures X hp6 hw _ _ hR hS ls hl)
theorem cs_L_figures {cc : ByteArray} {nL : Nat} {own : String} {ret : Option FieldType} {idx pc : Nat} {p6 : Int} (X : CX p m c cc nL s args own G B κ meth ret) (hp6 : inR p6) {kc : Nat} {R : Room} {cells slots : Nat} (hRr : RmOK R kc) (hcel : cells ≤ R.cells ∧ slots ≤ R.slots) (hk : 1 + 1 ≤ kc) {M : Mem} {H : Heap} {locs : List Loc} (hR : Rp G e0 α κ B M H) (hS : va_S (fun q => B ≤ q) s.heap H locs) (k1 : Cond.methodLink own idx yL_figures ∈ gw) {ls : Array Slot} (hml : ls.size = nL) {rest : List Value} (hd : decode cc pc = .ok (.invokestatic idx, 3)) (hrest : (rest.map fun v => v.category).sum ≤ 8) {Q : State → Prop} {Qm : Mem → Prop} (hw : wp_L_figures p6 M Qm) (kk : ∀ (M1 : Mem) (H1 : Heap) (locs1 : List Loc), Qm M1 → Rp G e0 α κ B M1 H1 → va_S (fun q => B ≤ q) s.heap H1 locs1 → W p l e R s m args below meth c H1 locs1 cells slots Q (F0 m (pc + 3) ls (rest))) : W p l e R s m args below meth c H locs cells slots Q (F0 m pc ls (.int (Int32.ofInt p6) :: .ref (α 113 0) :: .ref (α 112 0) :: .ref (α 109 0) :: .ref (α 107 0) :: .ref (α 105 0) :: .ref (α 104 0) :: rest)) :=
  sa_callSV 1 (n := 7) (As := [.ref (α 104 0), .ref (α 105 0), .ref (α 107 0), .ref (α 109 0), .ref (α 112 0), .ref (α 113 0), .int (Int32.ofInt p6)]) (rest := rest) X.1 X.2.1 hR hS (m_L_figures X.2.2.1 hp6 hw) k1 kw_1229 kw_37 kw_1230 ⟨by decide +kernel, by decide +kernel, by decide +kernel⟩ (rm_ok hRr hk (by decide)) rfl rfl hrest hml hd hcel kk
def wp_L_grow_138 (p5 : Int) (p6 : Int) (Qm : Mem → Prop) (K3 : Int → Mem → Prop) (K12 : Int → Int → Mem → Prop) (K121 : Int → Int → Int → Int → Int → Mem → Prop) : Nat → Int → Int → Int → Int → Int → Int → Int → Int → Mem → Prop
  | 0 => fun _ _ _ _ _ _ _ _ _ => False
  | n + 1 => fun y7 y8 y9 y10 y11 y12 y13 y14 M => ((y14 < y9 → (inR (p5 + (if 0 ≤ y12 then y12 else y13))) ∧ (0 ≤ (p5 + (if 0 ≤ y12 then y12 else y13)) ∧ (p5 + (if 0 ≤ y12 then y12 else y13)) < 30) ∧ (inR ((M 113 0 (p5 + (if 0 ≤ y12 then y12 else y13))) + 1)) ∧ (0 ≤ (p5 + (if 0 ≤ y12 then y12 else y13)) ∧ (p5 + (if 0 ≤ y12 then y12 else y13)) < 30) ∧ ∀ M25 : Mem, M25 = up M 113 0 (p5 + (if 0 ≤ y12 then y12 else y13)) ((M 113 0 (p5 + (if 0 ≤ y12 then y12 else y13))) + 1) → (inR (y11 + (-1))) ∧ K121 y7 y8 y9 y10 (y11 + (-1)) M25) ∧ (y9 ≤ y14 → (inR (4 * y14)) ∧ (inR ((4 * y14) + 3)) ∧ (0 ≤ ((4 * y14) + 3) ∧ ((4 * y14) + 3) < 16) ∧ (¬ (if ¬ (M 104 0 ((4 * y14) + 3)) = 0 then (0 : Int) else 1) = 0 → (inR (4 * y14)) ∧ (0 ≤ (4 * y14) ∧ (4 * y14) < 16) ∧ (¬ (M 104 0 (4 * y14)) = 1 → (0 ≤ y12 → (inR (p5 + y14)) ∧ (0 ≤ (p5 + y14) ∧ (p5 + y14) < 30) ∧ (inR (p5 + y12)) ∧ (0 ≤ (p5 + y12) ∧ (p5 + y12) < 30) ∧ True) ∧ True) ∧ True) ∧ (inR (y14 + (-1))) ∧ wp_L_grow_138 p5 p6 Qm K3 K12 K121 n y7 y8 y9 y10 y11 (if (if ¬ (M 104 0 ((4 * y14) + 3)) = 0 then (0 : Int) else 1) = 0 then y12 else (if (M 104 0 (4 * y14)) = 1 then y12 else (if y12 < 0 then y14 else (if (M 113 0 (p5 + y12)) < (M 113 0 (p5 + y14)) then y12 else y14)))) (if (if ¬ (M 104 0 ((4 * y14) + 3)) = 0 then (0 : Int) else 1) = 0 then y13 else (if 0 ≤ y13 then y13 else y14)) (y14 + (-1)) M))
def wp_L_grow_121 (p5 : Int) (p6 : Int) (Qm : Mem → Prop) (K3 : Int → Mem → Prop) (K12 : Int → Int → Mem → Prop) : Nat → Int → Int → Int → Int → Int → Mem → Prop
  | 0 => fun _ _ _ _ _ _ => False
  | n + 1 => fun y7 y8 y9 y10 y11 M => ((y11 ≤ 0 → (inR (y8 + 1)) ∧ K12 y7 (y8 + 1) M) ∧ (0 < y11 → (inR (y10 - 1)) ∧ (∃ n59 : Nat, wp_L_grow_138 p5 p6 Qm K3 K12 (wp_L_grow_121 p5 p6 Qm K3 K12 n) n59 y7 y8 y9 y10 y11 (-1) (-1) (y10 - 1) M)))
def wp_L_grow_80 (p5 : Int) (p6 : Int) (Qm : Mem → Prop) (K3 : Int → Mem → Prop) (K12 : Int → Int → Mem → Prop) : Nat → Int → Int → Int → Int → Int → Int → Mem → Prop
  | 0 => fun _ _ _ _ _ _ _ => False
  | n + 1 => fun y7 y8 y9 y10 y11 y12 M => ((y10 ≤ y12 → (∃ n60 : Nat, wp_L_grow_121 p5 p6 Qm K3 K12 n60 y7 y8 y9 y10 y11 M)) ∧ (y12 < y10 → (inR (4 * y12)) ∧ (inR ((4 * y12) + 3)) ∧ (0 ≤ ((4 * y12) + 3) ∧ ((4 * y12) + 3) < 16) ∧ ((M 104 0 ((4 * y12) + 3)) = 0 → (inR (p5 + y12)) ∧ (0 ≤ (p5 + y12) ∧ (p5 + y12) < 30) ∧ True) ∧ (inR (y11 - (if ¬ (M 104 0 ((4 * y12) + 3)) = 0 then (0 : Int) else (M 113 0 (p5 + y12))))) ∧ (inR (y12 + 1)) ∧ wp_L_grow_80 p5 p6 Qm K3 K12 n y7 y8 y9 y10 (y11 - (if ¬ (M 104 0 ((4 * y12) + 3)) = 0 then (0 : Int) else (M 113 0 (p5 + y12)))) (y12 + 1) M))
def wp_L_grow_74 (p5 : Int) (p6 : Int) (Qm : Mem → Prop) (K3 : Int → Mem → Prop) (K12 : Int → Int → Mem → Prop) (y7 : Int) (y8 : Int) (y9 : Int) (y10 : Int) (z0 : Int) (M : Mem) : Prop := (∃ n73 : Nat, wp_L_grow_80 p5 p6 Qm K3 K12 n73 y7 y8 y9 y10 z0 y9 M)
def wp_L_grow_12 (p5 : Int) (p6 : Int) (Qm : Mem → Prop) (K3 : Int → Mem → Prop) : Nat → Int → Int → Mem → Prop
  | 0 => fun _ _ _ => False
  | n + 1 => fun y7 y8 M => (((M 112 0 2) ≤ y8 → (inR (y7 + 1)) ∧ K3 (y7 + 1) M) ∧ (y8 < (M 112 0 2) → (inR (6 * y8)) ∧ (inR ((6 * y8) + 1)) ∧ (0 ≤ ((6 * y8) + 1) ∧ ((6 * y8) + 1) < 60) ∧ (inR (6 * y8)) ∧ (inR ((6 * y8) + 3)) ∧ (0 ≤ ((6 * y8) + 3) ∧ ((6 * y8) + 3) < 60) ∧ (inR ((M 107 0 ((6 * y8) + 1)) + (M 107 0 ((6 * y8) + 3)))) ∧ wp_L_shows y8 M fun (x13 : Int) (M12 : Mem) => ((¬ x13 = y7 → wp_L_grow_74 p5 p6 Qm K3 (wp_L_grow_12 p5 p6 Qm K3 n) y7 y8 (M 107 0 ((6 * y8) + 1)) ((M 107 0 ((6 * y8) + 1)) + (M 107 0 ((6 * y8) + 3))) 0 M12) ∧ (x13 = y7 → wp_L_wants y8 p6 M12 fun (x75 : Int) (M74 : Mem) => (inR (x75 - y7)) ∧ (inR ((x75 - y7) + 1)) ∧ wp_L_grow_74 p5 p6 Qm K3 (wp_L_grow_12 p5 p6 Qm K3 n) y7 y8 (M 107 0 ((6 * y8) + 1)) ((M 107 0 ((6 * y8) + 1)) + (M 107 0 ((6 * y8) + 3))) ((x75 - y7) + 1) M74))))
def wp_L_grow_3 (p5 : Int) (p6 : Int) (Qm : Mem → Prop) : Nat → Int → Mem → Prop
  | 0 => fun _ _ => False
  | n + 1 => fun y7 M => ((5 ≤ y7 → Qm M) ∧ (y7 < 5 → (∃ n79 : Nat, wp_L_grow_12 p5 p6 Qm (wp_L_grow_3 p5 p6 Qm n) n79 y7 0 M)))
def wp_L_grow (p5 : Int) (p6 : Int) (M : Mem) (Qm : Mem → Prop) : Prop := (∃ n80 : Nat, wp_L_grow_3 p5 p6 Qm n80 2 M)
set_option maxHeartbeats 4000000 in
set_option maxRecDepth 100000 in
theorem t_L_grow_138 {p5 : Int} {p6 : Int} (X : CX p m c cL_grow 16 s args RL G B κ meth none) (hp5 : inR p5) (hp6 : inR p6) {Qm : Mem → Prop} {K3 : Int → Mem → Prop} {K12 : Int → Int → Mem → Prop} {K121 : Int → Int → Int → Int → Int → Mem → Prop} (hK3 : ∀ y7 : Int, ∀ M : Mem, K3 y7 M → inR y7 → ∀ (H : Heap) (locs : List Loc), Rp G e0 α κ B M H → va_S (fun q => B ≤ q) s.heap H locs → ∀ (ls : Array Slot), lv_has ls 16 [(0, .ref (α 104 0)), (1, .ref (α 107 0)), (2, .ref (α 108 0)), (3, .ref (α 112 0)), (4, .ref (α 113 0)), (5, .int (Int32.ofInt p5)), (6, .int (Int32.ofInt p6)), (7, .int (Int32.ofInt y7))] → WV p l e 3 s m args below meth c G e0 α κ B Qm H locs 3 ls []) (hK12 : ∀ y7 : Int, ∀ y8 : Int, ∀ M : Mem, K12 y7 y8 M → inR y7 → inR y8 → ∀ (H : Heap) (locs : List Loc), Rp G e0 α κ B M H → va_S (fun q => B ≤ q) s.heap H locs → ∀ (ls : Array Slot), lv_has ls 16 [(0, .ref (α 104 0)), (1, .ref (α 107 0)), (2, .ref (α 108 0)), (3, .ref (α 112 0)), (4, .ref (α 113 0)), (5, .int (Int32.ofInt p5)), (6, .int (Int32.ofInt p6)), (7, .int (Int32.ofInt y7)), (8, .int (Int32.ofInt y8))] → WV p l e 3 s m args below meth c G e0 α κ B Qm H locs 12 ls []) (hK121 : ∀ y7 : Int, ∀ y8 : Int, ∀ y9 : Int, ∀ y10 : Int, ∀ y11 : Int, ∀ M : Mem, K121 y7 y8 y9 y10 y11 M → inR y7 → inR y8 → inR y9 → inR y10 → inR y11 → ∀ (H : Heap) (locs : List Loc), Rp G e0 α κ B M H → va_S (fun q => B ≤ q) s.heap H locs → ∀ (ls : Array Slot), lv_has ls 16 [(0, .ref (α 104 0)), (1, .ref (α 107 0)), (2, .ref (α 108 0)), (3, .ref (α 112 0)), (4, .ref (α 113 0)), (5, .int (Int32.ofInt p5)), (6, .int (Int32.ofInt p6)), (7, .int (Int32.ofInt y7)), (8, .int (Int32.ofInt y8)), (9, .int (Int32.ofInt y9)), (10, .int (Int32.ofInt y10)), (11, .int (Int32.ofInt y11))] → WV p l e 3 s m args below meth c G e0 α κ B Qm H locs 121 ls []) : ∀ n : Nat, ∀ y7 : Int, ∀ y8 : Int, ∀ y9 : Int, ∀ y10 : Int, ∀ y11 : Int, ∀ y12 : Int, ∀ y13 : Int, ∀ y14 : Int, ∀ M : Mem, wp_L_grow_138 p5 p6 Qm K3 K12 K121 n y7 y8 y9 y10 y11 y12 y13 y14 M → inR y7 → inR y8 → inR y9 → inR y10 → inR y11 → inR y12 → inR y13 → inR y14 → ∀ (H : Heap) (locs : List Loc), Rp G e0 α κ B M H → va_S (fun q => B ≤ q) s.heap H locs → ∀ (ls : Array Slot), lv_has ls 16 [(0, .ref (α 104 0)), (1, .ref (α 107 0)), (2, .ref (α 108 0)), (3, .ref (α 112 0)), (4, .ref (α 113 0)), (5, .int (Int32.ofInt p5)), (6, .int (Int32.ofInt p6)), (7, .int (Int32.ofInt y7)), (8, .int (Int32.ofInt y8)), (9, .int (Int32.ofInt y9)), (10, .int (Int32.ofInt y10)), (11, .int (Int32.ofInt y11)), (12, .int (Int32.ofInt y12)), (13, .int (Int32.ofInt y13)), (14, .int (Int32.ofInt y14))] → WV p l e 3 s m args below meth c G e0 α κ B Qm H locs 138 ls [] := by
  intro n
  induction n with
  | zero =>
    intro y7 y8 y9 y10 y11 y12 y13 y14 M hw hy7 hy8 hy9 hy10 hy11 hy12 hy13 hy14 H locs hR hS ls hl
    exact hw.elim
  | succ n ih =>
    intro y7 y8 y9 y10 y11 y12 y13 y14 M hw hy7 hy8 hy9 hy10 hy11 hy12 hy13 hy14 H locs hR hS ls hl
    have hw : ((y14 < y9 → (inR (p5 + (if 0 ≤ y12 then y12 else y13))) ∧ (0 ≤ (p5 + (if 0 ≤ y12 then y12 else y13)) ∧ (p5 + (if 0 ≤ y12 then y12 else y13)) < 30) ∧ (inR ((M 113 0 (p5 + (if 0 ≤ y12 then y12 else y13))) + 1)) ∧ (0 ≤ (p5 + (if 0 ≤ y12 then y12 else y13)) ∧ (p5 + (if 0 ≤ y12 then y12 else y13)) < 30) ∧ ∀ M25 : Mem, M25 = up M 113 0 (p5 + (if 0 ≤ y12 then y12 else y13)) ((M 113 0 (p5 + (if 0 ≤ y12 then y12 else y13))) + 1) → (inR (y11 + (-1))) ∧ K121 y7 y8 y9 y10 (y11 + (-1)) M25) ∧ (y9 ≤ y14 → (inR (4 * y14)) ∧ (inR ((4 * y14) + 3)) ∧ (0 ≤ ((4 * y14) + 3) ∧ ((4 * y14) + 3) < 16) ∧ (¬ (if ¬ (M 104 0 ((4 * y14) + 3)) = 0 then (0 : Int) else 1) = 0 → (inR (4 * y14)) ∧ (0 ≤ (4 * y14) ∧ (4 * y14) < 16) ∧ (¬ (M 104 0 (4 * y14)) = 1 → (0 ≤ y12 → (inR (p5 + y14)) ∧ (0 ≤ (p5 + y14) ∧ (p5 + y14) < 30) ∧ (inR (p5 + y12)) ∧ (0 ≤ (p5 + y12) ∧ (p5 + y12) < 30) ∧ True) ∧ True) ∧ True) ∧ (inR (y14 + (-1))) ∧ wp_L_grow_138 p5 p6 Qm K3 K12 K121 n y7 y8 y9 y10 y11 (if (if ¬ (M 104 0 ((4 * y14) + 3)) = 0 then (0 : Int) else 1) = 0 then y12 else (if (M 104 0 (4 * y14)) = 1 then y12 else (if y12 < 0 then y14 else (if (M 113 0 (p5 + y12)) < (M 113 0 (p5 + y14)) then y12 else y14)))) (if (if ¬ (M 104 0 ((4 * y14) + 3)) = 0 then (0 : Int) else 1) = 0 then y13 else (if 0 ≤ y13 then y13 else y14)) (y14 + (-1)) M)) := hw
    refine lv_iload X.1.1 X.1.2.1 dL_grow_138 (lv_at hl 14 rfl) ?_
    refine lv_iload X.1.1 X.1.2.1 dL_grow_140 (lv_at hl 9 rfl) ?_
    refine sa_icmp_lt (tgt := 236) X.1 hy14 hy9 dL_grow_142 (by decide) (fun hc => ?_) (fun hc => ?_)
    · have hw := hw.1 hc
      refine lv_aload X.1.1 X.1.2.1 dL_grow_236 (lv_at hl 4 rfl) ?_
      refine lv_iload X.1.1 X.1.2.1 dL_grow_238 (lv_at hl 5 rfl) ?_
      refine lv_iload X.1.1 X.1.2.1 dL_grow_240 (lv_at hl 12 rfl) ?_
      have r17 := inR_ite (c := 0 ≤ y12) hy12 hy13
      refine cut_j (A := ∀ v18 : Int, v18 = (if 0 ≤ y12 then y12 else y13) → WV p l e 3 s m args below meth c G e0 α κ B Qm H locs 252 ls [.int (Int32.ofInt v18), .int (Int32.ofInt p5), .ref (α 113 0)]) (fun J19 => ?_) ?_
      · refine sa_if_ge (tgt := 250) X.1 hy12 dL_grow_242 (by decide) (fun hc => ?_) (fun hc => ?_)
        · skip
          refine lv_iload X.1.1 X.1.2.1 dL_grow_250 (lv_at hl 12 rfl) ?_
          exact J19 (y12) (if_pos (c := 0 ≤ y12) hc).symm
        · skip
          refine lv_iload X.1.1 X.1.2.1 dL_grow_245 (lv_at hl 13 rfl) ?_
          refine lv_goto (tgt := 252) X.1.1 X.1.2.1 dL_grow_247 (by decide) ?_
          exact J19 (y13) (if_neg (c := 0 ≤ y12) (Int.not_le.mpr hc)).symm
      intro v18 hv18
      subst hv18
      have c20 := hw.1
      have hw := hw.2
      refine sa_iadd X.1 dL_grow_252 ?_
      refine lv_dup2_11 X.1.1 X.1.2.1 dL_grow_253 rfl rfl ?_
      have c21 := hw.1
      have hw := hw.2
      refine ra_113 X hR (okf X.2.2.1 rfl) c21 dL_grow_254 ?_
      have r22 := hR.r 113 0 (p5 + (if 0 ≤ y12 then y12 else y13))
      refine sa_const X.1 dL_grow_255 ?_
      have c23 := hw.1
      have hw := hw.2
      refine sa_iadd X.1 dL_grow_256 ?_
      have c24 := hw.1
      have hw := hw.2
      refine wa_113 X hR hS (okf X.2.2.1 rfl) c24 c23 dL_grow_257 (fun H locs hR hS => ?_)
      obtain ⟨M25, e26⟩ : ∃ z : Mem, z = up M 113 0 (p5 + (if 0 ≤ y12 then y12 else y13)) ((M 113 0 (p5 + (if 0 ≤ y12 then y12 else y13))) + 1) := ⟨_, rfl⟩
      rw [← e26] at hR
      have hw := hw M25 e26
      have c27 := hw.1
      have hw := hw.2
      refine lv_iinc (v := Int32.ofInt (y11 + (-1))) (lv' := [(11, .int (Int32.ofInt (y11 + (-1)))), (0, .ref (α 104 0)), (1, .ref (α 107 0)), (2, .ref (α 108 0)), (3, .ref (α 112 0)), (4, .ref (α 113 0)), (5, .int (Int32.ofInt p5)), (6, .int (Int32.ofInt p6)), (7, .int (Int32.ofInt y7)), (8, .int (Int32.ofInt y8)), (9, .int (Int32.ofInt y9)), (10, .int (Int32.ofInt y10)), (12, .int (Int32.ofInt y12)), (13, .int (Int32.ofInt y13)), (14, .int (Int32.ofInt y14))]) X.1.1 X.1.2.1 dL_grow_258 hl (k := 11) rfl (Int32.ofInt_add _ _).symm (by decide) rfl (fun ls hl => ?_)
      refine lv_goto (tgt := 121) X.1.1 X.1.2.1 dL_grow_261 (by decide) ?_
      exact hK121 _ _ _ _ _ _ hw hy7 hy8 hy9 hy10 c27 _ _ hR hS _ (lv_sub hl [1, 2, 3, 4, 5, 6, 7, 8, 9, 10, 11, 0] rfl)
    · have hw := hw.2 hc
      refine lv_aload_n X.1.1 X.1.2.1 dL_grow_145 rfl (lv_at hl 0 rfl) ?_
      refine sa_const X.1 dL_grow_146 ?_
      refine lv_iload X.1.1 X.1.2.1 dL_grow_147 (lv_at hl 14 rfl) ?_
      have c28 := hw.1
      have hw := hw.2
      refine sa_imul X.1 dL_grow_149 ?_
      refine sa_const X.1 dL_grow_150 ?_
      have c29 := hw.1
      have hw := hw.2
      refine sa_iadd X.1 dL_grow_151 ?_
      have c30 := hw.1
      have hw := hw.2
      refine ra_104 X hR (okf X.2.2.1 rfl) c30 dL_grow_152 ?_
      have r31 := hR.r 104 0 ((4 * y14) + 3)
      have r32 := inR_ite (c := ¬ (M 104 0 ((4 * y14) + 3)) = 0) (inR_c (a := 0) rfl) (inR_c (a := 1) rfl)
      refine cut_j (A := ∀ v33 : Int, v33 = (if ¬ (M 104 0 ((4 * y14) + 3)) = 0 then (0 : Int) else 1) → WV p l e 3 s m args below meth c G e0 α κ B Qm H locs 161 ls [.int (Int32.ofInt v33)]) (fun J34 => ?_) ?_
      · refine sa_if_ne (tgt := 160) X.1 r31 dL_grow_153 (by decide) (fun hc => ?_) (fun hc => ?_)
        · skip
          refine sa_const X.1 dL_grow_160 ?_
          exact J34 (0) (if_pos (c := ¬ (M 104 0 ((4 * y14) + 3)) = 0) hc).symm
        · skip
          refine sa_const X.1 dL_grow_156 ?_
          refine lv_goto (tgt := 161) X.1.1 X.1.2.1 dL_grow_157 (by decide) ?_
          exact J34 (1) (if_neg (c := ¬ (M 104 0 ((4 * y14) + 3)) = 0) (fun z => z hc)).symm
      intro v33 hv33
      subst hv33
      refine lv_istore (lv' := [(15, .int (Int32.ofInt (if ¬ (M 104 0 ((4 * y14) + 3)) = 0 then (0 : Int) else 1))), (0, .ref (α 104 0)), (1, .ref (α 107 0)), (2, .ref (α 108 0)), (3, .ref (α 112 0)), (4, .ref (α 113 0)), (5, .int (Int32.ofInt p5)), (6, .int (Int32.ofInt p6)), (7, .int (Int32.ofInt y7)), (8, .int (Int32.ofInt y8)), (9, .int (Int32.ofInt y9)), (10, .int (Int32.ofInt y10)), (11, .int (Int32.ofInt y11)), (12, .int (Int32.ofInt y12)), (13, .int (Int32.ofInt y13)), (14, .int (Int32.ofInt y14))]) X.1.1 X.1.2.1 dL_grow_161 hl (by decide) rfl (fun ls hl => ?_)
      refine lv_iload X.1.1 X.1.2.1 dL_grow_163 (lv_at hl 0 rfl) ?_
      have r37 := inR_ite (c := (if ¬ (M 104 0 ((4 * y14) + 3)) = 0 then (0 : Int) else 1) = 0) hy13 (inR_ite (c := 0 ≤ y13) hy13 hy14)
      refine cut_j (A := ∀ v38 : Int, v38 = (if (if ¬ (M 104 0 ((4 * y14) + 3)) = 0 then (0 : Int) else 1) = 0 then y13 else (if 0 ≤ y13 then y13 else y14)) → WV p l e 3 s m args below meth c G e0 α κ B Qm H locs 180 ls [.int (Int32.ofInt v38)]) (fun J39 => ?_) ?_
      · refine sa_if_eq (tgt := 178) X.1 r32 dL_grow_165 (by decide) (fun hc => ?_) (fun hc => ?_)
        · skip
          refine lv_iload X.1.1 X.1.2.1 dL_grow_178 (lv_at hl 14 rfl) ?_
          exact J39 (y13) (if_pos (c := (if ¬ (M 104 0 ((4 * y14) + 3)) = 0 then (0 : Int) else 1) = 0) hc).symm
        · skip
          refine lv_iload X.1.1 X.1.2.1 dL_grow_168 (lv_at hl 14 rfl) ?_
          refine cut_j (A := ∀ v35 : Int, v35 = (if 0 ≤ y13 then y13 else y14) → WV p l e 3 s m args below meth c G e0 α κ B Qm H locs 180 ls [.int (Int32.ofInt v35)]) (fun J36 => ?_) ?_
          · refine sa_if_ge (tgt := 178) X.1 hy13 dL_grow_170 (by decide) (fun hc => ?_) (fun hc => ?_)
            · skip
              refine lv_iload X.1.1 X.1.2.1 dL_grow_178 (lv_at hl 14 rfl) ?_
              exact J36 (y13) (if_pos (c := 0 ≤ y13) hc).symm
            · skip
              refine lv_iload X.1.1 X.1.2.1 dL_grow_173 (lv_at hl 15 rfl) ?_
              refine lv_goto (tgt := 180) X.1.1 X.1.2.1 dL_grow_175 (by decide) ?_
              exact J36 (y14) (if_neg (c := 0 ≤ y13) (Int.not_le.mpr hc)).symm
          intro v35 hv35
          subst hv35
          exact J39 ((if 0 ≤ y13 then y13 else y14)) (if_neg (c := (if ¬ (M 104 0 ((4 * y14) + 3)) = 0 then (0 : Int) else 1) = 0) hc).symm
      intro v38 hv38
      subst hv38
      refine lv_istore (lv' := [(13, .int (Int32.ofInt (if (if ¬ (M 104 0 ((4 * y14) + 3)) = 0 then (0 : Int) else 1) = 0 then y13 else (if 0 ≤ y13 then y13 else y14)))), (15, .int (Int32.ofInt (if ¬ (M 104 0 ((4 * y14) + 3)) = 0 then (0 : Int) else 1))), (0, .ref (α 104 0)), (1, .ref (α 107 0)), (2, .ref (α 108 0)), (3, .ref (α 112 0)), (4, .ref (α 113 0)), (5, .int (Int32.ofInt p5)), (6, .int (Int32.ofInt p6)), (7, .int (Int32.ofInt y7)), (8, .int (Int32.ofInt y8)), (9, .int (Int32.ofInt y9)), (10, .int (Int32.ofInt y10)), (11, .int (Int32.ofInt y11)), (12, .int (Int32.ofInt y12)), (14, .int (Int32.ofInt y14))]) X.1.1 X.1.2.1 dL_grow_180 hl (by decide) rfl (fun ls hl => ?_)
      refine lv_iload X.1.1 X.1.2.1 dL_grow_182 (lv_at hl 1 rfl) ?_
      have s54 := hw.1
      have hw := hw.2
      have r55 := inR_ite (c := (if ¬ (M 104 0 ((4 * y14) + 3)) = 0 then (0 : Int) else 1) = 0) hy12 (inR_ite (c := (M 104 0 (4 * y14)) = 1) hy12 (inR_ite (c := y12 < 0) hy14 (inR_ite (c := (M 113 0 (p5 + y12)) < (M 113 0 (p5 + y14))) hy12 hy14)))
      refine cut_j (A := ∀ v56 : Int, v56 = (if (if ¬ (M 104 0 ((4 * y14) + 3)) = 0 then (0 : Int) else 1) = 0 then y12 else (if (M 104 0 (4 * y14)) = 1 then y12 else (if y12 < 0 then y14 else (if (M 113 0 (p5 + y12)) < (M 113 0 (p5 + y14)) then y12 else y14)))) → WV p l e 3 s m args below meth c G e0 α κ B Qm H locs 228 ls [.int (Int32.ofInt v56)]) (fun J57 => ?_) ?_
      · refine sa_if_eq (tgt := 226) X.1 r32 dL_grow_184 (by decide) (fun hc => ?_) (fun hc => ?_)
        · skip
          refine lv_iload X.1.1 X.1.2.1 dL_grow_226 (lv_at hl 14 rfl) ?_
          exact J57 (y12) (if_pos (c := (if ¬ (M 104 0 ((4 * y14) + 3)) = 0 then (0 : Int) else 1) = 0) hc).symm
        · have hw := s54 hc
          refine lv_aload_n X.1.1 X.1.2.1 dL_grow_187 rfl (lv_at hl 2 rfl) ?_
          refine sa_const X.1 dL_grow_188 ?_
          refine lv_iload X.1.1 X.1.2.1 dL_grow_189 (lv_at hl 15 rfl) ?_
          have c40 := hw.1
          have hw := hw.2
          refine sa_imul X.1 dL_grow_191 ?_
          have c41 := hw.1
          have hw := hw.2
          refine ra_104 X hR (okf X.2.2.1 rfl) c41 dL_grow_192 ?_
          refine sa_const X.1 dL_grow_193 ?_
          have s51 := hw.1
          have hw := hw.2
          refine cut_j (A := ∀ v52 : Int, v52 = (if (M 104 0 (4 * y14)) = 1 then y12 else (if y12 < 0 then y14 else (if (M 113 0 (p5 + y12)) < (M 113 0 (p5 + y14)) then y12 else y14))) → WV p l e 3 s m args below meth c G e0 α κ B Qm H locs 228 ls [.int (Int32.ofInt v52)]) (fun J53 => ?_) ?_
          · refine sa_icmp_eq (tgt := 226) X.1 (hR.r 104 0 (4 * y14)) (inR_c (a := 1) rfl) dL_grow_194 (by decide) (fun hc => ?_) (fun hc => ?_)
            · skip
              refine lv_iload X.1.1 X.1.2.1 dL_grow_226 (lv_at hl 14 rfl) ?_
              exact J53 (y12) (if_pos (c := (M 104 0 (4 * y14)) = 1) hc).symm
            · have hw := s51 hc
              refine lv_iload X.1.1 X.1.2.1 dL_grow_197 (lv_at hl 14 rfl) ?_
              have s48 := hw.1
              have hw := hw.2
              refine cut_j (A := ∀ v49 : Int, v49 = (if y12 < 0 then y14 else (if (M 113 0 (p5 + y12)) < (M 113 0 (p5 + y14)) then y12 else y14)) → WV p l e 3 s m args below meth c G e0 α κ B Qm H locs 228 ls [.int (Int32.ofInt v49)]) (fun J50 => ?_) ?_
              · refine sa_if_lt (tgt := 221) X.1 hy12 dL_grow_199 (by decide) (fun hc => ?_) (fun hc => ?_)
                · skip
                  refine lv_iload X.1.1 X.1.2.1 dL_grow_221 (lv_at hl 15 rfl) ?_
                  refine lv_goto (tgt := 228) X.1.1 X.1.2.1 dL_grow_223 (by decide) ?_
                  exact J50 (y14) (if_pos (c := y12 < 0) hc).symm
                · have hw := s48 hc
                  refine lv_aload X.1.1 X.1.2.1 dL_grow_202 (lv_at hl 6 rfl) ?_
                  refine lv_iload X.1.1 X.1.2.1 dL_grow_204 (lv_at hl 7 rfl) ?_
                  refine lv_iload X.1.1 X.1.2.1 dL_grow_206 (lv_at hl 15 rfl) ?_
                  have c42 := hw.1
                  have hw := hw.2
                  refine sa_iadd X.1 dL_grow_208 ?_
                  have c43 := hw.1
                  have hw := hw.2
                  refine ra_113 X hR (okf X.2.2.1 rfl) c43 dL_grow_209 ?_
                  refine lv_aload X.1.1 X.1.2.1 dL_grow_210 (lv_at hl 6 rfl) ?_
                  refine lv_iload X.1.1 X.1.2.1 dL_grow_212 (lv_at hl 7 rfl) ?_
                  refine lv_iload X.1.1 X.1.2.1 dL_grow_214 (lv_at hl 14 rfl) ?_
                  have c44 := hw.1
                  have hw := hw.2
                  refine sa_iadd X.1 dL_grow_216 ?_
                  have c45 := hw.1
                  have hw := hw.2
                  refine ra_113 X hR (okf X.2.2.1 rfl) c45 dL_grow_217 ?_
                  refine cut_j (A := ∀ v46 : Int, v46 = (if (M 113 0 (p5 + y12)) < (M 113 0 (p5 + y14)) then y12 else y14) → WV p l e 3 s m args below meth c G e0 α κ B Qm H locs 228 ls [.int (Int32.ofInt v46)]) (fun J47 => ?_) ?_
                  · refine sa_icmp_gt (tgt := 226) X.1 (hR.r 113 0 (p5 + y14)) (hR.r 113 0 (p5 + y12)) dL_grow_218 (by decide) (fun hc => ?_) (fun hc => ?_)
                    · skip
                      refine lv_iload X.1.1 X.1.2.1 dL_grow_226 (lv_at hl 14 rfl) ?_
                      exact J47 (y12) (if_pos (c := (M 113 0 (p5 + y12)) < (M 113 0 (p5 + y14))) hc).symm
                    · skip
                      refine lv_iload X.1.1 X.1.2.1 dL_grow_221 (lv_at hl 15 rfl) ?_
                      refine lv_goto (tgt := 228) X.1.1 X.1.2.1 dL_grow_223 (by decide) ?_
                      exact J47 (y14) (if_neg (c := (M 113 0 (p5 + y12)) < (M 113 0 (p5 + y14))) (Int.not_lt.mpr hc)).symm
                  intro v46 hv46
                  subst hv46
                  exact J50 ((if (M 113 0 (p5 + y12)) < (M 113 0 (p5 + y14)) then y12 else y14)) (if_neg (c := y12 < 0) (Int.not_lt.mpr hc)).symm
              intro v49 hv49
              subst hv49
              exact J53 ((if y12 < 0 then y14 else (if (M 113 0 (p5 + y12)) < (M 113 0 (p5 + y14)) then y12 else y14))) (if_neg (c := (M 104 0 (4 * y14)) = 1) hc).symm
          intro v52 hv52
          subst hv52
          exact J57 ((if (M 104 0 (4 * y14)) = 1 then y12 else (if y12 < 0 then y14 else (if (M 113 0 (p5 + y12)) < (M 113 0 (p5 + y14)) then y12 else y14)))) (if_neg (c := (if ¬ (M 104 0 ((4 * y14) + 3)) = 0 then (0 : Int) else 1) = 0) hc).symm
      intro v56 hv56
      subst hv56
      refine lv_istore (lv' := [(12, .int (Int32.ofInt (if (if ¬ (M 104 0 ((4 * y14) + 3)) = 0 then (0 : Int) else 1) = 0 then y12 else (if (M 104 0 (4 * y14)) = 1 then y12 else (if y12 < 0 then y14 else (if (M 113 0 (p5 + y12)) < (M 113 0 (p5 + y14)) then y12 else y14)))))), (13, .int (Int32.ofInt (if (if ¬ (M 104 0 ((4 * y14) + 3)) = 0 then (0 : Int) else 1) = 0 then y13 else (if 0 ≤ y13 then y13 else y14)))), (15, .int (Int32.ofInt (if ¬ (M 104 0 ((4 * y14) + 3)) = 0 then (0 : Int) else 1))), (0, .ref (α 104 0)), (1, .ref (α 107 0)), (2, .ref (α 108 0)), (3, .ref (α 112 0)), (4, .ref (α 113 0)), (5, .int (Int32.ofInt p5)), (6, .int (Int32.ofInt p6)), (7, .int (Int32.ofInt y7)), (8, .int (Int32.ofInt y8)), (9, .int (Int32.ofInt y9)), (10, .int (Int32.ofInt y10)), (11, .int (Int32.ofInt y11)), (14, .int (Int32.ofInt y14))]) X.1.1 X.1.2.1 dL_grow_228 hl (by decide) rfl (fun ls hl => ?_)
      have c58 := hw.1
      have hw := hw.2
      refine lv_iinc (v := Int32.ofInt (y14 + (-1))) (lv' := [(14, .int (Int32.ofInt (y14 + (-1)))), (12, .int (Int32.ofInt (if (if ¬ (M 104 0 ((4 * y14) + 3)) = 0 then (0 : Int) else 1) = 0 then y12 else (if (M 104 0 (4 * y14)) = 1 then y12 else (if y12 < 0 then y14 else (if (M 113 0 (p5 + y12)) < (M 113 0 (p5 + y14)) then y12 else y14)))))), (13, .int (Int32.ofInt (if (if ¬ (M 104 0 ((4 * y14) + 3)) = 0 then (0 : Int) else 1) = 0 then y13 else (if 0 ≤ y13 then y13 else y14)))), (15, .int (Int32.ofInt (if ¬ (M 104 0 ((4 * y14) + 3)) = 0 then (0 : Int) else 1))), (0, .ref (α 104 0)), (1, .ref (α 107 0)), (2, .ref (α 108 0)), (3, .ref (α 112 0)), (4, .ref (α 113 0)), (5, .int (Int32.ofInt p5)), (6, .int (Int32.ofInt p6)), (7, .int (Int32.ofInt y7)), (8, .int (Int32.ofInt y8)), (9, .int (Int32.ofInt y9)), (10, .int (Int32.ofInt y10)), (11, .int (Int32.ofInt y11))]) X.1.1 X.1.2.1 dL_grow_230 hl (k := 15) rfl (Int32.ofInt_add _ _).symm (by decide) rfl (fun ls hl => ?_)
      refine lv_goto (tgt := 138) X.1.1 X.1.2.1 dL_grow_233 (by decide) ?_
      exact ih _ _ _ _ _ _ _ _ _ hw hy7 hy8 hy9 hy10 hy11 r55 r37 c58 _ _ hR hS _ (lv_sub hl [4, 5, 6, 7, 8, 9, 10, 11, 12, 13, 14, 15, 1, 2, 0] rfl)
set_option maxHeartbeats 4000000 in
set_option maxRecDepth 100000 in
theorem t_L_grow_121 {p5 : Int} {p6 : Int} (X : CX p m c cL_grow 16 s args RL G B κ meth none) (hp5 : inR p5) (hp6 : inR p6) {Qm : Mem → Prop} {K3 : Int → Mem → Prop} {K12 : Int → Int → Mem → Prop} (hK3 : ∀ y7 : Int, ∀ M : Mem, K3 y7 M → inR y7 → ∀ (H : Heap) (locs : List Loc), Rp G e0 α κ B M H → va_S (fun q => B ≤ q) s.heap H locs → ∀ (ls : Array Slot), lv_has ls 16 [(0, .ref (α 104 0)), (1, .ref (α 107 0)), (2, .ref (α 108 0)), (3, .ref (α 112 0)), (4, .ref (α 113 0)), (5, .int (Int32.ofInt p5)), (6, .int (Int32.ofInt p6)), (7, .int (Int32.ofInt y7))] → WV p l e 3 s m args below meth c G e0 α κ B Qm H locs 3 ls []) (hK12 : ∀ y7 : Int, ∀ y8 : Int, ∀ M : Mem, K12 y7 y8 M → inR y7 → inR y8 → ∀ (H : Heap) (locs : List Loc), Rp G e0 α κ B M H → va_S (fun q => B ≤ q) s.heap H locs → ∀ (ls : Array Slot), lv_has ls 16 [(0, .ref (α 104 0)), (1, .ref (α 107 0)), (2, .ref (α 108 0)), (3, .ref (α 112 0)), (4, .ref (α 113 0)), (5, .int (Int32.ofInt p5)), (6, .int (Int32.ofInt p6)), (7, .int (Int32.ofInt y7)), (8, .int (Int32.ofInt y8))] → WV p l e 3 s m args below meth c G e0 α κ B Qm H locs 12 ls []) : ∀ n : Nat, ∀ y7 : Int, ∀ y8 : Int, ∀ y9 : Int, ∀ y10 : Int, ∀ y11 : Int, ∀ M : Mem, wp_L_grow_121 p5 p6 Qm K3 K12 n y7 y8 y9 y10 y11 M → inR y7 → inR y8 → inR y9 → inR y10 → inR y11 → ∀ (H : Heap) (locs : List Loc), Rp G e0 α κ B M H → va_S (fun q => B ≤ q) s.heap H locs → ∀ (ls : Array Slot), lv_has ls 16 [(0, .ref (α 104 0)), (1, .ref (α 107 0)), (2, .ref (α 108 0)), (3, .ref (α 112 0)), (4, .ref (α 113 0)), (5, .int (Int32.ofInt p5)), (6, .int (Int32.ofInt p6)), (7, .int (Int32.ofInt y7)), (8, .int (Int32.ofInt y8)), (9, .int (Int32.ofInt y9)), (10, .int (Int32.ofInt y10)), (11, .int (Int32.ofInt y11))] → WV p l e 3 s m args below meth c G e0 α κ B Qm H locs 121 ls [] := by
  intro n
  induction n with
  | zero =>
    intro y7 y8 y9 y10 y11 M hw hy7 hy8 hy9 hy10 hy11 H locs hR hS ls hl
    exact hw.elim
  | succ n ih =>
    intro y7 y8 y9 y10 y11 M hw hy7 hy8 hy9 hy10 hy11 H locs hR hS ls hl
    have hw : ((y11 ≤ 0 → (inR (y8 + 1)) ∧ K12 y7 (y8 + 1) M) ∧ (0 < y11 → (inR (y10 - 1)) ∧ (∃ n59 : Nat, wp_L_grow_138 p5 p6 Qm K3 K12 (wp_L_grow_121 p5 p6 Qm K3 K12 n) n59 y7 y8 y9 y10 y11 (-1) (-1) (y10 - 1) M))) := hw
    refine lv_iload X.1.1 X.1.2.1 dL_grow_121 (lv_at hl 11 rfl) ?_
    refine sa_if_le (tgt := 264) X.1 hy11 dL_grow_123 (by decide) (fun hc => ?_) (fun hc => ?_)
    · have hw := hw.1 hc
      have c15 := hw.1
      have hw := hw.2
      refine lv_iinc (v := Int32.ofInt (y8 + 1)) (lv' := [(8, .int (Int32.ofInt (y8 + 1))), (0, .ref (α 104 0)), (1, .ref (α 107 0)), (2, .ref (α 108 0)), (3, .ref (α 112 0)), (4, .ref (α 113 0)), (5, .int (Int32.ofInt p5)), (6, .int (Int32.ofInt p6)), (7, .int (Int32.ofInt y7)), (9, .int (Int32.ofInt y9)), (10, .int (Int32.ofInt y10)), (11, .int (Int32.ofInt y11))]) X.1.1 X.1.2.1 dL_grow_264 hl (k := 8) rfl (Int32.ofInt_add _ _).symm (by decide) rfl (fun ls hl => ?_)
      refine lv_goto (tgt := 12) X.1.1 X.1.2.1 dL_grow_267 (by decide) ?_
      exact hK12 _ _ _ hw hy7 c15 _ _ hR hS _ (lv_sub hl [1, 2, 3, 4, 5, 6, 7, 8, 0] rfl)
    · have hw := hw.2 hc
      refine sa_const X.1 dL_grow_126 ?_
      refine lv_istore (lv' := [(12, .int (Int32.ofInt (-1))), (0, .ref (α 104 0)), (1, .ref (α 107 0)), (2, .ref (α 108 0)), (3, .ref (α 112 0)), (4, .ref (α 113 0)), (5, .int (Int32.ofInt p5)), (6, .int (Int32.ofInt p6)), (7, .int (Int32.ofInt y7)), (8, .int (Int32.ofInt y8)), (9, .int (Int32.ofInt y9)), (10, .int (Int32.ofInt y10)), (11, .int (Int32.ofInt y11))]) X.1.1 X.1.2.1 dL_grow_127 hl (by decide) rfl (fun ls hl => ?_)
      refine sa_const X.1 dL_grow_129 ?_
      refine lv_istore (lv' := [(13, .int (Int32.ofInt (-1))), (12, .int (Int32.ofInt (-1))), (0, .ref (α 104 0)), (1, .ref (α 107 0)), (2, .ref (α 108 0)), (3, .ref (α 112 0)), (4, .ref (α 113 0)), (5, .int (Int32.ofInt p5)), (6, .int (Int32.ofInt p6)), (7, .int (Int32.ofInt y7)), (8, .int (Int32.ofInt y8)), (9, .int (Int32.ofInt y9)), (10, .int (Int32.ofInt y10)), (11, .int (Int32.ofInt y11))]) X.1.1 X.1.2.1 dL_grow_130 hl (by decide) rfl (fun ls hl => ?_)
      refine lv_iload X.1.1 X.1.2.1 dL_grow_132 (lv_at hl 12 rfl) ?_
      refine sa_const X.1 dL_grow_134 ?_
      have c16 := hw.1
      have hw := hw.2
      refine sa_isub X.1 dL_grow_135 ?_
      refine lv_istore (lv' := [(14, .int (Int32.ofInt (y10 - 1))), (13, .int (Int32.ofInt (-1))), (12, .int (Int32.ofInt (-1))), (0, .ref (α 104 0)), (1, .ref (α 107 0)), (2, .ref (α 108 0)), (3, .ref (α 112 0)), (4, .ref (α 113 0)), (5, .int (Int32.ofInt p5)), (6, .int (Int32.ofInt p6)), (7, .int (Int32.ofInt y7)), (8, .int (Int32.ofInt y8)), (9, .int (Int32.ofInt y9)), (10, .int (Int32.ofInt y10)), (11, .int (Int32.ofInt y11))]) X.1.1 X.1.2.1 dL_grow_136 hl (by decide) rfl (fun ls hl => ?_)
      obtain ⟨n59, hw⟩ := hw
      exact t_L_grow_138 X hp5 hp6 hK3 hK12 ih n59 _ _ _ _ _ _ _ _ _ hw hy7 hy8 hy9 hy10 hy11 (inR_c (a := -1) rfl) (inR_c (a := -1) rfl) c16 _ _ hR hS _ (lv_sub hl [3, 4, 5, 6, 7, 8, 9, 10, 11, 12, 13, 14, 2, 1, 0] rfl)
set_option maxHeartbeats 4000000 in
set_option maxRecDepth 100000 in
theorem t_L_grow_80 {p5 : Int} {p6 : Int} (X : CX p m c cL_grow 16 s args RL G B κ meth none) (hp5 : inR p5) (hp6 : inR p6) {Qm : Mem → Prop} {K3 : Int → Mem → Prop} {K12 : Int → Int → Mem → Prop} (hK3 : ∀ y7 : Int, ∀ M : Mem, K3 y7 M → inR y7 → ∀ (H : Heap) (locs : List Loc), Rp G e0 α κ B M H → va_S (fun q => B ≤ q) s.heap H locs → ∀ (ls : Array Slot), lv_has ls 16 [(0, .ref (α 104 0)), (1, .ref (α 107 0)), (2, .ref (α 108 0)), (3, .ref (α 112 0)), (4, .ref (α 113 0)), (5, .int (Int32.ofInt p5)), (6, .int (Int32.ofInt p6)), (7, .int (Int32.ofInt y7))] → WV p l e 3 s m args below meth c G e0 α κ B Qm H locs 3 ls []) (hK12 : ∀ y7 : Int, ∀ y8 : Int, ∀ M : Mem, K12 y7 y8 M → inR y7 → inR y8 → ∀ (H : Heap) (locs : List Loc), Rp G e0 α κ B M H → va_S (fun q => B ≤ q) s.heap H locs → ∀ (ls : Array Slot), lv_has ls 16 [(0, .ref (α 104 0)), (1, .ref (α 107 0)), (2, .ref (α 108 0)), (3, .ref (α 112 0)), (4, .ref (α 113 0)), (5, .int (Int32.ofInt p5)), (6, .int (Int32.ofInt p6)), (7, .int (Int32.ofInt y7)), (8, .int (Int32.ofInt y8))] → WV p l e 3 s m args below meth c G e0 α κ B Qm H locs 12 ls []) : ∀ n : Nat, ∀ y7 : Int, ∀ y8 : Int, ∀ y9 : Int, ∀ y10 : Int, ∀ y11 : Int, ∀ y12 : Int, ∀ M : Mem, wp_L_grow_80 p5 p6 Qm K3 K12 n y7 y8 y9 y10 y11 y12 M → inR y7 → inR y8 → inR y9 → inR y10 → inR y11 → inR y12 → ∀ (H : Heap) (locs : List Loc), Rp G e0 α κ B M H → va_S (fun q => B ≤ q) s.heap H locs → ∀ (ls : Array Slot), lv_has ls 16 [(0, .ref (α 104 0)), (1, .ref (α 107 0)), (2, .ref (α 108 0)), (3, .ref (α 112 0)), (4, .ref (α 113 0)), (5, .int (Int32.ofInt p5)), (6, .int (Int32.ofInt p6)), (7, .int (Int32.ofInt y7)), (8, .int (Int32.ofInt y8)), (9, .int (Int32.ofInt y9)), (10, .int (Int32.ofInt y10)), (11, .int (Int32.ofInt y11)), (12, .int (Int32.ofInt y12))] → WV p l e 3 s m args below meth c G e0 α κ B Qm H locs 80 ls [] := by
  intro n
  induction n with
  | zero =>
    intro y7 y8 y9 y10 y11 y12 M hw hy7 hy8 hy9 hy10 hy11 hy12 H locs hR hS ls hl
    exact hw.elim
  | succ n ih =>
    intro y7 y8 y9 y10 y11 y12 M hw hy7 hy8 hy9 hy10 hy11 hy12 H locs hR hS ls hl
    have hw : ((y10 ≤ y12 → (∃ n60 : Nat, wp_L_grow_121 p5 p6 Qm K3 K12 n60 y7 y8 y9 y10 y11 M)) ∧ (y12 < y10 → (inR (4 * y12)) ∧ (inR ((4 * y12) + 3)) ∧ (0 ≤ ((4 * y12) + 3) ∧ ((4 * y12) + 3) < 16) ∧ ((M 104 0 ((4 * y12) + 3)) = 0 → (inR (p5 + y12)) ∧ (0 ≤ (p5 + y12) ∧ (p5 + y12) < 30) ∧ True) ∧ (inR (y11 - (if ¬ (M 104 0 ((4 * y12) + 3)) = 0 then (0 : Int) else (M 113 0 (p5 + y12))))) ∧ (inR (y12 + 1)) ∧ wp_L_grow_80 p5 p6 Qm K3 K12 n y7 y8 y9 y10 (y11 - (if ¬ (M 104 0 ((4 * y12) + 3)) = 0 then (0 : Int) else (M 113 0 (p5 + y12)))) (y12 + 1) M)) := hw
    refine lv_iload X.1.1 X.1.2.1 dL_grow_80 (lv_at hl 12 rfl) ?_
    refine lv_iload X.1.1 X.1.2.1 dL_grow_82 (lv_at hl 10 rfl) ?_
    refine sa_icmp_ge (tgt := 121) X.1 hy12 hy10 dL_grow_84 (by decide) (fun hc => ?_) (fun hc => ?_)
    · have hw := hw.1 hc
      obtain ⟨n60, hw⟩ := hw
      exact t_L_grow_121 X hp5 hp6 hK3 hK12 n60 _ _ _ _ _ _ hw hy7 hy8 hy9 hy10 hy11 _ _ hR hS _ (lv_sub hl [0, 1, 2, 3, 4, 5, 6, 7, 8, 9, 10, 11] rfl)
    · have hw := hw.2 hc
      refine lv_iload X.1.1 X.1.2.1 dL_grow_87 (lv_at hl 11 rfl) ?_
      refine lv_aload_n X.1.1 X.1.2.1 dL_grow_89 rfl (lv_at hl 0 rfl) ?_
      refine sa_const X.1 dL_grow_90 ?_
      refine lv_iload X.1.1 X.1.2.1 dL_grow_91 (lv_at hl 12 rfl) ?_
      have c61 := hw.1
      have hw := hw.2
      refine sa_imul X.1 dL_grow_93 ?_
      refine sa_const X.1 dL_grow_94 ?_
      have c62 := hw.1
      have hw := hw.2
      refine sa_iadd X.1 dL_grow_95 ?_
      have c63 := hw.1
      have hw := hw.2
      refine ra_104 X hR (okf X.2.2.1 rfl) c63 dL_grow_96 ?_
      have r64 := hR.r 104 0 ((4 * y12) + 3)
      have s67 := hw.1
      have hw := hw.2
      have r68 := inR_ite (c := ¬ (M 104 0 ((4 * y12) + 3)) = 0) (inR_c (a := 0) rfl) (hR.r 113 0 (p5 + y12))
      refine cut_j (A := ∀ v69 : Int, v69 = (if ¬ (M 104 0 ((4 * y12) + 3)) = 0 then (0 : Int) else (M 113 0 (p5 + y12))) → WV p l e 3 s m args below meth c G e0 α κ B Qm H locs 112 ls [.int (Int32.ofInt v69), .int (Int32.ofInt y11)]) (fun J70 => ?_) ?_
      · refine sa_if_ne (tgt := 111) X.1 r64 dL_grow_97 (by decide) (fun hc => ?_) (fun hc => ?_)
        · skip
          refine sa_const X.1 dL_grow_111 ?_
          exact J70 (0) (if_pos (c := ¬ (M 104 0 ((4 * y12) + 3)) = 0) hc).symm
        · have hw := s67 hc
          refine lv_aload X.1.1 X.1.2.1 dL_grow_100 (lv_at hl 4 rfl) ?_
          refine lv_iload X.1.1 X.1.2.1 dL_grow_102 (lv_at hl 5 rfl) ?_
          refine lv_iload X.1.1 X.1.2.1 dL_grow_104 (lv_at hl 12 rfl) ?_
          have c65 := hw.1
          have hw := hw.2
          refine sa_iadd X.1 dL_grow_106 ?_
          have c66 := hw.1
          have hw := hw.2
          refine ra_113 X hR (okf X.2.2.1 rfl) c66 dL_grow_107 ?_
          refine lv_goto (tgt := 112) X.1.1 X.1.2.1 dL_grow_108 (by decide) ?_
          exact J70 ((M 113 0 (p5 + y12))) (if_neg (c := ¬ (M 104 0 ((4 * y12) + 3)) = 0) (fun z => z hc)).symm
      intro v69 hv69
      subst hv69
      have c71 := hw.1
      have hw := hw.2
      refine sa_isub X.1 dL_grow_112 ?_
      refine lv_istore (lv' := [(11, .int (Int32.ofInt (y11 - (if ¬ (M 104 0 ((4 * y12) + 3)) = 0 then (0 : Int) else (M 113 0 (p5 + y12)))))), (0, .ref (α 104 0)), (1, .ref (α 107 0)), (2, .ref (α 108 0)), (3, .ref (α 112 0)), (4, .ref (α 113 0)), (5, .int (Int32.ofInt p5)), (6, .int (Int32.ofInt p6)), (7, .int (Int32.ofInt y7)), (8, .int (Int32.ofInt y8)), (9, .int (Int32.ofInt y9)), (10, .int (Int32.ofInt y10)), (12, .int (Int32.ofInt y12))]) X.1.1 X.1.2.1 dL_grow_113 hl (by decide) rfl (fun ls hl => ?_)
      have c72 := hw.1
      have hw := hw.2
      refine lv_iinc (v := Int32.ofInt (y12 + 1)) (lv' := [(12, .int (Int32.ofInt (y12 + 1))), (11, .int (Int32.ofInt (y11 - (if ¬ (M 104 0 ((4 * y12) + 3)) = 0 then (0 : Int) else (M 113 0 (p5 + y12)))))), (0, .ref (α 104 0)), (1, .ref (α 107 0)), (2, .ref (α 108 0)), (3, .ref (α 112 0)), (4, .ref (α 113 0)), (5, .int (Int32.ofInt p5)), (6, .int (Int32.ofInt p6)), (7, .int (Int32.ofInt y7)), (8, .int (Int32.ofInt y8)), (9, .int (Int32.ofInt y9)), (10, .int (Int32.ofInt y10))]) X.1.1 X.1.2.1 dL_grow_115 hl (k := 12) rfl (Int32.ofInt_add _ _).symm (by decide) rfl (fun ls hl => ?_)
      refine lv_goto (tgt := 80) X.1.1 X.1.2.1 dL_grow_118 (by decide) ?_
      exact ih _ _ _ _ _ _ _ hw hy7 hy8 hy9 hy10 c71 c72 _ _ hR hS _ (lv_sub hl [2, 3, 4, 5, 6, 7, 8, 9, 10, 11, 12, 1, 0] rfl)
set_option maxHeartbeats 4000000 in
set_option maxRecDepth 100000 in
theorem t_L_grow_74 {p5 : Int} {p6 : Int} (X : CX p m c cL_grow 16 s args RL G B κ meth none) (hp5 : inR p5) (hp6 : inR p6) {Qm : Mem → Prop} {K3 : Int → Mem → Prop} {K12 : Int → Int → Mem → Prop} (hK3 : ∀ y7 : Int, ∀ M : Mem, K3 y7 M → inR y7 → ∀ (H : Heap) (locs : List Loc), Rp G e0 α κ B M H → va_S (fun q => B ≤ q) s.heap H locs → ∀ (ls : Array Slot), lv_has ls 16 [(0, .ref (α 104 0)), (1, .ref (α 107 0)), (2, .ref (α 108 0)), (3, .ref (α 112 0)), (4, .ref (α 113 0)), (5, .int (Int32.ofInt p5)), (6, .int (Int32.ofInt p6)), (7, .int (Int32.ofInt y7))] → WV p l e 3 s m args below meth c G e0 α κ B Qm H locs 3 ls []) (hK12 : ∀ y7 : Int, ∀ y8 : Int, ∀ M : Mem, K12 y7 y8 M → inR y7 → inR y8 → ∀ (H : Heap) (locs : List Loc), Rp G e0 α κ B M H → va_S (fun q => B ≤ q) s.heap H locs → ∀ (ls : Array Slot), lv_has ls 16 [(0, .ref (α 104 0)), (1, .ref (α 107 0)), (2, .ref (α 108 0)), (3, .ref (α 112 0)), (4, .ref (α 113 0)), (5, .int (Int32.ofInt p5)), (6, .int (Int32.ofInt p6)), (7, .int (Int32.ofInt y7)), (8, .int (Int32.ofInt y8))] → WV p l e 3 s m args below meth c G e0 α κ B Qm H locs 12 ls []) : ∀ y7 : Int, ∀ y8 : Int, ∀ y9 : Int, ∀ y10 : Int, ∀ z0 : Int, ∀ M : Mem, wp_L_grow_74 p5 p6 Qm K3 K12 y7 y8 y9 y10 z0 M → inR y7 → inR y8 → inR y9 → inR y10 → inR z0 → ∀ (H : Heap) (locs : List Loc), Rp G e0 α κ B M H → va_S (fun q => B ≤ q) s.heap H locs → ∀ (ls : Array Slot), lv_has ls 16 [(0, .ref (α 104 0)), (1, .ref (α 107 0)), (2, .ref (α 108 0)), (3, .ref (α 112 0)), (4, .ref (α 113 0)), (5, .int (Int32.ofInt p5)), (6, .int (Int32.ofInt p6)), (7, .int (Int32.ofInt y7)), (8, .int (Int32.ofInt y8)), (9, .int (Int32.ofInt y9)), (10, .int (Int32.ofInt y10))] → WV p l e 3 s m args below meth c G e0 α κ B Qm H locs 74 ls [.int (Int32.ofInt z0)] := by
  intro y7 y8 y9 y10 z0 M hw hy7 hy8 hy9 hy10 hz0 H locs hR hS ls hl
  have hw : (∃ n73 : Nat, wp_L_grow_80 p5 p6 Qm K3 K12 n73 y7 y8 y9 y10 z0 y9 M) := hw
  refine lv_istore (lv' := [(11, .int (Int32.ofInt z0)), (0, .ref (α 104 0)), (1, .ref (α 107 0)), (2, .ref (α 108 0)), (3, .ref (α 112 0)), (4, .ref (α 113 0)), (5, .int (Int32.ofInt p5)), (6, .int (Int32.ofInt p6)), (7, .int (Int32.ofInt y7)), (8, .int (Int32.ofInt y8)), (9, .int (Int32.ofInt y9)), (10, .int (Int32.ofInt y10))]) X.1.1 X.1.2.1 dL_grow_74 hl (by decide) rfl (fun ls hl => ?_)
  refine lv_iload X.1.1 X.1.2.1 dL_grow_76 (lv_at hl 10 rfl) ?_
  refine lv_istore (lv' := [(12, .int (Int32.ofInt y9)), (11, .int (Int32.ofInt z0)), (0, .ref (α 104 0)), (1, .ref (α 107 0)), (2, .ref (α 108 0)), (3, .ref (α 112 0)), (4, .ref (α 113 0)), (5, .int (Int32.ofInt p5)), (6, .int (Int32.ofInt p6)), (7, .int (Int32.ofInt y7)), (8, .int (Int32.ofInt y8)), (9, .int (Int32.ofInt y9)), (10, .int (Int32.ofInt y10))]) X.1.1 X.1.2.1 dL_grow_78 hl (by decide) rfl (fun ls hl => ?_)
  obtain ⟨n73, hw⟩ := hw
  exact t_L_grow_80 X hp5 hp6 hK3 hK12 n73 _ _ _ _ _ _ _ hw hy7 hy8 hy9 hy10 hz0 hy9 _ _ hR hS _ (lv_sub hl [2, 3, 4, 5, 6, 7, 8, 9, 10, 11, 12, 1, 0] rfl)
set_option maxHeartbeats 4000000 in
set_option maxRecDepth 100000 in
theorem t_L_grow_12 {p5 : Int} {p6 : Int} (X : CX p m c cL_grow 16 s args RL G B κ meth none) (hp5 : inR p5) (hp6 : inR p6) {Qm : Mem → Prop} {K3 : Int → Mem → Prop} (hK3 : ∀ y7 : Int, ∀ M : Mem, K3 y7 M → inR y7 → ∀ (H : Heap) (locs : List Loc), Rp G e0 α κ B M H → va_S (fun q => B ≤ q) s.heap H locs → ∀ (ls : Array Slot), lv_has ls 16 [(0, .ref (α 104 0)), (1, .ref (α 107 0)), (2, .ref (α 108 0)), (3, .ref (α 112 0)), (4, .ref (α 113 0)), (5, .int (Int32.ofInt p5)), (6, .int (Int32.ofInt p6)), (7, .int (Int32.ofInt y7))] → WV p l e 3 s m args below meth c G e0 α κ B Qm H locs 3 ls []) : ∀ n : Nat, ∀ y7 : Int, ∀ y8 : Int, ∀ M : Mem, wp_L_grow_12 p5 p6 Qm K3 n y7 y8 M → inR y7 → inR y8 → ∀ (H : Heap) (locs : List Loc), Rp G e0 α κ B M H → va_S (fun q => B ≤ q) s.heap H locs → ∀ (ls : Array Slot), lv_has ls 16 [(0, .ref (α 104 0)), (1, .ref (α 107 0)), (2, .ref (α 108 0)), (3, .ref (α 112 0)), (4, .ref (α 113 0)), (5, .int (Int32.ofInt p5)), (6, .int (Int32.ofInt p6)), (7, .int (Int32.ofInt y7)), (8, .int (Int32.ofInt y8))] → WV p l e 3 s m args below meth c G e0 α κ B Qm H locs 12 ls [] := by
  intro n
  induction n with
  | zero =>
    intro y7 y8 M hw hy7 hy8 H locs hR hS ls hl
    exact hw.elim
  | succ n ih =>
    intro y7 y8 M hw hy7 hy8 H locs hR hS ls hl
    have hw : (((M 112 0 2) ≤ y8 → (inR (y7 + 1)) ∧ K3 (y7 + 1) M) ∧ (y8 < (M 112 0 2) → (inR (6 * y8)) ∧ (inR ((6 * y8) + 1)) ∧ (0 ≤ ((6 * y8) + 1) ∧ ((6 * y8) + 1) < 60) ∧ (inR (6 * y8)) ∧ (inR ((6 * y8) + 3)) ∧ (0 ≤ ((6 * y8) + 3) ∧ ((6 * y8) + 3) < 60) ∧ (inR ((M 107 0 ((6 * y8) + 1)) + (M 107 0 ((6 * y8) + 3)))) ∧ wp_L_shows y8 M fun (x13 : Int) (M12 : Mem) => ((¬ x13 = y7 → wp_L_grow_74 p5 p6 Qm K3 (wp_L_grow_12 p5 p6 Qm K3 n) y7 y8 (M 107 0 ((6 * y8) + 1)) ((M 107 0 ((6 * y8) + 1)) + (M 107 0 ((6 * y8) + 3))) 0 M12) ∧ (x13 = y7 → wp_L_wants y8 p6 M12 fun (x75 : Int) (M74 : Mem) => (inR (x75 - y7)) ∧ (inR ((x75 - y7) + 1)) ∧ wp_L_grow_74 p5 p6 Qm K3 (wp_L_grow_12 p5 p6 Qm K3 n) y7 y8 (M 107 0 ((6 * y8) + 1)) ((M 107 0 ((6 * y8) + 1)) + (M 107 0 ((6 * y8) + 3))) ((x75 - y7) + 1) M74)))) := hw
    refine lv_iload X.1.1 X.1.2.1 dL_grow_12 (lv_at hl 8 rfl) ?_
    refine lv_aload_n X.1.1 X.1.2.1 dL_grow_14 rfl (lv_at hl 3 rfl) ?_
    refine sa_const X.1 dL_grow_15 ?_
    refine ra_112 X hR (okf X.2.2.1 rfl) ⟨by decide, by decide⟩ dL_grow_16 ?_
    have r1 := hR.r 112 0 2
    refine sa_icmp_ge (tgt := 270) X.1 hy8 r1 dL_grow_17 (by decide) (fun hc => ?_) (fun hc => ?_)
    · have hw := hw.1 hc
      have c2 := hw.1
      have hw := hw.2
      refine lv_iinc (v := Int32.ofInt (y7 + 1)) (lv' := [(7, .int (Int32.ofInt (y7 + 1))), (0, .ref (α 104 0)), (1, .ref (α 107 0)), (2, .ref (α 108 0)), (3, .ref (α 112 0)), (4, .ref (α 113 0)), (5, .int (Int32.ofInt p5)), (6, .int (Int32.ofInt p6)), (8, .int (Int32.ofInt y8))]) X.1.1 X.1.2.1 dL_grow_270 hl (k := 7) rfl (Int32.ofInt_add _ _).symm (by decide) rfl (fun ls hl => ?_)
      refine lv_goto (tgt := 3) X.1.1 X.1.2.1 dL_grow_273 (by decide) ?_
      exact hK3 _ _ hw c2 _ _ hR hS _ (lv_sub hl [1, 2, 3, 4, 5, 6, 7, 0] rfl)
    · have hw := hw.2 hc
      refine lv_aload_n X.1.1 X.1.2.1 dL_grow_20 rfl (lv_at hl 1 rfl) ?_
      refine sa_bipush X.1 dL_grow_21 (by decide) ?_
      refine lv_iload X.1.1 X.1.2.1 dL_grow_23 (lv_at hl 8 rfl) ?_
      have c3 := hw.1
      have hw := hw.2
      refine sa_imul X.1 dL_grow_25 ?_
      refine sa_const X.1 dL_grow_26 ?_
      have c4 := hw.1
      have hw := hw.2
      refine sa_iadd X.1 dL_grow_27 ?_
      have c5 := hw.1
      have hw := hw.2
      refine ra_107 X hR (okf X.2.2.1 rfl) c5 dL_grow_28 ?_
      have r6 := hR.r 107 0 ((6 * y8) + 1)
      refine lv_istore (lv' := [(9, .int (Int32.ofInt (M 107 0 ((6 * y8) + 1)))), (0, .ref (α 104 0)), (1, .ref (α 107 0)), (2, .ref (α 108 0)), (3, .ref (α 112 0)), (4, .ref (α 113 0)), (5, .int (Int32.ofInt p5)), (6, .int (Int32.ofInt p6)), (7, .int (Int32.ofInt y7)), (8, .int (Int32.ofInt y8))]) X.1.1 X.1.2.1 dL_grow_29 hl (by decide) rfl (fun ls hl => ?_)
      refine lv_iload X.1.1 X.1.2.1 dL_grow_31 (lv_at hl 0 rfl) ?_
      refine lv_aload_n X.1.1 X.1.2.1 dL_grow_33 rfl (lv_at hl 2 rfl) ?_
      refine sa_bipush X.1 dL_grow_34 (by decide) ?_
      refine lv_iload X.1.1 X.1.2.1 dL_grow_36 (lv_at hl 9 rfl) ?_
      have c7 := hw.1
      have hw := hw.2
      refine sa_imul X.1 dL_grow_38 ?_
      refine sa_const X.1 dL_grow_39 ?_
      have c8 := hw.1
      have hw := hw.2
      refine sa_iadd X.1 dL_grow_40 ?_
      have c9 := hw.1
      have hw := hw.2
      refine ra_107 X hR (okf X.2.2.1 rfl) c9 dL_grow_41 ?_
      have r10 := hR.r 107 0 ((6 * y8) + 3)
      have c11 := hw.1
      have hw := hw.2
      refine sa_iadd X.1 dL_grow_42 ?_
      refine lv_istore (lv' := [(10, .int (Int32.ofInt ((M 107 0 ((6 * y8) + 1)) + (M 107 0 ((6 * y8) + 3))))), (9, .int (Int32.ofInt (M 107 0 ((6 * y8) + 1)))), (0, .ref (α 104 0)), (1, .ref (α 107 0)), (2, .ref (α 108 0)), (3, .ref (α 112 0)), (4, .ref (α 113 0)), (5, .int (Int32.ofInt p5)), (6, .int (Int32.ofInt p6)), (7, .int (Int32.ofInt y7)), (8, .int (Int32.ofInt y8))]) X.1.1 X.1.2.1 dL_grow_43 hl (by decide) rfl (fun ls hl => ?_)
      refine lv_aload_n X.1.1 X.1.2.1 dL_grow_45 rfl (lv_at hl 2 rfl) ?_
      refine lv_aload_n X.1.1 X.1.2.1 dL_grow_46 rfl (lv_at hl 3 rfl) ?_
      refine lv_iload X.1.1 X.1.2.1 dL_grow_47 (lv_at hl 10 rfl) ?_
      refine cs_L_shows X hy8 (kc := 3) rmL_ok rm_c (by decide) hR hS kw_1235 hl.1 dL_grow_49 (Nat.le_of_ble_eq_true rfl) hw (fun x13 M12 H locs hw r14 hR hS => ?_)
      refine lv_iload X.1.1 X.1.2.1 dL_grow_52 (lv_at hl 9 rfl) ?_
      refine sa_icmp_ne (tgt := 73) X.1 r14 hy7 dL_grow_54 (by decide) (fun hc => ?_) (fun hc => ?_)
      · have hw := hw.1 hc
        refine sa_const X.1 dL_grow_73 ?_
        exact t_L_grow_74 X hp5 hp6 hK3 ih _ _ _ _ _ _ hw hy7 hy8 r6 c11 (inR_c (a := 0) rfl) _ _ hR hS _ (lv_sub hl [2, 3, 4, 5, 6, 7, 8, 9, 10, 1, 0] rfl)
      · have hw := hw.2 hc
        refine lv_aload_n X.1.1 X.1.2.1 dL_grow_57 rfl (lv_at hl 4 rfl) ?_
        refine lv_iload X.1.1 X.1.2.1 dL_grow_58 (lv_at hl 10 rfl) ?_
        refine lv_iload X.1.1 X.1.2.1 dL_grow_60 (lv_at hl 8 rfl) ?_
        refine cs_L_wants X hy8 hp6 (kc := 3) rmL_ok rm_c (by decide) hR hS kw_1238 hl.1 dL_grow_62 (Nat.le_of_ble_eq_true rfl) hw (fun x75 M74 H locs hw r76 hR hS => ?_)
        refine lv_iload X.1.1 X.1.2.1 dL_grow_65 (lv_at hl 9 rfl) ?_
        have c77 := hw.1
        have hw := hw.2
        refine sa_isub X.1 dL_grow_67 ?_
        refine sa_const X.1 dL_grow_68 ?_
        have c78 := hw.1
        have hw := hw.2
        refine sa_iadd X.1 dL_grow_69 ?_
        refine lv_goto (tgt := 74) X.1.1 X.1.2.1 dL_grow_70 (by decide) ?_
        exact t_L_grow_74 X hp5 hp6 hK3 ih _ _ _ _ _ _ hw hy7 hy8 r6 c11 c78 _ _ hR hS _ (lv_sub hl [2, 3, 4, 5, 6, 7, 8, 9, 10, 1, 0] rfl)
set_option maxHeartbeats 4000000 in
set_option maxRecDepth 100000 in
theorem t_L_grow_3 {p5 : Int} {p6 : Int} (X : CX p m c cL_grow 16 s args RL G B κ meth none) (hp5 : inR p5) (hp6 : inR p6) {Qm : Mem → Prop} : ∀ n : Nat, ∀ y7 : Int, ∀ M : Mem, wp_L_grow_3 p5 p6 Qm n y7 M → inR y7 → ∀ (H : Heap) (locs : List Loc), Rp G e0 α κ B M H → va_S (fun q => B ≤ q) s.heap H locs → ∀ (ls : Array Slot), lv_has ls 16 [(0, .ref (α 104 0)), (1, .ref (α 107 0)), (2, .ref (α 108 0)), (3, .ref (α 112 0)), (4, .ref (α 113 0)), (5, .int (Int32.ofInt p5)), (6, .int (Int32.ofInt p6)), (7, .int (Int32.ofInt y7))] → WV p l e 3 s m args below meth c G e0 α κ B Qm H locs 3 ls [] := by
  intro n
  induction n with
  | zero =>
    intro y7 M hw hy7 H locs hR hS ls hl
    exact hw.elim
  | succ n ih =>
    intro y7 M hw hy7 H locs hR hS ls hl
    have hw : ((5 ≤ y7 → Qm M) ∧ (y7 < 5 → (∃ n79 : Nat, wp_L_grow_12 p5 p6 Qm (wp_L_grow_3 p5 p6 Qm n) n79 y7 0 M))) := hw
    refine lv_iload X.1.1 X.1.2.1 dL_grow_3 (lv_at hl 7 rfl) ?_
    refine sa_const X.1 dL_grow_5 ?_
    refine sa_icmp_ge (tgt := 276) X.1 hy7 (inR_c (a := 5) rfl) dL_grow_6 (by decide) (fun hc => ?_) (fun hc => ?_)
    · have hw := hw.1 hc
      exact sa_vret X.1 X.2.2.2.1 X.2.2.2.2 hR hS hw dL_grow_276
    · have hw := hw.2 hc
      refine sa_const X.1 dL_grow_9 ?_
      refine lv_istore (lv' := [(8, .int (Int32.ofInt 0)), (0, .ref (α 104 0)), (1, .ref (α 107 0)), (2, .ref (α 108 0)), (3, .ref (α 112 0)), (4, .ref (α 113 0)), (5, .int (Int32.ofInt p5)), (6, .int (Int32.ofInt p6)), (7, .int (Int32.ofInt y7))]) X.1.1 X.1.2.1 dL_grow_10 hl (by decide) rfl (fun ls hl => ?_)
      obtain ⟨n79, hw⟩ := hw
      exact t_L_grow_12 X hp5 hp6 ih n79 _ _ _ hw hy7 (inR_c (a := 0) rfl) _ _ hR hS _ (lv_sub hl [1, 2, 3, 4, 5, 6, 7, 8, 0] rfl)
set_option maxHeartbeats 4000000 in
set_option maxRecDepth 100000 in
theorem t_L_grow {p5 : Int} {p6 : Int} (X : CX p m c cL_grow 16 s args RL G B κ meth none) (hp5 : inR p5) (hp6 : inR p6) {M : Mem} {Qm : Mem → Prop} (hw : wp_L_grow p5 p6 M Qm) (H : Heap) (locs : List Loc) (hR : Rp G e0 α κ B M H) (hS : va_S (fun q => B ≤ q) s.heap H locs) (ls : Array Slot) (hl : lv_has ls 16 [(0, .ref (α 104 0)), (1, .ref (α 107 0)), (2, .ref (α 108 0)), (3, .ref (α 112 0)), (4, .ref (α 113 0)), (5, .int (Int32.ofInt p5)), (6, .int (Int32.ofInt p6))]) : WV p l e 3 s m args below meth c G e0 α κ B Qm H locs 0 ls [] := by
  have hw : (∃ n80 : Nat, wp_L_grow_3 p5 p6 Qm n80 2 M) := hw
  refine sa_const X.1 dL_grow_0 ?_
  refine lv_istore (lv' := [(7, .int (Int32.ofInt 2)), (0, .ref (α 104 0)), (1, .ref (α 107 0)), (2, .ref (α 108 0)), (3, .ref (α 112 0)), (4, .ref (α 113 0)), (5, .int (Int32.ofInt p5)), (6, .int (Int32.ofInt p6))]) X.1.1 X.1.2.1 dL_grow_1 hl (by decide) rfl (fun ls hl => ?_)
  obtain ⟨n80, hw⟩ := hw
  exact t_L_grow_3 X hp5 hp6 n80 _ _ hw (inR_c (a := 2) rfl) _ _ hR hS _ (lv_sub hl [1, 2, 3, 4, 5, 6, 7, 0] rfl)
theorem m_L_grow {l : Launch} {G : Gx} {e0 : Nat} {α : Ax} {κ : Nat → Int} {B : Nat} {p5 : Int} {p6 : Int} (hκ : kOK κ) (hp5 : inR p5) (hp6 : inR p6) {M : Mem} {Qm : Mem → Prop} (hw : wp_L_grow p5 p6 M Qm) : CV l yL_grow (Cond.code yL_grow cL_grow 16 none) 3 G e0 α κ B [.ref (α 104 0), .ref (α 107 0), .ref (α 108 0), .ref (α 112 0), .ref (α 113 0), .int (Int32.ofInt p5), .int (Int32.ofInt p6)] M Qm :=
  CV.mk hκ (by decide +kernel) rfl (Nat.le_of_ble_eq_true rfl) (lv := [(0, .ref (α 104 0)), (1, .ref (α 107 0)), (2, .ref (α 108 0)), (3, .ref (α 112 0)), (4, .ref (α 113 0)), (5, .int (Int32.ofInt p5)), (6, .int (Int32.ofInt p6))]) rfl (fun p e s m args below meth c ls X hR hS hl => t_L_grow X hp5 hp6 hw _ _ hR hS ls hl)
theorem cs_L_grow {cc : ByteArray} {nL : Nat} {own : String} {ret : Option FieldType} {idx pc : Nat} {p5 : Int} {p6 : Int} (X : CX p m c cc nL s args own G B κ meth ret) (hp5 : inR p5) (hp6 : inR p6) {kc : Nat} {R : Room} {cells slots : Nat} (hRr : RmOK R kc) (hcel : cells ≤ R.cells ∧ slots ≤ R.slots) (hk : 3 + 1 ≤ kc) {M : Mem} {H : Heap} {locs : List Loc} (hR : Rp G e0 α κ B M H) (hS : va_S (fun q => B ≤ q) s.heap H locs) (k1 : Cond.methodLink own idx yL_grow ∈ gw) {ls : Array Slot} (hml : ls.size = nL) {rest : List Value} (hd : decode cc pc = .ok (.invokestatic idx, 3)) (hrest : (rest.map fun v => v.category).sum ≤ 8) {Q : State → Prop} {Qm : Mem → Prop} (hw : wp_L_grow p5 p6 M Qm) (kk : ∀ (M1 : Mem) (H1 : Heap) (locs1 : List Loc), Qm M1 → Rp G e0 α κ B M1 H1 → va_S (fun q => B ≤ q) s.heap H1 locs1 → W p l e R s m args below meth c H1 locs1 cells slots Q (F0 m (pc + 3) ls (rest))) : W p l e R s m args below meth c H locs cells slots Q (F0 m pc ls (.int (Int32.ofInt p6) :: .int (Int32.ofInt p5) :: .ref (α 113 0) :: .ref (α 112 0) :: .ref (α 108 0) :: .ref (α 107 0) :: .ref (α 104 0) :: rest)) :=
  sa_callSV 3 (n := 7) (As := [.ref (α 104 0), .ref (α 107 0), .ref (α 108 0), .ref (α 112 0), .ref (α 113 0), .int (Int32.ofInt p5), .int (Int32.ofInt p6)]) (rest := rest) X.1 X.2.1 hR hS (m_L_grow X.2.2.1 hp5 hp6 hw) k1 kw_1249 kw_37 kw_1250 ⟨by decide +kernel, by decide +kernel, by decide +kernel⟩ (rm_ok hRr hk (by decide)) rfl rfl hrest hml hd hcel kk
end
