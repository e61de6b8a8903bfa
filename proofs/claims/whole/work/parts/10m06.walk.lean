theorem dX10_figureAt_0 : decode cX10_figureAt 0 = .ok (.aload_n 0, 1) := by decide +kernel
theorem dX10_figureAt_1 : decode cX10_figureAt 1 = .ok (.iload_n 1, 1) := by decide +kernel
theorem dX10_figureAt_2 : decode cX10_figureAt 2 = .ok (.iload_n 2, 1) := by decide +kernel
theorem dX10_figureAt_3 : decode cX10_figureAt 3 = .ok (.invokevirtual 207, 3) := by decide +kernel
theorem dX10_figureAt_6 : decode cX10_figureAt 6 = .ok (.istore_n 3, 1) := by decide +kernel
theorem dX10_figureAt_7 : decode cX10_figureAt 7 = .ok (.iload_n 3, 1) := by decide +kernel
theorem dX10_figureAt_8 : decode cX10_figureAt 8 = .ok (.iconst (-1), 1) := by decide +kernel
theorem dX10_figureAt_9 : decode cX10_figureAt 9 = .ok (.if_icmp .ne 7, 3) := by decide +kernel
theorem dX10_figureAt_12 : decode cX10_figureAt 12 = .ok (.iconst 0, 1) := by decide +kernel
theorem dX10_figureAt_13 : decode cX10_figureAt 13 = .ok (.goto 9, 3) := by decide +kernel
theorem dX10_figureAt_16 : decode cX10_figureAt 16 = .ok (.aload_n 0, 1) := by decide +kernel
theorem dX10_figureAt_17 : decode cX10_figureAt 17 = .ok (.getfield 65, 3) := by decide +kernel
theorem dX10_figureAt_20 : decode cX10_figureAt 20 = .ok (.iload_n 3, 1) := by decide +kernel
theorem dX10_figureAt_21 : decode cX10_figureAt 21 = .ok (.iaload, 1) := by decide +kernel
theorem dX10_figureAt_22 : decode cX10_figureAt 22 = .ok (.ireturn, 1) := by decide +kernel
theorem dX10_total_0 : decode cX10_total 0 = .ok (.iconst 0, 1) := by decide +kernel
theorem dX10_total_1 : decode cX10_total 1 = .ok (.istore_n 2, 1) := by decide +kernel
theorem dX10_total_2 : decode cX10_total 2 = .ok (.aload_n 0, 1) := by decide +kernel
theorem dX10_total_3 : decode cX10_total 3 = .ok (.aload_n 0, 1) := by decide +kernel
theorem dX10_total_4 : decode cX10_total 4 = .ok (.iload_n 1, 1) := by decide +kernel
theorem dX10_total_5 : decode cX10_total 5 = .ok (.invokevirtual 187, 3) := by decide +kernel
theorem dX10_total_8 : decode cX10_total 8 = .ok (.iconst 1, 1) := by decide +kernel
theorem dX10_total_9 : decode cX10_total 9 = .ok (.iconst 1, 1) := by decide +kernel
theorem dX10_total_10 : decode cX10_total 10 = .ok (.invokevirtual 175, 3) := by decide +kernel
theorem dX10_total_13 : decode cX10_total 13 = .ok (.istore_n 3, 1) := by decide +kernel
theorem dX10_total_14 : decode cX10_total 14 = .ok (.iconst 0, 1) := by decide +kernel
theorem dX10_total_15 : decode cX10_total 15 = .ok (.istore 4, 2) := by decide +kernel
theorem dX10_total_17 : decode cX10_total 17 = .ok (.iload_n 3, 1) := by decide +kernel
theorem dX10_total_18 : decode cX10_total 18 = .ok (.ifCond .eq 38, 3) := by decide +kernel
theorem dX10_total_21 : decode cX10_total 21 = .ok (.iload 4, 2) := by decide +kernel
theorem dX10_total_23 : decode cX10_total 23 = .ok (.aload_n 0, 1) := by decide +kernel
theorem dX10_total_24 : decode cX10_total 24 = .ok (.getfield 35, 3) := by decide +kernel
theorem dX10_total_27 : decode cX10_total 27 = .ok (.iconst 1, 1) := by decide +kernel
theorem dX10_total_28 : decode cX10_total 28 = .ok (.iaload, 1) := by decide +kernel
theorem dX10_total_29 : decode cX10_total 29 = .ok (.if_icmp .ge 27, 3) := by decide +kernel
theorem dX10_total_32 : decode cX10_total 32 = .ok (.iload_n 2, 1) := by decide +kernel
theorem dX10_total_33 : decode cX10_total 33 = .ok (.aload_n 0, 1) := by decide +kernel
theorem dX10_total_34 : decode cX10_total 34 = .ok (.aload_n 0, 1) := by decide +kernel
theorem dX10_total_35 : decode cX10_total 35 = .ok (.getfield 32, 3) := by decide +kernel
theorem dX10_total_38 : decode cX10_total 38 = .ok (.bipush 24, 2) := by decide +kernel
theorem dX10_total_40 : decode cX10_total 40 = .ok (.iload 4, 2) := by decide +kernel
theorem dX10_total_42 : decode cX10_total 42 = .ok (.iadd, 1) := by decide +kernel
theorem dX10_total_43 : decode cX10_total 43 = .ok (.iaload, 1) := by decide +kernel
theorem dX10_total_44 : decode cX10_total 44 = .ok (.iload_n 1, 1) := by decide +kernel
theorem dX10_total_45 : decode cX10_total 45 = .ok (.invokevirtual 362, 3) := by decide +kernel
theorem dX10_total_48 : decode cX10_total 48 = .ok (.iadd, 1) := by decide +kernel
theorem dX10_total_49 : decode cX10_total 49 = .ok (.istore_n 2, 1) := by decide +kernel
theorem dX10_total_50 : decode cX10_total 50 = .ok (.iinc 4 1, 3) := by decide +kernel
theorem dX10_total_53 : decode cX10_total 53 = .ok (.goto (-36), 3) := by decide +kernel
theorem dX10_total_56 : decode cX10_total 56 = .ok (.iload_n 2, 1) := by decide +kernel
theorem dX10_total_57 : decode cX10_total 57 = .ok (.ireturn, 1) := by decide +kernel
theorem dX10_subtotal_0 : decode cX10_subtotal 0 = .ok (.aload_n 0, 1) := by decide +kernel
theorem dX10_subtotal_1 : decode cX10_subtotal 1 = .ok (.aload_n 0, 1) := by decide +kernel
theorem dX10_subtotal_2 : decode cX10_subtotal 2 = .ok (.iload_n 1, 1) := by decide +kernel
theorem dX10_subtotal_3 : decode cX10_subtotal 3 = .ok (.invokevirtual 183, 3) := by decide +kernel
theorem dX10_subtotal_6 : decode cX10_subtotal 6 = .ok (.ifCond .eq 15, 3) := by decide +kernel
theorem dX10_subtotal_9 : decode cX10_subtotal 9 = .ok (.aload_n 0, 1) := by decide +kernel
theorem dX10_subtotal_10 : decode cX10_subtotal 10 = .ok (.iload_n 2, 1) := by decide +kernel
theorem dX10_subtotal_11 : decode cX10_subtotal 11 = .ok (.invokevirtual 187, 3) := by decide +kernel
theorem dX10_subtotal_14 : decode cX10_subtotal 14 = .ok (.ifCond .eq 7, 3) := by decide +kernel
theorem dX10_subtotal_17 : decode cX10_subtotal 17 = .ok (.iconst 1, 1) := by decide +kernel
theorem dX10_subtotal_18 : decode cX10_subtotal 18 = .ok (.goto 4, 3) := by decide +kernel
theorem dX10_subtotal_21 : decode cX10_subtotal 21 = .ok (.iconst 0, 1) := by decide +kernel
theorem dX10_subtotal_22 : decode cX10_subtotal 22 = .ok (.aload_n 0, 1) := by decide +kernel
theorem dX10_subtotal_23 : decode cX10_subtotal 23 = .ok (.iload_n 1, 1) := by decide +kernel
theorem dX10_subtotal_24 : decode cX10_subtotal 24 = .ok (.invokevirtual 347, 3) := by decide +kernel
theorem dX10_subtotal_27 : decode cX10_subtotal 27 = .ok (.iconst 1, 1) := by decide +kernel
theorem dX10_subtotal_28 : decode cX10_subtotal 28 = .ok (.invokevirtual 175, 3) := by decide +kernel
theorem dX10_subtotal_31 : decode cX10_subtotal 31 = .ok (.ifCond .ne 5, 3) := by decide +kernel
theorem dX10_subtotal_34 : decode cX10_subtotal 34 = .ok (.iconst 0, 1) := by decide +kernel
theorem dX10_subtotal_35 : decode cX10_subtotal 35 = .ok (.ireturn, 1) := by decide +kernel
theorem dX10_subtotal_36 : decode cX10_subtotal 36 = .ok (.bipush 24, 2) := by decide +kernel
theorem dX10_subtotal_38 : decode cX10_subtotal 38 = .ok (.aload_n 0, 1) := by decide +kernel
theorem dX10_subtotal_39 : decode cX10_subtotal 39 = .ok (.iload_n 1, 1) := by decide +kernel
theorem dX10_subtotal_40 : decode cX10_subtotal 40 = .ok (.invokevirtual 179, 3) := by decide +kernel
theorem dX10_subtotal_43 : decode cX10_subtotal 43 = .ok (.iadd, 1) := by decide +kernel
theorem dX10_subtotal_44 : decode cX10_subtotal 44 = .ok (.istore_n 3, 1) := by decide +kernel
theorem dX10_subtotal_45 : decode cX10_subtotal 45 = .ok (.iload_n 3, 1) := by decide +kernel
theorem dX10_subtotal_46 : decode cX10_subtotal 46 = .ok (.iconst 1, 1) := by decide +kernel
theorem dX10_subtotal_47 : decode cX10_subtotal 47 = .ok (.iadd, 1) := by decide +kernel
theorem dX10_subtotal_48 : decode cX10_subtotal 48 = .ok (.bipush 24, 2) := by decide +kernel
theorem dX10_subtotal_50 : decode cX10_subtotal 50 = .ok (.aload_n 0, 1) := by decide +kernel
theorem dX10_subtotal_51 : decode cX10_subtotal 51 = .ok (.getfield 35, 3) := by decide +kernel
theorem dX10_subtotal_54 : decode cX10_subtotal 54 = .ok (.iconst 1, 1) := by decide +kernel
theorem dX10_subtotal_55 : decode cX10_subtotal 55 = .ok (.iaload, 1) := by decide +kernel
theorem dX10_subtotal_56 : decode cX10_subtotal 56 = .ok (.iadd, 1) := by decide +kernel
theorem dX10_subtotal_57 : decode cX10_subtotal 57 = .ok (.if_icmp .eq 25, 3) := by decide +kernel
theorem dX10_subtotal_60 : decode cX10_subtotal 60 = .ok (.aload_n 0, 1) := by decide +kernel
theorem dX10_subtotal_61 : decode cX10_subtotal 61 = .ok (.getfield 26, 3) := by decide +kernel
theorem dX10_subtotal_64 : decode cX10_subtotal 64 = .ok (.aload_n 0, 1) := by decide +kernel
theorem dX10_subtotal_65 : decode cX10_subtotal 65 = .ok (.getfield 32, 3) := by decide +kernel
theorem dX10_subtotal_68 : decode cX10_subtotal 68 = .ok (.iload_n 3, 1) := by decide +kernel
theorem dX10_subtotal_69 : decode cX10_subtotal 69 = .ok (.iconst 1, 1) := by decide +kernel
theorem dX10_subtotal_70 : decode cX10_subtotal 70 = .ok (.iadd, 1) := by decide +kernel
theorem dX10_subtotal_71 : decode cX10_subtotal 71 = .ok (.iaload, 1) := by decide +kernel
theorem dX10_subtotal_72 : decode cX10_subtotal 72 = .ok (.iaload, 1) := by decide +kernel
theorem dX10_subtotal_73 : decode cX10_subtotal 73 = .ok (.aload_n 0, 1) := by decide +kernel
theorem dX10_subtotal_74 : decode cX10_subtotal 74 = .ok (.getfield 26, 3) := by decide +kernel
theorem dX10_subtotal_77 : decode cX10_subtotal 77 = .ok (.iload_n 1, 1) := by decide +kernel
theorem dX10_subtotal_78 : decode cX10_subtotal 78 = .ok (.iaload, 1) := by decide +kernel
theorem dX10_subtotal_79 : decode cX10_subtotal 79 = .ok (.if_icmp .eq 7, 3) := by decide +kernel
theorem dX10_subtotal_82 : decode cX10_subtotal 82 = .ok (.iconst 1, 1) := by decide +kernel
theorem dX10_subtotal_83 : decode cX10_subtotal 83 = .ok (.goto 4, 3) := by decide +kernel
theorem dX10_subtotal_86 : decode cX10_subtotal 86 = .ok (.iconst 0, 1) := by decide +kernel
theorem dX10_subtotal_87 : decode cX10_subtotal 87 = .ok (.istore 4, 2) := by decide +kernel
theorem dX10_subtotal_89 : decode cX10_subtotal 89 = .ok (.iconst 0, 1) := by decide +kernel
theorem dX10_subtotal_90 : decode cX10_subtotal 90 = .ok (.istore 5, 2) := by decide +kernel
theorem dX10_subtotal_92 : decode cX10_subtotal 92 = .ok (.iload_n 3, 1) := by decide +kernel
theorem dX10_subtotal_93 : decode cX10_subtotal 93 = .ok (.istore 6, 2) := by decide +kernel
theorem dX10_subtotal_95 : decode cX10_subtotal 95 = .ok (.iload 4, 2) := by decide +kernel
theorem dX10_subtotal_97 : decode cX10_subtotal 97 = .ok (.ifCond .eq 63, 3) := by decide +kernel
theorem dX10_subtotal_100 : decode cX10_subtotal 100 = .ok (.aload_n 0, 1) := by decide +kernel
theorem dX10_subtotal_101 : decode cX10_subtotal 101 = .ok (.getfield 26, 3) := by decide +kernel
theorem dX10_subtotal_104 : decode cX10_subtotal 104 = .ok (.iload_n 1, 1) := by decide +kernel
theorem dX10_subtotal_105 : decode cX10_subtotal 105 = .ok (.iaload, 1) := by decide +kernel
theorem dX10_subtotal_106 : decode cX10_subtotal 106 = .ok (.ifCond .eq 54, 3) := by decide +kernel
theorem dX10_subtotal_109 : decode cX10_subtotal 109 = .ok (.iload 6, 2) := by decide +kernel
theorem dX10_subtotal_111 : decode cX10_subtotal 111 = .ok (.bipush 24, 2) := by decide +kernel
theorem dX10_subtotal_113 : decode cX10_subtotal 113 = .ok (.if_icmp .lt 47, 3) := by decide +kernel
theorem dX10_subtotal_116 : decode cX10_subtotal 116 = .ok (.aload_n 0, 1) := by decide +kernel
theorem dX10_subtotal_117 : decode cX10_subtotal 117 = .ok (.getfield 26, 3) := by decide +kernel
theorem dX10_subtotal_120 : decode cX10_subtotal 120 = .ok (.aload_n 0, 1) := by decide +kernel
theorem dX10_subtotal_121 : decode cX10_subtotal 121 = .ok (.getfield 32, 3) := by decide +kernel
theorem dX10_subtotal_124 : decode cX10_subtotal 124 = .ok (.iload 6, 2) := by decide +kernel
theorem dX10_subtotal_126 : decode cX10_subtotal 126 = .ok (.iaload, 1) := by decide +kernel
theorem dX10_subtotal_127 : decode cX10_subtotal 127 = .ok (.iaload, 1) := by decide +kernel
theorem dX10_subtotal_128 : decode cX10_subtotal 128 = .ok (.aload_n 0, 1) := by decide +kernel
theorem dX10_subtotal_129 : decode cX10_subtotal 129 = .ok (.getfield 26, 3) := by decide +kernel
theorem dX10_subtotal_132 : decode cX10_subtotal 132 = .ok (.iload_n 1, 1) := by decide +kernel
theorem dX10_subtotal_133 : decode cX10_subtotal 133 = .ok (.iaload, 1) := by decide +kernel
theorem dX10_subtotal_134 : decode cX10_subtotal 134 = .ok (.if_icmp .ne 26, 3) := by decide +kernel
theorem dX10_subtotal_137 : decode cX10_subtotal 137 = .ok (.iload 5, 2) := by decide +kernel
theorem dX10_subtotal_139 : decode cX10_subtotal 139 = .ok (.aload_n 0, 1) := by decide +kernel
theorem dX10_subtotal_140 : decode cX10_subtotal 140 = .ok (.aload_n 0, 1) := by decide +kernel
theorem dX10_subtotal_141 : decode cX10_subtotal 141 = .ok (.getfield 32, 3) := by decide +kernel
theorem dX10_subtotal_144 : decode cX10_subtotal 144 = .ok (.iload 6, 2) := by decide +kernel
theorem dX10_subtotal_146 : decode cX10_subtotal 146 = .ok (.iaload, 1) := by decide +kernel
theorem dX10_subtotal_147 : decode cX10_subtotal 147 = .ok (.iload_n 2, 1) := by decide +kernel
theorem dX10_subtotal_148 : decode cX10_subtotal 148 = .ok (.invokevirtual 362, 3) := by decide +kernel
theorem dX10_subtotal_151 : decode cX10_subtotal 151 = .ok (.iadd, 1) := by decide +kernel
theorem dX10_subtotal_152 : decode cX10_subtotal 152 = .ok (.istore 5, 2) := by decide +kernel
theorem dX10_subtotal_154 : decode cX10_subtotal 154 = .ok (.iinc 6 (-1), 3) := by decide +kernel
theorem dX10_subtotal_157 : decode cX10_subtotal 157 = .ok (.goto (-62), 3) := by decide +kernel
theorem dX10_subtotal_160 : decode cX10_subtotal 160 = .ok (.iload 5, 2) := by decide +kernel
theorem dX10_subtotal_162 : decode cX10_subtotal 162 = .ok (.ireturn, 1) := by decide +kernel
theorem dX10_carries_0 : decode cX10_carries 0 = .ok (.iconst 0, 1) := by decide +kernel
theorem dX10_carries_1 : decode cX10_carries 1 = .ok (.istore_n 3, 1) := by decide +kernel
theorem dX10_carries_2 : decode cX10_carries 2 = .ok (.iconst 0, 1) := by decide +kernel
theorem dX10_carries_3 : decode cX10_carries 3 = .ok (.istore 4, 2) := by decide +kernel
theorem dX10_carries_5 : decode cX10_carries 5 = .ok (.iload 4, 2) := by decide +kernel
theorem dX10_carries_7 : decode cX10_carries 7 = .ok (.aload_n 0, 1) := by decide +kernel
theorem dX10_carries_8 : decode cX10_carries 8 = .ok (.getfield 35, 3) := by decide +kernel
theorem dX10_carries_11 : decode cX10_carries 11 = .ok (.iconst 1, 1) := by decide +kernel
theorem dX10_carries_12 : decode cX10_carries 12 = .ok (.iaload, 1) := by decide +kernel
theorem dX10_carries_13 : decode cX10_carries 13 = .ok (.if_icmp .ge 45, 3) := by decide +kernel
theorem dX10_carries_16 : decode cX10_carries 16 = .ok (.aload_n 0, 1) := by decide +kernel
theorem dX10_carries_17 : decode cX10_carries 17 = .ok (.getfield 32, 3) := by decide +kernel
theorem dX10_carries_20 : decode cX10_carries 20 = .ok (.bipush 24, 2) := by decide +kernel
theorem dX10_carries_22 : decode cX10_carries 22 = .ok (.iload 4, 2) := by decide +kernel
theorem dX10_carries_24 : decode cX10_carries 24 = .ok (.iadd, 1) := by decide +kernel
theorem dX10_carries_25 : decode cX10_carries 25 = .ok (.iaload, 1) := by decide +kernel
theorem dX10_carries_26 : decode cX10_carries 26 = .ok (.istore 5, 2) := by decide +kernel
theorem dX10_carries_28 : decode cX10_carries 28 = .ok (.iload_n 3, 1) := by decide +kernel
theorem dX10_carries_29 : decode cX10_carries 29 = .ok (.aload_n 0, 1) := by decide +kernel
theorem dX10_carries_30 : decode cX10_carries 30 = .ok (.iload 5, 2) := by decide +kernel
theorem dX10_carries_32 : decode cX10_carries 32 = .ok (.invokevirtual 350, 3) := by decide +kernel
theorem dX10_carries_35 : decode cX10_carries 35 = .ok (.iload_n 1, 1) := by decide +kernel
theorem dX10_carries_36 : decode cX10_carries 36 = .ok (.if_icmp .gt 13, 3) := by decide +kernel
theorem dX10_carries_39 : decode cX10_carries 39 = .ok (.aload_n 0, 1) := by decide +kernel
theorem dX10_carries_40 : decode cX10_carries 40 = .ok (.iload 5, 2) := by decide +kernel
theorem dX10_carries_42 : decode cX10_carries 42 = .ok (.iload_n 2, 1) := by decide +kernel
theorem dX10_carries_43 : decode cX10_carries 43 = .ok (.invokevirtual 362, 3) := by decide +kernel
theorem dX10_carries_46 : decode cX10_carries 46 = .ok (.goto 4, 3) := by decide +kernel
theorem dX10_carries_49 : decode cX10_carries 49 = .ok (.iconst 0, 1) := by decide +kernel
theorem dX10_carries_50 : decode cX10_carries 50 = .ok (.iadd, 1) := by decide +kernel
theorem dX10_carries_51 : decode cX10_carries 51 = .ok (.istore_n 3, 1) := by decide +kernel
theorem dX10_carries_52 : decode cX10_carries 52 = .ok (.iinc 4 1, 3) := by decide +kernel
theorem dX10_carries_55 : decode cX10_carries 55 = .ok (.goto (-50), 3) := by decide +kernel
theorem dX10_carries_58 : decode cX10_carries 58 = .ok (.iload_n 3, 1) := by decide +kernel
theorem dX10_carries_59 : decode cX10_carries 59 = .ok (.ireturn, 1) := by decide +kernel
theorem dX10_carried_0 : decode cX10_carried 0 = .ok (.aload_n 0, 1) := by decide +kernel
theorem dX10_carried_1 : decode cX10_carried 1 = .ok (.iload_n 2, 1) := by decide +kernel
theorem dX10_carried_2 : decode cX10_carried 2 = .ok (.invokevirtual 187, 3) := by decide +kernel
theorem dX10_carried_5 : decode cX10_carried 5 = .ok (.istore_n 3, 1) := by decide +kernel
theorem dX10_carried_6 : decode cX10_carried 6 = .ok (.iload_n 3, 1) := by decide +kernel
theorem dX10_carried_7 : decode cX10_carried 7 = .ok (.ifCond .eq 14, 3) := by decide +kernel
theorem dX10_carried_10 : decode cX10_carried 10 = .ok (.aload_n 0, 1) := by decide +kernel
theorem dX10_carried_11 : decode cX10_carried 11 = .ok (.invokevirtual 344, 3) := by decide +kernel
theorem dX10_carried_14 : decode cX10_carried 14 = .ok (.ifCond .eq 7, 3) := by decide +kernel
theorem dX10_carried_17 : decode cX10_carried 17 = .ok (.iconst 1, 1) := by decide +kernel
theorem dX10_carried_18 : decode cX10_carried 18 = .ok (.goto 4, 3) := by decide +kernel
theorem dX10_carried_21 : decode cX10_carried 21 = .ok (.iconst 0, 1) := by decide +kernel
theorem dX10_carried_22 : decode cX10_carried 22 = .ok (.istore 4, 2) := by decide +kernel
theorem dX10_carried_24 : decode cX10_carried 24 = .ok (.aload_n 0, 1) := by decide +kernel
theorem dX10_carried_25 : decode cX10_carried 25 = .ok (.iload_n 3, 1) := by decide +kernel
theorem dX10_carried_26 : decode cX10_carried 26 = .ok (.iload 4, 2) := by decide +kernel
theorem dX10_carried_28 : decode cX10_carried 28 = .ok (.iload 4, 2) := by decide +kernel
theorem dX10_carried_30 : decode cX10_carried 30 = .ok (.ifCond .eq 15, 3) := by decide +kernel
theorem dX10_carried_33 : decode cX10_carried 33 = .ok (.aload_n 0, 1) := by decide +kernel
theorem dX10_carried_34 : decode cX10_carried 34 = .ok (.iload_n 1, 1) := by decide +kernel
theorem dX10_carried_35 : decode cX10_carried 35 = .ok (.invokevirtual 356, 3) := by decide +kernel
theorem dX10_carried_38 : decode cX10_carried 38 = .ok (.ifCond .eq 7, 3) := by decide +kernel
theorem dX10_carried_41 : decode cX10_carried 41 = .ok (.iconst 1, 1) := by decide +kernel
theorem dX10_carried_42 : decode cX10_carried 42 = .ok (.goto 4, 3) := by decide +kernel
theorem dX10_carried_45 : decode cX10_carried 45 = .ok (.iconst 0, 1) := by decide +kernel
theorem dX10_carried_46 : decode cX10_carried 46 = .ok (.invokevirtual 175, 3) := by decide +kernel
theorem dX10_carried_49 : decode cX10_carried 49 = .ok (.ifCond .eq 12, 3) := by decide +kernel
theorem dX10_carried_52 : decode cX10_carried 52 = .ok (.aload_n 0, 1) := by decide +kernel
theorem dX10_carried_53 : decode cX10_carried 53 = .ok (.iload_n 1, 1) := by decide +kernel
theorem dX10_carried_54 : decode cX10_carried 54 = .ok (.iload_n 2, 1) := by decide +kernel
theorem dX10_carried_55 : decode cX10_carried 55 = .ok (.invokevirtual 365, 3) := by decide +kernel
theorem dX10_carried_58 : decode cX10_carried 58 = .ok (.goto 4, 3) := by decide +kernel
theorem dX10_carried_61 : decode cX10_carried 61 = .ok (.iconst 0, 1) := by decide +kernel
theorem dX10_carried_62 : decode cX10_carried 62 = .ok (.ireturn, 1) := by decide +kernel
theorem dX10_carriedByCells_0 : decode cX10_carriedByCells 0 = .ok (.aload_n 0, 1) := by decide +kernel
theorem dX10_carriedByCells_1 : decode cX10_carriedByCells 1 = .ok (.iload_n 1, 1) := by decide +kernel
theorem dX10_carriedByCells_2 : decode cX10_carriedByCells 2 = .ok (.iload_n 2, 1) := by decide +kernel
theorem dX10_carriedByCells_3 : decode cX10_carriedByCells 3 = .ok (.invokevirtual 368, 3) := by decide +kernel
theorem dX10_carriedByCells_6 : decode cX10_carriedByCells 6 = .ok (.ireturn, 1) := by decide +kernel
theorem dX10_hasOthers_0 : decode cX10_hasOthers 0 = .ok (.iconst 0, 1) := by decide +kernel
theorem dX10_hasOthers_1 : decode cX10_hasOthers 1 = .ok (.istore_n 2, 1) := by decide +kernel
theorem dX10_hasOthers_2 : decode cX10_hasOthers 2 = .ok (.iconst 0, 1) := by decide +kernel
theorem dX10_hasOthers_3 : decode cX10_hasOthers 3 = .ok (.istore_n 3, 1) := by decide +kernel
theorem dX10_hasOthers_4 : decode cX10_hasOthers 4 = .ok (.iload_n 2, 1) := by decide +kernel
theorem dX10_hasOthers_5 : decode cX10_hasOthers 5 = .ok (.aload_n 0, 1) := by decide +kernel
theorem dX10_hasOthers_6 : decode cX10_hasOthers 6 = .ok (.getfield 325, 3) := by decide +kernel
theorem dX10_hasOthers_9 : decode cX10_hasOthers 9 = .ok (.if_icmp .ge 19, 3) := by decide +kernel
theorem dX10_hasOthers_12 : decode cX10_hasOthers 12 = .ok (.aload_n 0, 1) := by decide +kernel
theorem dX10_hasOthers_13 : decode cX10_hasOthers 13 = .ok (.getfield 123, 3) := by decide +kernel
theorem dX10_hasOthers_16 : decode cX10_hasOthers 16 = .ok (.iload_n 2, 1) := by decide +kernel
theorem dX10_hasOthers_17 : decode cX10_hasOthers 17 = .ok (.iaload, 1) := by decide +kernel
theorem dX10_hasOthers_18 : decode cX10_hasOthers 18 = .ok (.iload_n 1, 1) := by decide +kernel
theorem dX10_hasOthers_19 : decode cX10_hasOthers 19 = .ok (.if_icmp .ge 9, 3) := by decide +kernel
theorem dX10_hasOthers_22 : decode cX10_hasOthers 22 = .ok (.iinc 2 1, 3) := by decide +kernel
theorem dX10_hasOthers_25 : decode cX10_hasOthers 25 = .ok (.goto (-21), 3) := by decide +kernel
theorem dX10_hasOthers_28 : decode cX10_hasOthers 28 = .ok (.iload_n 3, 1) := by decide +kernel
theorem dX10_hasOthers_29 : decode cX10_hasOthers 29 = .ok (.aload_n 0, 1) := by decide +kernel
theorem dX10_hasOthers_30 : decode cX10_hasOthers 30 = .ok (.getfield 371, 3) := by decide +kernel
theorem dX10_hasOthers_33 : decode cX10_hasOthers 33 = .ok (.if_icmp .ge 19, 3) := by decide +kernel
theorem dX10_hasOthers_36 : decode cX10_hasOthers 36 = .ok (.aload_n 0, 1) := by decide +kernel
theorem dX10_hasOthers_37 : decode cX10_hasOthers 37 = .ok (.getfield 141, 3) := by decide +kernel
theorem dX10_hasOthers_40 : decode cX10_hasOthers 40 = .ok (.iload_n 3, 1) := by decide +kernel
theorem dX10_hasOthers_41 : decode cX10_hasOthers 41 = .ok (.iaload, 1) := by decide +kernel
theorem dX10_hasOthers_42 : decode cX10_hasOthers 42 = .ok (.iload_n 1, 1) := by decide +kernel
theorem dX10_hasOthers_43 : decode cX10_hasOthers 43 = .ok (.if_icmp .ge 9, 3) := by decide +kernel
theorem dX10_hasOthers_46 : decode cX10_hasOthers 46 = .ok (.iinc 3 1, 3) := by decide +kernel
theorem dX10_hasOthers_49 : decode cX10_hasOthers 49 = .ok (.goto (-21), 3) := by decide +kernel
theorem dX10_hasOthers_52 : decode cX10_hasOthers 52 = .ok (.iload_n 2, 1) := by decide +kernel
theorem dX10_hasOthers_53 : decode cX10_hasOthers 53 = .ok (.aload_n 0, 1) := by decide +kernel
theorem dX10_hasOthers_54 : decode cX10_hasOthers 54 = .ok (.getfield 325, 3) := by decide +kernel
theorem dX10_hasOthers_57 : decode cX10_hasOthers 57 = .ok (.if_icmp .ge 87, 3) := by decide +kernel
theorem dX10_hasOthers_60 : decode cX10_hasOthers 60 = .ok (.iload_n 3, 1) := by decide +kernel
theorem dX10_hasOthers_61 : decode cX10_hasOthers 61 = .ok (.aload_n 0, 1) := by decide +kernel
theorem dX10_hasOthers_62 : decode cX10_hasOthers 62 = .ok (.getfield 371, 3) := by decide +kernel
theorem dX10_hasOthers_65 : decode cX10_hasOthers 65 = .ok (.if_icmp .ge 79, 3) := by decide +kernel
theorem dX10_hasOthers_68 : decode cX10_hasOthers 68 = .ok (.aload_n 0, 1) := by decide +kernel
theorem dX10_hasOthers_69 : decode cX10_hasOthers 69 = .ok (.getfield 123, 3) := by decide +kernel
theorem dX10_hasOthers_72 : decode cX10_hasOthers 72 = .ok (.iload_n 2, 1) := by decide +kernel
theorem dX10_hasOthers_73 : decode cX10_hasOthers 73 = .ok (.iaload, 1) := by decide +kernel
theorem dX10_hasOthers_74 : decode cX10_hasOthers 74 = .ok (.iload_n 1, 1) := by decide +kernel
theorem dX10_hasOthers_75 : decode cX10_hasOthers 75 = .ok (.if_icmp .ne 69, 3) := by decide +kernel
theorem dX10_hasOthers_78 : decode cX10_hasOthers 78 = .ok (.aload_n 0, 1) := by decide +kernel
theorem dX10_hasOthers_79 : decode cX10_hasOthers 79 = .ok (.getfield 141, 3) := by decide +kernel
theorem dX10_hasOthers_82 : decode cX10_hasOthers 82 = .ok (.iload_n 3, 1) := by decide +kernel
theorem dX10_hasOthers_83 : decode cX10_hasOthers 83 = .ok (.iaload, 1) := by decide +kernel
theorem dX10_hasOthers_84 : decode cX10_hasOthers 84 = .ok (.iload_n 1, 1) := by decide +kernel
theorem dX10_hasOthers_85 : decode cX10_hasOthers 85 = .ok (.if_icmp .ne 59, 3) := by decide +kernel
theorem dX10_hasOthers_88 : decode cX10_hasOthers 88 = .ok (.aload_n 0, 1) := by decide +kernel
theorem dX10_hasOthers_89 : decode cX10_hasOthers 89 = .ok (.getfield 120, 3) := by decide +kernel
theorem dX10_hasOthers_92 : decode cX10_hasOthers 92 = .ok (.iload_n 2, 1) := by decide +kernel
theorem dX10_hasOthers_93 : decode cX10_hasOthers 93 = .ok (.iaload, 1) := by decide +kernel
theorem dX10_hasOthers_94 : decode cX10_hasOthers 94 = .ok (.aload_n 0, 1) := by decide +kernel
theorem dX10_hasOthers_95 : decode cX10_hasOthers 95 = .ok (.getfield 138, 3) := by decide +kernel
theorem dX10_hasOthers_98 : decode cX10_hasOthers 98 = .ok (.iload_n 3, 1) := by decide +kernel
theorem dX10_hasOthers_99 : decode cX10_hasOthers 99 = .ok (.iaload, 1) := by decide +kernel
theorem dX10_hasOthers_100 : decode cX10_hasOthers 100 = .ok (.if_icmp .ne 33, 3) := by decide +kernel
theorem dX10_hasOthers_103 : decode cX10_hasOthers 103 = .ok (.aload_n 0, 1) := by decide +kernel
theorem dX10_hasOthers_104 : decode cX10_hasOthers 104 = .ok (.getfield 126, 3) := by decide +kernel
theorem dX10_hasOthers_107 : decode cX10_hasOthers 107 = .ok (.iload_n 2, 1) := by decide +kernel
theorem dX10_hasOthers_108 : decode cX10_hasOthers 108 = .ok (.iaload, 1) := by decide +kernel
theorem dX10_hasOthers_109 : decode cX10_hasOthers 109 = .ok (.aload_n 0, 1) := by decide +kernel
theorem dX10_hasOthers_110 : decode cX10_hasOthers 110 = .ok (.getfield 144, 3) := by decide +kernel
theorem dX10_hasOthers_113 : decode cX10_hasOthers 113 = .ok (.iload_n 3, 1) := by decide +kernel
theorem dX10_hasOthers_114 : decode cX10_hasOthers 114 = .ok (.iaload, 1) := by decide +kernel
theorem dX10_hasOthers_115 : decode cX10_hasOthers 115 = .ok (.if_icmp .ne 18, 3) := by decide +kernel
theorem dX10_hasOthers_118 : decode cX10_hasOthers 118 = .ok (.aload_n 0, 1) := by decide +kernel
theorem dX10_hasOthers_119 : decode cX10_hasOthers 119 = .ok (.getfield 129, 3) := by decide +kernel
theorem dX10_hasOthers_122 : decode cX10_hasOthers 122 = .ok (.iload_n 2, 1) := by decide +kernel
theorem dX10_hasOthers_123 : decode cX10_hasOthers 123 = .ok (.iaload, 1) := by decide +kernel
theorem dX10_hasOthers_124 : decode cX10_hasOthers 124 = .ok (.aload_n 0, 1) := by decide +kernel
theorem dX10_hasOthers_125 : decode cX10_hasOthers 125 = .ok (.getfield 147, 3) := by decide +kernel
theorem dX10_hasOthers_128 : decode cX10_hasOthers 128 = .ok (.iload_n 3, 1) := by decide +kernel
theorem dX10_hasOthers_129 : decode cX10_hasOthers 129 = .ok (.iaload, 1) := by decide +kernel
theorem dX10_hasOthers_130 : decode cX10_hasOthers 130 = .ok (.if_icmp .eq 5, 3) := by decide +kernel
theorem dX10_hasOthers_133 : decode cX10_hasOthers 133 = .ok (.iconst 1, 1) := by decide +kernel
theorem dX10_hasOthers_134 : decode cX10_hasOthers 134 = .ok (.ireturn, 1) := by decide +kernel
theorem dX10_hasOthers_135 : decode cX10_hasOthers 135 = .ok (.iinc 2 1, 3) := by decide +kernel
theorem dX10_hasOthers_138 : decode cX10_hasOthers 138 = .ok (.iinc 3 1, 3) := by decide +kernel
theorem dX10_hasOthers_141 : decode cX10_hasOthers 141 = .ok (.goto (-89), 3) := by decide +kernel
theorem dX10_hasOthers_144 : decode cX10_hasOthers 144 = .ok (.iload_n 2, 1) := by decide +kernel
theorem dX10_hasOthers_145 : decode cX10_hasOthers 145 = .ok (.aload_n 0, 1) := by decide +kernel
theorem dX10_hasOthers_146 : decode cX10_hasOthers 146 = .ok (.getfield 325, 3) := by decide +kernel
theorem dX10_hasOthers_149 : decode cX10_hasOthers 149 = .ok (.if_icmp .ge 13, 3) := by decide +kernel
theorem dX10_hasOthers_152 : decode cX10_hasOthers 152 = .ok (.aload_n 0, 1) := by decide +kernel
theorem dX10_hasOthers_153 : decode cX10_hasOthers 153 = .ok (.getfield 123, 3) := by decide +kernel
theorem dX10_hasOthers_156 : decode cX10_hasOthers 156 = .ok (.iload_n 2, 1) := by decide +kernel
theorem dX10_hasOthers_157 : decode cX10_hasOthers 157 = .ok (.iaload, 1) := by decide +kernel
theorem dX10_hasOthers_158 : decode cX10_hasOthers 158 = .ok (.iload_n 1, 1) := by decide +kernel
theorem dX10_hasOthers_159 : decode cX10_hasOthers 159 = .ok (.if_icmp .eq 21, 3) := by decide +kernel
theorem dX10_hasOthers_162 : decode cX10_hasOthers 162 = .ok (.iload_n 3, 1) := by decide +kernel
theorem dX10_hasOthers_163 : decode cX10_hasOthers 163 = .ok (.aload_n 0, 1) := by decide +kernel
theorem dX10_hasOthers_164 : decode cX10_hasOthers 164 = .ok (.getfield 371, 3) := by decide +kernel
theorem dX10_hasOthers_167 : decode cX10_hasOthers 167 = .ok (.if_icmp .ge 17, 3) := by decide +kernel
theorem dX10_hasOthers_170 : decode cX10_hasOthers 170 = .ok (.aload_n 0, 1) := by decide +kernel
theorem dX10_hasOthers_171 : decode cX10_hasOthers 171 = .ok (.getfield 141, 3) := by decide +kernel
theorem dX10_hasOthers_174 : decode cX10_hasOthers 174 = .ok (.iload_n 3, 1) := by decide +kernel
theorem dX10_hasOthers_175 : decode cX10_hasOthers 175 = .ok (.iaload, 1) := by decide +kernel
theorem dX10_hasOthers_176 : decode cX10_hasOthers 176 = .ok (.iload_n 1, 1) := by decide +kernel
theorem dX10_hasOthers_177 : decode cX10_hasOthers 177 = .ok (.if_icmp .ne 7, 3) := by decide +kernel
theorem dX10_hasOthers_180 : decode cX10_hasOthers 180 = .ok (.iconst 1, 1) := by decide +kernel
theorem dX10_hasOthers_181 : decode cX10_hasOthers 181 = .ok (.goto 4, 3) := by decide +kernel
theorem dX10_hasOthers_184 : decode cX10_hasOthers 184 = .ok (.iconst 0, 1) := by decide +kernel
theorem dX10_hasOthers_185 : decode cX10_hasOthers 185 = .ok (.ireturn, 1) := by decide +kernel
theorem dX10_isOther_0 : decode cX10_isOther 0 = .ok (.aload_n 0, 1) := by decide +kernel
theorem dX10_isOther_1 : decode cX10_isOther 1 = .ok (.iload_n 1, 1) := by decide +kernel
theorem dX10_isOther_2 : decode cX10_isOther 2 = .ok (.invokevirtual 374, 3) := by decide +kernel
theorem dX10_isOther_5 : decode cX10_isOther 5 = .ok (.ifCond .ne 18, 3) := by decide +kernel
theorem dX10_isOther_8 : decode cX10_isOther 8 = .ok (.aload_n 0, 1) := by decide +kernel
theorem dX10_isOther_9 : decode cX10_isOther 9 = .ok (.getfield 132, 3) := by decide +kernel
theorem dX10_isOther_12 : decode cX10_isOther 12 = .ok (.iload_n 1, 1) := by decide +kernel
theorem dX10_isOther_13 : decode cX10_isOther 13 = .ok (.iaload, 1) := by decide +kernel
theorem dX10_isOther_14 : decode cX10_isOther 14 = .ok (.aload_n 0, 1) := by decide +kernel
theorem dX10_isOther_15 : decode cX10_isOther 15 = .ok (.getfield 150, 3) := by decide +kernel
theorem dX10_isOther_18 : decode cX10_isOther 18 = .ok (.iload_n 1, 1) := by decide +kernel
theorem dX10_isOther_19 : decode cX10_isOther 19 = .ok (.iaload, 1) := by decide +kernel
theorem dX10_isOther_20 : decode cX10_isOther 20 = .ok (.if_icmp .eq 7, 3) := by decide +kernel
theorem dX10_isOther_23 : decode cX10_isOther 23 = .ok (.iconst 1, 1) := by decide +kernel
theorem dX10_isOther_24 : decode cX10_isOther 24 = .ok (.goto 4, 3) := by decide +kernel
theorem dX10_isOther_27 : decode cX10_isOther 27 = .ok (.iconst 0, 1) := by decide +kernel
theorem dX10_isOther_28 : decode cX10_isOther 28 = .ok (.istore_n 2, 1) := by decide +kernel
theorem dX10_isOther_29 : decode cX10_isOther 29 = .ok (.iconst 0, 1) := by decide +kernel
theorem dX10_isOther_30 : decode cX10_isOther 30 = .ok (.istore_n 3, 1) := by decide +kernel
theorem dX10_isOther_31 : decode cX10_isOther 31 = .ok (.iload_n 3, 1) := by decide +kernel
theorem dX10_isOther_32 : decode cX10_isOther 32 = .ok (.aload_n 0, 1) := by decide +kernel
theorem dX10_isOther_33 : decode cX10_isOther 33 = .ok (.getfield 162, 3) := by decide +kernel
theorem dX10_isOther_36 : decode cX10_isOther 36 = .ok (.if_icmp .ge 118, 3) := by decide +kernel
theorem dX10_isOther_39 : decode cX10_isOther 39 = .ok (.aload_n 0, 1) := by decide +kernel
theorem dX10_isOther_40 : decode cX10_isOther 40 = .ok (.getfield 16, 3) := by decide +kernel
theorem dX10_isOther_43 : decode cX10_isOther 43 = .ok (.iload_n 3, 1) := by decide +kernel
theorem dX10_isOther_44 : decode cX10_isOther 44 = .ok (.baload, 1) := by decide +kernel
theorem dX10_isOther_45 : decode cX10_isOther 45 = .ok (.ifCond .eq 16, 3) := by decide +kernel
theorem dX10_isOther_48 : decode cX10_isOther 48 = .ok (.aload_n 0, 1) := by decide +kernel
theorem dX10_isOther_49 : decode cX10_isOther 49 = .ok (.getfield 20, 3) := by decide +kernel
theorem dX10_isOther_52 : decode cX10_isOther 52 = .ok (.iload_n 3, 1) := by decide +kernel
theorem dX10_isOther_53 : decode cX10_isOther 53 = .ok (.baload, 1) := by decide +kernel
theorem dX10_isOther_54 : decode cX10_isOther 54 = .ok (.ifCond .ne 7, 3) := by decide +kernel
theorem dX10_isOther_57 : decode cX10_isOther 57 = .ok (.iconst 1, 1) := by decide +kernel
theorem dX10_isOther_58 : decode cX10_isOther 58 = .ok (.goto 4, 3) := by decide +kernel
theorem dX10_isOther_61 : decode cX10_isOther 61 = .ok (.iconst 0, 1) := by decide +kernel
theorem dX10_isOther_62 : decode cX10_isOther 62 = .ok (.istore 4, 2) := by decide +kernel
theorem dX10_isOther_64 : decode cX10_isOther 64 = .ok (.iload_n 2, 1) := by decide +kernel
theorem dX10_isOther_65 : decode cX10_isOther 65 = .ok (.ifCond .ne 14, 3) := by decide +kernel
theorem dX10_isOther_68 : decode cX10_isOther 68 = .ok (.iload 4, 2) := by decide +kernel
theorem dX10_isOther_70 : decode cX10_isOther 70 = .ok (.aload_n 0, 1) := by decide +kernel
theorem dX10_isOther_71 : decode cX10_isOther 71 = .ok (.getfield 156, 3) := by decide +kernel
theorem dX10_isOther_74 : decode cX10_isOther 74 = .ok (.iload_n 3, 1) := by decide +kernel
theorem dX10_isOther_75 : decode cX10_isOther 75 = .ok (.baload, 1) := by decide +kernel
theorem dX10_isOther_76 : decode cX10_isOther 76 = .ok (.if_icmp .eq 7, 3) := by decide +kernel
theorem dX10_isOther_79 : decode cX10_isOther 79 = .ok (.iconst 1, 1) := by decide +kernel
theorem dX10_isOther_80 : decode cX10_isOther 80 = .ok (.goto 4, 3) := by decide +kernel
theorem dX10_isOther_83 : decode cX10_isOther 83 = .ok (.iconst 0, 1) := by decide +kernel
theorem dX10_isOther_84 : decode cX10_isOther 84 = .ok (.istore_n 2, 1) := by decide +kernel
theorem dX10_isOther_85 : decode cX10_isOther 85 = .ok (.iload_n 2, 1) := by decide +kernel
theorem dX10_isOther_86 : decode cX10_isOther 86 = .ok (.ifCond .ne 56, 3) := by decide +kernel
theorem dX10_isOther_89 : decode cX10_isOther 89 = .ok (.iload 4, 2) := by decide +kernel
theorem dX10_isOther_91 : decode cX10_isOther 91 = .ok (.ifCond .eq 55, 3) := by decide +kernel
theorem dX10_isOther_94 : decode cX10_isOther 94 = .ok (.aload_n 0, 1) := by decide +kernel
theorem dX10_isOther_95 : decode cX10_isOther 95 = .ok (.iload_n 1, 1) := by decide +kernel
theorem dX10_isOther_96 : decode cX10_isOther 96 = .ok (.iload_n 3, 1) := by decide +kernel
theorem dX10_isOther_97 : decode cX10_isOther 97 = .ok (.invokevirtual 365, 3) := by decide +kernel
theorem dX10_isOther_100 : decode cX10_isOther 100 = .ok (.aload_n 0, 1) := by decide +kernel
theorem dX10_isOther_101 : decode cX10_isOther 101 = .ok (.getfield 153, 3) := by decide +kernel
theorem dX10_isOther_104 : decode cX10_isOther 104 = .ok (.bipush 6, 2) := by decide +kernel
theorem dX10_isOther_106 : decode cX10_isOther 106 = .ok (.iload_n 1, 1) := by decide +kernel
theorem dX10_isOther_107 : decode cX10_isOther 107 = .ok (.imul, 1) := by decide +kernel
theorem dX10_isOther_108 : decode cX10_isOther 108 = .ok (.iload_n 3, 1) := by decide +kernel
theorem dX10_isOther_109 : decode cX10_isOther 109 = .ok (.iadd, 1) := by decide +kernel
theorem dX10_isOther_110 : decode cX10_isOther 110 = .ok (.iaload, 1) := by decide +kernel
theorem dX10_isOther_111 : decode cX10_isOther 111 = .ok (.if_icmp .ne 31, 3) := by decide +kernel
theorem dX10_isOther_114 : decode cX10_isOther 114 = .ok (.iload_n 1, 1) := by decide +kernel
theorem dX10_isOther_115 : decode cX10_isOther 115 = .ok (.ifCond .le 31, 3) := by decide +kernel
theorem dX10_isOther_118 : decode cX10_isOther 118 = .ok (.aload_n 0, 1) := by decide +kernel
theorem dX10_isOther_119 : decode cX10_isOther 119 = .ok (.iload_n 1, 1) := by decide +kernel
theorem dX10_isOther_120 : decode cX10_isOther 120 = .ok (.iconst 1, 1) := by decide +kernel
theorem dX10_isOther_121 : decode cX10_isOther 121 = .ok (.isub, 1) := by decide +kernel
theorem dX10_isOther_122 : decode cX10_isOther 122 = .ok (.iload_n 3, 1) := by decide +kernel
theorem dX10_isOther_123 : decode cX10_isOther 123 = .ok (.invokevirtual 365, 3) := by decide +kernel
theorem dX10_isOther_126 : decode cX10_isOther 126 = .ok (.aload_n 0, 1) := by decide +kernel
theorem dX10_isOther_127 : decode cX10_isOther 127 = .ok (.getfield 153, 3) := by decide +kernel
theorem dX10_isOther_130 : decode cX10_isOther 130 = .ok (.bipush 6, 2) := by decide +kernel
theorem dX10_isOther_132 : decode cX10_isOther 132 = .ok (.iload_n 1, 1) := by decide +kernel
theorem dX10_isOther_133 : decode cX10_isOther 133 = .ok (.iconst 1, 1) := by decide +kernel
theorem dX10_isOther_134 : decode cX10_isOther 134 = .ok (.isub, 1) := by decide +kernel
theorem dX10_isOther_135 : decode cX10_isOther 135 = .ok (.imul, 1) := by decide +kernel
theorem dX10_isOther_136 : decode cX10_isOther 136 = .ok (.iload_n 3, 1) := by decide +kernel
theorem dX10_isOther_137 : decode cX10_isOther 137 = .ok (.iadd, 1) := by decide +kernel
theorem dX10_isOther_138 : decode cX10_isOther 138 = .ok (.iaload, 1) := by decide +kernel
theorem dX10_isOther_139 : decode cX10_isOther 139 = .ok (.if_icmp .eq 7, 3) := by decide +kernel
theorem dX10_isOther_142 : decode cX10_isOther 142 = .ok (.iconst 1, 1) := by decide +kernel
theorem dX10_isOther_143 : decode cX10_isOther 143 = .ok (.goto 4, 3) := by decide +kernel
theorem dX10_isOther_146 : decode cX10_isOther 146 = .ok (.iconst 0, 1) := by decide +kernel
theorem dX10_isOther_147 : decode cX10_isOther 147 = .ok (.istore_n 2, 1) := by decide +kernel
theorem dX10_isOther_148 : decode cX10_isOther 148 = .ok (.iinc 3 1, 3) := by decide +kernel
theorem dX10_isOther_151 : decode cX10_isOther 151 = .ok (.goto (-120), 3) := by decide +kernel
theorem dX10_isOther_154 : decode cX10_isOther 154 = .ok (.iload_n 2, 1) := by decide +kernel
theorem dX10_isOther_155 : decode cX10_isOther 155 = .ok (.ireturn, 1) := by decide +kernel
theorem dX10_keeps_0 : decode cX10_keeps 0 = .ok (.aload_n 0, 1) := by decide +kernel
theorem dX10_keeps_1 : decode cX10_keeps 1 = .ok (.aload_n 0, 1) := by decide +kernel
theorem dX10_keeps_2 : decode cX10_keeps 2 = .ok (.getfield 325, 3) := by decide +kernel
theorem dX10_keeps_5 : decode cX10_keeps 5 = .ok (.putfield 371, 3) := by decide +kernel
theorem dX10_keeps_8 : decode cX10_keeps 8 = .ok (.iconst 0, 1) := by decide +kernel
theorem dX10_keeps_9 : decode cX10_keeps 9 = .ok (.istore_n 1, 1) := by decide +kernel
theorem dX10_keeps_10 : decode cX10_keeps 10 = .ok (.iload_n 1, 1) := by decide +kernel
theorem dX10_keeps_11 : decode cX10_keeps 11 = .ok (.aload_n 0, 1) := by decide +kernel
theorem dX10_keeps_12 : decode cX10_keeps 12 = .ok (.getfield 325, 3) := by decide +kernel
theorem dX10_keeps_15 : decode cX10_keeps 15 = .ok (.if_icmp .ge 57, 3) := by decide +kernel
theorem dX10_keeps_18 : decode cX10_keeps 18 = .ok (.aload_n 0, 1) := by decide +kernel
theorem dX10_keeps_19 : decode cX10_keeps 19 = .ok (.getfield 138, 3) := by decide +kernel
theorem dX10_keeps_22 : decode cX10_keeps 22 = .ok (.iload_n 1, 1) := by decide +kernel
theorem dX10_keeps_23 : decode cX10_keeps 23 = .ok (.aload_n 0, 1) := by decide +kernel
theorem dX10_keeps_24 : decode cX10_keeps 24 = .ok (.getfield 120, 3) := by decide +kernel
theorem dX10_keeps_27 : decode cX10_keeps 27 = .ok (.iload_n 1, 1) := by decide +kernel
theorem dX10_keeps_28 : decode cX10_keeps 28 = .ok (.iaload, 1) := by decide +kernel
theorem dX10_keeps_29 : decode cX10_keeps 29 = .ok (.iastore, 1) := by decide +kernel
theorem dX10_keeps_30 : decode cX10_keeps 30 = .ok (.aload_n 0, 1) := by decide +kernel
theorem dX10_keeps_31 : decode cX10_keeps 31 = .ok (.getfield 141, 3) := by decide +kernel
theorem dX10_keeps_34 : decode cX10_keeps 34 = .ok (.iload_n 1, 1) := by decide +kernel
theorem dX10_keeps_35 : decode cX10_keeps 35 = .ok (.aload_n 0, 1) := by decide +kernel
theorem dX10_keeps_36 : decode cX10_keeps 36 = .ok (.getfield 123, 3) := by decide +kernel
theorem dX10_keeps_39 : decode cX10_keeps 39 = .ok (.iload_n 1, 1) := by decide +kernel
theorem dX10_keeps_40 : decode cX10_keeps 40 = .ok (.iaload, 1) := by decide +kernel
theorem dX10_keeps_41 : decode cX10_keeps 41 = .ok (.iastore, 1) := by decide +kernel
theorem dX10_keeps_42 : decode cX10_keeps 42 = .ok (.aload_n 0, 1) := by decide +kernel
theorem dX10_keeps_43 : decode cX10_keeps 43 = .ok (.getfield 144, 3) := by decide +kernel
theorem dX10_keeps_46 : decode cX10_keeps 46 = .ok (.iload_n 1, 1) := by decide +kernel
theorem dX10_keeps_47 : decode cX10_keeps 47 = .ok (.aload_n 0, 1) := by decide +kernel
theorem dX10_keeps_48 : decode cX10_keeps 48 = .ok (.getfield 126, 3) := by decide +kernel
theorem dX10_keeps_51 : decode cX10_keeps 51 = .ok (.iload_n 1, 1) := by decide +kernel
theorem dX10_keeps_52 : decode cX10_keeps 52 = .ok (.iaload, 1) := by decide +kernel
theorem dX10_keeps_53 : decode cX10_keeps 53 = .ok (.iastore, 1) := by decide +kernel
theorem dX10_keeps_54 : decode cX10_keeps 54 = .ok (.aload_n 0, 1) := by decide +kernel
theorem dX10_keeps_55 : decode cX10_keeps 55 = .ok (.getfield 147, 3) := by decide +kernel
theorem dX10_keeps_58 : decode cX10_keeps 58 = .ok (.iload_n 1, 1) := by decide +kernel
theorem dX10_keeps_59 : decode cX10_keeps 59 = .ok (.aload_n 0, 1) := by decide +kernel
theorem dX10_keeps_60 : decode cX10_keeps 60 = .ok (.getfield 129, 3) := by decide +kernel
theorem dX10_keeps_63 : decode cX10_keeps 63 = .ok (.iload_n 1, 1) := by decide +kernel
theorem dX10_keeps_64 : decode cX10_keeps 64 = .ok (.iaload, 1) := by decide +kernel
theorem dX10_keeps_65 : decode cX10_keeps 65 = .ok (.iastore, 1) := by decide +kernel
theorem dX10_keeps_66 : decode cX10_keeps 66 = .ok (.iinc 1 1, 3) := by decide +kernel
theorem dX10_keeps_69 : decode cX10_keeps 69 = .ok (.goto (-59), 3) := by decide +kernel
theorem dX10_keeps_72 : decode cX10_keeps 72 = .ok (.aload_n 0, 1) := by decide +kernel
theorem dX10_keeps_73 : decode cX10_keeps 73 = .ok (.aload_n 0, 1) := by decide +kernel
theorem dX10_keeps_74 : decode cX10_keeps 74 = .ok (.getfield 328, 3) := by decide +kernel
theorem dX10_keeps_77 : decode cX10_keeps 77 = .ok (.putfield 377, 3) := by decide +kernel
theorem dX10_keeps_80 : decode cX10_keeps 80 = .ok (.iconst 0, 1) := by decide +kernel
theorem dX10_keeps_81 : decode cX10_keeps 81 = .ok (.istore_n 1, 1) := by decide +kernel
theorem dX10_keeps_82 : decode cX10_keeps 82 = .ok (.iload_n 1, 1) := by decide +kernel
theorem dX10_keeps_83 : decode cX10_keeps 83 = .ok (.aload_n 0, 1) := by decide +kernel
theorem dX10_keeps_84 : decode cX10_keeps 84 = .ok (.getfield 162, 3) := by decide +kernel
theorem dX10_keeps_87 : decode cX10_keeps 87 = .ok (.if_icmp .ge 84, 3) := by decide +kernel
theorem dX10_keeps_90 : decode cX10_keeps 90 = .ok (.aload_n 0, 1) := by decide +kernel
theorem dX10_keeps_91 : decode cX10_keeps 91 = .ok (.getfield 156, 3) := by decide +kernel
theorem dX10_keeps_94 : decode cX10_keeps 94 = .ok (.iload_n 1, 1) := by decide +kernel
theorem dX10_keeps_95 : decode cX10_keeps 95 = .ok (.aload_n 0, 1) := by decide +kernel
theorem dX10_keeps_96 : decode cX10_keeps 96 = .ok (.getfield 16, 3) := by decide +kernel
theorem dX10_keeps_99 : decode cX10_keeps 99 = .ok (.iload_n 1, 1) := by decide +kernel
theorem dX10_keeps_100 : decode cX10_keeps 100 = .ok (.baload, 1) := by decide +kernel
theorem dX10_keeps_101 : decode cX10_keeps 101 = .ok (.ifCond .eq 16, 3) := by decide +kernel
theorem dX10_keeps_104 : decode cX10_keeps 104 = .ok (.aload_n 0, 1) := by decide +kernel
theorem dX10_keeps_105 : decode cX10_keeps 105 = .ok (.getfield 20, 3) := by decide +kernel
theorem dX10_keeps_108 : decode cX10_keeps 108 = .ok (.iload_n 1, 1) := by decide +kernel
theorem dX10_keeps_109 : decode cX10_keeps 109 = .ok (.baload, 1) := by decide +kernel
theorem dX10_keeps_110 : decode cX10_keeps 110 = .ok (.ifCond .ne 7, 3) := by decide +kernel
theorem dX10_keeps_113 : decode cX10_keeps 113 = .ok (.iconst 1, 1) := by decide +kernel
theorem dX10_keeps_114 : decode cX10_keeps 114 = .ok (.goto 4, 3) := by decide +kernel
theorem dX10_keeps_117 : decode cX10_keeps 117 = .ok (.iconst 0, 1) := by decide +kernel
theorem dX10_keeps_118 : decode cX10_keeps 118 = .ok (.bastore, 1) := by decide +kernel
theorem dX10_keeps_119 : decode cX10_keeps 119 = .ok (.iconst 0, 1) := by decide +kernel
theorem dX10_keeps_120 : decode cX10_keeps 120 = .ok (.istore_n 2, 1) := by decide +kernel
theorem dX10_keeps_121 : decode cX10_keeps 121 = .ok (.iload_n 2, 1) := by decide +kernel
theorem dX10_keeps_122 : decode cX10_keeps 122 = .ok (.aload_n 0, 1) := by decide +kernel
theorem dX10_keeps_123 : decode cX10_keeps 123 = .ok (.getfield 328, 3) := by decide +kernel
theorem dX10_keeps_126 : decode cX10_keeps 126 = .ok (.if_icmp .ge 39, 3) := by decide +kernel
theorem dX10_keeps_129 : decode cX10_keeps 129 = .ok (.aload_n 0, 1) := by decide +kernel
theorem dX10_keeps_130 : decode cX10_keeps 130 = .ok (.getfield 153, 3) := by decide +kernel
theorem dX10_keeps_133 : decode cX10_keeps 133 = .ok (.bipush 6, 2) := by decide +kernel
theorem dX10_keeps_135 : decode cX10_keeps 135 = .ok (.iload_n 2, 1) := by decide +kernel
theorem dX10_keeps_136 : decode cX10_keeps 136 = .ok (.imul, 1) := by decide +kernel
theorem dX10_keeps_137 : decode cX10_keeps 137 = .ok (.iload_n 1, 1) := by decide +kernel
theorem dX10_keeps_138 : decode cX10_keeps 138 = .ok (.iadd, 1) := by decide +kernel
theorem dX10_keeps_139 : decode cX10_keeps 139 = .ok (.aload_n 0, 1) := by decide +kernel
theorem dX10_keeps_140 : decode cX10_keeps 140 = .ok (.getfield 156, 3) := by decide +kernel
theorem dX10_keeps_143 : decode cX10_keeps 143 = .ok (.iload_n 1, 1) := by decide +kernel
theorem dX10_keeps_144 : decode cX10_keeps 144 = .ok (.baload, 1) := by decide +kernel
theorem dX10_keeps_145 : decode cX10_keeps 145 = .ok (.ifCond .eq 12, 3) := by decide +kernel
theorem dX10_keeps_148 : decode cX10_keeps 148 = .ok (.aload_n 0, 1) := by decide +kernel
theorem dX10_keeps_149 : decode cX10_keeps 149 = .ok (.iload_n 2, 1) := by decide +kernel
theorem dX10_keeps_150 : decode cX10_keeps 150 = .ok (.iload_n 1, 1) := by decide +kernel
theorem dX10_keeps_151 : decode cX10_keeps 151 = .ok (.invokevirtual 365, 3) := by decide +kernel
theorem dX10_keeps_154 : decode cX10_keeps 154 = .ok (.goto 4, 3) := by decide +kernel
theorem dX10_keeps_157 : decode cX10_keeps 157 = .ok (.iconst 0, 1) := by decide +kernel
theorem dX10_keeps_158 : decode cX10_keeps 158 = .ok (.iastore, 1) := by decide +kernel
theorem dX10_keeps_159 : decode cX10_keeps 159 = .ok (.iinc 2 1, 3) := by decide +kernel
theorem dX10_keeps_162 : decode cX10_keeps 162 = .ok (.goto (-41), 3) := by decide +kernel
theorem dX10_keeps_165 : decode cX10_keeps 165 = .ok (.iinc 1 1, 3) := by decide +kernel
theorem dX10_keeps_168 : decode cX10_keeps 168 = .ok (.goto (-86), 3) := by decide +kernel
theorem dX10_keeps_171 : decode cX10_keeps 171 = .ok (.iconst 0, 1) := by decide +kernel
theorem dX10_keeps_172 : decode cX10_keeps 172 = .ok (.istore_n 1, 1) := by decide +kernel
theorem dX10_keeps_173 : decode cX10_keeps 173 = .ok (.iload_n 1, 1) := by decide +kernel
theorem dX10_keeps_174 : decode cX10_keeps 174 = .ok (.aload_n 0, 1) := by decide +kernel
theorem dX10_keeps_175 : decode cX10_keeps 175 = .ok (.getfield 328, 3) := by decide +kernel
theorem dX10_keeps_178 : decode cX10_keeps 178 = .ok (.if_icmp .ge 21, 3) := by decide +kernel
theorem dX10_keeps_181 : decode cX10_keeps 181 = .ok (.aload_n 0, 1) := by decide +kernel
theorem dX10_keeps_182 : decode cX10_keeps 182 = .ok (.getfield 150, 3) := by decide +kernel
theorem dX10_keeps_185 : decode cX10_keeps 185 = .ok (.iload_n 1, 1) := by decide +kernel
theorem dX10_keeps_186 : decode cX10_keeps 186 = .ok (.aload_n 0, 1) := by decide +kernel
theorem dX10_keeps_187 : decode cX10_keeps 187 = .ok (.getfield 132, 3) := by decide +kernel
theorem dX10_keeps_190 : decode cX10_keeps 190 = .ok (.iload_n 1, 1) := by decide +kernel
theorem dX10_keeps_191 : decode cX10_keeps 191 = .ok (.iaload, 1) := by decide +kernel
theorem dX10_keeps_192 : decode cX10_keeps 192 = .ok (.iastore, 1) := by decide +kernel
theorem dX10_keeps_193 : decode cX10_keeps 193 = .ok (.iinc 1 1, 3) := by decide +kernel
theorem dX10_keeps_196 : decode cX10_keeps 196 = .ok (.goto (-23), 3) := by decide +kernel
theorem dX10_keeps_199 : decode cX10_keeps 199 = .ok (.return_, 1) := by decide +kernel
theorem dX10_look_0 : decode cX10_look 0 = .ok (.aload_n 0, 1) := by decide +kernel
theorem dX10_look_1 : decode cX10_look 1 = .ok (.iconst 0, 1) := by decide +kernel
theorem dX10_look_2 : decode cX10_look 2 = .ok (.putfield 159, 3) := by decide +kernel
theorem dX10_look_5 : decode cX10_look 5 = .ok (.aload_n 0, 1) := by decide +kernel
theorem dX10_look_6 : decode cX10_look 6 = .ok (.invokevirtual 344, 3) := by decide +kernel
theorem dX10_look_9 : decode cX10_look 9 = .ok (.pop, 1) := by decide +kernel
theorem dX10_look_10 : decode cX10_look 10 = .ok (.aload_n 0, 1) := by decide +kernel
theorem dX10_look_11 : decode cX10_look 11 = .ok (.getfield 328, 3) := by decide +kernel
theorem dX10_look_14 : decode cX10_look 14 = .ok (.aload_n 0, 1) := by decide +kernel
theorem dX10_look_15 : decode cX10_look 15 = .ok (.getfield 377, 3) := by decide +kernel
theorem dX10_look_18 : decode cX10_look 18 = .ok (.if_icmp .le 15, 3) := by decide +kernel
theorem dX10_look_21 : decode cX10_look 21 = .ok (.aload_n 0, 1) := by decide +kernel
theorem dX10_look_22 : decode cX10_look 22 = .ok (.getfield 328, 3) := by decide +kernel
theorem dX10_look_25 : decode cX10_look 25 = .ok (.aload_n 0, 1) := by decide +kernel
theorem dX10_look_26 : decode cX10_look 26 = .ok (.getfield 377, 3) := by decide +kernel
theorem dX10_look_29 : decode cX10_look 29 = .ok (.isub, 1) := by decide +kernel
theorem dX10_look_30 : decode cX10_look 30 = .ok (.goto 12, 3) := by decide +kernel
theorem dX10_look_33 : decode cX10_look 33 = .ok (.aload_n 0, 1) := by decide +kernel
theorem dX10_look_34 : decode cX10_look 34 = .ok (.getfield 377, 3) := by decide +kernel
theorem dX10_look_37 : decode cX10_look 37 = .ok (.aload_n 0, 1) := by decide +kernel
theorem dX10_look_38 : decode cX10_look 38 = .ok (.getfield 328, 3) := by decide +kernel
theorem dX10_look_41 : decode cX10_look 41 = .ok (.isub, 1) := by decide +kernel
theorem dX10_look_42 : decode cX10_look 42 = .ok (.istore_n 1, 1) := by decide +kernel
theorem dX10_look_43 : decode cX10_look 43 = .ok (.iconst 0, 1) := by decide +kernel
theorem dX10_look_44 : decode cX10_look 44 = .ok (.istore_n 2, 1) := by decide +kernel
theorem dX10_look_45 : decode cX10_look 45 = .ok (.iload_n 2, 1) := by decide +kernel
theorem dX10_look_46 : decode cX10_look 46 = .ok (.aload_n 0, 1) := by decide +kernel
theorem dX10_look_47 : decode cX10_look 47 = .ok (.getfield 328, 3) := by decide +kernel
theorem dX10_look_50 : decode cX10_look 50 = .ok (.if_icmp .ge 33, 3) := by decide +kernel
theorem dX10_look_53 : decode cX10_look 53 = .ok (.iload_n 2, 1) := by decide +kernel
theorem dX10_look_54 : decode cX10_look 54 = .ok (.aload_n 0, 1) := by decide +kernel
theorem dX10_look_55 : decode cX10_look 55 = .ok (.getfield 377, 3) := by decide +kernel
theorem dX10_look_58 : decode cX10_look 58 = .ok (.if_icmp .ge 25, 3) := by decide +kernel
theorem dX10_look_61 : decode cX10_look 61 = .ok (.iload_n 1, 1) := by decide +kernel
theorem dX10_look_62 : decode cX10_look 62 = .ok (.aload_n 0, 1) := by decide +kernel
theorem dX10_look_63 : decode cX10_look 63 = .ok (.iload_n 2, 1) := by decide +kernel
theorem dX10_look_64 : decode cX10_look 64 = .ok (.invokevirtual 380, 3) := by decide +kernel
theorem dX10_look_67 : decode cX10_look 67 = .ok (.ifCond .eq 7, 3) := by decide +kernel
theorem dX10_look_70 : decode cX10_look 70 = .ok (.iconst 1, 1) := by decide +kernel
theorem dX10_look_71 : decode cX10_look 71 = .ok (.goto 4, 3) := by decide +kernel
theorem dX10_look_74 : decode cX10_look 74 = .ok (.iconst 0, 1) := by decide +kernel
theorem dX10_look_75 : decode cX10_look 75 = .ok (.iadd, 1) := by decide +kernel
theorem dX10_look_76 : decode cX10_look 76 = .ok (.istore_n 1, 1) := by decide +kernel
theorem dX10_look_77 : decode cX10_look 77 = .ok (.iinc 2 1, 3) := by decide +kernel
theorem dX10_look_80 : decode cX10_look 80 = .ok (.goto (-35), 3) := by decide +kernel
theorem dX10_look_83 : decode cX10_look 83 = .ok (.aload_n 0, 1) := by decide +kernel
theorem dX10_look_84 : decode cX10_look 84 = .ok (.invokevirtual 383, 3) := by decide +kernel
theorem dX10_look_87 : decode cX10_look 87 = .ok (.iload_n 1, 1) := by decide +kernel
theorem dX10_look_88 : decode cX10_look 88 = .ok (.ireturn, 1) := by decide +kernel
theorem dX10_used_0 : decode cX10_used 0 = .ok (.aload_n 0, 1) := by decide +kernel
theorem dX10_used_1 : decode cX10_used 1 = .ok (.invokevirtual 344, 3) := by decide +kernel
theorem dX10_used_4 : decode cX10_used 4 = .ok (.istore_n 2, 1) := by decide +kernel
theorem dX10_used_5 : decode cX10_used 5 = .ok (.aload_n 0, 1) := by decide +kernel
theorem dX10_used_6 : decode cX10_used 6 = .ok (.iload_n 2, 1) := by decide +kernel
theorem dX10_used_7 : decode cX10_used 7 = .ok (.iload_n 2, 1) := by decide +kernel
theorem dX10_used_8 : decode cX10_used 8 = .ok (.ifCond .eq 15, 3) := by decide +kernel
theorem dX10_used_11 : decode cX10_used 11 = .ok (.aload_n 0, 1) := by decide +kernel
theorem dX10_used_12 : decode cX10_used 12 = .ok (.iload_n 1, 1) := by decide +kernel
theorem dX10_used_13 : decode cX10_used 13 = .ok (.invokevirtual 356, 3) := by decide +kernel
theorem dX10_used_16 : decode cX10_used 16 = .ok (.ifCond .eq 7, 3) := by decide +kernel
theorem dX10_used_19 : decode cX10_used 19 = .ok (.iconst 1, 1) := by decide +kernel
theorem dX10_used_20 : decode cX10_used 20 = .ok (.goto 4, 3) := by decide +kernel
theorem dX10_used_23 : decode cX10_used 23 = .ok (.iconst 0, 1) := by decide +kernel
theorem dX10_used_24 : decode cX10_used 24 = .ok (.iconst 1, 1) := by decide +kernel
theorem dX10_used_25 : decode cX10_used 25 = .ok (.invokevirtual 175, 3) := by decide +kernel
theorem dX10_used_28 : decode cX10_used 28 = .ok (.ifCond .ne 5, 3) := by decide +kernel
theorem dX10_used_31 : decode cX10_used 31 = .ok (.iconst 0, 1) := by decide +kernel
theorem dX10_used_32 : decode cX10_used 32 = .ok (.ireturn, 1) := by decide +kernel
theorem dX10_used_33 : decode cX10_used 33 = .ok (.aload_n 0, 1) := by decide +kernel
theorem dX10_used_34 : decode cX10_used 34 = .ok (.invokevirtual 315, 3) := by decide +kernel
theorem dX10_used_37 : decode cX10_used 37 = .ok (.ifCond .eq 7, 3) := by decide +kernel
theorem dX10_used_40 : decode cX10_used 40 = .ok (.iconst 1, 1) := by decide +kernel
theorem dX10_used_41 : decode cX10_used 41 = .ok (.goto 4, 3) := by decide +kernel
theorem dX10_used_44 : decode cX10_used 44 = .ok (.iconst 0, 1) := by decide +kernel
theorem dX10_used_45 : decode cX10_used 45 = .ok (.istore_n 3, 1) := by decide +kernel
theorem dX10_used_46 : decode cX10_used 46 = .ok (.aload_n 0, 1) := by decide +kernel
theorem dX10_used_47 : decode cX10_used 47 = .ok (.iconst 0, 1) := by decide +kernel
theorem dX10_used_48 : decode cX10_used 48 = .ok (.invokevirtual 289, 3) := by decide +kernel
theorem dX10_used_51 : decode cX10_used 51 = .ok (.aload_n 0, 1) := by decide +kernel
theorem dX10_used_52 : decode cX10_used 52 = .ok (.iconst 2, 1) := by decide +kernel
theorem dX10_used_53 : decode cX10_used 53 = .ok (.invokevirtual 289, 3) := by decide +kernel
theorem dX10_used_56 : decode cX10_used 56 = .ok (.iadd, 1) := by decide +kernel
theorem dX10_used_57 : decode cX10_used 57 = .ok (.iload_n 1, 1) := by decide +kernel
theorem dX10_used_58 : decode cX10_used 58 = .ok (.ifCond .le 9, 3) := by decide +kernel
theorem dX10_used_61 : decode cX10_used 61 = .ok (.iconst 1, 1) := by decide +kernel
theorem dX10_used_62 : decode cX10_used 62 = .ok (.iload_n 3, 1) := by decide +kernel
theorem dX10_used_63 : decode cX10_used 63 = .ok (.iadd, 1) := by decide +kernel
theorem dX10_used_64 : decode cX10_used 64 = .ok (.goto 4, 3) := by decide +kernel
theorem dX10_used_67 : decode cX10_used 67 = .ok (.iconst 0, 1) := by decide +kernel
theorem dX10_used_68 : decode cX10_used 68 = .ok (.iadd, 1) := by decide +kernel
theorem dX10_used_69 : decode cX10_used 69 = .ok (.iload_n 1, 1) := by decide +kernel
theorem dX10_used_70 : decode cX10_used 70 = .ok (.aload_n 0, 1) := by decide +kernel
theorem dX10_used_71 : decode cX10_used 71 = .ok (.getfield 328, 3) := by decide +kernel
theorem dX10_used_74 : decode cX10_used 74 = .ok (.iconst 1, 1) := by decide +kernel
theorem dX10_used_75 : decode cX10_used 75 = .ok (.isub, 1) := by decide +kernel
theorem dX10_used_76 : decode cX10_used 76 = .ok (.if_icmp .ge 7, 3) := by decide +kernel
theorem dX10_used_79 : decode cX10_used 79 = .ok (.iload_n 3, 1) := by decide +kernel
theorem dX10_used_80 : decode cX10_used 80 = .ok (.goto 4, 3) := by decide +kernel
theorem dX10_used_83 : decode cX10_used 83 = .ok (.iconst 0, 1) := by decide +kernel
theorem dX10_used_84 : decode cX10_used 84 = .ok (.iadd, 1) := by decide +kernel
theorem dX10_used_85 : decode cX10_used 85 = .ok (.aload_n 0, 1) := by decide +kernel
theorem dX10_used_86 : decode cX10_used 86 = .ok (.getfield 135, 3) := by decide +kernel
theorem dX10_used_89 : decode cX10_used 89 = .ok (.iload_n 1, 1) := by decide +kernel
theorem dX10_used_90 : decode cX10_used 90 = .ok (.iaload, 1) := by decide +kernel
theorem dX10_used_91 : decode cX10_used 91 = .ok (.iadd, 1) := by decide +kernel
theorem dX10_used_92 : decode cX10_used 92 = .ok (.aload_n 0, 1) := by decide +kernel
theorem dX10_used_93 : decode cX10_used 93 = .ok (.iload_n 1, 1) := by decide +kernel
theorem dX10_used_94 : decode cX10_used 94 = .ok (.invokevirtual 359, 3) := by decide +kernel
theorem dX10_used_97 : decode cX10_used 97 = .ok (.iadd, 1) := by decide +kernel
theorem dX10_used_98 : decode cX10_used 98 = .ok (.ireturn, 1) := by decide +kernel
section
variable {p : Program} {l : Launch} {e : Env} {s : State} {m : MethodId} {args : Array Value} {below : List Frame} {meth : Method} {c : Code} {G : Gx} {e0 : Nat} {α : Ax} {κ : Nat → Int} {B : Nat}
def wp_X10_figureAt (p1 : Int) (p2 : Int) (M : Mem) (Qm : Int → Mem → Prop) : Prop := wp_X10_figureOf p1 p2 M fun (x2 : Int) (M1 : Mem) => (¬ x2 = (-1) → (0 ≤ x2 ∧ x2 < 100) ∧ True) ∧ Qm (if ¬ x2 = (-1) then (M1 74 0 x2) else 0) M1
set_option maxHeartbeats 4000000 in
set_option maxRecDepth 100000 in
theorem t_X10_figureAt {p1 : Int} {p2 : Int} (X : CX p m c cX10_figureAt 4 s args RX10 G B κ meth (some .int)) (hp1 : inR p1) (hp2 : inR p2) {M : Mem} {Qm : Int → Mem → Prop} (hw : wp_X10_figureAt p1 p2 M Qm) (H : Heap) (locs : List Loc) (hR : Rp G e0 α κ B M H) (hS : va_S (fun q => B ≤ q) s.heap H locs) (ls : Array Slot) (hl : lv_has ls 4 [(0, .ref (α 11 0)), (1, .int (Int32.ofInt p1)), (2, .int (Int32.ofInt p2))]) : WI p l e 1 s m args below meth c G e0 α κ B Qm H locs 0 ls [] := by
  have hw : wp_X10_figureOf p1 p2 M fun (x2 : Int) (M1 : Mem) => (¬ x2 = (-1) → (0 ≤ x2 ∧ x2 < 100) ∧ True) ∧ Qm (if ¬ x2 = (-1) then (M1 74 0 x2) else 0) M1 := hw
  refine lv_aload_n X.1.1 X.1.2.1 dX10_figureAt_0 rfl (lv_at hl 0 rfl) ?_
  refine lv_iload_n X.1.1 X.1.2.1 dX10_figureAt_1 rfl (lv_at hl 1 rfl) ?_
  refine lv_iload_n X.1.1 X.1.2.1 dX10_figureAt_2 rfl (lv_at hl 2 rfl) ?_
  refine cs_X10_figureOf X hp1 hp2 (kc := 1) rmL_ok rm_c (by decide) hR hS kw_1803 hl.1 dX10_figureAt_3 (Nat.le_of_ble_eq_true rfl) hw (fun x2 M1 H locs hw r3 hR hS => ?_)
  refine lv_istore_n (lv' := [(3, .int (Int32.ofInt x2)), (0, .ref (α 11 0)), (1, .int (Int32.ofInt p1)), (2, .int (Int32.ofInt p2))]) X.1.1 X.1.2.1 dX10_figureAt_6 rfl hl (by decide) rfl (fun ls hl => ?_)
  refine lv_iload_n X.1.1 X.1.2.1 dX10_figureAt_7 rfl (lv_at hl 0 rfl) ?_
  refine sa_const X.1 dX10_figureAt_8 ?_
  have s5 := hw.1
  have hw := hw.2
  have r6 := inR_ite (c := ¬ x2 = (-1)) (hR.r 74 0 x2) (inR_c (a := 0) rfl)
  refine cut_j (A := ∀ v7 : Int, v7 = (if ¬ x2 = (-1) then (M1 74 0 x2) else 0) → WI p l e 1 s m args below meth c G e0 α κ B Qm H locs 22 ls [.int (Int32.ofInt v7)]) (fun J8 => ?_) ?_
  · refine sa_icmp_ne (tgt := 16) X.1 r3 (inR_c (a := -1) rfl) dX10_figureAt_9 (by decide) (fun hc => ?_) (fun hc => ?_)
    · have hw := s5 hc
      refine lv_aload_n X.1.1 X.1.2.1 dX10_figureAt_16 rfl (lv_at hl 1 rfl) ?_
      refine gt_11_21 X hR (okf X.2.2.1 rfl) kw_1550 dX10_figureAt_17 ?_
      refine lv_iload_n X.1.1 X.1.2.1 dX10_figureAt_20 rfl (lv_at hl 0 rfl) ?_
      have c4 := hw.1
      have hw := hw.2
      refine ra_74 X hR (okf X.2.2.1 rfl) c4 dX10_figureAt_21 ?_
      exact J8 ((M1 74 0 x2)) (if_pos (c := ¬ x2 = (-1)) hc).symm
    · skip
      refine sa_const X.1 dX10_figureAt_12 ?_
      refine lv_goto (tgt := 22) X.1.1 X.1.2.1 dX10_figureAt_13 (by decide) ?_
      exact J8 (0) (if_neg (c := ¬ x2 = (-1)) (fun z => z hc)).symm
  intro v7 hv7
  subst hv7
  exact sa_iret X.1 X.2.2.2.1 X.2.2.2.2 hR hS r6 hw dX10_figureAt_22
theorem m_X10_figureAt {l : Launch} {G : Gx} {e0 : Nat} {α : Ax} {κ : Nat → Int} {B : Nat} {p1 : Int} {p2 : Int} (hκ : kOK κ) (hp1 : inR p1) (hp2 : inR p2) {M : Mem} {Qm : Int → Mem → Prop} (hw : wp_X10_figureAt p1 p2 M Qm) : CI l yX10_figureAt (Cond.code yX10_figureAt cX10_figureAt 4 (some .int)) 1 G e0 α κ B [.ref (α 11 0), .int (Int32.ofInt p1), .int (Int32.ofInt p2)] M Qm :=
  CI.mk hκ (by decide +kernel) rfl (Nat.le_of_ble_eq_true rfl) (lv := [(0, .ref (α 11 0)), (1, .int (Int32.ofInt p1)), (2, .int (Int32.ofInt p2))]) rfl (fun p e s m args below meth c ls X hR hS hl => t_X10_figureAt X hp1 hp2 hw _ _ hR hS ls hl)
theorem cs_X10_figureAt {cc : ByteArray} {nL : Nat} {own : String} {ret : Option FieldType} {idx pc : Nat} {p1 : Int} {p2 : Int} (X : CX p m c cc nL s args own G B κ meth ret) (hp1 : inR p1) (hp2 : inR p2) {kc : Nat} {R : Room} {cells slots : Nat} (hRr : RmOK R kc) (hcel : cells ≤ R.cells ∧ slots ≤ R.slots) (hk : 1 + 1 ≤ kc) {M : Mem} {H : Heap} {locs : List Loc} (hR : Rp G e0 α κ B M H) (hS : va_S (fun q => B ≤ q) s.heap H locs) (k1 : Cond.methodLink own idx yX10_figureAt ∈ gw) {ls : Array Slot} (hml : ls.size = nL) {rest : List Value} (hd : decode cc pc = .ok (.invokevirtual idx, 3)) (hrest : (rest.map fun v => v.category).sum ≤ 8) {Q : State → Prop} {Qm : Int → Mem → Prop} (hw : wp_X10_figureAt p1 p2 M Qm) (kk : ∀ (r : Int) (M1 : Mem) (H1 : Heap) (locs1 : List Loc), Qm r M1 → inR r → Rp G e0 α κ B M1 H1 → va_S (fun q => B ≤ q) s.heap H1 locs1 → W p l e R s m args below meth c H1 locs1 cells slots Q (F0 m (pc + 3) ls (.int (Int32.ofInt r) :: rest))) : W p l e R s m args below meth c H locs cells slots Q (F0 m pc ls (.int (Int32.ofInt p2) :: .int (Int32.ofInt p1) :: .ref (α 11 0) :: rest)) :=
  sa_callVI 1 (n := 2) (As := [.int (Int32.ofInt p1), .int (Int32.ofInt p2)]) (rest := rest) X.1 X.2.1 hR hS (m_X10_figureAt X.2.2.1 hp1 hp2 hw) k1 kw_2051 kw_88 kw_104 kw_2052 ⟨rfl, by decide +kernel, by decide +kernel, by decide +kernel⟩ (rm_ok hRr hk (by decide)) (rc_11 X hR (okf X.2.2.1 rfl)) rfl rfl hrest hml hd hcel kk
def wp_X10_total_56 (p1 : Int) (Qm : Int → Mem → Prop) (y2 : Int) (M : Mem) : Prop := Qm y2 M
def wp_X10_total_17 (p1 : Int) (Qm : Int → Mem → Prop) : Nat → Int → Int → Int → Mem → Prop
  | 0 => fun _ _ _ _ => False
  | n + 1 => fun y2 y3 y4 M => ((y3 = 0 → wp_X10_total_56 p1 Qm y2 M) ∧ (¬ y3 = 0 → (((M 64 0 1) ≤ y4 → wp_X10_total_56 p1 Qm y2 M) ∧ (y4 < (M 64 0 1) → (inR (24 + y4)) ∧ (0 ≤ (24 + y4) ∧ (24 + y4) < 72) ∧ wp_X10_figureAt (M 63 0 (24 + y4)) p1 M fun (x12 : Int) (M11 : Mem) => (inR (y2 + x12)) ∧ (inR (y4 + 1)) ∧ wp_X10_total_17 p1 Qm n (y2 + x12) y3 (y4 + 1) M11))))
def wp_X10_total (p1 : Int) (M : Mem) (Qm : Int → Mem → Prop) : Prop := wp_X10_isColumn p1 M fun (x2 : Int) (M1 : Mem) => wp_X10_goes x2 1 1 M1 fun (x5 : Int) (M4 : Mem) => (∃ n16 : Nat, wp_X10_total_17 p1 Qm n16 0 x5 0 M4)
set_option maxHeartbeats 4000000 in
set_option maxRecDepth 100000 in
theorem t_X10_total_56 {p1 : Int} (X : CX p m c cX10_total 5 s args RX10 G B κ meth (some .int)) (hp1 : inR p1) {Qm : Int → Mem → Prop} : ∀ y2 : Int, ∀ M : Mem, wp_X10_total_56 p1 Qm y2 M → inR y2 → ∀ (H : Heap) (locs : List Loc), Rp G e0 α κ B M H → va_S (fun q => B ≤ q) s.heap H locs → ∀ (ls : Array Slot), lv_has ls 5 [(2, .int (Int32.ofInt y2))] → WI p l e 2 s m args below meth c G e0 α κ B Qm H locs 56 ls [] := by
  intro y2 M hw hy2 H locs hR hS ls hl
  have hw : Qm y2 M := hw
  refine lv_iload_n X.1.1 X.1.2.1 dX10_total_56 rfl (lv_at hl 0 rfl) ?_
  exact sa_iret X.1 X.2.2.2.1 X.2.2.2.2 hR hS hy2 hw dX10_total_57
set_option maxHeartbeats 4000000 in
set_option maxRecDepth 100000 in
theorem t_X10_total_17 {p1 : Int} (X : CX p m c cX10_total 5 s args RX10 G B κ meth (some .int)) (hp1 : inR p1) {Qm : Int → Mem → Prop} : ∀ n : Nat, ∀ y2 : Int, ∀ y3 : Int, ∀ y4 : Int, ∀ M : Mem, wp_X10_total_17 p1 Qm n y2 y3 y4 M → inR y2 → inR y3 → inR y4 → ∀ (H : Heap) (locs : List Loc), Rp G e0 α κ B M H → va_S (fun q => B ≤ q) s.heap H locs → ∀ (ls : Array Slot), lv_has ls 5 [(0, .ref (α 11 0)), (1, .int (Int32.ofInt p1)), (2, .int (Int32.ofInt y2)), (3, .int (Int32.ofInt y3)), (4, .int (Int32.ofInt y4))] → WI p l e 2 s m args below meth c G e0 α κ B Qm H locs 17 ls [] := by
  intro n
  induction n with
  | zero =>
    intro y2 y3 y4 M hw hy2 hy3 hy4 H locs hR hS ls hl
    exact hw.elim
  | succ n ih =>
    intro y2 y3 y4 M hw hy2 hy3 hy4 H locs hR hS ls hl
    have hw : ((y3 = 0 → wp_X10_total_56 p1 Qm y2 M) ∧ (¬ y3 = 0 → (((M 64 0 1) ≤ y4 → wp_X10_total_56 p1 Qm y2 M) ∧ (y4 < (M 64 0 1) → (inR (24 + y4)) ∧ (0 ≤ (24 + y4) ∧ (24 + y4) < 72) ∧ wp_X10_figureAt (M 63 0 (24 + y4)) p1 M fun (x12 : Int) (M11 : Mem) => (inR (y2 + x12)) ∧ (inR (y4 + 1)) ∧ wp_X10_total_17 p1 Qm n (y2 + x12) y3 (y4 + 1) M11)))) := hw
    refine lv_iload_n X.1.1 X.1.2.1 dX10_total_17 rfl (lv_at hl 3 rfl) ?_
    refine sa_if_eq (tgt := 56) X.1 hy3 dX10_total_18 (by decide) (fun hc => ?_) (fun hc => ?_)
    · have hw := hw.1 hc
      exact t_X10_total_56 X hp1 _ _ hw hy2 _ _ hR hS _ (lv_sub hl [2] rfl)
    · have hw := hw.2 hc
      refine lv_iload X.1.1 X.1.2.1 dX10_total_21 (lv_at hl 4 rfl) ?_
      refine lv_aload_n X.1.1 X.1.2.1 dX10_total_23 rfl (lv_at hl 0 rfl) ?_
      refine gt_11_10 X hR (okf X.2.2.1 rfl) kw_1539 dX10_total_24 ?_
      refine sa_const X.1 dX10_total_27 ?_
      refine ra_64 X hR (okf X.2.2.1 rfl) ⟨by decide, by decide⟩ dX10_total_28 ?_
      have r7 := hR.r 64 0 1
      refine sa_icmp_ge (tgt := 56) X.1 hy4 r7 dX10_total_29 (by decide) (fun hc => ?_) (fun hc => ?_)
      · have hw := hw.1 hc
        exact t_X10_total_56 X hp1 _ _ hw hy2 _ _ hR hS _ (lv_sub hl [2] rfl)
      · have hw := hw.2 hc
        refine lv_iload_n X.1.1 X.1.2.1 dX10_total_32 rfl (lv_at hl 2 rfl) ?_
        refine lv_aload_n X.1.1 X.1.2.1 dX10_total_33 rfl (lv_at hl 0 rfl) ?_
        refine lv_aload_n X.1.1 X.1.2.1 dX10_total_34 rfl (lv_at hl 0 rfl) ?_
        refine gt_11_9 X hR (okf X.2.2.1 rfl) kw_1538 dX10_total_35 ?_
        refine sa_bipush X.1 dX10_total_38 (by decide) ?_
        refine lv_iload X.1.1 X.1.2.1 dX10_total_40 (lv_at hl 4 rfl) ?_
        have c8 := hw.1
        have hw := hw.2
        refine sa_iadd X.1 dX10_total_42 ?_
        have c9 := hw.1
        have hw := hw.2
        refine ra_63 X hR (okf X.2.2.1 rfl) c9 dX10_total_43 ?_
        have r10 := hR.r 63 0 (24 + y4)
        refine lv_iload_n X.1.1 X.1.2.1 dX10_total_44 rfl (lv_at hl 1 rfl) ?_
        refine cs_X10_figureAt X r10 hp1 (kc := 2) rmL_ok rm_c (by decide) hR hS kw_2049 hl.1 dX10_total_45 (Nat.le_of_ble_eq_true rfl) hw (fun x12 M11 H locs hw r13 hR hS => ?_)
        have c14 := hw.1
        have hw := hw.2
        refine sa_iadd X.1 dX10_total_48 ?_
        refine lv_istore_n (lv' := [(2, .int (Int32.ofInt (y2 + x12))), (0, .ref (α 11 0)), (1, .int (Int32.ofInt p1)), (3, .int (Int32.ofInt y3)), (4, .int (Int32.ofInt y4))]) X.1.1 X.1.2.1 dX10_total_49 rfl hl (by decide) rfl (fun ls hl => ?_)
        have c15 := hw.1
        have hw := hw.2
        refine lv_iinc (v := Int32.ofInt (y4 + 1)) (lv' := [(4, .int (Int32.ofInt (y4 + 1))), (2, .int (Int32.ofInt (y2 + x12))), (0, .ref (α 11 0)), (1, .int (Int32.ofInt p1)), (3, .int (Int32.ofInt y3))]) X.1.1 X.1.2.1 dX10_total_50 hl (k := 4) rfl (Int32.ofInt_add _ _).symm (by decide) rfl (fun ls hl => ?_)
        refine lv_goto (tgt := 17) X.1.1 X.1.2.1 dX10_total_53 (by decide) ?_
        exact ih _ _ _ _ hw c14 hy3 c15 _ _ hR hS _ (lv_sub hl [2, 3, 1, 4, 0] rfl)
set_option maxHeartbeats 4000000 in
set_option maxRecDepth 100000 in
theorem t_X10_total {p1 : Int} (X : CX p m c cX10_total 5 s args RX10 G B κ meth (some .int)) (hp1 : inR p1) {M : Mem} {Qm : Int → Mem → Prop} (hw : wp_X10_total p1 M Qm) (H : Heap) (locs : List Loc) (hR : Rp G e0 α κ B M H) (hS : va_S (fun q => B ≤ q) s.heap H locs) (ls : Array Slot) (hl : lv_has ls 5 [(0, .ref (α 11 0)), (1, .int (Int32.ofInt p1))]) : WI p l e 2 s m args below meth c G e0 α κ B Qm H locs 0 ls [] := by
  have hw : wp_X10_isColumn p1 M fun (x2 : Int) (M1 : Mem) => wp_X10_goes x2 1 1 M1 fun (x5 : Int) (M4 : Mem) => (∃ n16 : Nat, wp_X10_total_17 p1 Qm n16 0 x5 0 M4) := hw
  refine sa_const X.1 dX10_total_0 ?_
  refine lv_istore_n (lv' := [(2, .int (Int32.ofInt 0)), (0, .ref (α 11 0)), (1, .int (Int32.ofInt p1))]) X.1.1 X.1.2.1 dX10_total_1 rfl hl (by decide) rfl (fun ls hl => ?_)
  refine lv_aload_n X.1.1 X.1.2.1 dX10_total_2 rfl (lv_at hl 1 rfl) ?_
  refine lv_aload_n X.1.1 X.1.2.1 dX10_total_3 rfl (lv_at hl 1 rfl) ?_
  refine lv_iload_n X.1.1 X.1.2.1 dX10_total_4 rfl (lv_at hl 2 rfl) ?_
  refine cs_X10_isColumn X hp1 (kc := 2) rmL_ok rm_c (by decide) hR hS kw_1737 hl.1 dX10_total_5 (Nat.le_of_ble_eq_true rfl) hw (fun x2 M1 H locs hw r3 hR hS => ?_)
  refine sa_const X.1 dX10_total_8 ?_
  refine sa_const X.1 dX10_total_9 ?_
  refine cs_X10_goes X r3 (inR_c (a := 1) rfl) (inR_c (a := 1) rfl) (kc := 2) rmL_ok rm_c (by decide) hR hS kw_1721 hl.1 dX10_total_10 (Nat.le_of_ble_eq_true rfl) hw (fun x5 M4 H locs hw r6 hR hS => ?_)
  refine lv_istore_n (lv' := [(3, .int (Int32.ofInt x5)), (2, .int (Int32.ofInt 0)), (0, .ref (α 11 0)), (1, .int (Int32.ofInt p1))]) X.1.1 X.1.2.1 dX10_total_13 rfl hl (by decide) rfl (fun ls hl => ?_)
  refine sa_const X.1 dX10_total_14 ?_
  refine lv_istore (lv' := [(4, .int (Int32.ofInt 0)), (3, .int (Int32.ofInt x5)), (2, .int (Int32.ofInt 0)), (0, .ref (α 11 0)), (1, .int (Int32.ofInt p1))]) X.1.1 X.1.2.1 dX10_total_15 hl (by decide) rfl (fun ls hl => ?_)
  obtain ⟨n16, hw⟩ := hw
  exact t_X10_total_17 X hp1 n16 _ _ _ _ hw (inR_c (a := 0) rfl) r6 (inR_c (a := 0) rfl) _ _ hR hS _ (lv_sub hl [3, 4, 2, 1, 0] rfl)
theorem m_X10_total {l : Launch} {G : Gx} {e0 : Nat} {α : Ax} {κ : Nat → Int} {B : Nat} {p1 : Int} (hκ : kOK κ) (hp1 : inR p1) {M : Mem} {Qm : Int → Mem → Prop} (hw : wp_X10_total p1 M Qm) : CI l yX10_total (Cond.code yX10_total cX10_total 5 (some .int)) 2 G e0 α κ B [.ref (α 11 0), .int (Int32.ofInt p1)] M Qm :=
  CI.mk hκ (by decide +kernel) rfl (Nat.le_of_ble_eq_true rfl) (lv := [(0, .ref (α 11 0)), (1, .int (Int32.ofInt p1))]) rfl (fun p e s m args below meth c ls X hR hS hl => t_X10_total X hp1 hw _ _ hR hS ls hl)
theorem cs_X10_total {cc : ByteArray} {nL : Nat} {own : String} {ret : Option FieldType} {idx pc : Nat} {p1 : Int} (X : CX p m c cc nL s args own G B κ meth ret) (hp1 : inR p1) {kc : Nat} {R : Room} {cells slots : Nat} (hRr : RmOK R kc) (hcel : cells ≤ R.cells ∧ slots ≤ R.slots) (hk : 2 + 1 ≤ kc) {M : Mem} {H : Heap} {locs : List Loc} (hR : Rp G e0 α κ B M H) (hS : va_S (fun q => B ≤ q) s.heap H locs) (k1 : Cond.methodLink own idx yX10_total ∈ gw) {ls : Array Slot} (hml : ls.size = nL) {rest : List Value} (hd : decode cc pc = .ok (.invokevirtual idx, 3)) (hrest : (rest.map fun v => v.category).sum ≤ 8) {Q : State → Prop} {Qm : Int → Mem → Prop} (hw : wp_X10_total p1 M Qm) (kk : ∀ (r : Int) (M1 : Mem) (H1 : Heap) (locs1 : List Loc), Qm r M1 → inR r → Rp G e0 α κ B M1 H1 → va_S (fun q => B ≤ q) s.heap H1 locs1 → W p l e R s m args below meth c H1 locs1 cells slots Q (F0 m (pc + 3) ls (.int (Int32.ofInt r) :: rest))) : W p l e R s m args below meth c H locs cells slots Q (F0 m pc ls (.int (Int32.ofInt p1) :: .ref (α 11 0) :: rest)) :=
  sa_callVI 2 (n := 1) (As := [.int (Int32.ofInt p1)]) (rest := rest) X.1 X.2.1 hR hS (m_X10_total X.2.2.1 hp1 hw) k1 kw_2046 kw_2047 kw_104 kw_2048 ⟨rfl, by decide +kernel, by decide +kernel, by decide +kernel⟩ (rm_ok hRr hk (by decide)) (rc_11 X hR (okf X.2.2.1 rfl)) rfl rfl hrest hml hd hcel kk
def wp_X10_subtotal_160 (p1 : Int) (p2 : Int) (Qm : Int → Mem → Prop) (y5 : Int) (M : Mem) : Prop := Qm y5 M
def wp_X10_subtotal_95 (p1 : Int) (p2 : Int) (Qm : Int → Mem → Prop) : Nat → Int → Int → Int → Mem → Prop
  | 0 => fun _ _ _ _ => False
  | n + 1 => fun y4 y5 y6 M => ((y4 = 0 → wp_X10_subtotal_160 p1 p2 Qm y5 M) ∧ (¬ y4 = 0 → (0 ≤ p1 ∧ p1 < 29) ∧ (((M 61 0 p1) = 0 → wp_X10_subtotal_160 p1 p2 Qm y5 M) ∧ (¬ (M 61 0 p1) = 0 → ((y6 < 24 → wp_X10_subtotal_160 p1 p2 Qm y5 M) ∧ (24 ≤ y6 → (0 ≤ y6 ∧ y6 < 72) ∧ (0 ≤ (M 63 0 y6) ∧ (M 63 0 y6) < 29) ∧ (0 ≤ p1 ∧ p1 < 29) ∧ ((¬ (M 61 0 (M 63 0 y6)) = (M 61 0 p1) → wp_X10_subtotal_160 p1 p2 Qm y5 M) ∧ ((M 61 0 (M 63 0 y6)) = (M 61 0 p1) → (0 ≤ y6 ∧ y6 < 72) ∧ wp_X10_figureAt (M 63 0 y6) p2 M fun (x38 : Int) (M37 : Mem) => (inR (y5 + x38)) ∧ (inR (y6 + (-1))) ∧ wp_X10_subtotal_95 p1 p2 Qm n y4 (y5 + x38) (y6 + (-1)) M37))))))))
def wp_X10_subtotal_21 (p1 : Int) (p2 : Int) (Qm : Int → Mem → Prop) (M : Mem) : Prop := wp_X10_isBody p1 M fun (x5 : Int) (M4 : Mem) => wp_X10_goes 0 x5 1 M4 fun (x8 : Int) (M7 : Mem) => ((¬ x8 = 0 → wp_X10_placeOf p1 M7 fun (x11 : Int) (M10 : Mem) => (inR (24 + x11)) ∧ (inR ((24 + x11) + 1)) ∧ (inR (24 + (M10 64 0 1))) ∧ (¬ ((24 + x11) + 1) = (24 + (M10 64 0 1)) → (inR ((24 + x11) + 1)) ∧ (0 ≤ ((24 + x11) + 1) ∧ ((24 + x11) + 1) < 72) ∧ (0 ≤ (M10 63 0 ((24 + x11) + 1)) ∧ (M10 63 0 ((24 + x11) + 1)) < 29) ∧ (0 ≤ p1 ∧ p1 < 29) ∧ True) ∧ (∃ n42 : Nat, wp_X10_subtotal_95 p1 p2 Qm n42 (if ((24 + x11) + 1) = (24 + (M10 64 0 1)) then (1 : Int) else (if (M10 61 0 (M10 63 0 ((24 + x11) + 1))) = (M10 61 0 p1) then (0 : Int) else 1)) 0 (24 + x11) M10)) ∧ (x8 = 0 → Qm 0 M7))
def wp_X10_subtotal (p1 : Int) (p2 : Int) (M : Mem) (Qm : Int → Mem → Prop) : Prop := wp_X10_isRow p1 M fun (x2 : Int) (M1 : Mem) => ((x2 = 0 → wp_X10_subtotal_21 p1 p2 Qm M1) ∧ (¬ x2 = 0 → wp_X10_isColumn p2 M1 fun (x44 : Int) (M43 : Mem) => wp_X10_isBody p1 M43 fun (x50 : Int) (M49 : Mem) => wp_X10_goes (if x44 = 0 then (0 : Int) else 1) x50 1 M49 fun (x53 : Int) (M52 : Mem) => ((¬ x53 = 0 → wp_X10_placeOf p1 M52 fun (x56 : Int) (M55 : Mem) => (inR (24 + x56)) ∧ (inR ((24 + x56) + 1)) ∧ (inR (24 + (M55 64 0 1))) ∧ (¬ ((24 + x56) + 1) = (24 + (M55 64 0 1)) → (inR ((24 + x56) + 1)) ∧ (0 ≤ ((24 + x56) + 1) ∧ ((24 + x56) + 1) < 72) ∧ (0 ≤ (M55 63 0 ((24 + x56) + 1)) ∧ (M55 63 0 ((24 + x56) + 1)) < 29) ∧ (0 ≤ p1 ∧ p1 < 29) ∧ True) ∧ (∃ n72 : Nat, wp_X10_subtotal_95 p1 p2 Qm n72 (if ((24 + x56) + 1) = (24 + (M55 64 0 1)) then (1 : Int) else (if (M55 61 0 (M55 63 0 ((24 + x56) + 1))) = (M55 61 0 p1) then (0 : Int) else 1)) 0 (24 + x56) M55)) ∧ (x53 = 0 → Qm 0 M52))))
set_option maxHeartbeats 4000000 in
set_option maxRecDepth 100000 in
theorem t_X10_subtotal_160 {p1 : Int} {p2 : Int} (X : CX p m c cX10_subtotal 7 s args RX10 G B κ meth (some .int)) (hp1 : inR p1) (hp2 : inR p2) {Qm : Int → Mem → Prop} : ∀ y5 : Int, ∀ M : Mem, wp_X10_subtotal_160 p1 p2 Qm y5 M → inR y5 → ∀ (H : Heap) (locs : List Loc), Rp G e0 α κ B M H → va_S (fun q => B ≤ q) s.heap H locs → ∀ (ls : Array Slot), lv_has ls 7 [(5, .int (Int32.ofInt y5))] → WI p l e 3 s m args below meth c G e0 α κ B Qm H locs 160 ls [] := by
  intro y5 M hw hy5 H locs hR hS ls hl
  have hw : Qm y5 M := hw
  refine lv_iload X.1.1 X.1.2.1 dX10_subtotal_160 (lv_at hl 0 rfl) ?_
  exact sa_iret X.1 X.2.2.2.1 X.2.2.2.2 hR hS hy5 hw dX10_subtotal_162
set_option maxHeartbeats 4000000 in
set_option maxRecDepth 100000 in
theorem t_X10_subtotal_95 {p1 : Int} {p2 : Int} (X : CX p m c cX10_subtotal 7 s args RX10 G B κ meth (some .int)) (hp1 : inR p1) (hp2 : inR p2) {Qm : Int → Mem → Prop} : ∀ n : Nat, ∀ y4 : Int, ∀ y5 : Int, ∀ y6 : Int, ∀ M : Mem, wp_X10_subtotal_95 p1 p2 Qm n y4 y5 y6 M → inR y4 → inR y5 → inR y6 → ∀ (H : Heap) (locs : List Loc), Rp G e0 α κ B M H → va_S (fun q => B ≤ q) s.heap H locs → ∀ (ls : Array Slot), lv_has ls 7 [(0, .ref (α 11 0)), (1, .int (Int32.ofInt p1)), (2, .int (Int32.ofInt p2)), (4, .int (Int32.ofInt y4)), (5, .int (Int32.ofInt y5)), (6, .int (Int32.ofInt y6))] → WI p l e 3 s m args below meth c G e0 α κ B Qm H locs 95 ls [] := by
  intro n
  induction n with
  | zero =>
    intro y4 y5 y6 M hw hy4 hy5 hy6 H locs hR hS ls hl
    exact hw.elim
  | succ n ih =>
    intro y4 y5 y6 M hw hy4 hy5 hy6 H locs hR hS ls hl
    have hw : ((y4 = 0 → wp_X10_subtotal_160 p1 p2 Qm y5 M) ∧ (¬ y4 = 0 → (0 ≤ p1 ∧ p1 < 29) ∧ (((M 61 0 p1) = 0 → wp_X10_subtotal_160 p1 p2 Qm y5 M) ∧ (¬ (M 61 0 p1) = 0 → ((y6 < 24 → wp_X10_subtotal_160 p1 p2 Qm y5 M) ∧ (24 ≤ y6 → (0 ≤ y6 ∧ y6 < 72) ∧ (0 ≤ (M 63 0 y6) ∧ (M 63 0 y6) < 29) ∧ (0 ≤ p1 ∧ p1 < 29) ∧ ((¬ (M 61 0 (M 63 0 y6)) = (M 61 0 p1) → wp_X10_subtotal_160 p1 p2 Qm y5 M) ∧ ((M 61 0 (M 63 0 y6)) = (M 61 0 p1) → (0 ≤ y6 ∧ y6 < 72) ∧ wp_X10_figureAt (M 63 0 y6) p2 M fun (x38 : Int) (M37 : Mem) => (inR (y5 + x38)) ∧ (inR (y6 + (-1))) ∧ wp_X10_subtotal_95 p1 p2 Qm n y4 (y5 + x38) (y6 + (-1)) M37)))))))) := hw
    refine lv_iload X.1.1 X.1.2.1 dX10_subtotal_95 (lv_at hl 3 rfl) ?_
    refine sa_if_eq (tgt := 160) X.1 hy4 dX10_subtotal_97 (by decide) (fun hc => ?_) (fun hc => ?_)
    · have hw := hw.1 hc
      exact t_X10_subtotal_160 X hp1 hp2 _ _ hw hy5 _ _ hR hS _ (lv_sub hl [4] rfl)
    · have hw := hw.2 hc
      refine lv_aload_n X.1.1 X.1.2.1 dX10_subtotal_100 rfl (lv_at hl 0 rfl) ?_
      refine gt_11_6 X hR (okf X.2.2.1 rfl) kw_1535 dX10_subtotal_101 ?_
      refine lv_iload_n X.1.1 X.1.2.1 dX10_subtotal_104 rfl (lv_at hl 1 rfl) ?_
      have c27 := hw.1
      have hw := hw.2
      refine ra_61 X hR (okf X.2.2.1 rfl) c27 dX10_subtotal_105 ?_
      have r28 := hR.r 61 0 p1
      refine sa_if_eq (tgt := 160) X.1 r28 dX10_subtotal_106 (by decide) (fun hc => ?_) (fun hc => ?_)
      · have hw := hw.1 hc
        exact t_X10_subtotal_160 X hp1 hp2 _ _ hw hy5 _ _ hR hS _ (lv_sub hl [4] rfl)
      · have hw := hw.2 hc
        refine lv_iload X.1.1 X.1.2.1 dX10_subtotal_109 (lv_at hl 5 rfl) ?_
        refine sa_bipush X.1 dX10_subtotal_111 (by decide) ?_
        refine sa_icmp_lt (tgt := 160) X.1 hy6 (inR_c (a := 24) rfl) dX10_subtotal_113 (by decide) (fun hc => ?_) (fun hc => ?_)
        · have hw := hw.1 hc
          exact t_X10_subtotal_160 X hp1 hp2 _ _ hw hy5 _ _ hR hS _ (lv_sub hl [4] rfl)
        · have hw := hw.2 hc
          refine lv_aload_n X.1.1 X.1.2.1 dX10_subtotal_116 rfl (lv_at hl 0 rfl) ?_
          refine gt_11_6 X hR (okf X.2.2.1 rfl) kw_1535 dX10_subtotal_117 ?_
          refine lv_aload_n X.1.1 X.1.2.1 dX10_subtotal_120 rfl (lv_at hl 0 rfl) ?_
          refine gt_11_9 X hR (okf X.2.2.1 rfl) kw_1538 dX10_subtotal_121 ?_
          refine lv_iload X.1.1 X.1.2.1 dX10_subtotal_124 (lv_at hl 5 rfl) ?_
          have c29 := hw.1
          have hw := hw.2
          refine ra_63 X hR (okf X.2.2.1 rfl) c29 dX10_subtotal_126 ?_
          have r30 := hR.r 63 0 y6
          have c31 := hw.1
          have hw := hw.2
          refine ra_61 X hR (okf X.2.2.1 rfl) c31 dX10_subtotal_127 ?_
          have r32 := hR.r 61 0 (M 63 0 y6)
          refine lv_aload_n X.1.1 X.1.2.1 dX10_subtotal_128 rfl (lv_at hl 0 rfl) ?_
          refine gt_11_6 X hR (okf X.2.2.1 rfl) kw_1535 dX10_subtotal_129 ?_
          refine lv_iload_n X.1.1 X.1.2.1 dX10_subtotal_132 rfl (lv_at hl 1 rfl) ?_
          have c33 := hw.1
          have hw := hw.2
          refine ra_61 X hR (okf X.2.2.1 rfl) c33 dX10_subtotal_133 ?_
          have r34 := hR.r 61 0 p1
          refine sa_icmp_ne (tgt := 160) X.1 r32 r34 dX10_subtotal_134 (by decide) (fun hc => ?_) (fun hc => ?_)
          · have hw := hw.1 hc
            exact t_X10_subtotal_160 X hp1 hp2 _ _ hw hy5 _ _ hR hS _ (lv_sub hl [4] rfl)
          · have hw := hw.2 hc
            refine lv_iload X.1.1 X.1.2.1 dX10_subtotal_137 (lv_at hl 4 rfl) ?_
            refine lv_aload_n X.1.1 X.1.2.1 dX10_subtotal_139 rfl (lv_at hl 0 rfl) ?_
            refine lv_aload_n X.1.1 X.1.2.1 dX10_subtotal_140 rfl (lv_at hl 0 rfl) ?_
            refine gt_11_9 X hR (okf X.2.2.1 rfl) kw_1538 dX10_subtotal_141 ?_
            refine lv_iload X.1.1 X.1.2.1 dX10_subtotal_144 (lv_at hl 5 rfl) ?_
            have c35 := hw.1
            have hw := hw.2
            refine ra_63 X hR (okf X.2.2.1 rfl) c35 dX10_subtotal_146 ?_
            have r36 := hR.r 63 0 y6
            refine lv_iload_n X.1.1 X.1.2.1 dX10_subtotal_147 rfl (lv_at hl 2 rfl) ?_
            refine cs_X10_figureAt X r36 hp2 (kc := 3) rmL_ok rm_c (by decide) hR hS kw_2049 hl.1 dX10_subtotal_148 (Nat.le_of_ble_eq_true rfl) hw (fun x38 M37 H locs hw r39 hR hS => ?_)
            have c40 := hw.1
            have hw := hw.2
            refine sa_iadd X.1 dX10_subtotal_151 ?_
            refine lv_istore (lv' := [(5, .int (Int32.ofInt (y5 + x38))), (0, .ref (α 11 0)), (1, .int (Int32.ofInt p1)), (2, .int (Int32.ofInt p2)), (4, .int (Int32.ofInt y4)), (6, .int (Int32.ofInt y6))]) X.1.1 X.1.2.1 dX10_subtotal_152 hl (by decide) rfl (fun ls hl => ?_)
            have c41 := hw.1
            have hw := hw.2
            refine lv_iinc (v := Int32.ofInt (y6 + (-1))) (lv' := [(6, .int (Int32.ofInt (y6 + (-1)))), (5, .int (Int32.ofInt (y5 + x38))), (0, .ref (α 11 0)), (1, .int (Int32.ofInt p1)), (2, .int (Int32.ofInt p2)), (4, .int (Int32.ofInt y4))]) X.1.1 X.1.2.1 dX10_subtotal_154 hl (k := 5) rfl (Int32.ofInt_add _ _).symm (by decide) rfl (fun ls hl => ?_)
            refine lv_goto (tgt := 95) X.1.1 X.1.2.1 dX10_subtotal_157 (by decide) ?_
            exact ih _ _ _ _ hw hy4 c40 c41 _ _ hR hS _ (lv_sub hl [2, 3, 4, 5, 1, 0] rfl)
set_option maxHeartbeats 4000000 in
set_option maxRecDepth 100000 in
theorem t_X10_subtotal_21 {p1 : Int} {p2 : Int} (X : CX p m c cX10_subtotal 7 s args RX10 G B κ meth (some .int)) (hp1 : inR p1) (hp2 : inR p2) {Qm : Int → Mem → Prop} : ∀ M : Mem, wp_X10_subtotal_21 p1 p2 Qm M → ∀ (H : Heap) (locs : List Loc), Rp G e0 α κ B M H → va_S (fun q => B ≤ q) s.heap H locs → ∀ (ls : Array Slot), lv_has ls 7 [(0, .ref (α 11 0)), (1, .int (Int32.ofInt p1)), (2, .int (Int32.ofInt p2))] → WI p l e 3 s m args below meth c G e0 α κ B Qm H locs 21 ls [.ref (α 11 0)] := by
  intro M hw H locs hR hS ls hl
  have hw : wp_X10_isBody p1 M fun (x5 : Int) (M4 : Mem) => wp_X10_goes 0 x5 1 M4 fun (x8 : Int) (M7 : Mem) => ((¬ x8 = 0 → wp_X10_placeOf p1 M7 fun (x11 : Int) (M10 : Mem) => (inR (24 + x11)) ∧ (inR ((24 + x11) + 1)) ∧ (inR (24 + (M10 64 0 1))) ∧ (¬ ((24 + x11) + 1) = (24 + (M10 64 0 1)) → (inR ((24 + x11) + 1)) ∧ (0 ≤ ((24 + x11) + 1) ∧ ((24 + x11) + 1) < 72) ∧ (0 ≤ (M10 63 0 ((24 + x11) + 1)) ∧ (M10 63 0 ((24 + x11) + 1)) < 29) ∧ (0 ≤ p1 ∧ p1 < 29) ∧ True) ∧ (∃ n42 : Nat, wp_X10_subtotal_95 p1 p2 Qm n42 (if ((24 + x11) + 1) = (24 + (M10 64 0 1)) then (1 : Int) else (if (M10 61 0 (M10 63 0 ((24 + x11) + 1))) = (M10 61 0 p1) then (0 : Int) else 1)) 0 (24 + x11) M10)) ∧ (x8 = 0 → Qm 0 M7)) := hw
  refine sa_const X.1 dX10_subtotal_21 ?_
  refine lv_aload_n X.1.1 X.1.2.1 dX10_subtotal_22 rfl (lv_at hl 0 rfl) ?_
  refine lv_iload_n X.1.1 X.1.2.1 dX10_subtotal_23 rfl (lv_at hl 1 rfl) ?_
  refine cs_X10_isBody X hp1 (kc := 3) rmL_ok rm_c (by decide) hR hS kw_2009 hl.1 dX10_subtotal_24 (Nat.le_of_ble_eq_true rfl) hw (fun x5 M4 H locs hw r6 hR hS => ?_)
  refine sa_const X.1 dX10_subtotal_27 ?_
  refine cs_X10_goes X (inR_c (a := 0) rfl) r6 (inR_c (a := 1) rfl) (kc := 3) rmL_ok rm_c (by decide) hR hS kw_1721 hl.1 dX10_subtotal_28 (Nat.le_of_ble_eq_true rfl) hw (fun x8 M7 H locs hw r9 hR hS => ?_)
  refine sa_if_ne (tgt := 36) X.1 r9 dX10_subtotal_31 (by decide) (fun hc => ?_) (fun hc => ?_)
  · have hw := hw.1 hc
    refine sa_bipush X.1 dX10_subtotal_36 (by decide) ?_
    refine lv_aload_n X.1.1 X.1.2.1 dX10_subtotal_38 rfl (lv_at hl 0 rfl) ?_
    refine lv_iload_n X.1.1 X.1.2.1 dX10_subtotal_39 rfl (lv_at hl 1 rfl) ?_
    refine cs_X10_placeOf X hp1 (kc := 3) rmL_ok rm_c (by decide) hR hS kw_1741 hl.1 dX10_subtotal_40 (Nat.le_of_ble_eq_true rfl) hw (fun x11 M10 H locs hw r12 hR hS => ?_)
    have c13 := hw.1
    have hw := hw.2
    refine sa_iadd X.1 dX10_subtotal_43 ?_
    refine lv_istore_n (lv' := [(3, .int (Int32.ofInt (24 + x11))), (0, .ref (α 11 0)), (1, .int (Int32.ofInt p1)), (2, .int (Int32.ofInt p2))]) X.1.1 X.1.2.1 dX10_subtotal_44 rfl hl (by decide) rfl (fun ls hl => ?_)
    refine lv_iload_n X.1.1 X.1.2.1 dX10_subtotal_45 rfl (lv_at hl 0 rfl) ?_
    refine sa_const X.1 dX10_subtotal_46 ?_
    have c14 := hw.1
    have hw := hw.2
    refine sa_iadd X.1 dX10_subtotal_47 ?_
    refine sa_bipush X.1 dX10_subtotal_48 (by decide) ?_
    refine lv_aload_n X.1.1 X.1.2.1 dX10_subtotal_50 rfl (lv_at hl 1 rfl) ?_
    refine gt_11_10 X hR (okf X.2.2.1 rfl) kw_1539 dX10_subtotal_51 ?_
    refine sa_const X.1 dX10_subtotal_54 ?_
    refine ra_64 X hR (okf X.2.2.1 rfl) ⟨by decide, by decide⟩ dX10_subtotal_55 ?_
    have r15 := hR.r 64 0 1
    have c16 := hw.1
    have hw := hw.2
    refine sa_iadd X.1 dX10_subtotal_56 ?_
    have s23 := hw.1
    have hw := hw.2
    have r24 := inR_ite (c := ((24 + x11) + 1) = (24 + (M10 64 0 1))) (inR_c (a := 1) rfl) (inR_ite (c := (M10 61 0 (M10 63 0 ((24 + x11) + 1))) = (M10 61 0 p1)) (inR_c (a := 0) rfl) (inR_c (a := 1) rfl))
    refine cut_j (A := ∀ v25 : Int, v25 = (if ((24 + x11) + 1) = (24 + (M10 64 0 1)) then (1 : Int) else (if (M10 61 0 (M10 63 0 ((24 + x11) + 1))) = (M10 61 0 p1) then (0 : Int) else 1)) → WI p l e 3 s m args below meth c G e0 α κ B Qm H locs 87 ls [.int (Int32.ofInt v25)]) (fun J26 => ?_) ?_
    · refine sa_icmp_eq (tgt := 82) X.1 c14 c16 dX10_subtotal_57 (by decide) (fun hc => ?_) (fun hc => ?_)
      · skip
        refine sa_const X.1 dX10_subtotal_82 ?_
        refine lv_goto (tgt := 87) X.1.1 X.1.2.1 dX10_subtotal_83 (by decide) ?_
        exact J26 (1) (if_pos (c := ((24 + x11) + 1) = (24 + (M10 64 0 1))) hc).symm
      · have hw := s23 hc
        refine lv_aload_n X.1.1 X.1.2.1 dX10_subtotal_60 rfl (lv_at hl 1 rfl) ?_
        refine gt_11_6 X hR (okf X.2.2.1 rfl) kw_1535 dX10_subtotal_61 ?_
        refine lv_aload_n X.1.1 X.1.2.1 dX10_subtotal_64 rfl (lv_at hl 1 rfl) ?_
        refine gt_11_9 X hR (okf X.2.2.1 rfl) kw_1538 dX10_subtotal_65 ?_
        refine lv_iload_n X.1.1 X.1.2.1 dX10_subtotal_68 rfl (lv_at hl 0 rfl) ?_
        refine sa_const X.1 dX10_subtotal_69 ?_
        have c17 := hw.1
        have hw := hw.2
        refine sa_iadd X.1 dX10_subtotal_70 ?_
        have c18 := hw.1
        have hw := hw.2
        refine ra_63 X hR (okf X.2.2.1 rfl) c18 dX10_subtotal_71 ?_
        have c19 := hw.1
        have hw := hw.2
        refine ra_61 X hR (okf X.2.2.1 rfl) c19 dX10_subtotal_72 ?_
        refine lv_aload_n X.1.1 X.1.2.1 dX10_subtotal_73 rfl (lv_at hl 1 rfl) ?_
        refine gt_11_6 X hR (okf X.2.2.1 rfl) kw_1535 dX10_subtotal_74 ?_
        refine lv_iload_n X.1.1 X.1.2.1 dX10_subtotal_77 rfl (lv_at hl 2 rfl) ?_
        have c20 := hw.1
        have hw := hw.2
        refine ra_61 X hR (okf X.2.2.1 rfl) c20 dX10_subtotal_78 ?_
        refine cut_j (A := ∀ v21 : Int, v21 = (if (M10 61 0 (M10 63 0 ((24 + x11) + 1))) = (M10 61 0 p1) then (0 : Int) else 1) → WI p l e 3 s m args below meth c G e0 α κ B Qm H locs 87 ls [.int (Int32.ofInt v21)]) (fun J22 => ?_) ?_
        · refine sa_icmp_eq (tgt := 86) X.1 (hR.r 61 0 (M10 63 0 ((24 + x11) + 1))) (hR.r 61 0 p1) dX10_subtotal_79 (by decide) (fun hc => ?_) (fun hc => ?_)
          · skip
            refine sa_const X.1 dX10_subtotal_86 ?_
            exact J22 (0) (if_pos (c := (M10 61 0 (M10 63 0 ((24 + x11) + 1))) = (M10 61 0 p1)) hc).symm
          · skip
            refine sa_const X.1 dX10_subtotal_82 ?_
            refine lv_goto (tgt := 87) X.1.1 X.1.2.1 dX10_subtotal_83 (by decide) ?_
            exact J22 (1) (if_neg (c := (M10 61 0 (M10 63 0 ((24 + x11) + 1))) = (M10 61 0 p1)) hc).symm
        intro v21 hv21
        subst hv21
        exact J26 ((if (M10 61 0 (M10 63 0 ((24 + x11) + 1))) = (M10 61 0 p1) then (0 : Int) else 1)) (if_neg (c := ((24 + x11) + 1) = (24 + (M10 64 0 1))) hc).symm
    intro v25 hv25
    subst hv25
    refine lv_istore (lv' := [(4, .int (Int32.ofInt (if ((24 + x11) + 1) = (24 + (M10 64 0 1)) then (1 : Int) else (if (M10 61 0 (M10 63 0 ((24 + x11) + 1))) = (M10 61 0 p1) then (0 : Int) else 1)))), (3, .int (Int32.ofInt (24 + x11))), (0, .ref (α 11 0)), (1, .int (Int32.ofInt p1)), (2, .int (Int32.ofInt p2))]) X.1.1 X.1.2.1 dX10_subtotal_87 hl (by decide) rfl (fun ls hl => ?_)
    refine sa_const X.1 dX10_subtotal_89 ?_
    refine lv_istore (lv' := [(5, .int (Int32.ofInt 0)), (4, .int (Int32.ofInt (if ((24 + x11) + 1) = (24 + (M10 64 0 1)) then (1 : Int) else (if (M10 61 0 (M10 63 0 ((24 + x11) + 1))) = (M10 61 0 p1) then (0 : Int) else 1)))), (3, .int (Int32.ofInt (24 + x11))), (0, .ref (α 11 0)), (1, .int (Int32.ofInt p1)), (2, .int (Int32.ofInt p2))]) X.1.1 X.1.2.1 dX10_subtotal_90 hl (by decide) rfl (fun ls hl => ?_)
    refine lv_iload_n X.1.1 X.1.2.1 dX10_subtotal_92 rfl (lv_at hl 2 rfl) ?_
    refine lv_istore (lv' := [(6, .int (Int32.ofInt (24 + x11))), (5, .int (Int32.ofInt 0)), (4, .int (Int32.ofInt (if ((24 + x11) + 1) = (24 + (M10 64 0 1)) then (1 : Int) else (if (M10 61 0 (M10 63 0 ((24 + x11) + 1))) = (M10 61 0 p1) then (0 : Int) else 1)))), (3, .int (Int32.ofInt (24 + x11))), (0, .ref (α 11 0)), (1, .int (Int32.ofInt p1)), (2, .int (Int32.ofInt p2))]) X.1.1 X.1.2.1 dX10_subtotal_93 hl (by decide) rfl (fun ls hl => ?_)
    obtain ⟨n42, hw⟩ := hw
    exact t_X10_subtotal_95 X hp1 hp2 n42 _ _ _ _ hw r24 (inR_c (a := 0) rfl) c13 _ _ hR hS _ (lv_sub hl [4, 5, 6, 2, 1, 0] rfl)
  · have hw := hw.2 hc
    refine sa_const X.1 dX10_subtotal_34 ?_
    exact sa_iret X.1 X.2.2.2.1 X.2.2.2.2 hR hS (inR_c (a := 0) rfl) hw dX10_subtotal_35
set_option maxHeartbeats 4000000 in
set_option maxRecDepth 100000 in
theorem t_X10_subtotal {p1 : Int} {p2 : Int} (X : CX p m c cX10_subtotal 7 s args RX10 G B κ meth (some .int)) (hp1 : inR p1) (hp2 : inR p2) {M : Mem} {Qm : Int → Mem → Prop} (hw : wp_X10_subtotal p1 p2 M Qm) (H : Heap) (locs : List Loc) (hR : Rp G e0 α κ B M H) (hS : va_S (fun q => B ≤ q) s.heap H locs) (ls : Array Slot) (hl : lv_has ls 7 [(0, .ref (α 11 0)), (1, .int (Int32.ofInt p1)), (2, .int (Int32.ofInt p2))]) : WI p l e 3 s m args below meth c G e0 α κ B Qm H locs 0 ls [] := by
  have hw : wp_X10_isRow p1 M fun (x2 : Int) (M1 : Mem) => ((x2 = 0 → wp_X10_subtotal_21 p1 p2 Qm M1) ∧ (¬ x2 = 0 → wp_X10_isColumn p2 M1 fun (x44 : Int) (M43 : Mem) => wp_X10_isBody p1 M43 fun (x50 : Int) (M49 : Mem) => wp_X10_goes (if x44 = 0 then (0 : Int) else 1) x50 1 M49 fun (x53 : Int) (M52 : Mem) => ((¬ x53 = 0 → wp_X10_placeOf p1 M52 fun (x56 : Int) (M55 : Mem) => (inR (24 + x56)) ∧ (inR ((24 + x56) + 1)) ∧ (inR (24 + (M55 64 0 1))) ∧ (¬ ((24 + x56) + 1) = (24 + (M55 64 0 1)) → (inR ((24 + x56) + 1)) ∧ (0 ≤ ((24 + x56) + 1) ∧ ((24 + x56) + 1) < 72) ∧ (0 ≤ (M55 63 0 ((24 + x56) + 1)) ∧ (M55 63 0 ((24 + x56) + 1)) < 29) ∧ (0 ≤ p1 ∧ p1 < 29) ∧ True) ∧ (∃ n72 : Nat, wp_X10_subtotal_95 p1 p2 Qm n72 (if ((24 + x56) + 1) = (24 + (M55 64 0 1)) then (1 : Int) else (if (M55 61 0 (M55 63 0 ((24 + x56) + 1))) = (M55 61 0 p1) then (0 : Int) else 1)) 0 (24 + x56) M55)) ∧ (x53 = 0 → Qm 0 M52)))) := hw
  refine lv_aload_n X.1.1 X.1.2.1 dX10_subtotal_0 rfl (lv_at hl 0 rfl) ?_
  refine lv_aload_n X.1.1 X.1.2.1 dX10_subtotal_1 rfl (lv_at hl 0 rfl) ?_
  refine lv_iload_n X.1.1 X.1.2.1 dX10_subtotal_2 rfl (lv_at hl 1 rfl) ?_
  refine cs_X10_isRow X hp1 (kc := 3) rmL_ok rm_c (by decide) hR hS kw_1733 hl.1 dX10_subtotal_3 (Nat.le_of_ble_eq_true rfl) hw (fun x2 M1 H locs hw r3 hR hS => ?_)
  refine sa_if_eq (tgt := 21) X.1 r3 dX10_subtotal_6 (by decide) (fun hc => ?_) (fun hc => ?_)
  · have hw := hw.1 hc
    exact t_X10_subtotal_21 X hp1 hp2 _ hw _ _ hR hS _ (lv_sub hl [0, 1, 2] rfl)
  · have hw := hw.2 hc
    refine lv_aload_n X.1.1 X.1.2.1 dX10_subtotal_9 rfl (lv_at hl 0 rfl) ?_
    refine lv_iload_n X.1.1 X.1.2.1 dX10_subtotal_10 rfl (lv_at hl 2 rfl) ?_
    refine cs_X10_isColumn X hp2 (kc := 3) rmL_ok rm_c (by decide) hR hS kw_1737 hl.1 dX10_subtotal_11 (Nat.le_of_ble_eq_true rfl) hw (fun x44 M43 H locs hw r45 hR hS => ?_)
    have r46 := inR_ite (c := x44 = 0) (inR_c (a := 0) rfl) (inR_c (a := 1) rfl)
    refine cut_j (A := ∀ v47 : Int, v47 = (if x44 = 0 then (0 : Int) else 1) → WI p l e 3 s m args below meth c G e0 α κ B Qm H locs 22 ls [.int (Int32.ofInt v47), .ref (α 11 0)]) (fun J48 => ?_) ?_
    · refine sa_if_eq (tgt := 21) X.1 r45 dX10_subtotal_14 (by decide) (fun hc => ?_) (fun hc => ?_)
      · skip
        refine sa_const X.1 dX10_subtotal_21 ?_
        exact J48 (0) (if_pos (c := x44 = 0) hc).symm
      · skip
        refine sa_const X.1 dX10_subtotal_17 ?_
        refine lv_goto (tgt := 22) X.1.1 X.1.2.1 dX10_subtotal_18 (by decide) ?_
        exact J48 (1) (if_neg (c := x44 = 0) hc).symm
    intro v47 hv47
    subst hv47
    refine lv_aload_n X.1.1 X.1.2.1 dX10_subtotal_22 rfl (lv_at hl 0 rfl) ?_
    refine lv_iload_n X.1.1 X.1.2.1 dX10_subtotal_23 rfl (lv_at hl 1 rfl) ?_
    refine cs_X10_isBody X hp1 (kc := 3) rmL_ok rm_c (by decide) hR hS kw_2009 hl.1 dX10_subtotal_24 (Nat.le_of_ble_eq_true rfl) hw (fun x50 M49 H locs hw r51 hR hS => ?_)
    refine sa_const X.1 dX10_subtotal_27 ?_
    refine cs_X10_goes X r46 r51 (inR_c (a := 1) rfl) (kc := 3) rmL_ok rm_c (by decide) hR hS kw_1721 hl.1 dX10_subtotal_28 (Nat.le_of_ble_eq_true rfl) hw (fun x53 M52 H locs hw r54 hR hS => ?_)
    refine sa_if_ne (tgt := 36) X.1 r54 dX10_subtotal_31 (by decide) (fun hc => ?_) (fun hc => ?_)
    · have hw := hw.1 hc
      refine sa_bipush X.1 dX10_subtotal_36 (by decide) ?_
      refine lv_aload_n X.1.1 X.1.2.1 dX10_subtotal_38 rfl (lv_at hl 0 rfl) ?_
      refine lv_iload_n X.1.1 X.1.2.1 dX10_subtotal_39 rfl (lv_at hl 1 rfl) ?_
      refine cs_X10_placeOf X hp1 (kc := 3) rmL_ok rm_c (by decide) hR hS kw_1741 hl.1 dX10_subtotal_40 (Nat.le_of_ble_eq_true rfl) hw (fun x56 M55 H locs hw r57 hR hS => ?_)
      have c58 := hw.1
      have hw := hw.2
      refine sa_iadd X.1 dX10_subtotal_43 ?_
      refine lv_istore_n (lv' := [(3, .int (Int32.ofInt (24 + x56))), (0, .ref (α 11 0)), (1, .int (Int32.ofInt p1)), (2, .int (Int32.ofInt p2))]) X.1.1 X.1.2.1 dX10_subtotal_44 rfl hl (by decide) rfl (fun ls hl => ?_)
      refine lv_iload_n X.1.1 X.1.2.1 dX10_subtotal_45 rfl (lv_at hl 0 rfl) ?_
      refine sa_const X.1 dX10_subtotal_46 ?_
      have c59 := hw.1
      have hw := hw.2
      refine sa_iadd X.1 dX10_subtotal_47 ?_
      refine sa_bipush X.1 dX10_subtotal_48 (by decide) ?_
      refine lv_aload_n X.1.1 X.1.2.1 dX10_subtotal_50 rfl (lv_at hl 1 rfl) ?_
      refine gt_11_10 X hR (okf X.2.2.1 rfl) kw_1539 dX10_subtotal_51 ?_
      refine sa_const X.1 dX10_subtotal_54 ?_
      refine ra_64 X hR (okf X.2.2.1 rfl) ⟨by decide, by decide⟩ dX10_subtotal_55 ?_
      have r60 := hR.r 64 0 1
      have c61 := hw.1
      have hw := hw.2
      refine sa_iadd X.1 dX10_subtotal_56 ?_
      have s68 := hw.1
      have hw := hw.2
      have r69 := inR_ite (c := ((24 + x56) + 1) = (24 + (M55 64 0 1))) (inR_c (a := 1) rfl) (inR_ite (c := (M55 61 0 (M55 63 0 ((24 + x56) + 1))) = (M55 61 0 p1)) (inR_c (a := 0) rfl) (inR_c (a := 1) rfl))
      refine cut_j (A := ∀ v70 : Int, v70 = (if ((24 + x56) + 1) = (24 + (M55 64 0 1)) then (1 : Int) else (if (M55 61 0 (M55 63 0 ((24 + x56) + 1))) = (M55 61 0 p1) then (0 : Int) else 1)) → WI p l e 3 s m args below meth c G e0 α κ B Qm H locs 87 ls [.int (Int32.ofInt v70)]) (fun J71 => ?_) ?_
      · refine sa_icmp_eq (tgt := 82) X.1 c59 c61 dX10_subtotal_57 (by decide) (fun hc => ?_) (fun hc => ?_)
        · skip
          refine sa_const X.1 dX10_subtotal_82 ?_
          refine lv_goto (tgt := 87) X.1.1 X.1.2.1 dX10_subtotal_83 (by decide) ?_
          exact J71 (1) (if_pos (c := ((24 + x56) + 1) = (24 + (M55 64 0 1))) hc).symm
        · have hw := s68 hc
          refine lv_aload_n X.1.1 X.1.2.1 dX10_subtotal_60 rfl (lv_at hl 1 rfl) ?_
          refine gt_11_6 X hR (okf X.2.2.1 rfl) kw_1535 dX10_subtotal_61 ?_
          refine lv_aload_n X.1.1 X.1.2.1 dX10_subtotal_64 rfl (lv_at hl 1 rfl) ?_
          refine gt_11_9 X hR (okf X.2.2.1 rfl) kw_1538 dX10_subtotal_65 ?_
          refine lv_iload_n X.1.1 X.1.2.1 dX10_subtotal_68 rfl (lv_at hl 0 rfl) ?_
          refine sa_const X.1 dX10_subtotal_69 ?_
          have c62 := hw.1
          have hw := hw.2
          refine sa_iadd X.1 dX10_subtotal_70 ?_
          have c63 := hw.1
          have hw := hw.2
          refine ra_63 X hR (okf X.2.2.1 rfl) c63 dX10_subtotal_71 ?_
          have c64 := hw.1
          have hw := hw.2
          refine ra_61 X hR (okf X.2.2.1 rfl) c64 dX10_subtotal_72 ?_
          refine lv_aload_n X.1.1 X.1.2.1 dX10_subtotal_73 rfl (lv_at hl 1 rfl) ?_
          refine gt_11_6 X hR (okf X.2.2.1 rfl) kw_1535 dX10_subtotal_74 ?_
          refine lv_iload_n X.1.1 X.1.2.1 dX10_subtotal_77 rfl (lv_at hl 2 rfl) ?_
          have c65 := hw.1
          have hw := hw.2
          refine ra_61 X hR (okf X.2.2.1 rfl) c65 dX10_subtotal_78 ?_
          refine cut_j (A := ∀ v66 : Int, v66 = (if (M55 61 0 (M55 63 0 ((24 + x56) + 1))) = (M55 61 0 p1) then (0 : Int) else 1) → WI p l e 3 s m args below meth c G e0 α κ B Qm H locs 87 ls [.int (Int32.ofInt v66)]) (fun J67 => ?_) ?_
          · refine sa_icmp_eq (tgt := 86) X.1 (hR.r 61 0 (M55 63 0 ((24 + x56) + 1))) (hR.r 61 0 p1) dX10_subtotal_79 (by decide) (fun hc => ?_) (fun hc => ?_)
            · skip
              refine sa_const X.1 dX10_subtotal_86 ?_
              exact J67 (0) (if_pos (c := (M55 61 0 (M55 63 0 ((24 + x56) + 1))) = (M55 61 0 p1)) hc).symm
            · skip
              refine sa_const X.1 dX10_subtotal_82 ?_
              refine lv_goto (tgt := 87) X.1.1 X.1.2.1 dX10_subtotal_83 (by decide) ?_
              exact J67 (1) (if_neg (c := (M55 61 0 (M55 63 0 ((24 + x56) + 1))) = (M55 61 0 p1)) hc).symm
          intro v66 hv66
          subst hv66
          exact J71 ((if (M55 61 0 (M55 63 0 ((24 + x56) + 1))) = (M55 61 0 p1) then (0 : Int) else 1)) (if_neg (c := ((24 + x56) + 1) = (24 + (M55 64 0 1))) hc).symm
      intro v70 hv70
      subst hv70
      refine lv_istore (lv' := [(4, .int (Int32.ofInt (if ((24 + x56) + 1) = (24 + (M55 64 0 1)) then (1 : Int) else (if (M55 61 0 (M55 63 0 ((24 + x56) + 1))) = (M55 61 0 p1) then (0 : Int) else 1)))), (3, .int (Int32.ofInt (24 + x56))), (0, .ref (α 11 0)), (1, .int (Int32.ofInt p1)), (2, .int (Int32.ofInt p2))]) X.1.1 X.1.2.1 dX10_subtotal_87 hl (by decide) rfl (fun ls hl => ?_)
      refine sa_const X.1 dX10_subtotal_89 ?_
      refine lv_istore (lv' := [(5, .int (Int32.ofInt 0)), (4, .int (Int32.ofInt (if ((24 + x56) + 1) = (24 + (M55 64 0 1)) then (1 : Int) else (if (M55 61 0 (M55 63 0 ((24 + x56) + 1))) = (M55 61 0 p1) then (0 : Int) else 1)))), (3, .int (Int32.ofInt (24 + x56))), (0, .ref (α 11 0)), (1, .int (Int32.ofInt p1)), (2, .int (Int32.ofInt p2))]) X.1.1 X.1.2.1 dX10_subtotal_90 hl (by decide) rfl (fun ls hl => ?_)
      refine lv_iload_n X.1.1 X.1.2.1 dX10_subtotal_92 rfl (lv_at hl 2 rfl) ?_
      refine lv_istore (lv' := [(6, .int (Int32.ofInt (24 + x56))), (5, .int (Int32.ofInt 0)), (4, .int (Int32.ofInt (if ((24 + x56) + 1) = (24 + (M55 64 0 1)) then (1 : Int) else (if (M55 61 0 (M55 63 0 ((24 + x56) + 1))) = (M55 61 0 p1) then (0 : Int) else 1)))), (3, .int (Int32.ofInt (24 + x56))), (0, .ref (α 11 0)), (1, .int (Int32.ofInt p1)), (2, .int (Int32.ofInt p2))]) X.1.1 X.1.2.1 dX10_subtotal_93 hl (by decide) rfl (fun ls hl => ?_)
      obtain ⟨n72, hw⟩ := hw
      exact t_X10_subtotal_95 X hp1 hp2 n72 _ _ _ _ hw r69 (inR_c (a := 0) rfl) c58 _ _ hR hS _ (lv_sub hl [4, 5, 6, 2, 1, 0] rfl)
    · have hw := hw.2 hc
      refine sa_const X.1 dX10_subtotal_34 ?_
      exact sa_iret X.1 X.2.2.2.1 X.2.2.2.2 hR hS (inR_c (a := 0) rfl) hw dX10_subtotal_35
theorem m_X10_subtotal {l : Launch} {G : Gx} {e0 : Nat} {α : Ax} {κ : Nat → Int} {B : Nat} {p1 : Int} {p2 : Int} (hκ : kOK κ) (hp1 : inR p1) (hp2 : inR p2) {M : Mem} {Qm : Int → Mem → Prop} (hw : wp_X10_subtotal p1 p2 M Qm) : CI l yX10_subtotal (Cond.code yX10_subtotal cX10_subtotal 7 (some .int)) 3 G e0 α κ B [.ref (α 11 0), .int (Int32.ofInt p1), .int (Int32.ofInt p2)] M Qm :=
  CI.mk hκ (by decide +kernel) rfl (Nat.le_of_ble_eq_true rfl) (lv := [(0, .ref (α 11 0)), (1, .int (Int32.ofInt p1)), (2, .int (Int32.ofInt p2))]) rfl (fun p e s m args below meth c ls X hR hS hl => t_X10_subtotal X hp1 hp2 hw _ _ hR hS ls hl)
theorem cs_X10_subtotal {cc : ByteArray} {nL : Nat} {own : String} {ret : Option FieldType} {idx pc : Nat} {p1 : Int} {p2 : Int} (X : CX p m c cc nL s args own G B κ meth ret) (hp1 : inR p1) (hp2 : inR p2) {kc : Nat} {R : Room} {cells slots : Nat} (hRr : RmOK R kc) (hcel : cells ≤ R.cells ∧ slots ≤ R.slots) (hk : 3 + 1 ≤ kc) {M : Mem} {H : Heap} {locs : List Loc} (hR : Rp G e0 α κ B M H) (hS : va_S (fun q => B ≤ q) s.heap H locs) (k1 : Cond.methodLink own idx yX10_subtotal ∈ gw) {ls : Array Slot} (hml : ls.size = nL) {rest : List Value} (hd : decode cc pc = .ok (.invokevirtual idx, 3)) (hrest : (rest.map fun v => v.category).sum ≤ 8) {Q : State → Prop} {Qm : Int → Mem → Prop} (hw : wp_X10_subtotal p1 p2 M Qm) (kk : ∀ (r : Int) (M1 : Mem) (H1 : Heap) (locs1 : List Loc), Qm r M1 → inR r → Rp G e0 α κ B M1 H1 → va_S (fun q => B ≤ q) s.heap H1 locs1 → W p l e R s m args below meth c H1 locs1 cells slots Q (F0 m (pc + 3) ls (.int (Int32.ofInt r) :: rest))) : W p l e R s m args below meth c H locs cells slots Q (F0 m pc ls (.int (Int32.ofInt p2) :: .int (Int32.ofInt p1) :: .ref (α 11 0) :: rest)) :=
  sa_callVI 3 (n := 2) (As := [.int (Int32.ofInt p1), .int (Int32.ofInt p2)]) (rest := rest) X.1 X.2.1 hR hS (m_X10_subtotal X.2.2.1 hp1 hp2 hw) k1 kw_2054 kw_2055 kw_104 kw_2056 ⟨rfl, by decide +kernel, by decide +kernel, by decide +kernel⟩ (rm_ok hRr hk (by decide)) (rc_11 X hR (okf X.2.2.1 rfl)) rfl rfl hrest hml hd hcel kk
def wp_X10_carries_50 (p1 : Int) (p2 : Int) (Qm : Int → Mem → Prop) (K5 : Int → Int → Mem → Prop) (y4 : Int) (z0 : Int) (z1 : Int) (M : Mem) : Prop := (inR (z1 + z0)) ∧ (inR (y4 + 1)) ∧ K5 (z1 + z0) (y4 + 1) M
def wp_X10_carries_5 (p1 : Int) (p2 : Int) (Qm : Int → Mem → Prop) : Nat → Int → Int → Mem → Prop
  | 0 => fun _ _ _ => False
  | n + 1 => fun y3 y4 M => (((M 64 0 1) ≤ y4 → Qm y3 M) ∧ (y4 < (M 64 0 1) → (inR (24 + y4)) ∧ (0 ≤ (24 + y4) ∧ (24 + y4) < 72) ∧ wp_X10_firstPage (M 63 0 (24 + y4)) M fun (x6 : Int) (M5 : Mem) => ((p1 < x6 → wp_X10_carries_50 p1 p2 Qm (wp_X10_carries_5 p1 p2 Qm n) y4 0 y3 M5) ∧ (x6 ≤ p1 → wp_X10_figureAt (M 63 0 (24 + y4)) p2 M5 fun (x11 : Int) (M10 : Mem) => wp_X10_carries_50 p1 p2 Qm (wp_X10_carries_5 p1 p2 Qm n) y4 x11 y3 M10))))
def wp_X10_carries (p1 : Int) (p2 : Int) (M : Mem) (Qm : Int → Mem → Prop) : Prop := (∃ n13 : Nat, wp_X10_carries_5 p1 p2 Qm n13 0 0 M)
set_option maxHeartbeats 4000000 in
set_option maxRecDepth 100000 in
theorem t_X10_carries_50 {p1 : Int} {p2 : Int} (X : CX p m c cX10_carries 6 s args RX10 G B κ meth (some .int)) (hp1 : inR p1) (hp2 : inR p2) {Qm : Int → Mem → Prop} {K5 : Int → Int → Mem → Prop} (hK5 : ∀ y3 : Int, ∀ y4 : Int, ∀ M : Mem, K5 y3 y4 M → inR y3 → inR y4 → ∀ (H : Heap) (locs : List Loc), Rp G e0 α κ B M H → va_S (fun q => B ≤ q) s.heap H locs → ∀ (ls : Array Slot), lv_has ls 6 [(0, .ref (α 11 0)), (1, .int (Int32.ofInt p1)), (2, .int (Int32.ofInt p2)), (3, .int (Int32.ofInt y3)), (4, .int (Int32.ofInt y4))] → WI p l e 2 s m args below meth c G e0 α κ B Qm H locs 5 ls []) : ∀ y4 : Int, ∀ z0 : Int, ∀ z1 : Int, ∀ M : Mem, wp_X10_carries_50 p1 p2 Qm K5 y4 z0 z1 M → inR y4 → inR z0 → inR z1 → ∀ (H : Heap) (locs : List Loc), Rp G e0 α κ B M H → va_S (fun q => B ≤ q) s.heap H locs → ∀ (ls : Array Slot), lv_has ls 6 [(0, .ref (α 11 0)), (1, .int (Int32.ofInt p1)), (2, .int (Int32.ofInt p2)), (4, .int (Int32.ofInt y4))] → WI p l e 2 s m args below meth c G e0 α κ B Qm H locs 50 ls [.int (Int32.ofInt z0), .int (Int32.ofInt z1)] := by
  intro y4 z0 z1 M hw hy4 hz0 hz1 H locs hR hS ls hl
  have hw : (inR (z1 + z0)) ∧ (inR (y4 + 1)) ∧ K5 (z1 + z0) (y4 + 1) M := hw
  have c8 := hw.1
  have hw := hw.2
  refine sa_iadd X.1 dX10_carries_50 ?_
  refine lv_istore_n (lv' := [(3, .int (Int32.ofInt (z1 + z0))), (0, .ref (α 11 0)), (1, .int (Int32.ofInt p1)), (2, .int (Int32.ofInt p2)), (4, .int (Int32.ofInt y4))]) X.1.1 X.1.2.1 dX10_carries_51 rfl hl (by decide) rfl (fun ls hl => ?_)
  have c9 := hw.1
  have hw := hw.2
  refine lv_iinc (v := Int32.ofInt (y4 + 1)) (lv' := [(4, .int (Int32.ofInt (y4 + 1))), (3, .int (Int32.ofInt (z1 + z0))), (0, .ref (α 11 0)), (1, .int (Int32.ofInt p1)), (2, .int (Int32.ofInt p2))]) X.1.1 X.1.2.1 dX10_carries_52 hl (k := 4) rfl (Int32.ofInt_add _ _).symm (by decide) rfl (fun ls hl => ?_)
  refine lv_goto (tgt := 5) X.1.1 X.1.2.1 dX10_carries_55 (by decide) ?_
  exact hK5 _ _ _ hw c8 c9 _ _ hR hS _ (lv_sub hl [2, 3, 4, 1, 0] rfl)
set_option maxHeartbeats 4000000 in
set_option maxRecDepth 100000 in
theorem t_X10_carries_5 {p1 : Int} {p2 : Int} (X : CX p m c cX10_carries 6 s args RX10 G B κ meth (some .int)) (hp1 : inR p1) (hp2 : inR p2) {Qm : Int → Mem → Prop} : ∀ n : Nat, ∀ y3 : Int, ∀ y4 : Int, ∀ M : Mem, wp_X10_carries_5 p1 p2 Qm n y3 y4 M → inR y3 → inR y4 → ∀ (H : Heap) (locs : List Loc), Rp G e0 α κ B M H → va_S (fun q => B ≤ q) s.heap H locs → ∀ (ls : Array Slot), lv_has ls 6 [(0, .ref (α 11 0)), (1, .int (Int32.ofInt p1)), (2, .int (Int32.ofInt p2)), (3, .int (Int32.ofInt y3)), (4, .int (Int32.ofInt y4))] → WI p l e 2 s m args below meth c G e0 α κ B Qm H locs 5 ls [] := by
  intro n
  induction n with
  | zero =>
    intro y3 y4 M hw hy3 hy4 H locs hR hS ls hl
    exact hw.elim
  | succ n ih =>
    intro y3 y4 M hw hy3 hy4 H locs hR hS ls hl
    have hw : (((M 64 0 1) ≤ y4 → Qm y3 M) ∧ (y4 < (M 64 0 1) → (inR (24 + y4)) ∧ (0 ≤ (24 + y4) ∧ (24 + y4) < 72) ∧ wp_X10_firstPage (M 63 0 (24 + y4)) M fun (x6 : Int) (M5 : Mem) => ((p1 < x6 → wp_X10_carries_50 p1 p2 Qm (wp_X10_carries_5 p1 p2 Qm n) y4 0 y3 M5) ∧ (x6 ≤ p1 → wp_X10_figureAt (M 63 0 (24 + y4)) p2 M5 fun (x11 : Int) (M10 : Mem) => wp_X10_carries_50 p1 p2 Qm (wp_X10_carries_5 p1 p2 Qm n) y4 x11 y3 M10)))) := hw
    refine lv_iload X.1.1 X.1.2.1 dX10_carries_5 (lv_at hl 4 rfl) ?_
    refine lv_aload_n X.1.1 X.1.2.1 dX10_carries_7 rfl (lv_at hl 0 rfl) ?_
    refine gt_11_10 X hR (okf X.2.2.1 rfl) kw_1539 dX10_carries_8 ?_
    refine sa_const X.1 dX10_carries_11 ?_
    refine ra_64 X hR (okf X.2.2.1 rfl) ⟨by decide, by decide⟩ dX10_carries_12 ?_
    have r1 := hR.r 64 0 1
    refine sa_icmp_ge (tgt := 58) X.1 hy4 r1 dX10_carries_13 (by decide) (fun hc => ?_) (fun hc => ?_)
    · have hw := hw.1 hc
      refine lv_iload_n X.1.1 X.1.2.1 dX10_carries_58 rfl (lv_at hl 3 rfl) ?_
      exact sa_iret X.1 X.2.2.2.1 X.2.2.2.2 hR hS hy3 hw dX10_carries_59
    · have hw := hw.2 hc
      refine lv_aload_n X.1.1 X.1.2.1 dX10_carries_16 rfl (lv_at hl 0 rfl) ?_
      refine gt_11_9 X hR (okf X.2.2.1 rfl) kw_1538 dX10_carries_17 ?_
      refine sa_bipush X.1 dX10_carries_20 (by decide) ?_
      refine lv_iload X.1.1 X.1.2.1 dX10_carries_22 (lv_at hl 4 rfl) ?_
      have c2 := hw.1
      have hw := hw.2
      refine sa_iadd X.1 dX10_carries_24 ?_
      have c3 := hw.1
      have hw := hw.2
      refine ra_63 X hR (okf X.2.2.1 rfl) c3 dX10_carries_25 ?_
      have r4 := hR.r 63 0 (24 + y4)
      refine lv_istore (lv' := [(5, .int (Int32.ofInt (M 63 0 (24 + y4)))), (0, .ref (α 11 0)), (1, .int (Int32.ofInt p1)), (2, .int (Int32.ofInt p2)), (3, .int (Int32.ofInt y3)), (4, .int (Int32.ofInt y4))]) X.1.1 X.1.2.1 dX10_carries_26 hl (by decide) rfl (fun ls hl => ?_)
      refine lv_iload_n X.1.1 X.1.2.1 dX10_carries_28 rfl (lv_at hl 4 rfl) ?_
      refine lv_aload_n X.1.1 X.1.2.1 dX10_carries_29 rfl (lv_at hl 1 rfl) ?_
      refine lv_iload X.1.1 X.1.2.1 dX10_carries_30 (lv_at hl 0 rfl) ?_
      refine cs_X10_firstPage X r4 (kc := 2) rmL_ok rm_c (by decide) hR hS kw_2013 hl.1 dX10_carries_32 (Nat.le_of_ble_eq_true rfl) hw (fun x6 M5 H locs hw r7 hR hS => ?_)
      refine lv_iload_n X.1.1 X.1.2.1 dX10_carries_35 rfl (lv_at hl 2 rfl) ?_
      refine sa_icmp_gt (tgt := 49) X.1 r7 hp1 dX10_carries_36 (by decide) (fun hc => ?_) (fun hc => ?_)
      · have hw := hw.1 hc
        refine sa_const X.1 dX10_carries_49 ?_
        exact t_X10_carries_50 X hp1 hp2 ih _ _ _ _ hw hy4 (inR_c (a := 0) rfl) hy3 _ _ hR hS _ (lv_sub hl [1, 2, 3, 5] rfl)
      · have hw := hw.2 hc
        refine lv_aload_n X.1.1 X.1.2.1 dX10_carries_39 rfl (lv_at hl 1 rfl) ?_
        refine lv_iload X.1.1 X.1.2.1 dX10_carries_40 (lv_at hl 0 rfl) ?_
        refine lv_iload_n X.1.1 X.1.2.1 dX10_carries_42 rfl (lv_at hl 3 rfl) ?_
        refine cs_X10_figureAt X r4 hp2 (kc := 2) rmL_ok rm_c (by decide) hR hS kw_2049 hl.1 dX10_carries_43 (Nat.le_of_ble_eq_true rfl) hw (fun x11 M10 H locs hw r12 hR hS => ?_)
        refine lv_goto (tgt := 50) X.1.1 X.1.2.1 dX10_carries_46 (by decide) ?_
        exact t_X10_carries_50 X hp1 hp2 ih _ _ _ _ hw hy4 r12 hy3 _ _ hR hS _ (lv_sub hl [1, 2, 3, 5] rfl)
set_option maxHeartbeats 4000000 in
set_option maxRecDepth 100000 in
theorem t_X10_carries {p1 : Int} {p2 : Int} (X : CX p m c cX10_carries 6 s args RX10 G B κ meth (some .int)) (hp1 : inR p1) (hp2 : inR p2) {M : Mem} {Qm : Int → Mem → Prop} (hw : wp_X10_carries p1 p2 M Qm) (H : Heap) (locs : List Loc) (hR : Rp G e0 α κ B M H) (hS : va_S (fun q => B ≤ q) s.heap H locs) (ls : Array Slot) (hl : lv_has ls 6 [(0, .ref (α 11 0)), (1, .int (Int32.ofInt p1)), (2, .int (Int32.ofInt p2))]) : WI p l e 2 s m args below meth c G e0 α κ B Qm H locs 0 ls [] := by
  have hw : (∃ n13 : Nat, wp_X10_carries_5 p1 p2 Qm n13 0 0 M) := hw
  refine sa_const X.1 dX10_carries_0 ?_
  refine lv_istore_n (lv' := [(3, .int (Int32.ofInt 0)), (0, .ref (α 11 0)), (1, .int (Int32.ofInt p1)), (2, .int (Int32.ofInt p2))]) X.1.1 X.1.2.1 dX10_carries_1 rfl hl (by decide) rfl (fun ls hl => ?_)
  refine sa_const X.1 dX10_carries_2 ?_
  refine lv_istore (lv' := [(4, .int (Int32.ofInt 0)), (3, .int (Int32.ofInt 0)), (0, .ref (α 11 0)), (1, .int (Int32.ofInt p1)), (2, .int (Int32.ofInt p2))]) X.1.1 X.1.2.1 dX10_carries_3 hl (by decide) rfl (fun ls hl => ?_)
  obtain ⟨n13, hw⟩ := hw
  exact t_X10_carries_5 X hp1 hp2 n13 _ _ _ hw (inR_c (a := 0) rfl) (inR_c (a := 0) rfl) _ _ hR hS _ (lv_sub hl [2, 3, 4, 1, 0] rfl)
theorem m_X10_carries {l : Launch} {G : Gx} {e0 : Nat} {α : Ax} {κ : Nat → Int} {B : Nat} {p1 : Int} {p2 : Int} (hκ : kOK κ) (hp1 : inR p1) (hp2 : inR p2) {M : Mem} {Qm : Int → Mem → Prop} (hw : wp_X10_carries p1 p2 M Qm) : CI l yX10_carries (Cond.code yX10_carries cX10_carries 6 (some .int)) 2 G e0 α κ B [.ref (α 11 0), .int (Int32.ofInt p1), .int (Int32.ofInt p2)] M Qm :=
  CI.mk hκ (by decide +kernel) rfl (Nat.le_of_ble_eq_true rfl) (lv := [(0, .ref (α 11 0)), (1, .int (Int32.ofInt p1)), (2, .int (Int32.ofInt p2))]) rfl (fun p e s m args below meth c ls X hR hS hl => t_X10_carries X hp1 hp2 hw _ _ hR hS ls hl)
theorem cs_X10_carries {cc : ByteArray} {nL : Nat} {own : String} {ret : Option FieldType} {idx pc : Nat} {p1 : Int} {p2 : Int} (X : CX p m c cc nL s args own G B κ meth ret) (hp1 : inR p1) (hp2 : inR p2) {kc : Nat} {R : Room} {cells slots : Nat} (hRr : RmOK R kc) (hcel : cells ≤ R.cells ∧ slots ≤ R.slots) (hk : 2 + 1 ≤ kc) {M : Mem} {H : Heap} {locs : List Loc} (hR : Rp G e0 α κ B M H) (hS : va_S (fun q => B ≤ q) s.heap H locs) (k1 : Cond.methodLink own idx yX10_carries ∈ gw) {ls : Array Slot} (hml : ls.size = nL) {rest : List Value} (hd : decode cc pc = .ok (.invokevirtual idx, 3)) (hrest : (rest.map fun v => v.category).sum ≤ 8) {Q : State → Prop} {Qm : Int → Mem → Prop} (hw : wp_X10_carries p1 p2 M Qm) (kk : ∀ (r : Int) (M1 : Mem) (H1 : Heap) (locs1 : List Loc), Qm r M1 → inR r → Rp G e0 α κ B M1 H1 → va_S (fun q => B ≤ q) s.heap H1 locs1 → W p l e R s m args below meth c H1 locs1 cells slots Q (F0 m (pc + 3) ls (.int (Int32.ofInt r) :: rest))) : W p l e R s m args below meth c H locs cells slots Q (F0 m pc ls (.int (Int32.ofInt p2) :: .int (Int32.ofInt p1) :: .ref (α 11 0) :: rest)) :=
  sa_callVI 2 (n := 2) (As := [.int (Int32.ofInt p1), .int (Int32.ofInt p2)]) (rest := rest) X.1 X.2.1 hR hS (m_X10_carries X.2.2.1 hp1 hp2 hw) k1 kw_2063 kw_89 kw_104 kw_2064 ⟨rfl, by decide +kernel, by decide +kernel, by decide +kernel⟩ (rm_ok hRr hk (by decide)) (rc_11 X hR (okf X.2.2.1 rfl)) rfl rfl hrest hml hd hcel kk
def wp_X10_carried_62 (p1 : Int) (p2 : Int) (Qm : Int → Mem → Prop) (z0 : Int) (M : Mem) : Prop := Qm z0 M
def wp_X10_carried_45 (p1 : Int) (p2 : Int) (Qm : Int → Mem → Prop) (z0 : Int) (z1 : Int) (M : Mem) : Prop := wp_X10_goes z1 z0 0 M fun (x5 : Int) (M4 : Mem) => ((x5 = 0 → wp_X10_carried_62 p1 p2 Qm 0 M4) ∧ (¬ x5 = 0 → wp_X10_carries p1 p2 M4 fun (x8 : Int) (M7 : Mem) => wp_X10_carried_62 p1 p2 Qm x8 M7))
def wp_X10_carried_21 (p1 : Int) (p2 : Int) (Qm : Int → Mem → Prop) (y3 : Int) (M : Mem) : Prop := wp_X10_carried_45 p1 p2 Qm 0 y3 M
def wp_X10_carried (p1 : Int) (p2 : Int) (M : Mem) (Qm : Int → Mem → Prop) : Prop := wp_X10_isColumn p2 M fun (x2 : Int) (M1 : Mem) => ((x2 = 0 → wp_X10_carried_21 p1 p2 Qm x2 M1) ∧ (¬ x2 = 0 → wp_X10_laysPages M1 fun (x11 : Int) (M10 : Mem) => (((if x11 = 0 then (0 : Int) else 1) = 0 → wp_X10_carried_45 p1 p2 Qm (if x11 = 0 then (0 : Int) else 1) x2 M10) ∧ (¬ (if x11 = 0 then (0 : Int) else 1) = 0 → wp_X10_isPage p1 M10 fun (x17 : Int) (M16 : Mem) => wp_X10_goes x2 (if x11 = 0 then (0 : Int) else 1) (if x17 = 0 then (0 : Int) else 1) M16 fun (x23 : Int) (M22 : Mem) => ((x23 = 0 → wp_X10_carried_62 p1 p2 Qm 0 M22) ∧ (¬ x23 = 0 → wp_X10_carries p1 p2 M22 fun (x26 : Int) (M25 : Mem) => wp_X10_carried_62 p1 p2 Qm x26 M25))))))
set_option maxHeartbeats 4000000 in
set_option maxRecDepth 100000 in
theorem t_X10_carried_62 {p1 : Int} {p2 : Int} (X : CX p m c cX10_carried 5 s args RX10 G B κ meth (some .int)) (hp1 : inR p1) (hp2 : inR p2) {Qm : Int → Mem → Prop} : ∀ z0 : Int, ∀ M : Mem, wp_X10_carried_62 p1 p2 Qm z0 M → inR z0 → ∀ (H : Heap) (locs : List Loc), Rp G e0 α κ B M H → va_S (fun q => B ≤ q) s.heap H locs → ∀ (ls : Array Slot), lv_has ls 5 [] → WI p l e 8 s m args below meth c G e0 α κ B Qm H locs 62 ls [.int (Int32.ofInt z0)] := by
  intro z0 M hw hz0 H locs hR hS ls hl
  have hw : Qm z0 M := hw
  exact sa_iret X.1 X.2.2.2.1 X.2.2.2.2 hR hS hz0 hw dX10_carried_62
set_option maxHeartbeats 4000000 in
set_option maxRecDepth 100000 in
theorem t_X10_carried_45 {p1 : Int} {p2 : Int} (X : CX p m c cX10_carried 5 s args RX10 G B κ meth (some .int)) (hp1 : inR p1) (hp2 : inR p2) {Qm : Int → Mem → Prop} : ∀ z0 : Int, ∀ z1 : Int, ∀ M : Mem, wp_X10_carried_45 p1 p2 Qm z0 z1 M → inR z0 → inR z1 → ∀ (H : Heap) (locs : List Loc), Rp G e0 α κ B M H → va_S (fun q => B ≤ q) s.heap H locs → ∀ (ls : Array Slot), lv_has ls 5 [(0, .ref (α 11 0)), (1, .int (Int32.ofInt p1)), (2, .int (Int32.ofInt p2))] → WI p l e 8 s m args below meth c G e0 α κ B Qm H locs 45 ls [.int (Int32.ofInt z0), .int (Int32.ofInt z1), .ref (α 11 0)] := by
  intro z0 z1 M hw hz0 hz1 H locs hR hS ls hl
  have hw : wp_X10_goes z1 z0 0 M fun (x5 : Int) (M4 : Mem) => ((x5 = 0 → wp_X10_carried_62 p1 p2 Qm 0 M4) ∧ (¬ x5 = 0 → wp_X10_carries p1 p2 M4 fun (x8 : Int) (M7 : Mem) => wp_X10_carried_62 p1 p2 Qm x8 M7)) := hw
  refine sa_const X.1 dX10_carried_45 ?_
  refine cs_X10_goes X hz1 hz0 (inR_c (a := 0) rfl) (kc := 8) rmL_ok rm_c (by decide) hR hS kw_1721 hl.1 dX10_carried_46 (Nat.le_of_ble_eq_true rfl) hw (fun x5 M4 H locs hw r6 hR hS => ?_)
  refine sa_if_eq (tgt := 61) X.1 r6 dX10_carried_49 (by decide) (fun hc => ?_) (fun hc => ?_)
  · have hw := hw.1 hc
    refine sa_const X.1 dX10_carried_61 ?_
    exact t_X10_carried_62 X hp1 hp2 _ _ hw (inR_c (a := 0) rfl) _ _ hR hS _ (lv_sub hl [] rfl)
  · have hw := hw.2 hc
    refine lv_aload_n X.1.1 X.1.2.1 dX10_carried_52 rfl (lv_at hl 0 rfl) ?_
    refine lv_iload_n X.1.1 X.1.2.1 dX10_carried_53 rfl (lv_at hl 1 rfl) ?_
    refine lv_iload_n X.1.1 X.1.2.1 dX10_carried_54 rfl (lv_at hl 2 rfl) ?_
    refine cs_X10_carries X hp1 hp2 (kc := 8) rmL_ok rm_c (by decide) hR hS kw_2061 hl.1 dX10_carried_55 (Nat.le_of_ble_eq_true rfl) hw (fun x8 M7 H locs hw r9 hR hS => ?_)
    refine lv_goto (tgt := 62) X.1.1 X.1.2.1 dX10_carried_58 (by decide) ?_
    exact t_X10_carried_62 X hp1 hp2 _ _ hw r9 _ _ hR hS _ (lv_sub hl [] rfl)
set_option maxHeartbeats 4000000 in
set_option maxRecDepth 100000 in
theorem t_X10_carried_21 {p1 : Int} {p2 : Int} (X : CX p m c cX10_carried 5 s args RX10 G B κ meth (some .int)) (hp1 : inR p1) (hp2 : inR p2) {Qm : Int → Mem → Prop} : ∀ y3 : Int, ∀ M : Mem, wp_X10_carried_21 p1 p2 Qm y3 M → inR y3 → ∀ (H : Heap) (locs : List Loc), Rp G e0 α κ B M H → va_S (fun q => B ≤ q) s.heap H locs → ∀ (ls : Array Slot), lv_has ls 5 [(0, .ref (α 11 0)), (1, .int (Int32.ofInt p1)), (2, .int (Int32.ofInt p2)), (3, .int (Int32.ofInt y3))] → WI p l e 8 s m args below meth c G e0 α κ B Qm H locs 21 ls [] := by
  intro y3 M hw hy3 H locs hR hS ls hl
  have hw : wp_X10_carried_45 p1 p2 Qm 0 y3 M := hw
  refine sa_const X.1 dX10_carried_21 ?_
  refine lv_istore (lv' := [(4, .int (Int32.ofInt 0)), (0, .ref (α 11 0)), (1, .int (Int32.ofInt p1)), (2, .int (Int32.ofInt p2)), (3, .int (Int32.ofInt y3))]) X.1.1 X.1.2.1 dX10_carried_22 hl (by decide) rfl (fun ls hl => ?_)
  refine lv_aload_n X.1.1 X.1.2.1 dX10_carried_24 rfl (lv_at hl 1 rfl) ?_
  refine lv_iload_n X.1.1 X.1.2.1 dX10_carried_25 rfl (lv_at hl 4 rfl) ?_
  refine lv_iload X.1.1 X.1.2.1 dX10_carried_26 (lv_at hl 0 rfl) ?_
  refine lv_iload X.1.1 X.1.2.1 dX10_carried_28 (lv_at hl 0 rfl) ?_
  refine sa_if_eq (tgt := 45) X.1 (inR_c (a := 0) rfl) dX10_carried_30 (by decide) (fun hc => ?_) (fun hc => absurd hc (by decide))
  exact t_X10_carried_45 X hp1 hp2 _ _ _ hw (inR_c (a := 0) rfl) hy3 _ _ hR hS _ (lv_sub hl [1, 2, 3] rfl)
set_option maxHeartbeats 4000000 in
set_option maxRecDepth 100000 in
theorem t_X10_carried {p1 : Int} {p2 : Int} (X : CX p m c cX10_carried 5 s args RX10 G B κ meth (some .int)) (hp1 : inR p1) (hp2 : inR p2) {M : Mem} {Qm : Int → Mem → Prop} (hw : wp_X10_carried p1 p2 M Qm) (H : Heap) (locs : List Loc) (hR : Rp G e0 α κ B M H) (hS : va_S (fun q => B ≤ q) s.heap H locs) (ls : Array Slot) (hl : lv_has ls 5 [(0, .ref (α 11 0)), (1, .int (Int32.ofInt p1)), (2, .int (Int32.ofInt p2))]) : WI p l e 8 s m args below meth c G e0 α κ B Qm H locs 0 ls [] := by
  have hw : wp_X10_isColumn p2 M fun (x2 : Int) (M1 : Mem) => ((x2 = 0 → wp_X10_carried_21 p1 p2 Qm x2 M1) ∧ (¬ x2 = 0 → wp_X10_laysPages M1 fun (x11 : Int) (M10 : Mem) => (((if x11 = 0 then (0 : Int) else 1) = 0 → wp_X10_carried_45 p1 p2 Qm (if x11 = 0 then (0 : Int) else 1) x2 M10) ∧ (¬ (if x11 = 0 then (0 : Int) else 1) = 0 → wp_X10_isPage p1 M10 fun (x17 : Int) (M16 : Mem) => wp_X10_goes x2 (if x11 = 0 then (0 : Int) else 1) (if x17 = 0 then (0 : Int) else 1) M16 fun (x23 : Int) (M22 : Mem) => ((x23 = 0 → wp_X10_carried_62 p1 p2 Qm 0 M22) ∧ (¬ x23 = 0 → wp_X10_carries p1 p2 M22 fun (x26 : Int) (M25 : Mem) => wp_X10_carried_62 p1 p2 Qm x26 M25)))))) := hw
  refine lv_aload_n X.1.1 X.1.2.1 dX10_carried_0 rfl (lv_at hl 0 rfl) ?_
  refine lv_iload_n X.1.1 X.1.2.1 dX10_carried_1 rfl (lv_at hl 2 rfl) ?_
  refine cs_X10_isColumn X hp2 (kc := 8) rmL_ok rm_c (by decide) hR hS kw_1737 hl.1 dX10_carried_2 (Nat.le_of_ble_eq_true rfl) hw (fun x2 M1 H locs hw r3 hR hS => ?_)
  refine lv_istore_n (lv' := [(3, .int (Int32.ofInt x2)), (0, .ref (α 11 0)), (1, .int (Int32.ofInt p1)), (2, .int (Int32.ofInt p2))]) X.1.1 X.1.2.1 dX10_carried_5 rfl hl (by decide) rfl (fun ls hl => ?_)
  refine lv_iload_n X.1.1 X.1.2.1 dX10_carried_6 rfl (lv_at hl 0 rfl) ?_
  refine sa_if_eq (tgt := 21) X.1 r3 dX10_carried_7 (by decide) (fun hc => ?_) (fun hc => ?_)
  · have hw := hw.1 hc
    exact t_X10_carried_21 X hp1 hp2 _ _ hw r3 _ _ hR hS _ (lv_sub hl [1, 2, 3, 0] rfl)
  · have hw := hw.2 hc
    refine lv_aload_n X.1.1 X.1.2.1 dX10_carried_10 rfl (lv_at hl 1 rfl) ?_
    refine cs_X10_laysPages X  (kc := 8) rmL_ok rm_c (by decide) hR hS kw_1973 hl.1 dX10_carried_11 (Nat.le_of_ble_eq_true rfl) hw (fun x11 M10 H locs hw r12 hR hS => ?_)
    have r13 := inR_ite (c := x11 = 0) (inR_c (a := 0) rfl) (inR_c (a := 1) rfl)
    refine cut_j (A := ∀ v14 : Int, v14 = (if x11 = 0 then (0 : Int) else 1) → WI p l e 8 s m args below meth c G e0 α κ B Qm H locs 22 ls [.int (Int32.ofInt v14)]) (fun J15 => ?_) ?_
    · refine sa_if_eq (tgt := 21) X.1 r12 dX10_carried_14 (by decide) (fun hc => ?_) (fun hc => ?_)
      · skip
        refine sa_const X.1 dX10_carried_21 ?_
        exact J15 (0) (if_pos (c := x11 = 0) hc).symm
      · skip
        refine sa_const X.1 dX10_carried_17 ?_
        refine lv_goto (tgt := 22) X.1.1 X.1.2.1 dX10_carried_18 (by decide) ?_
        exact J15 (1) (if_neg (c := x11 = 0) hc).symm
    intro v14 hv14
    subst hv14
    refine lv_istore (lv' := [(4, .int (Int32.ofInt (if x11 = 0 then (0 : Int) else 1))), (3, .int (Int32.ofInt x2)), (0, .ref (α 11 0)), (1, .int (Int32.ofInt p1)), (2, .int (Int32.ofInt p2))]) X.1.1 X.1.2.1 dX10_carried_22 hl (by decide) rfl (fun ls hl => ?_)
    refine lv_aload_n X.1.1 X.1.2.1 dX10_carried_24 rfl (lv_at hl 2 rfl) ?_
    refine lv_iload_n X.1.1 X.1.2.1 dX10_carried_25 rfl (lv_at hl 1 rfl) ?_
    refine lv_iload X.1.1 X.1.2.1 dX10_carried_26 (lv_at hl 0 rfl) ?_
    refine lv_iload X.1.1 X.1.2.1 dX10_carried_28 (lv_at hl 0 rfl) ?_
    refine sa_if_eq (tgt := 45) X.1 r13 dX10_carried_30 (by decide) (fun hc => ?_) (fun hc => ?_)
    · have hw := hw.1 hc
      exact t_X10_carried_45 X hp1 hp2 _ _ _ hw r13 r3 _ _ hR hS _ (lv_sub hl [2, 3, 4] rfl)
    · have hw := hw.2 hc
      refine lv_aload_n X.1.1 X.1.2.1 dX10_carried_33 rfl (lv_at hl 2 rfl) ?_
      refine lv_iload_n X.1.1 X.1.2.1 dX10_carried_34 rfl (lv_at hl 3 rfl) ?_
      refine cs_X10_isPage X hp1 (kc := 8) rmL_ok rm_c (by decide) hR hS kw_2033 hl.1 dX10_carried_35 (Nat.le_of_ble_eq_true rfl) hw (fun x17 M16 H locs hw r18 hR hS => ?_)
      have r19 := inR_ite (c := x17 = 0) (inR_c (a := 0) rfl) (inR_c (a := 1) rfl)
      refine cut_j (A := ∀ v20 : Int, v20 = (if x17 = 0 then (0 : Int) else 1) → WI p l e 8 s m args below meth c G e0 α κ B Qm H locs 46 ls [.int (Int32.ofInt v20), .int (Int32.ofInt (if x11 = 0 then (0 : Int) else 1)), .int (Int32.ofInt x2), .ref (α 11 0)]) (fun J21 => ?_) ?_
      · refine sa_if_eq (tgt := 45) X.1 r18 dX10_carried_38 (by decide) (fun hc => ?_) (fun hc => ?_)
        · skip
          refine sa_const X.1 dX10_carried_45 ?_
          exact J21 (0) (if_pos (c := x17 = 0) hc).symm
        · skip
          refine sa_const X.1 dX10_carried_41 ?_
          refine lv_goto (tgt := 46) X.1.1 X.1.2.1 dX10_carried_42 (by decide) ?_
          exact J21 (1) (if_neg (c := x17 = 0) hc).symm
      intro v20 hv20
      subst hv20
      refine cs_X10_goes X r3 r13 r19 (kc := 8) rmL_ok rm_c (by decide) hR hS kw_1721 hl.1 dX10_carried_46 (Nat.le_of_ble_eq_true rfl) hw (fun x23 M22 H locs hw r24 hR hS => ?_)
      refine sa_if_eq (tgt := 61) X.1 r24 dX10_carried_49 (by decide) (fun hc => ?_) (fun hc => ?_)
      · have hw := hw.1 hc
        refine sa_const X.1 dX10_carried_61 ?_
        exact t_X10_carried_62 X hp1 hp2 _ _ hw (inR_c (a := 0) rfl) _ _ hR hS _ (lv_sub hl [] rfl)
      · have hw := hw.2 hc
        refine lv_aload_n X.1.1 X.1.2.1 dX10_carried_52 rfl (lv_at hl 2 rfl) ?_
        refine lv_iload_n X.1.1 X.1.2.1 dX10_carried_53 rfl (lv_at hl 3 rfl) ?_
        refine lv_iload_n X.1.1 X.1.2.1 dX10_carried_54 rfl (lv_at hl 4 rfl) ?_
        refine cs_X10_carries X hp1 hp2 (kc := 8) rmL_ok rm_c (by decide) hR hS kw_2061 hl.1 dX10_carried_55 (Nat.le_of_ble_eq_true rfl) hw (fun x26 M25 H locs hw r27 hR hS => ?_)
        refine lv_goto (tgt := 62) X.1.1 X.1.2.1 dX10_carried_58 (by decide) ?_
        exact t_X10_carried_62 X hp1 hp2 _ _ hw r27 _ _ hR hS _ (lv_sub hl [] rfl)
theorem m_X10_carried {l : Launch} {G : Gx} {e0 : Nat} {α : Ax} {κ : Nat → Int} {B : Nat} {p1 : Int} {p2 : Int} (hκ : kOK κ) (hp1 : inR p1) (hp2 : inR p2) {M : Mem} {Qm : Int → Mem → Prop} (hw : wp_X10_carried p1 p2 M Qm) : CI l yX10_carried (Cond.code yX10_carried cX10_carried 5 (some .int)) 8 G e0 α κ B [.ref (α 11 0), .int (Int32.ofInt p1), .int (Int32.ofInt p2)] M Qm :=
  CI.mk hκ (by decide +kernel) rfl (Nat.le_of_ble_eq_true rfl) (lv := [(0, .ref (α 11 0)), (1, .int (Int32.ofInt p1)), (2, .int (Int32.ofInt p2))]) rfl (fun p e s m args below meth c ls X hR hS hl => t_X10_carried X hp1 hp2 hw _ _ hR hS ls hl)
theorem cs_X10_carried {cc : ByteArray} {nL : Nat} {own : String} {ret : Option FieldType} {idx pc : Nat} {p1 : Int} {p2 : Int} (X : CX p m c cc nL s args own G B κ meth ret) (hp1 : inR p1) (hp2 : inR p2) {kc : Nat} {R : Room} {cells slots : Nat} (hRr : RmOK R kc) (hcel : cells ≤ R.cells ∧ slots ≤ R.slots) (hk : 8 + 1 ≤ kc) {M : Mem} {H : Heap} {locs : List Loc} (hR : Rp G e0 α κ B M H) (hS : va_S (fun q => B ≤ q) s.heap H locs) (k1 : Cond.methodLink own idx yX10_carried ∈ gw) {ls : Array Slot} (hml : ls.size = nL) {rest : List Value} (hd : decode cc pc = .ok (.invokevirtual idx, 3)) (hrest : (rest.map fun v => v.category).sum ≤ 8) {Q : State → Prop} {Qm : Int → Mem → Prop} (hw : wp_X10_carried p1 p2 M Qm) (kk : ∀ (r : Int) (M1 : Mem) (H1 : Heap) (locs1 : List Loc), Qm r M1 → inR r → Rp G e0 α κ B M1 H1 → va_S (fun q => B ≤ q) s.heap H1 locs1 → W p l e R s m args below meth c H1 locs1 cells slots Q (F0 m (pc + 3) ls (.int (Int32.ofInt r) :: rest))) : W p l e R s m args below meth c H locs cells slots Q (F0 m pc ls (.int (Int32.ofInt p2) :: .int (Int32.ofInt p1) :: .ref (α 11 0) :: rest)) :=
  sa_callVI 8 (n := 2) (As := [.int (Int32.ofInt p1), .int (Int32.ofInt p2)]) (rest := rest) X.1 X.2.1 hR hS (m_X10_carried X.2.2.1 hp1 hp2 hw) k1 kw_2058 kw_2059 kw_104 kw_2060 ⟨rfl, by decide +kernel, by decide +kernel, by decide +kernel⟩ (rm_ok hRr hk (by decide)) (rc_11 X hR (okf X.2.2.1 rfl)) rfl rfl hrest hml hd hcel kk
def wp_X10_carriedByCells (p1 : Int) (p2 : Int) (M : Mem) (Qm : Int → Mem → Prop) : Prop := wp_X10_carried p1 p2 M fun (x2 : Int) (M1 : Mem) => Qm x2 M1
set_option maxHeartbeats 4000000 in
set_option maxRecDepth 100000 in
theorem t_X10_carriedByCells {p1 : Int} {p2 : Int} (X : CX p m c cX10_carriedByCells 3 s args RX10 G B κ meth (some .int)) (hp1 : inR p1) (hp2 : inR p2) {M : Mem} {Qm : Int → Mem → Prop} (hw : wp_X10_carriedByCells p1 p2 M Qm) (H : Heap) (locs : List Loc) (hR : Rp G e0 α κ B M H) (hS : va_S (fun q => B ≤ q) s.heap H locs) (ls : Array Slot) (hl : lv_has ls 3 [(0, .ref (α 11 0)), (1, .int (Int32.ofInt p1)), (2, .int (Int32.ofInt p2))]) : WI p l e 9 s m args below meth c G e0 α κ B Qm H locs 0 ls [] := by
  have hw : wp_X10_carried p1 p2 M fun (x2 : Int) (M1 : Mem) => Qm x2 M1 := hw
  refine lv_aload_n X.1.1 X.1.2.1 dX10_carriedByCells_0 rfl (lv_at hl 0 rfl) ?_
  refine lv_iload_n X.1.1 X.1.2.1 dX10_carriedByCells_1 rfl (lv_at hl 1 rfl) ?_
  refine lv_iload_n X.1.1 X.1.2.1 dX10_carriedByCells_2 rfl (lv_at hl 2 rfl) ?_
  refine cs_X10_carried X hp1 hp2 (kc := 9) rmL_ok rm_c (by decide) hR hS kw_2069 hl.1 dX10_carriedByCells_3 (Nat.le_of_ble_eq_true rfl) hw (fun x2 M1 H locs hw r3 hR hS => ?_)
  exact sa_iret X.1 X.2.2.2.1 X.2.2.2.2 hR hS r3 hw dX10_carriedByCells_6
theorem m_X10_carriedByCells {l : Launch} {G : Gx} {e0 : Nat} {α : Ax} {κ : Nat → Int} {B : Nat} {p1 : Int} {p2 : Int} (hκ : kOK κ) (hp1 : inR p1) (hp2 : inR p2) {M : Mem} {Qm : Int → Mem → Prop} (hw : wp_X10_carriedByCells p1 p2 M Qm) : CI l yX10_carriedByCells (Cond.code yX10_carriedByCells cX10_carriedByCells 3 (some .int)) 9 G e0 α κ B [.ref (α 11 0), .int (Int32.ofInt p1), .int (Int32.ofInt p2)] M Qm :=
  CI.mk hκ (by decide +kernel) rfl (Nat.le_of_ble_eq_true rfl) (lv := [(0, .ref (α 11 0)), (1, .int (Int32.ofInt p1)), (2, .int (Int32.ofInt p2))]) rfl (fun p e s m args below meth c ls X hR hS hl => t_X10_carriedByCells X hp1 hp2 hw _ _ hR hS ls hl)
theorem cs_X10_carriedByCells {cc : ByteArray} {nL : Nat} {own : String} {ret : Option FieldType} {idx pc : Nat} {p1 : Int} {p2 : Int} (X : CX p m c cc nL s args own G B κ meth ret) (hp1 : inR p1) (hp2 : inR p2) {kc : Nat} {R : Room} {cells slots : Nat} (hRr : RmOK R kc) (hcel : cells ≤ R.cells ∧ slots ≤ R.slots) (hk : 9 + 1 ≤ kc) {M : Mem} {H : Heap} {locs : List Loc} (hR : Rp G e0 α κ B M H) (hS : va_S (fun q => B ≤ q) s.heap H locs) (k1 : Cond.methodLink own idx yX10_carriedByCells ∈ gw) {ls : Array Slot} (hml : ls.size = nL) {rest : List Value} (hd : decode cc pc = .ok (.invokevirtual idx, 3)) (hrest : (rest.map fun v => v.category).sum ≤ 8) {Q : State → Prop} {Qm : Int → Mem → Prop} (hw : wp_X10_carriedByCells p1 p2 M Qm) (kk : ∀ (r : Int) (M1 : Mem) (H1 : Heap) (locs1 : List Loc), Qm r M1 → inR r → Rp G e0 α κ B M1 H1 → va_S (fun q => B ≤ q) s.heap H1 locs1 → W p l e R s m args below meth c H1 locs1 cells slots Q (F0 m (pc + 3) ls (.int (Int32.ofInt r) :: rest))) : W p l e R s m args below meth c H locs cells slots Q (F0 m pc ls (.int (Int32.ofInt p2) :: .int (Int32.ofInt p1) :: .ref (α 11 0) :: rest)) :=
  sa_callVI 9 (n := 2) (As := [.int (Int32.ofInt p1), .int (Int32.ofInt p2)]) (rest := rest) X.1 X.2.1 hR hS (m_X10_carriedByCells X.2.2.1 hp1 hp2 hw) k1 kw_2066 kw_2067 kw_104 kw_2068 ⟨rfl, by decide +kernel, by decide +kernel, by decide +kernel⟩ (rm_ok hRr hk (by decide)) (rc_11 X hR (okf X.2.2.1 rfl)) rfl rfl hrest hml hd hcel kk
def wp_X10_hasOthers_144 (p1 : Int) (Qm : Int → Mem → Prop) (y2 : Int) (y3 : Int) (M : Mem) : Prop := ((M 11 0 46) ≤ y2 → (y3 < (M 11 0 54) → (0 ≤ y3 ∧ y3 < 1100) ∧ True) ∧ True) ∧ (y2 < (M 11 0 46) → (0 ≤ y2 ∧ y2 < 1100) ∧ (¬ (M 91 0 y2) = p1 → (y3 < (M 11 0 54) → (0 ≤ y3 ∧ y3 < 1100) ∧ True) ∧ True) ∧ True) ∧ (bit (if (M 11 0 46) ≤ y2 then (if (M 11 0 54) ≤ y3 then (0 : Int) else (if ¬ (M 97 0 y3) = p1 then (0 : Int) else 1)) else (if (M 91 0 y2) = p1 then (1 : Int) else (if (M 11 0 54) ≤ y3 then (0 : Int) else (if ¬ (M 97 0 y3) = p1 then (0 : Int) else 1))))) ∧ Qm (if (M 11 0 46) ≤ y2 then (if (M 11 0 54) ≤ y3 then (0 : Int) else (if ¬ (M 97 0 y3) = p1 then (0 : Int) else 1)) else (if (M 91 0 y2) = p1 then (1 : Int) else (if (M 11 0 54) ≤ y3 then (0 : Int) else (if ¬ (M 97 0 y3) = p1 then (0 : Int) else 1)))) M
def wp_X10_hasOthers_133 (p1 : Int) (Qm : Int → Mem → Prop) (M : Mem) : Prop := Qm 1 M
def wp_X10_hasOthers_52 (p1 : Int) (Qm : Int → Mem → Prop) : Nat → Int → Int → Mem → Prop
  | 0 => fun _ _ _ => False
  | n + 1 => fun y2 y3 M => (((M 11 0 46) ≤ y2 → wp_X10_hasOthers_144 p1 Qm y2 y3 M) ∧ (y2 < (M 11 0 46) → (((M 11 0 54) ≤ y3 → wp_X10_hasOthers_144 p1 Qm y2 y3 M) ∧ (y3 < (M 11 0 54) → (0 ≤ y2 ∧ y2 < 1100) ∧ ((¬ (M 91 0 y2) = p1 → wp_X10_hasOthers_144 p1 Qm y2 y3 M) ∧ ((M 91 0 y2) = p1 → (0 ≤ y3 ∧ y3 < 1100) ∧ ((¬ (M 97 0 y3) = p1 → wp_X10_hasOthers_144 p1 Qm y2 y3 M) ∧ ((M 97 0 y3) = p1 → (0 ≤ y2 ∧ y2 < 1100) ∧ (0 ≤ y3 ∧ y3 < 1100) ∧ ((¬ (M 90 0 y2) = (M 96 0 y3) → wp_X10_hasOthers_133 p1 Qm M) ∧ ((M 90 0 y2) = (M 96 0 y3) → (0 ≤ y2 ∧ y2 < 1100) ∧ (0 ≤ y3 ∧ y3 < 1100) ∧ ((¬ (M 92 0 y2) = (M 98 0 y3) → wp_X10_hasOthers_133 p1 Qm M) ∧ ((M 92 0 y2) = (M 98 0 y3) → (0 ≤ y2 ∧ y2 < 1100) ∧ (0 ≤ y3 ∧ y3 < 1100) ∧ (((M 93 0 y2) = (M 99 0 y3) → (inR (y2 + 1)) ∧ (inR (y3 + 1)) ∧ wp_X10_hasOthers_52 p1 Qm n (y2 + 1) (y3 + 1) M) ∧ (¬ (M 93 0 y2) = (M 99 0 y3) → wp_X10_hasOthers_133 p1 Qm M))))))))))))))
def wp_X10_hasOthers_28 (p1 : Int) (Qm : Int → Mem → Prop) : Nat → Int → Int → Mem → Prop
  | 0 => fun _ _ _ => False
  | n + 1 => fun y2 y3 M => (((M 11 0 54) ≤ y3 → (∃ n46 : Nat, wp_X10_hasOthers_52 p1 Qm n46 y2 y3 M)) ∧ (y3 < (M 11 0 54) → (0 ≤ y3 ∧ y3 < 1100) ∧ ((p1 ≤ (M 97 0 y3) → (∃ n49 : Nat, wp_X10_hasOthers_52 p1 Qm n49 y2 y3 M)) ∧ ((M 97 0 y3) < p1 → (inR (y3 + 1)) ∧ wp_X10_hasOthers_28 p1 Qm n y2 (y3 + 1) M))))
def wp_X10_hasOthers_4 (p1 : Int) (Qm : Int → Mem → Prop) : Nat → Int → Int → Mem → Prop
  | 0 => fun _ _ _ => False
  | n + 1 => fun y2 y3 M => (((M 11 0 46) ≤ y2 → (∃ n51 : Nat, wp_X10_hasOthers_28 p1 Qm n51 y2 y3 M)) ∧ (y2 < (M 11 0 46) → (0 ≤ y2 ∧ y2 < 1100) ∧ ((p1 ≤ (M 91 0 y2) → (∃ n54 : Nat, wp_X10_hasOthers_28 p1 Qm n54 y2 y3 M)) ∧ ((M 91 0 y2) < p1 → (inR (y2 + 1)) ∧ wp_X10_hasOthers_4 p1 Qm n (y2 + 1) y3 M))))
def wp_X10_hasOthers (p1 : Int) (M : Mem) (Qm : Int → Mem → Prop) : Prop := (∃ n56 : Nat, wp_X10_hasOthers_4 p1 Qm n56 0 0 M)
set_option maxHeartbeats 4000000 in
set_option maxRecDepth 100000 in
theorem t_X10_hasOthers_144 {p1 : Int} (X : CX p m c cX10_hasOthers 4 s args RX10 G B κ meth (some .boolean)) (hp1 : inR p1) {Qm : Int → Mem → Prop} : ∀ y2 : Int, ∀ y3 : Int, ∀ M : Mem, wp_X10_hasOthers_144 p1 Qm y2 y3 M → inR y2 → inR y3 → ∀ (H : Heap) (locs : List Loc), Rp G e0 α κ B M H → va_S (fun q => B ≤ q) s.heap H locs → ∀ (ls : Array Slot), lv_has ls 4 [(0, .ref (α 11 0)), (1, .int (Int32.ofInt p1)), (2, .int (Int32.ofInt y2)), (3, .int (Int32.ofInt y3))] → WI p l e 0 s m args below meth c G e0 α κ B Qm H locs 144 ls [] := by
  intro y2 y3 M hw hy2 hy3 H locs hR hS ls hl
  have hw : ((M 11 0 46) ≤ y2 → (y3 < (M 11 0 54) → (0 ≤ y3 ∧ y3 < 1100) ∧ True) ∧ True) ∧ (y2 < (M 11 0 46) → (0 ≤ y2 ∧ y2 < 1100) ∧ (¬ (M 91 0 y2) = p1 → (y3 < (M 11 0 54) → (0 ≤ y3 ∧ y3 < 1100) ∧ True) ∧ True) ∧ True) ∧ (bit (if (M 11 0 46) ≤ y2 then (if (M 11 0 54) ≤ y3 then (0 : Int) else (if ¬ (M 97 0 y3) = p1 then (0 : Int) else 1)) else (if (M 91 0 y2) = p1 then (1 : Int) else (if (M 11 0 54) ≤ y3 then (0 : Int) else (if ¬ (M 97 0 y3) = p1 then (0 : Int) else 1))))) ∧ Qm (if (M 11 0 46) ≤ y2 then (if (M 11 0 54) ≤ y3 then (0 : Int) else (if ¬ (M 97 0 y3) = p1 then (0 : Int) else 1)) else (if (M 91 0 y2) = p1 then (1 : Int) else (if (M 11 0 54) ≤ y3 then (0 : Int) else (if ¬ (M 97 0 y3) = p1 then (0 : Int) else 1)))) M := hw
  refine lv_iload_n X.1.1 X.1.2.1 dX10_hasOthers_144 rfl (lv_at hl 2 rfl) ?_
  refine lv_aload_n X.1.1 X.1.2.1 dX10_hasOthers_145 rfl (lv_at hl 0 rfl) ?_
  refine gt_11_46 X hR (okf X.2.2.1 rfl) kw_1575 dX10_hasOthers_146 ?_
  have r4 := hR.r 11 0 46
  have s21 := hw.1
  have hw := hw.2
  have s22 := hw.1
  have hw := hw.2
  have r23 := inR_ite (c := (M 11 0 46) ≤ y2) (inR_ite (c := (M 11 0 54) ≤ y3) (inR_c (a := 0) rfl) (inR_ite (c := ¬ (M 97 0 y3) = p1) (inR_c (a := 0) rfl) (inR_c (a := 1) rfl))) (inR_ite (c := (M 91 0 y2) = p1) (inR_c (a := 1) rfl) (inR_ite (c := (M 11 0 54) ≤ y3) (inR_c (a := 0) rfl) (inR_ite (c := ¬ (M 97 0 y3) = p1) (inR_c (a := 0) rfl) (inR_c (a := 1) rfl))))
  refine cut_j (A := ∀ v24 : Int, v24 = (if (M 11 0 46) ≤ y2 then (if (M 11 0 54) ≤ y3 then (0 : Int) else (if ¬ (M 97 0 y3) = p1 then (0 : Int) else 1)) else (if (M 91 0 y2) = p1 then (1 : Int) else (if (M 11 0 54) ≤ y3 then (0 : Int) else (if ¬ (M 97 0 y3) = p1 then (0 : Int) else 1)))) → WI p l e 0 s m args below meth c G e0 α κ B Qm H locs 185 ls [.int (Int32.ofInt v24)]) (fun J25 => ?_) ?_
  · refine sa_icmp_ge (tgt := 162) X.1 hy2 r4 dX10_hasOthers_149 (by decide) (fun hc => ?_) (fun hc => ?_)
    · have hw := s21 hc
      refine lv_iload_n X.1.1 X.1.2.1 dX10_hasOthers_162 rfl (lv_at hl 3 rfl) ?_
      refine lv_aload_n X.1.1 X.1.2.1 dX10_hasOthers_163 rfl (lv_at hl 0 rfl) ?_
      refine gt_11_54 X hR (okf X.2.2.1 rfl) kw_1583 dX10_hasOthers_164 ?_
      have s8 := hw.1
      have hw := hw.2
      refine cut_j (A := ∀ v9 : Int, v9 = (if (M 11 0 54) ≤ y3 then (0 : Int) else (if ¬ (M 97 0 y3) = p1 then (0 : Int) else 1)) → WI p l e 0 s m args below meth c G e0 α κ B Qm H locs 185 ls [.int (Int32.ofInt v9)]) (fun J10 => ?_) ?_
      · refine sa_icmp_ge (tgt := 184) X.1 hy3 (hR.r 11 0 54) dX10_hasOthers_167 (by decide) (fun hc => ?_) (fun hc => ?_)
        · skip
          refine sa_const X.1 dX10_hasOthers_184 ?_
          exact J10 (0) (if_pos (c := (M 11 0 54) ≤ y3) hc).symm
        · have hw := s8 hc
          refine lv_aload_n X.1.1 X.1.2.1 dX10_hasOthers_170 rfl (lv_at hl 0 rfl) ?_
          refine gt_11_51 X hR (okf X.2.2.1 rfl) kw_1580 dX10_hasOthers_171 ?_
          refine lv_iload_n X.1.1 X.1.2.1 dX10_hasOthers_174 rfl (lv_at hl 3 rfl) ?_
          have c5 := hw.1
          have hw := hw.2
          refine ra_97 X hR (okf X.2.2.1 rfl) c5 dX10_hasOthers_175 ?_
          refine lv_iload_n X.1.1 X.1.2.1 dX10_hasOthers_176 rfl (lv_at hl 1 rfl) ?_
          refine cut_j (A := ∀ v6 : Int, v6 = (if ¬ (M 97 0 y3) = p1 then (0 : Int) else 1) → WI p l e 0 s m args below meth c G e0 α κ B Qm H locs 185 ls [.int (Int32.ofInt v6)]) (fun J7 => ?_) ?_
          · refine sa_icmp_ne (tgt := 184) X.1 (hR.r 97 0 y3) hp1 dX10_hasOthers_177 (by decide) (fun hc => ?_) (fun hc => ?_)
            · skip
              refine sa_const X.1 dX10_hasOthers_184 ?_
              exact J7 (0) (if_pos (c := ¬ (M 97 0 y3) = p1) hc).symm
            · skip
              refine sa_const X.1 dX10_hasOthers_180 ?_
              refine lv_goto (tgt := 185) X.1.1 X.1.2.1 dX10_hasOthers_181 (by decide) ?_
              exact J7 (1) (if_neg (c := ¬ (M 97 0 y3) = p1) (fun z => z hc)).symm
          intro v6 hv6
          subst hv6
          exact J10 ((if ¬ (M 97 0 y3) = p1 then (0 : Int) else 1)) (if_neg (c := (M 11 0 54) ≤ y3) (Int.not_le.mpr hc)).symm
      intro v9 hv9
      subst hv9
      exact J25 ((if (M 11 0 54) ≤ y3 then (0 : Int) else (if ¬ (M 97 0 y3) = p1 then (0 : Int) else 1))) (if_pos (c := (M 11 0 46) ≤ y2) hc).symm
    · have hw := s22 hc
      refine lv_aload_n X.1.1 X.1.2.1 dX10_hasOthers_152 rfl (lv_at hl 0 rfl) ?_
      refine gt_11_43 X hR (okf X.2.2.1 rfl) kw_1572 dX10_hasOthers_153 ?_
      refine lv_iload_n X.1.1 X.1.2.1 dX10_hasOthers_156 rfl (lv_at hl 2 rfl) ?_
      have c11 := hw.1
      have hw := hw.2
      refine ra_91 X hR (okf X.2.2.1 rfl) c11 dX10_hasOthers_157 ?_
      refine lv_iload_n X.1.1 X.1.2.1 dX10_hasOthers_158 rfl (lv_at hl 1 rfl) ?_
      have s18 := hw.1
      have hw := hw.2
      refine cut_j (A := ∀ v19 : Int, v19 = (if (M 91 0 y2) = p1 then (1 : Int) else (if (M 11 0 54) ≤ y3 then (0 : Int) else (if ¬ (M 97 0 y3) = p1 then (0 : Int) else 1))) → WI p l e 0 s m args below meth c G e0 α κ B Qm H locs 185 ls [.int (Int32.ofInt v19)]) (fun J20 => ?_) ?_
      · refine sa_icmp_eq (tgt := 180) X.1 (hR.r 91 0 y2) hp1 dX10_hasOthers_159 (by decide) (fun hc => ?_) (fun hc => ?_)
        · skip
          refine sa_const X.1 dX10_hasOthers_180 ?_
          refine lv_goto (tgt := 185) X.1.1 X.1.2.1 dX10_hasOthers_181 (by decide) ?_
          exact J20 (1) (if_pos (c := (M 91 0 y2) = p1) hc).symm
        · have hw := s18 hc
          refine lv_iload_n X.1.1 X.1.2.1 dX10_hasOthers_162 rfl (lv_at hl 3 rfl) ?_
          refine lv_aload_n X.1.1 X.1.2.1 dX10_hasOthers_163 rfl (lv_at hl 0 rfl) ?_
          refine gt_11_54 X hR (okf X.2.2.1 rfl) kw_1583 dX10_hasOthers_164 ?_
          have s15 := hw.1
          have hw := hw.2
          refine cut_j (A := ∀ v16 : Int, v16 = (if (M 11 0 54) ≤ y3 then (0 : Int) else (if ¬ (M 97 0 y3) = p1 then (0 : Int) else 1)) → WI p l e 0 s m args below meth c G e0 α κ B Qm H locs 185 ls [.int (Int32.ofInt v16)]) (fun J17 => ?_) ?_
          · refine sa_icmp_ge (tgt := 184) X.1 hy3 (hR.r 11 0 54) dX10_hasOthers_167 (by decide) (fun hc => ?_) (fun hc => ?_)
            · skip
              refine sa_const X.1 dX10_hasOthers_184 ?_
              exact J17 (0) (if_pos (c := (M 11 0 54) ≤ y3) hc).symm
            · have hw := s15 hc
              refine lv_aload_n X.1.1 X.1.2.1 dX10_hasOthers_170 rfl (lv_at hl 0 rfl) ?_
              refine gt_11_51 X hR (okf X.2.2.1 rfl) kw_1580 dX10_hasOthers_171 ?_
              refine lv_iload_n X.1.1 X.1.2.1 dX10_hasOthers_174 rfl (lv_at hl 3 rfl) ?_
              have c12 := hw.1
              have hw := hw.2
              refine ra_97 X hR (okf X.2.2.1 rfl) c12 dX10_hasOthers_175 ?_
              refine lv_iload_n X.1.1 X.1.2.1 dX10_hasOthers_176 rfl (lv_at hl 1 rfl) ?_
              refine cut_j (A := ∀ v13 : Int, v13 = (if ¬ (M 97 0 y3) = p1 then (0 : Int) else 1) → WI p l e 0 s m args below meth c G e0 α κ B Qm H locs 185 ls [.int (Int32.ofInt v13)]) (fun J14 => ?_) ?_
              · refine sa_icmp_ne (tgt := 184) X.1 (hR.r 97 0 y3) hp1 dX10_hasOthers_177 (by decide) (fun hc => ?_) (fun hc => ?_)
                · skip
                  refine sa_const X.1 dX10_hasOthers_184 ?_
                  exact J14 (0) (if_pos (c := ¬ (M 97 0 y3) = p1) hc).symm
                · skip
                  refine sa_const X.1 dX10_hasOthers_180 ?_
                  refine lv_goto (tgt := 185) X.1.1 X.1.2.1 dX10_hasOthers_181 (by decide) ?_
                  exact J14 (1) (if_neg (c := ¬ (M 97 0 y3) = p1) (fun z => z hc)).symm
              intro v13 hv13
              subst hv13
              exact J17 ((if ¬ (M 97 0 y3) = p1 then (0 : Int) else 1)) (if_neg (c := (M 11 0 54) ≤ y3) (Int.not_le.mpr hc)).symm
          intro v16 hv16
          subst hv16
          exact J20 ((if (M 11 0 54) ≤ y3 then (0 : Int) else (if ¬ (M 97 0 y3) = p1 then (0 : Int) else 1))) (if_neg (c := (M 91 0 y2) = p1) hc).symm
      intro v19 hv19
      subst hv19
      exact J25 ((if (M 91 0 y2) = p1 then (1 : Int) else (if (M 11 0 54) ≤ y3 then (0 : Int) else (if ¬ (M 97 0 y3) = p1 then (0 : Int) else 1)))) (if_neg (c := (M 11 0 46) ≤ y2) (Int.not_le.mpr hc)).symm
  intro v24 hv24
  subst hv24
  have c26 := hw.1
  have hw := hw.2
  exact sa_zret X.1 X.2.2.2.1 X.2.2.2.2 hR hS c26 hw dX10_hasOthers_185
set_option maxHeartbeats 4000000 in
set_option maxRecDepth 100000 in
theorem t_X10_hasOthers_133 {p1 : Int} (X : CX p m c cX10_hasOthers 4 s args RX10 G B κ meth (some .boolean)) (hp1 : inR p1) {Qm : Int → Mem → Prop} : ∀ M : Mem, wp_X10_hasOthers_133 p1 Qm M → ∀ (H : Heap) (locs : List Loc), Rp G e0 α κ B M H → va_S (fun q => B ≤ q) s.heap H locs → ∀ (ls : Array Slot), lv_has ls 4 [] → WI p l e 0 s m args below meth c G e0 α κ B Qm H locs 133 ls [] := by
  intro M hw H locs hR hS ls hl
  have hw : Qm 1 M := hw
  refine sa_const X.1 dX10_hasOthers_133 ?_
  exact sa_zret X.1 X.2.2.2.1 X.2.2.2.2 hR hS (Or.inr rfl) hw dX10_hasOthers_134
set_option maxHeartbeats 4000000 in
set_option maxRecDepth 100000 in
theorem t_X10_hasOthers_52 {p1 : Int} (X : CX p m c cX10_hasOthers 4 s args RX10 G B κ meth (some .boolean)) (hp1 : inR p1) {Qm : Int → Mem → Prop} : ∀ n : Nat, ∀ y2 : Int, ∀ y3 : Int, ∀ M : Mem, wp_X10_hasOthers_52 p1 Qm n y2 y3 M → inR y2 → inR y3 → ∀ (H : Heap) (locs : List Loc), Rp G e0 α κ B M H → va_S (fun q => B ≤ q) s.heap H locs → ∀ (ls : Array Slot), lv_has ls 4 [(0, .ref (α 11 0)), (1, .int (Int32.ofInt p1)), (2, .int (Int32.ofInt y2)), (3, .int (Int32.ofInt y3))] → WI p l e 0 s m args below meth c G e0 α κ B Qm H locs 52 ls [] := by
  intro n
  induction n with
  | zero =>
    intro y2 y3 M hw hy2 hy3 H locs hR hS ls hl
    exact hw.elim
  | succ n ih =>
    intro y2 y3 M hw hy2 hy3 H locs hR hS ls hl
    have hw : (((M 11 0 46) ≤ y2 → wp_X10_hasOthers_144 p1 Qm y2 y3 M) ∧ (y2 < (M 11 0 46) → (((M 11 0 54) ≤ y3 → wp_X10_hasOthers_144 p1 Qm y2 y3 M) ∧ (y3 < (M 11 0 54) → (0 ≤ y2 ∧ y2 < 1100) ∧ ((¬ (M 91 0 y2) = p1 → wp_X10_hasOthers_144 p1 Qm y2 y3 M) ∧ ((M 91 0 y2) = p1 → (0 ≤ y3 ∧ y3 < 1100) ∧ ((¬ (M 97 0 y3) = p1 → wp_X10_hasOthers_144 p1 Qm y2 y3 M) ∧ ((M 97 0 y3) = p1 → (0 ≤ y2 ∧ y2 < 1100) ∧ (0 ≤ y3 ∧ y3 < 1100) ∧ ((¬ (M 90 0 y2) = (M 96 0 y3) → wp_X10_hasOthers_133 p1 Qm M) ∧ ((M 90 0 y2) = (M 96 0 y3) → (0 ≤ y2 ∧ y2 < 1100) ∧ (0 ≤ y3 ∧ y3 < 1100) ∧ ((¬ (M 92 0 y2) = (M 98 0 y3) → wp_X10_hasOthers_133 p1 Qm M) ∧ ((M 92 0 y2) = (M 98 0 y3) → (0 ≤ y2 ∧ y2 < 1100) ∧ (0 ≤ y3 ∧ y3 < 1100) ∧ (((M 93 0 y2) = (M 99 0 y3) → (inR (y2 + 1)) ∧ (inR (y3 + 1)) ∧ wp_X10_hasOthers_52 p1 Qm n (y2 + 1) (y3 + 1) M) ∧ (¬ (M 93 0 y2) = (M 99 0 y3) → wp_X10_hasOthers_133 p1 Qm M)))))))))))))) := hw
    refine lv_iload_n X.1.1 X.1.2.1 dX10_hasOthers_52 rfl (lv_at hl 2 rfl) ?_
    refine lv_aload_n X.1.1 X.1.2.1 dX10_hasOthers_53 rfl (lv_at hl 0 rfl) ?_
    refine gt_11_46 X hR (okf X.2.2.1 rfl) kw_1575 dX10_hasOthers_54 ?_
    have r3 := hR.r 11 0 46
    refine sa_icmp_ge (tgt := 144) X.1 hy2 r3 dX10_hasOthers_57 (by decide) (fun hc => ?_) (fun hc => ?_)
    · have hw := hw.1 hc
      exact t_X10_hasOthers_144 X hp1 _ _ _ hw hy2 hy3 _ _ hR hS _ (lv_sub hl [0, 1, 2, 3] rfl)
    · have hw := hw.2 hc
      refine lv_iload_n X.1.1 X.1.2.1 dX10_hasOthers_60 rfl (lv_at hl 3 rfl) ?_
      refine lv_aload_n X.1.1 X.1.2.1 dX10_hasOthers_61 rfl (lv_at hl 0 rfl) ?_
      refine gt_11_54 X hR (okf X.2.2.1 rfl) kw_1583 dX10_hasOthers_62 ?_
      have r27 := hR.r 11 0 54
      refine sa_icmp_ge (tgt := 144) X.1 hy3 r27 dX10_hasOthers_65 (by decide) (fun hc => ?_) (fun hc => ?_)
      · have hw := hw.1 hc
        exact t_X10_hasOthers_144 X hp1 _ _ _ hw hy2 hy3 _ _ hR hS _ (lv_sub hl [0, 1, 2, 3] rfl)
      · have hw := hw.2 hc
        refine lv_aload_n X.1.1 X.1.2.1 dX10_hasOthers_68 rfl (lv_at hl 0 rfl) ?_
        refine gt_11_43 X hR (okf X.2.2.1 rfl) kw_1572 dX10_hasOthers_69 ?_
        refine lv_iload_n X.1.1 X.1.2.1 dX10_hasOthers_72 rfl (lv_at hl 2 rfl) ?_
        have c28 := hw.1
        have hw := hw.2
        refine ra_91 X hR (okf X.2.2.1 rfl) c28 dX10_hasOthers_73 ?_
        have r29 := hR.r 91 0 y2
        refine lv_iload_n X.1.1 X.1.2.1 dX10_hasOthers_74 rfl (lv_at hl 1 rfl) ?_
        refine sa_icmp_ne (tgt := 144) X.1 r29 hp1 dX10_hasOthers_75 (by decide) (fun hc => ?_) (fun hc => ?_)
        · have hw := hw.1 hc
          exact t_X10_hasOthers_144 X hp1 _ _ _ hw hy2 hy3 _ _ hR hS _ (lv_sub hl [0, 1, 2, 3] rfl)
        · have hw := hw.2 hc
          refine lv_aload_n X.1.1 X.1.2.1 dX10_hasOthers_78 rfl (lv_at hl 0 rfl) ?_
          refine gt_11_51 X hR (okf X.2.2.1 rfl) kw_1580 dX10_hasOthers_79 ?_
          refine lv_iload_n X.1.1 X.1.2.1 dX10_hasOthers_82 rfl (lv_at hl 3 rfl) ?_
          have c30 := hw.1
          have hw := hw.2
          refine ra_97 X hR (okf X.2.2.1 rfl) c30 dX10_hasOthers_83 ?_
          have r31 := hR.r 97 0 y3
          refine lv_iload_n X.1.1 X.1.2.1 dX10_hasOthers_84 rfl (lv_at hl 1 rfl) ?_
          refine sa_icmp_ne (tgt := 144) X.1 r31 hp1 dX10_hasOthers_85 (by decide) (fun hc => ?_) (fun hc => ?_)
          · have hw := hw.1 hc
            exact t_X10_hasOthers_144 X hp1 _ _ _ hw hy2 hy3 _ _ hR hS _ (lv_sub hl [0, 1, 2, 3] rfl)
          · have hw := hw.2 hc
            refine lv_aload_n X.1.1 X.1.2.1 dX10_hasOthers_88 rfl (lv_at hl 0 rfl) ?_
            refine gt_11_42 X hR (okf X.2.2.1 rfl) kw_1571 dX10_hasOthers_89 ?_
            refine lv_iload_n X.1.1 X.1.2.1 dX10_hasOthers_92 rfl (lv_at hl 2 rfl) ?_
            have c32 := hw.1
            have hw := hw.2
            refine ra_90 X hR (okf X.2.2.1 rfl) c32 dX10_hasOthers_93 ?_
            have r33 := hR.r 90 0 y2
            refine lv_aload_n X.1.1 X.1.2.1 dX10_hasOthers_94 rfl (lv_at hl 0 rfl) ?_
            refine gt_11_50 X hR (okf X.2.2.1 rfl) kw_1579 dX10_hasOthers_95 ?_
            refine lv_iload_n X.1.1 X.1.2.1 dX10_hasOthers_98 rfl (lv_at hl 3 rfl) ?_
            have c34 := hw.1
            have hw := hw.2
            refine ra_96 X hR (okf X.2.2.1 rfl) c34 dX10_hasOthers_99 ?_
            have r35 := hR.r 96 0 y3
            refine sa_icmp_ne (tgt := 133) X.1 r33 r35 dX10_hasOthers_100 (by decide) (fun hc => ?_) (fun hc => ?_)
            · have hw := hw.1 hc
              exact t_X10_hasOthers_133 X hp1 _ hw _ _ hR hS _ (lv_sub hl [] rfl)
            · have hw := hw.2 hc
              refine lv_aload_n X.1.1 X.1.2.1 dX10_hasOthers_103 rfl (lv_at hl 0 rfl) ?_
              refine gt_11_44 X hR (okf X.2.2.1 rfl) kw_1573 dX10_hasOthers_104 ?_
              refine lv_iload_n X.1.1 X.1.2.1 dX10_hasOthers_107 rfl (lv_at hl 2 rfl) ?_
              have c36 := hw.1
              have hw := hw.2
              refine ra_92 X hR (okf X.2.2.1 rfl) c36 dX10_hasOthers_108 ?_
              have r37 := hR.r 92 0 y2
              refine lv_aload_n X.1.1 X.1.2.1 dX10_hasOthers_109 rfl (lv_at hl 0 rfl) ?_
              refine gt_11_52 X hR (okf X.2.2.1 rfl) kw_1581 dX10_hasOthers_110 ?_
              refine lv_iload_n X.1.1 X.1.2.1 dX10_hasOthers_113 rfl (lv_at hl 3 rfl) ?_
              have c38 := hw.1
              have hw := hw.2
              refine ra_98 X hR (okf X.2.2.1 rfl) c38 dX10_hasOthers_114 ?_
              have r39 := hR.r 98 0 y3
              refine sa_icmp_ne (tgt := 133) X.1 r37 r39 dX10_hasOthers_115 (by decide) (fun hc => ?_) (fun hc => ?_)
              · have hw := hw.1 hc
                exact t_X10_hasOthers_133 X hp1 _ hw _ _ hR hS _ (lv_sub hl [] rfl)
              · have hw := hw.2 hc
                refine lv_aload_n X.1.1 X.1.2.1 dX10_hasOthers_118 rfl (lv_at hl 0 rfl) ?_
                refine gt_11_45 X hR (okf X.2.2.1 rfl) kw_1574 dX10_hasOthers_119 ?_
                refine lv_iload_n X.1.1 X.1.2.1 dX10_hasOthers_122 rfl (lv_at hl 2 rfl) ?_
                have c40 := hw.1
                have hw := hw.2
                refine ra_93 X hR (okf X.2.2.1 rfl) c40 dX10_hasOthers_123 ?_
                have r41 := hR.r 93 0 y2
                refine lv_aload_n X.1.1 X.1.2.1 dX10_hasOthers_124 rfl (lv_at hl 0 rfl) ?_
                refine gt_11_53 X hR (okf X.2.2.1 rfl) kw_1582 dX10_hasOthers_125 ?_
                refine lv_iload_n X.1.1 X.1.2.1 dX10_hasOthers_128 rfl (lv_at hl 3 rfl) ?_
                have c42 := hw.1
                have hw := hw.2
                refine ra_99 X hR (okf X.2.2.1 rfl) c42 dX10_hasOthers_129 ?_
                have r43 := hR.r 99 0 y3
                refine sa_icmp_eq (tgt := 135) X.1 r41 r43 dX10_hasOthers_130 (by decide) (fun hc => ?_) (fun hc => ?_)
                · have hw := hw.1 hc
                  have c44 := hw.1
                  have hw := hw.2
                  refine lv_iinc (v := Int32.ofInt (y2 + 1)) (lv' := [(2, .int (Int32.ofInt (y2 + 1))), (0, .ref (α 11 0)), (1, .int (Int32.ofInt p1)), (3, .int (Int32.ofInt y3))]) X.1.1 X.1.2.1 dX10_hasOthers_135 hl (k := 2) rfl (Int32.ofInt_add _ _).symm (by decide) rfl (fun ls hl => ?_)
                  have c45 := hw.1
                  have hw := hw.2
                  refine lv_iinc (v := Int32.ofInt (y3 + 1)) (lv' := [(3, .int (Int32.ofInt (y3 + 1))), (2, .int (Int32.ofInt (y2 + 1))), (0, .ref (α 11 0)), (1, .int (Int32.ofInt p1))]) X.1.1 X.1.2.1 dX10_hasOthers_138 hl (k := 3) rfl (Int32.ofInt_add _ _).symm (by decide) rfl (fun ls hl => ?_)
                  refine lv_goto (tgt := 52) X.1.1 X.1.2.1 dX10_hasOthers_141 (by decide) ?_
                  exact ih _ _ _ hw c44 c45 _ _ hR hS _ (lv_sub hl [2, 3, 1, 0] rfl)
                · have hw := hw.2 hc
                  exact t_X10_hasOthers_133 X hp1 _ hw _ _ hR hS _ (lv_sub hl [] rfl)
set_option maxHeartbeats 4000000 in
set_option maxRecDepth 100000 in
theorem t_X10_hasOthers_28 {p1 : Int} (X : CX p m c cX10_hasOthers 4 s args RX10 G B κ meth (some .boolean)) (hp1 : inR p1) {Qm : Int → Mem → Prop} : ∀ n : Nat, ∀ y2 : Int, ∀ y3 : Int, ∀ M : Mem, wp_X10_hasOthers_28 p1 Qm n y2 y3 M → inR y2 → inR y3 → ∀ (H : Heap) (locs : List Loc), Rp G e0 α κ B M H → va_S (fun q => B ≤ q) s.heap H locs → ∀ (ls : Array Slot), lv_has ls 4 [(0, .ref (α 11 0)), (1, .int (Int32.ofInt p1)), (2, .int (Int32.ofInt y2)), (3, .int (Int32.ofInt y3))] → WI p l e 0 s m args below meth c G e0 α κ B Qm H locs 28 ls [] := by
  intro n
  induction n with
  | zero =>
    intro y2 y3 M hw hy2 hy3 H locs hR hS ls hl
    exact hw.elim
  | succ n ih =>
    intro y2 y3 M hw hy2 hy3 H locs hR hS ls hl
    have hw : (((M 11 0 54) ≤ y3 → (∃ n46 : Nat, wp_X10_hasOthers_52 p1 Qm n46 y2 y3 M)) ∧ (y3 < (M 11 0 54) → (0 ≤ y3 ∧ y3 < 1100) ∧ ((p1 ≤ (M 97 0 y3) → (∃ n49 : Nat, wp_X10_hasOthers_52 p1 Qm n49 y2 y3 M)) ∧ ((M 97 0 y3) < p1 → (inR (y3 + 1)) ∧ wp_X10_hasOthers_28 p1 Qm n y2 (y3 + 1) M)))) := hw
    refine lv_iload_n X.1.1 X.1.2.1 dX10_hasOthers_28 rfl (lv_at hl 3 rfl) ?_
    refine lv_aload_n X.1.1 X.1.2.1 dX10_hasOthers_29 rfl (lv_at hl 0 rfl) ?_
    refine gt_11_54 X hR (okf X.2.2.1 rfl) kw_1583 dX10_hasOthers_30 ?_
    have r2 := hR.r 11 0 54
    refine sa_icmp_ge (tgt := 52) X.1 hy3 r2 dX10_hasOthers_33 (by decide) (fun hc => ?_) (fun hc => ?_)
    · have hw := hw.1 hc
      obtain ⟨n46, hw⟩ := hw
      exact t_X10_hasOthers_52 X hp1 n46 _ _ _ hw hy2 hy3 _ _ hR hS _ (lv_sub hl [0, 1, 2, 3] rfl)
    · have hw := hw.2 hc
      refine lv_aload_n X.1.1 X.1.2.1 dX10_hasOthers_36 rfl (lv_at hl 0 rfl) ?_
      refine gt_11_51 X hR (okf X.2.2.1 rfl) kw_1580 dX10_hasOthers_37 ?_
      refine lv_iload_n X.1.1 X.1.2.1 dX10_hasOthers_40 rfl (lv_at hl 3 rfl) ?_
      have c47 := hw.1
      have hw := hw.2
      refine ra_97 X hR (okf X.2.2.1 rfl) c47 dX10_hasOthers_41 ?_
      have r48 := hR.r 97 0 y3
      refine lv_iload_n X.1.1 X.1.2.1 dX10_hasOthers_42 rfl (lv_at hl 1 rfl) ?_
      refine sa_icmp_ge (tgt := 52) X.1 r48 hp1 dX10_hasOthers_43 (by decide) (fun hc => ?_) (fun hc => ?_)
      · have hw := hw.1 hc
        obtain ⟨n49, hw⟩ := hw
        exact t_X10_hasOthers_52 X hp1 n49 _ _ _ hw hy2 hy3 _ _ hR hS _ (lv_sub hl [0, 1, 2, 3] rfl)
      · have hw := hw.2 hc
        have c50 := hw.1
        have hw := hw.2
        refine lv_iinc (v := Int32.ofInt (y3 + 1)) (lv' := [(3, .int (Int32.ofInt (y3 + 1))), (0, .ref (α 11 0)), (1, .int (Int32.ofInt p1)), (2, .int (Int32.ofInt y2))]) X.1.1 X.1.2.1 dX10_hasOthers_46 hl (k := 3) rfl (Int32.ofInt_add _ _).symm (by decide) rfl (fun ls hl => ?_)
        refine lv_goto (tgt := 28) X.1.1 X.1.2.1 dX10_hasOthers_49 (by decide) ?_
        exact ih _ _ _ hw hy2 c50 _ _ hR hS _ (lv_sub hl [1, 2, 3, 0] rfl)
set_option maxHeartbeats 4000000 in
set_option maxRecDepth 100000 in
theorem t_X10_hasOthers_4 {p1 : Int} (X : CX p m c cX10_hasOthers 4 s args RX10 G B κ meth (some .boolean)) (hp1 : inR p1) {Qm : Int → Mem → Prop} : ∀ n : Nat, ∀ y2 : Int, ∀ y3 : Int, ∀ M : Mem, wp_X10_hasOthers_4 p1 Qm n y2 y3 M → inR y2 → inR y3 → ∀ (H : Heap) (locs : List Loc), Rp G e0 α κ B M H → va_S (fun q => B ≤ q) s.heap H locs → ∀ (ls : Array Slot), lv_has ls 4 [(0, .ref (α 11 0)), (1, .int (Int32.ofInt p1)), (2, .int (Int32.ofInt y2)), (3, .int (Int32.ofInt y3))] → WI p l e 0 s m args below meth c G e0 α κ B Qm H locs 4 ls [] := by
  intro n
  induction n with
  | zero =>
    intro y2 y3 M hw hy2 hy3 H locs hR hS ls hl
    exact hw.elim
  | succ n ih =>
    intro y2 y3 M hw hy2 hy3 H locs hR hS ls hl
    have hw : (((M 11 0 46) ≤ y2 → (∃ n51 : Nat, wp_X10_hasOthers_28 p1 Qm n51 y2 y3 M)) ∧ (y2 < (M 11 0 46) → (0 ≤ y2 ∧ y2 < 1100) ∧ ((p1 ≤ (M 91 0 y2) → (∃ n54 : Nat, wp_X10_hasOthers_28 p1 Qm n54 y2 y3 M)) ∧ ((M 91 0 y2) < p1 → (inR (y2 + 1)) ∧ wp_X10_hasOthers_4 p1 Qm n (y2 + 1) y3 M)))) := hw
    refine lv_iload_n X.1.1 X.1.2.1 dX10_hasOthers_4 rfl (lv_at hl 2 rfl) ?_
    refine lv_aload_n X.1.1 X.1.2.1 dX10_hasOthers_5 rfl (lv_at hl 0 rfl) ?_
    refine gt_11_46 X hR (okf X.2.2.1 rfl) kw_1575 dX10_hasOthers_6 ?_
    have r1 := hR.r 11 0 46
    refine sa_icmp_ge (tgt := 28) X.1 hy2 r1 dX10_hasOthers_9 (by decide) (fun hc => ?_) (fun hc => ?_)
    · have hw := hw.1 hc
      obtain ⟨n51, hw⟩ := hw
      exact t_X10_hasOthers_28 X hp1 n51 _ _ _ hw hy2 hy3 _ _ hR hS _ (lv_sub hl [0, 1, 2, 3] rfl)
    · have hw := hw.2 hc
      refine lv_aload_n X.1.1 X.1.2.1 dX10_hasOthers_12 rfl (lv_at hl 0 rfl) ?_
      refine gt_11_43 X hR (okf X.2.2.1 rfl) kw_1572 dX10_hasOthers_13 ?_
      refine lv_iload_n X.1.1 X.1.2.1 dX10_hasOthers_16 rfl (lv_at hl 2 rfl) ?_
      have c52 := hw.1
      have hw := hw.2
      refine ra_91 X hR (okf X.2.2.1 rfl) c52 dX10_hasOthers_17 ?_
      have r53 := hR.r 91 0 y2
      refine lv_iload_n X.1.1 X.1.2.1 dX10_hasOthers_18 rfl (lv_at hl 1 rfl) ?_
      refine sa_icmp_ge (tgt := 28) X.1 r53 hp1 dX10_hasOthers_19 (by decide) (fun hc => ?_) (fun hc => ?_)
      · have hw := hw.1 hc
        obtain ⟨n54, hw⟩ := hw
        exact t_X10_hasOthers_28 X hp1 n54 _ _ _ hw hy2 hy3 _ _ hR hS _ (lv_sub hl [0, 1, 2, 3] rfl)
      · have hw := hw.2 hc
        have c55 := hw.1
        have hw := hw.2
        refine lv_iinc (v := Int32.ofInt (y2 + 1)) (lv' := [(2, .int (Int32.ofInt (y2 + 1))), (0, .ref (α 11 0)), (1, .int (Int32.ofInt p1)), (3, .int (Int32.ofInt y3))]) X.1.1 X.1.2.1 dX10_hasOthers_22 hl (k := 2) rfl (Int32.ofInt_add _ _).symm (by decide) rfl (fun ls hl => ?_)
        refine lv_goto (tgt := 4) X.1.1 X.1.2.1 dX10_hasOthers_25 (by decide) ?_
        exact ih _ _ _ hw c55 hy3 _ _ hR hS _ (lv_sub hl [1, 2, 0, 3] rfl)
set_option maxHeartbeats 4000000 in
set_option maxRecDepth 100000 in
theorem t_X10_hasOthers {p1 : Int} (X : CX p m c cX10_hasOthers 4 s args RX10 G B κ meth (some .boolean)) (hp1 : inR p1) {M : Mem} {Qm : Int → Mem → Prop} (hw : wp_X10_hasOthers p1 M Qm) (H : Heap) (locs : List Loc) (hR : Rp G e0 α κ B M H) (hS : va_S (fun q => B ≤ q) s.heap H locs) (ls : Array Slot) (hl : lv_has ls 4 [(0, .ref (α 11 0)), (1, .int (Int32.ofInt p1))]) : WI p l e 0 s m args below meth c G e0 α κ B Qm H locs 0 ls [] := by
  have hw : (∃ n56 : Nat, wp_X10_hasOthers_4 p1 Qm n56 0 0 M) := hw
  refine sa_const X.1 dX10_hasOthers_0 ?_
  refine lv_istore_n (lv' := [(2, .int (Int32.ofInt 0)), (0, .ref (α 11 0)), (1, .int (Int32.ofInt p1))]) X.1.1 X.1.2.1 dX10_hasOthers_1 rfl hl (by decide) rfl (fun ls hl => ?_)
  refine sa_const X.1 dX10_hasOthers_2 ?_
  refine lv_istore_n (lv' := [(3, .int (Int32.ofInt 0)), (2, .int (Int32.ofInt 0)), (0, .ref (α 11 0)), (1, .int (Int32.ofInt p1))]) X.1.1 X.1.2.1 dX10_hasOthers_3 rfl hl (by decide) rfl (fun ls hl => ?_)
  obtain ⟨n56, hw⟩ := hw
  exact t_X10_hasOthers_4 X hp1 n56 _ _ _ hw (inR_c (a := 0) rfl) (inR_c (a := 0) rfl) _ _ hR hS _ (lv_sub hl [2, 3, 1, 0] rfl)
theorem m_X10_hasOthers {l : Launch} {G : Gx} {e0 : Nat} {α : Ax} {κ : Nat → Int} {B : Nat} {p1 : Int} (hκ : kOK κ) (hp1 : inR p1) {M : Mem} {Qm : Int → Mem → Prop} (hw : wp_X10_hasOthers p1 M Qm) : CI l yX10_hasOthers (Cond.code yX10_hasOthers cX10_hasOthers 4 (some .boolean)) 0 G e0 α κ B [.ref (α 11 0), .int (Int32.ofInt p1)] M Qm :=
  CI.mk hκ (by decide +kernel) rfl (Nat.le_of_ble_eq_true rfl) (lv := [(0, .ref (α 11 0)), (1, .int (Int32.ofInt p1))]) rfl (fun p e s m args below meth c ls X hR hS hl => t_X10_hasOthers X hp1 hw _ _ hR hS ls hl)
theorem cs_X10_hasOthers {cc : ByteArray} {nL : Nat} {own : String} {ret : Option FieldType} {idx pc : Nat} {p1 : Int} (X : CX p m c cc nL s args own G B κ meth ret) (hp1 : inR p1) {kc : Nat} {R : Room} {cells slots : Nat} (hRr : RmOK R kc) (hcel : cells ≤ R.cells ∧ slots ≤ R.slots) (hk : 0 + 1 ≤ kc) {M : Mem} {H : Heap} {locs : List Loc} (hR : Rp G e0 α κ B M H) (hS : va_S (fun q => B ≤ q) s.heap H locs) (k1 : Cond.methodLink own idx yX10_hasOthers ∈ gw) {ls : Array Slot} (hml : ls.size = nL) {rest : List Value} (hd : decode cc pc = .ok (.invokevirtual idx, 3)) (hrest : (rest.map fun v => v.category).sum ≤ 8) {Q : State → Prop} {Qm : Int → Mem → Prop} (hw : wp_X10_hasOthers p1 M Qm) (kk : ∀ (r : Int) (M1 : Mem) (H1 : Heap) (locs1 : List Loc), Qm r M1 → inR r → Rp G e0 α κ B M1 H1 → va_S (fun q => B ≤ q) s.heap H1 locs1 → W p l e R s m args below meth c H1 locs1 cells slots Q (F0 m (pc + 3) ls (.int (Int32.ofInt r) :: rest))) : W p l e R s m args below meth c H locs cells slots Q (F0 m pc ls (.int (Int32.ofInt p1) :: .ref (α 11 0) :: rest)) :=
  sa_callVI 0 (n := 1) (As := [.int (Int32.ofInt p1)]) (rest := rest) X.1 X.2.1 hR hS (m_X10_hasOthers X.2.2.1 hp1 hw) k1 kw_2080 kw_91 kw_104 kw_2081 ⟨rfl, by decide +kernel, by decide +kernel, by decide +kernel⟩ (rm_ok hRr hk (by decide)) (rc_11 X hR (okf X.2.2.1 rfl)) rfl rfl hrest hml hd hcel kk
def wp_X10_isOther_142 (p1 : Int) (Qm : Int → Mem → Prop) (K31 : Int → Int → Mem → Prop) (y3 : Int) (M : Mem) : Prop := (inR (y3 + 1)) ∧ K31 1 (y3 + 1) M
def wp_X10_isOther_146 (p1 : Int) (Qm : Int → Mem → Prop) (K31 : Int → Int → Mem → Prop) (y3 : Int) (M : Mem) : Prop := (inR (y3 + 1)) ∧ K31 0 (y3 + 1) M
def wp_X10_isOther_31 (p1 : Int) (Qm : Int → Mem → Prop) : Nat → Int → Int → Mem → Prop
  | 0 => fun _ _ _ => False
  | n + 1 => fun y2 y3 M => (((M 11 0 4) ≤ y3 → (bit y2) ∧ Qm y2 M) ∧ (y3 < (M 11 0 4) → (0 ≤ y3 ∧ y3 < 6) ∧ (¬ (M 58 0 y3) = 0 → (0 ≤ y3 ∧ y3 < 6) ∧ True) ∧ (y2 = 0 → (0 ≤ y3 ∧ y3 < 6) ∧ True) ∧ ((¬ (if ¬ y2 = 0 then (1 : Int) else (if (if (M 58 0 y3) = 0 then (0 : Int) else (if ¬ (M 59 0 y3) = 0 then (0 : Int) else 1)) = (M 102 0 y3) then (0 : Int) else 1)) = 0 → wp_X10_isOther_142 p1 Qm (wp_X10_isOther_31 p1 Qm n) y3 M) ∧ ((if ¬ y2 = 0 then (1 : Int) else (if (if (M 58 0 y3) = 0 then (0 : Int) else (if ¬ (M 59 0 y3) = 0 then (0 : Int) else 1)) = (M 102 0 y3) then (0 : Int) else 1)) = 0 → (((if (M 58 0 y3) = 0 then (0 : Int) else (if ¬ (M 59 0 y3) = 0 then (0 : Int) else 1)) = 0 → wp_X10_isOther_146 p1 Qm (wp_X10_isOther_31 p1 Qm n) y3 M) ∧ (¬ (if (M 58 0 y3) = 0 then (0 : Int) else (if ¬ (M 59 0 y3) = 0 then (0 : Int) else 1)) = 0 → wp_X10_carries p1 y3 M fun (x33 : Int) (M32 : Mem) => (inR (6 * p1)) ∧ (inR ((6 * p1) + y3)) ∧ (0 ≤ ((6 * p1) + y3) ∧ ((6 * p1) + y3) < 6000) ∧ ((¬ x33 = (M32 101 0 ((6 * p1) + y3)) → wp_X10_isOther_142 p1 Qm (wp_X10_isOther_31 p1 Qm n) y3 M32) ∧ (x33 = (M32 101 0 ((6 * p1) + y3)) → ((p1 ≤ 0 → wp_X10_isOther_146 p1 Qm (wp_X10_isOther_31 p1 Qm n) y3 M32) ∧ (0 < p1 → (inR (p1 - 1)) ∧ wp_X10_carries (p1 - 1) y3 M32 fun (x41 : Int) (M40 : Mem) => (inR (p1 - 1)) ∧ (inR (6 * (p1 - 1))) ∧ (inR ((6 * (p1 - 1)) + y3)) ∧ (0 ≤ ((6 * (p1 - 1)) + y3) ∧ ((6 * (p1 - 1)) + y3) < 6000) ∧ (inR (y3 + 1)) ∧ wp_X10_isOther_31 p1 Qm n (if x41 = (M40 101 0 ((6 * (p1 - 1)) + y3)) then (0 : Int) else 1) (y3 + 1) M40))))))))))
def wp_X10_isOther (p1 : Int) (M : Mem) (Qm : Int → Mem → Prop) : Prop := wp_X10_hasOthers p1 M fun (x2 : Int) (M1 : Mem) => (x2 = 0 → (0 ≤ p1 ∧ p1 < 1000) ∧ (0 ≤ p1 ∧ p1 < 1000) ∧ True) ∧ (∃ n52 : Nat, wp_X10_isOther_31 p1 Qm n52 (if ¬ x2 = 0 then (1 : Int) else (if (M1 94 0 p1) = (M1 100 0 p1) then (0 : Int) else 1)) 0 M1)
set_option maxHeartbeats 4000000 in
set_option maxRecDepth 100000 in
theorem t_X10_isOther_142 {p1 : Int} (X : CX p m c cX10_isOther 5 s args RX10 G B κ meth (some .boolean)) (hp1 : inR p1) {Qm : Int → Mem → Prop} {K31 : Int → Int → Mem → Prop} (hK31 : ∀ y2 : Int, ∀ y3 : Int, ∀ M : Mem, K31 y2 y3 M → inR y2 → inR y3 → ∀ (H : Heap) (locs : List Loc), Rp G e0 α κ B M H → va_S (fun q => B ≤ q) s.heap H locs → ∀ (ls : Array Slot), lv_has ls 5 [(0, .ref (α 11 0)), (1, .int (Int32.ofInt p1)), (2, .int (Int32.ofInt y2)), (3, .int (Int32.ofInt y3))] → WI p l e 3 s m args below meth c G e0 α κ B Qm H locs 31 ls []) : ∀ y3 : Int, ∀ M : Mem, wp_X10_isOther_142 p1 Qm K31 y3 M → inR y3 → ∀ (H : Heap) (locs : List Loc), Rp G e0 α κ B M H → va_S (fun q => B ≤ q) s.heap H locs → ∀ (ls : Array Slot), lv_has ls 5 [(0, .ref (α 11 0)), (1, .int (Int32.ofInt p1)), (3, .int (Int32.ofInt y3))] → WI p l e 3 s m args below meth c G e0 α κ B Qm H locs 142 ls [] := by
  intro y3 M hw hy3 H locs hR hS ls hl
  have hw : (inR (y3 + 1)) ∧ K31 1 (y3 + 1) M := hw
  refine sa_const X.1 dX10_isOther_142 ?_
  refine lv_goto (tgt := 147) X.1.1 X.1.2.1 dX10_isOther_143 (by decide) ?_
  refine lv_istore_n (lv' := [(2, .int (Int32.ofInt 1)), (0, .ref (α 11 0)), (1, .int (Int32.ofInt p1)), (3, .int (Int32.ofInt y3))]) X.1.1 X.1.2.1 dX10_isOther_147 rfl hl (by decide) rfl (fun ls hl => ?_)
  have c30 := hw.1
  have hw := hw.2
  refine lv_iinc (v := Int32.ofInt (y3 + 1)) (lv' := [(3, .int (Int32.ofInt (y3 + 1))), (2, .int (Int32.ofInt 1)), (0, .ref (α 11 0)), (1, .int (Int32.ofInt p1))]) X.1.1 X.1.2.1 dX10_isOther_148 hl (k := 3) rfl (Int32.ofInt_add _ _).symm (by decide) rfl (fun ls hl => ?_)
  refine lv_goto (tgt := 31) X.1.1 X.1.2.1 dX10_isOther_151 (by decide) ?_
  exact hK31 _ _ _ hw (inR_c (a := 1) rfl) c30 _ _ hR hS _ (lv_sub hl [2, 3, 1, 0] rfl)
set_option maxHeartbeats 4000000 in
set_option maxRecDepth 100000 in
theorem t_X10_isOther_146 {p1 : Int} (X : CX p m c cX10_isOther 5 s args RX10 G B κ meth (some .boolean)) (hp1 : inR p1) {Qm : Int → Mem → Prop} {K31 : Int → Int → Mem → Prop} (hK31 : ∀ y2 : Int, ∀ y3 : Int, ∀ M : Mem, K31 y2 y3 M → inR y2 → inR y3 → ∀ (H : Heap) (locs : List Loc), Rp G e0 α κ B M H → va_S (fun q => B ≤ q) s.heap H locs → ∀ (ls : Array Slot), lv_has ls 5 [(0, .ref (α 11 0)), (1, .int (Int32.ofInt p1)), (2, .int (Int32.ofInt y2)), (3, .int (Int32.ofInt y3))] → WI p l e 3 s m args below meth c G e0 α κ B Qm H locs 31 ls []) : ∀ y3 : Int, ∀ M : Mem, wp_X10_isOther_146 p1 Qm K31 y3 M → inR y3 → ∀ (H : Heap) (locs : List Loc), Rp G e0 α κ B M H → va_S (fun q => B ≤ q) s.heap H locs → ∀ (ls : Array Slot), lv_has ls 5 [(0, .ref (α 11 0)), (1, .int (Int32.ofInt p1)), (3, .int (Int32.ofInt y3))] → WI p l e 3 s m args below meth c G e0 α κ B Qm H locs 146 ls [] := by
  intro y3 M hw hy3 H locs hR hS ls hl
  have hw : (inR (y3 + 1)) ∧ K31 0 (y3 + 1) M := hw
  refine sa_const X.1 dX10_isOther_146 ?_
  refine lv_istore_n (lv' := [(2, .int (Int32.ofInt 0)), (0, .ref (α 11 0)), (1, .int (Int32.ofInt p1)), (3, .int (Int32.ofInt y3))]) X.1.1 X.1.2.1 dX10_isOther_147 rfl hl (by decide) rfl (fun ls hl => ?_)
  have c31 := hw.1
  have hw := hw.2
  refine lv_iinc (v := Int32.ofInt (y3 + 1)) (lv' := [(3, .int (Int32.ofInt (y3 + 1))), (2, .int (Int32.ofInt 0)), (0, .ref (α 11 0)), (1, .int (Int32.ofInt p1))]) X.1.1 X.1.2.1 dX10_isOther_148 hl (k := 3) rfl (Int32.ofInt_add _ _).symm (by decide) rfl (fun ls hl => ?_)
  refine lv_goto (tgt := 31) X.1.1 X.1.2.1 dX10_isOther_151 (by decide) ?_
  exact hK31 _ _ _ hw (inR_c (a := 0) rfl) c31 _ _ hR hS _ (lv_sub hl [2, 3, 1, 0] rfl)
set_option maxHeartbeats 4000000 in
set_option maxRecDepth 100000 in
theorem t_X10_isOther_31 {p1 : Int} (X : CX p m c cX10_isOther 5 s args RX10 G B κ meth (some .boolean)) (hp1 : inR p1) {Qm : Int → Mem → Prop} : ∀ n : Nat, ∀ y2 : Int, ∀ y3 : Int, ∀ M : Mem, wp_X10_isOther_31 p1 Qm n y2 y3 M → inR y2 → inR y3 → ∀ (H : Heap) (locs : List Loc), Rp G e0 α κ B M H → va_S (fun q => B ≤ q) s.heap H locs → ∀ (ls : Array Slot), lv_has ls 5 [(0, .ref (α 11 0)), (1, .int (Int32.ofInt p1)), (2, .int (Int32.ofInt y2)), (3, .int (Int32.ofInt y3))] → WI p l e 3 s m args below meth c G e0 α κ B Qm H locs 31 ls [] := by
  intro n
  induction n with
  | zero =>
    intro y2 y3 M hw hy2 hy3 H locs hR hS ls hl
    exact hw.elim
  | succ n ih =>
    intro y2 y3 M hw hy2 hy3 H locs hR hS ls hl
    have hw : (((M 11 0 4) ≤ y3 → (bit y2) ∧ Qm y2 M) ∧ (y3 < (M 11 0 4) → (0 ≤ y3 ∧ y3 < 6) ∧ (¬ (M 58 0 y3) = 0 → (0 ≤ y3 ∧ y3 < 6) ∧ True) ∧ (y2 = 0 → (0 ≤ y3 ∧ y3 < 6) ∧ True) ∧ ((¬ (if ¬ y2 = 0 then (1 : Int) else (if (if (M 58 0 y3) = 0 then (0 : Int) else (if ¬ (M 59 0 y3) = 0 then (0 : Int) else 1)) = (M 102 0 y3) then (0 : Int) else 1)) = 0 → wp_X10_isOther_142 p1 Qm (wp_X10_isOther_31 p1 Qm n) y3 M) ∧ ((if ¬ y2 = 0 then (1 : Int) else (if (if (M 58 0 y3) = 0 then (0 : Int) else (if ¬ (M 59 0 y3) = 0 then (0 : Int) else 1)) = (M 102 0 y3) then (0 : Int) else 1)) = 0 → (((if (M 58 0 y3) = 0 then (0 : Int) else (if ¬ (M 59 0 y3) = 0 then (0 : Int) else 1)) = 0 → wp_X10_isOther_146 p1 Qm (wp_X10_isOther_31 p1 Qm n) y3 M) ∧ (¬ (if (M 58 0 y3) = 0 then (0 : Int) else (if ¬ (M 59 0 y3) = 0 then (0 : Int) else 1)) = 0 → wp_X10_carries p1 y3 M fun (x33 : Int) (M32 : Mem) => (inR (6 * p1)) ∧ (inR ((6 * p1) + y3)) ∧ (0 ≤ ((6 * p1) + y3) ∧ ((6 * p1) + y3) < 6000) ∧ ((¬ x33 = (M32 101 0 ((6 * p1) + y3)) → wp_X10_isOther_142 p1 Qm (wp_X10_isOther_31 p1 Qm n) y3 M32) ∧ (x33 = (M32 101 0 ((6 * p1) + y3)) → ((p1 ≤ 0 → wp_X10_isOther_146 p1 Qm (wp_X10_isOther_31 p1 Qm n) y3 M32) ∧ (0 < p1 → (inR (p1 - 1)) ∧ wp_X10_carries (p1 - 1) y3 M32 fun (x41 : Int) (M40 : Mem) => (inR (p1 - 1)) ∧ (inR (6 * (p1 - 1))) ∧ (inR ((6 * (p1 - 1)) + y3)) ∧ (0 ≤ ((6 * (p1 - 1)) + y3) ∧ ((6 * (p1 - 1)) + y3) < 6000) ∧ (inR (y3 + 1)) ∧ wp_X10_isOther_31 p1 Qm n (if x41 = (M40 101 0 ((6 * (p1 - 1)) + y3)) then (0 : Int) else 1) (y3 + 1) M40)))))))))) := hw
    refine lv_iload_n X.1.1 X.1.2.1 dX10_isOther_31 rfl (lv_at hl 3 rfl) ?_
    refine lv_aload_n X.1.1 X.1.2.1 dX10_isOther_32 rfl (lv_at hl 0 rfl) ?_
    refine gt_11_4 X hR (okf X.2.2.1 rfl) kw_1533 dX10_isOther_33 ?_
    have r12 := hR.r 11 0 4
    refine sa_icmp_ge (tgt := 154) X.1 hy3 r12 dX10_isOther_36 (by decide) (fun hc => ?_) (fun hc => ?_)
    · have hw := hw.1 hc
      refine lv_iload_n X.1.1 X.1.2.1 dX10_isOther_154 rfl (lv_at hl 2 rfl) ?_
      have c13 := hw.1
      have hw := hw.2
      exact sa_zret X.1 X.2.2.2.1 X.2.2.2.2 hR hS c13 hw dX10_isOther_155
    · have hw := hw.2 hc
      refine lv_aload_n X.1.1 X.1.2.1 dX10_isOther_39 rfl (lv_at hl 0 rfl) ?_
      refine gt_11_2 X hR (okf X.2.2.1 rfl) kw_1531 dX10_isOther_40 ?_
      refine lv_iload_n X.1.1 X.1.2.1 dX10_isOther_43 rfl (lv_at hl 3 rfl) ?_
      have c14 := hw.1
      have hw := hw.2
      refine ra_58 X hR (okf X.2.2.1 rfl) c14 dX10_isOther_44 ?_
      have r15 := hR.r 58 0 y3
      have s19 := hw.1
      have hw := hw.2
      have r20 := inR_ite (c := (M 58 0 y3) = 0) (inR_c (a := 0) rfl) (inR_ite (c := ¬ (M 59 0 y3) = 0) (inR_c (a := 0) rfl) (inR_c (a := 1) rfl))
      refine cut_j (A := ∀ v21 : Int, v21 = (if (M 58 0 y3) = 0 then (0 : Int) else (if ¬ (M 59 0 y3) = 0 then (0 : Int) else 1)) → WI p l e 3 s m args below meth c G e0 α κ B Qm H locs 62 ls [.int (Int32.ofInt v21)]) (fun J22 => ?_) ?_
      · refine sa_if_eq (tgt := 61) X.1 r15 dX10_isOther_45 (by decide) (fun hc => ?_) (fun hc => ?_)
        · skip
          refine sa_const X.1 dX10_isOther_61 ?_
          exact J22 (0) (if_pos (c := (M 58 0 y3) = 0) hc).symm
        · have hw := s19 hc
          refine lv_aload_n X.1.1 X.1.2.1 dX10_isOther_48 rfl (lv_at hl 0 rfl) ?_
          refine gt_11_3 X hR (okf X.2.2.1 rfl) kw_1532 dX10_isOther_49 ?_
          refine lv_iload_n X.1.1 X.1.2.1 dX10_isOther_52 rfl (lv_at hl 3 rfl) ?_
          have c16 := hw.1
          have hw := hw.2
          refine ra_59 X hR (okf X.2.2.1 rfl) c16 dX10_isOther_53 ?_
          refine cut_j (A := ∀ v17 : Int, v17 = (if ¬ (M 59 0 y3) = 0 then (0 : Int) else 1) → WI p l e 3 s m args below meth c G e0 α κ B Qm H locs 62 ls [.int (Int32.ofInt v17)]) (fun J18 => ?_) ?_
          · refine sa_if_ne (tgt := 61) X.1 (hR.r 59 0 y3) dX10_isOther_54 (by decide) (fun hc => ?_) (fun hc => ?_)
            · skip
              refine sa_const X.1 dX10_isOther_61 ?_
              exact J18 (0) (if_pos (c := ¬ (M 59 0 y3) = 0) hc).symm
            · skip
              refine sa_const X.1 dX10_isOther_57 ?_
              refine lv_goto (tgt := 62) X.1.1 X.1.2.1 dX10_isOther_58 (by decide) ?_
              exact J18 (1) (if_neg (c := ¬ (M 59 0 y3) = 0) (fun z => z hc)).symm
          intro v17 hv17
          subst hv17
          exact J22 ((if ¬ (M 59 0 y3) = 0 then (0 : Int) else 1)) (if_neg (c := (M 58 0 y3) = 0) hc).symm
      intro v21 hv21
      subst hv21
      refine lv_istore (lv' := [(4, .int (Int32.ofInt (if (M 58 0 y3) = 0 then (0 : Int) else (if ¬ (M 59 0 y3) = 0 then (0 : Int) else 1)))), (0, .ref (α 11 0)), (1, .int (Int32.ofInt p1)), (2, .int (Int32.ofInt y2)), (3, .int (Int32.ofInt y3))]) X.1.1 X.1.2.1 dX10_isOther_62 hl (by decide) rfl (fun ls hl => ?_)
      refine lv_iload_n X.1.1 X.1.2.1 dX10_isOther_64 rfl (lv_at hl 3 rfl) ?_
      have s26 := hw.1
      have hw := hw.2
      have r27 := inR_ite (c := ¬ y2 = 0) (inR_c (a := 1) rfl) (inR_ite (c := (if (M 58 0 y3) = 0 then (0 : Int) else (if ¬ (M 59 0 y3) = 0 then (0 : Int) else 1)) = (M 102 0 y3)) (inR_c (a := 0) rfl) (inR_c (a := 1) rfl))
      refine cut_j (A := ∀ v28 : Int, v28 = (if ¬ y2 = 0 then (1 : Int) else (if (if (M 58 0 y3) = 0 then (0 : Int) else (if ¬ (M 59 0 y3) = 0 then (0 : Int) else 1)) = (M 102 0 y3) then (0 : Int) else 1)) → WI p l e 3 s m args below meth c G e0 α κ B Qm H locs 84 ls [.int (Int32.ofInt v28)]) (fun J29 => ?_) ?_
      · refine sa_if_ne (tgt := 79) X.1 hy2 dX10_isOther_65 (by decide) (fun hc => ?_) (fun hc => ?_)
        · skip
          refine sa_const X.1 dX10_isOther_79 ?_
          refine lv_goto (tgt := 84) X.1.1 X.1.2.1 dX10_isOther_80 (by decide) ?_
          exact J29 (1) (if_pos (c := ¬ y2 = 0) hc).symm
        · have hw := s26 hc
          refine lv_iload X.1.1 X.1.2.1 dX10_isOther_68 (lv_at hl 0 rfl) ?_
          refine lv_aload_n X.1.1 X.1.2.1 dX10_isOther_70 rfl (lv_at hl 1 rfl) ?_
          refine gt_11_57 X hR (okf X.2.2.1 rfl) kw_1586 dX10_isOther_71 ?_
          refine lv_iload_n X.1.1 X.1.2.1 dX10_isOther_74 rfl (lv_at hl 4 rfl) ?_
          have c23 := hw.1
          have hw := hw.2
          refine ra_102 X hR (okf X.2.2.1 rfl) c23 dX10_isOther_75 ?_
          refine cut_j (A := ∀ v24 : Int, v24 = (if (if (M 58 0 y3) = 0 then (0 : Int) else (if ¬ (M 59 0 y3) = 0 then (0 : Int) else 1)) = (M 102 0 y3) then (0 : Int) else 1) → WI p l e 3 s m args below meth c G e0 α κ B Qm H locs 84 ls [.int (Int32.ofInt v24)]) (fun J25 => ?_) ?_
          · refine sa_icmp_eq (tgt := 83) X.1 r20 (hR.r 102 0 y3) dX10_isOther_76 (by decide) (fun hc => ?_) (fun hc => ?_)
            · skip
              refine sa_const X.1 dX10_isOther_83 ?_
              exact J25 (0) (if_pos (c := (if (M 58 0 y3) = 0 then (0 : Int) else (if ¬ (M 59 0 y3) = 0 then (0 : Int) else 1)) = (M 102 0 y3)) hc).symm
            · skip
              refine sa_const X.1 dX10_isOther_79 ?_
              refine lv_goto (tgt := 84) X.1.1 X.1.2.1 dX10_isOther_80 (by decide) ?_
              exact J25 (1) (if_neg (c := (if (M 58 0 y3) = 0 then (0 : Int) else (if ¬ (M 59 0 y3) = 0 then (0 : Int) else 1)) = (M 102 0 y3)) hc).symm
          intro v24 hv24
          subst hv24
          exact J29 ((if (if (M 58 0 y3) = 0 then (0 : Int) else (if ¬ (M 59 0 y3) = 0 then (0 : Int) else 1)) = (M 102 0 y3) then (0 : Int) else 1)) (if_neg (c := ¬ y2 = 0) (fun z => z hc)).symm
      intro v28 hv28
      subst hv28
      refine lv_istore_n (lv' := [(2, .int (Int32.ofInt (if ¬ y2 = 0 then (1 : Int) else (if (if (M 58 0 y3) = 0 then (0 : Int) else (if ¬ (M 59 0 y3) = 0 then (0 : Int) else 1)) = (M 102 0 y3) then (0 : Int) else 1)))), (4, .int (Int32.ofInt (if (M 58 0 y3) = 0 then (0 : Int) else (if ¬ (M 59 0 y3) = 0 then (0 : Int) else 1)))), (0, .ref (α 11 0)), (1, .int (Int32.ofInt p1)), (3, .int (Int32.ofInt y3))]) X.1.1 X.1.2.1 dX10_isOther_84 rfl hl (by decide) rfl (fun ls hl => ?_)
      refine lv_iload_n X.1.1 X.1.2.1 dX10_isOther_85 rfl (lv_at hl 0 rfl) ?_
      refine sa_if_ne (tgt := 142) X.1 r27 dX10_isOther_86 (by decide) (fun hc => ?_) (fun hc => ?_)
      · have hw := hw.1 hc
        exact t_X10_isOther_142 X hp1 ih _ _ hw hy3 _ _ hR hS _ (lv_sub hl [2, 3, 4] rfl)
      · have hw := hw.2 hc
        refine lv_iload X.1.1 X.1.2.1 dX10_isOther_89 (lv_at hl 1 rfl) ?_
        refine sa_if_eq (tgt := 146) X.1 r20 dX10_isOther_91 (by decide) (fun hc => ?_) (fun hc => ?_)
        · have hw := hw.1 hc
          exact t_X10_isOther_146 X hp1 ih _ _ hw hy3 _ _ hR hS _ (lv_sub hl [2, 3, 4] rfl)
        · have hw := hw.2 hc
          refine lv_aload_n X.1.1 X.1.2.1 dX10_isOther_94 rfl (lv_at hl 2 rfl) ?_
          refine lv_iload_n X.1.1 X.1.2.1 dX10_isOther_95 rfl (lv_at hl 3 rfl) ?_
          refine lv_iload_n X.1.1 X.1.2.1 dX10_isOther_96 rfl (lv_at hl 4 rfl) ?_
          refine cs_X10_carries X hp1 hy3 (kc := 3) rmL_ok rm_c (by decide) hR hS kw_2061 hl.1 dX10_isOther_97 (Nat.le_of_ble_eq_true rfl) hw (fun x33 M32 H locs hw r34 hR hS => ?_)
          refine lv_aload_n X.1.1 X.1.2.1 dX10_isOther_100 rfl (lv_at hl 2 rfl) ?_
          refine gt_11_56 X hR (okf X.2.2.1 rfl) kw_1585 dX10_isOther_101 ?_
          refine sa_bipush X.1 dX10_isOther_104 (by decide) ?_
          refine lv_iload_n X.1.1 X.1.2.1 dX10_isOther_106 rfl (lv_at hl 3 rfl) ?_
          have c35 := hw.1
          have hw := hw.2
          refine sa_imul X.1 dX10_isOther_107 ?_
          refine lv_iload_n X.1.1 X.1.2.1 dX10_isOther_108 rfl (lv_at hl 4 rfl) ?_
          have c36 := hw.1
          have hw := hw.2
          refine sa_iadd X.1 dX10_isOther_109 ?_
          have c37 := hw.1
          have hw := hw.2
          refine ra_101 X hR (okf X.2.2.1 rfl) c37 dX10_isOther_110 ?_
          have r38 := hR.r 101 0 ((6 * p1) + y3)
          refine sa_icmp_ne (tgt := 142) X.1 r34 r38 dX10_isOther_111 (by decide) (fun hc => ?_) (fun hc => ?_)
          · have hw := hw.1 hc
            exact t_X10_isOther_142 X hp1 ih _ _ hw hy3 _ _ hR hS _ (lv_sub hl [2, 3, 4] rfl)
          · have hw := hw.2 hc
            refine lv_iload_n X.1.1 X.1.2.1 dX10_isOther_114 rfl (lv_at hl 3 rfl) ?_
            refine sa_if_le (tgt := 146) X.1 hp1 dX10_isOther_115 (by decide) (fun hc => ?_) (fun hc => ?_)
            · have hw := hw.1 hc
              exact t_X10_isOther_146 X hp1 ih _ _ hw hy3 _ _ hR hS _ (lv_sub hl [2, 3, 4] rfl)
            · have hw := hw.2 hc
              refine lv_aload_n X.1.1 X.1.2.1 dX10_isOther_118 rfl (lv_at hl 2 rfl) ?_
              refine lv_iload_n X.1.1 X.1.2.1 dX10_isOther_119 rfl (lv_at hl 3 rfl) ?_
              refine sa_const X.1 dX10_isOther_120 ?_
              have c39 := hw.1
              have hw := hw.2
              refine sa_isub X.1 dX10_isOther_121 ?_
              refine lv_iload_n X.1.1 X.1.2.1 dX10_isOther_122 rfl (lv_at hl 4 rfl) ?_
              refine cs_X10_carries X c39 hy3 (kc := 3) rmL_ok rm_c (by decide) hR hS kw_2061 hl.1 dX10_isOther_123 (Nat.le_of_ble_eq_true rfl) hw (fun x41 M40 H locs hw r42 hR hS => ?_)
              refine lv_aload_n X.1.1 X.1.2.1 dX10_isOther_126 rfl (lv_at hl 2 rfl) ?_
              refine gt_11_56 X hR (okf X.2.2.1 rfl) kw_1585 dX10_isOther_127 ?_
              refine sa_bipush X.1 dX10_isOther_130 (by decide) ?_
              refine lv_iload_n X.1.1 X.1.2.1 dX10_isOther_132 rfl (lv_at hl 3 rfl) ?_
              refine sa_const X.1 dX10_isOther_133 ?_
              have c43 := hw.1
              have hw := hw.2
              refine sa_isub X.1 dX10_isOther_134 ?_
              have c44 := hw.1
              have hw := hw.2
              refine sa_imul X.1 dX10_isOther_135 ?_
              refine lv_iload_n X.1.1 X.1.2.1 dX10_isOther_136 rfl (lv_at hl 4 rfl) ?_
              have c45 := hw.1
              have hw := hw.2
              refine sa_iadd X.1 dX10_isOther_137 ?_
              have c46 := hw.1
              have hw := hw.2
              refine ra_101 X hR (okf X.2.2.1 rfl) c46 dX10_isOther_138 ?_
              have r47 := hR.r 101 0 ((6 * (p1 - 1)) + y3)
              have r48 := inR_ite (c := x41 = (M40 101 0 ((6 * (p1 - 1)) + y3))) (inR_c (a := 0) rfl) (inR_c (a := 1) rfl)
              refine cut_j (A := ∀ v49 : Int, v49 = (if x41 = (M40 101 0 ((6 * (p1 - 1)) + y3)) then (0 : Int) else 1) → WI p l e 3 s m args below meth c G e0 α κ B Qm H locs 147 ls [.int (Int32.ofInt v49)]) (fun J50 => ?_) ?_
              · refine sa_icmp_eq (tgt := 146) X.1 r42 r47 dX10_isOther_139 (by decide) (fun hc => ?_) (fun hc => ?_)
                · skip
                  refine sa_const X.1 dX10_isOther_146 ?_
                  exact J50 (0) (if_pos (c := x41 = (M40 101 0 ((6 * (p1 - 1)) + y3))) hc).symm
                · skip
                  refine sa_const X.1 dX10_isOther_142 ?_
                  refine lv_goto (tgt := 147) X.1.1 X.1.2.1 dX10_isOther_143 (by decide) ?_
                  exact J50 (1) (if_neg (c := x41 = (M40 101 0 ((6 * (p1 - 1)) + y3))) hc).symm
              intro v49 hv49
              subst hv49
              refine lv_istore_n (lv' := [(2, .int (Int32.ofInt (if x41 = (M40 101 0 ((6 * (p1 - 1)) + y3)) then (0 : Int) else 1))), (4, .int (Int32.ofInt (if (M 58 0 y3) = 0 then (0 : Int) else (if ¬ (M 59 0 y3) = 0 then (0 : Int) else 1)))), (0, .ref (α 11 0)), (1, .int (Int32.ofInt p1)), (3, .int (Int32.ofInt y3))]) X.1.1 X.1.2.1 dX10_isOther_147 rfl hl (by decide) rfl (fun ls hl => ?_)
              have c51 := hw.1
              have hw := hw.2
              refine lv_iinc (v := Int32.ofInt (y3 + 1)) (lv' := [(3, .int (Int32.ofInt (y3 + 1))), (2, .int (Int32.ofInt (if x41 = (M40 101 0 ((6 * (p1 - 1)) + y3)) then (0 : Int) else 1))), (4, .int (Int32.ofInt (if (M 58 0 y3) = 0 then (0 : Int) else (if ¬ (M 59 0 y3) = 0 then (0 : Int) else 1)))), (0, .ref (α 11 0)), (1, .int (Int32.ofInt p1))]) X.1.1 X.1.2.1 dX10_isOther_148 hl (k := 4) rfl (Int32.ofInt_add _ _).symm (by decide) rfl (fun ls hl => ?_)
              refine lv_goto (tgt := 31) X.1.1 X.1.2.1 dX10_isOther_151 (by decide) ?_
              exact ih _ _ _ hw r48 c51 _ _ hR hS _ (lv_sub hl [3, 4, 1, 0] rfl)
set_option maxHeartbeats 4000000 in
set_option maxRecDepth 100000 in
theorem t_X10_isOther {p1 : Int} (X : CX p m c cX10_isOther 5 s args RX10 G B κ meth (some .boolean)) (hp1 : inR p1) {M : Mem} {Qm : Int → Mem → Prop} (hw : wp_X10_isOther p1 M Qm) (H : Heap) (locs : List Loc) (hR : Rp G e0 α κ B M H) (hS : va_S (fun q => B ≤ q) s.heap H locs) (ls : Array Slot) (hl : lv_has ls 5 [(0, .ref (α 11 0)), (1, .int (Int32.ofInt p1))]) : WI p l e 3 s m args below meth c G e0 α κ B Qm H locs 0 ls [] := by
  have hw : wp_X10_hasOthers p1 M fun (x2 : Int) (M1 : Mem) => (x2 = 0 → (0 ≤ p1 ∧ p1 < 1000) ∧ (0 ≤ p1 ∧ p1 < 1000) ∧ True) ∧ (∃ n52 : Nat, wp_X10_isOther_31 p1 Qm n52 (if ¬ x2 = 0 then (1 : Int) else (if (M1 94 0 p1) = (M1 100 0 p1) then (0 : Int) else 1)) 0 M1) := hw
  refine lv_aload_n X.1.1 X.1.2.1 dX10_isOther_0 rfl (lv_at hl 0 rfl) ?_
  refine lv_iload_n X.1.1 X.1.2.1 dX10_isOther_1 rfl (lv_at hl 1 rfl) ?_
  refine cs_X10_hasOthers X hp1 (kc := 3) rmL_ok rm_c (by decide) hR hS kw_2078 hl.1 dX10_isOther_2 (Nat.le_of_ble_eq_true rfl) hw (fun x2 M1 H locs hw r3 hR hS => ?_)
  have s8 := hw.1
  have hw := hw.2
  have r9 := inR_ite (c := ¬ x2 = 0) (inR_c (a := 1) rfl) (inR_ite (c := (M1 94 0 p1) = (M1 100 0 p1)) (inR_c (a := 0) rfl) (inR_c (a := 1) rfl))
  refine cut_j (A := ∀ v10 : Int, v10 = (if ¬ x2 = 0 then (1 : Int) else (if (M1 94 0 p1) = (M1 100 0 p1) then (0 : Int) else 1)) → WI p l e 3 s m args below meth c G e0 α κ B Qm H locs 28 ls [.int (Int32.ofInt v10)]) (fun J11 => ?_) ?_
  · refine sa_if_ne (tgt := 23) X.1 r3 dX10_isOther_5 (by decide) (fun hc => ?_) (fun hc => ?_)
    · skip
      refine sa_const X.1 dX10_isOther_23 ?_
      refine lv_goto (tgt := 28) X.1.1 X.1.2.1 dX10_isOther_24 (by decide) ?_
      exact J11 (1) (if_pos (c := ¬ x2 = 0) hc).symm
    · have hw := s8 hc
      refine lv_aload_n X.1.1 X.1.2.1 dX10_isOther_8 rfl (lv_at hl 0 rfl) ?_
      refine gt_11_47 X hR (okf X.2.2.1 rfl) kw_1576 dX10_isOther_9 ?_
      refine lv_iload_n X.1.1 X.1.2.1 dX10_isOther_12 rfl (lv_at hl 1 rfl) ?_
      have c4 := hw.1
      have hw := hw.2
      refine ra_94 X hR (okf X.2.2.1 rfl) c4 dX10_isOther_13 ?_
      refine lv_aload_n X.1.1 X.1.2.1 dX10_isOther_14 rfl (lv_at hl 0 rfl) ?_
      refine gt_11_55 X hR (okf X.2.2.1 rfl) kw_1584 dX10_isOther_15 ?_
      refine lv_iload_n X.1.1 X.1.2.1 dX10_isOther_18 rfl (lv_at hl 1 rfl) ?_
      have c5 := hw.1
      have hw := hw.2
      refine ra_100 X hR (okf X.2.2.1 rfl) c5 dX10_isOther_19 ?_
      refine cut_j (A := ∀ v6 : Int, v6 = (if (M1 94 0 p1) = (M1 100 0 p1) then (0 : Int) else 1) → WI p l e 3 s m args below meth c G e0 α κ B Qm H locs 28 ls [.int (Int32.ofInt v6)]) (fun J7 => ?_) ?_
      · refine sa_icmp_eq (tgt := 27) X.1 (hR.r 94 0 p1) (hR.r 100 0 p1) dX10_isOther_20 (by decide) (fun hc => ?_) (fun hc => ?_)
        · skip
          refine sa_const X.1 dX10_isOther_27 ?_
          exact J7 (0) (if_pos (c := (M1 94 0 p1) = (M1 100 0 p1)) hc).symm
        · skip
          refine sa_const X.1 dX10_isOther_23 ?_
          refine lv_goto (tgt := 28) X.1.1 X.1.2.1 dX10_isOther_24 (by decide) ?_
          exact J7 (1) (if_neg (c := (M1 94 0 p1) = (M1 100 0 p1)) hc).symm
      intro v6 hv6
      subst hv6
      exact J11 ((if (M1 94 0 p1) = (M1 100 0 p1) then (0 : Int) else 1)) (if_neg (c := ¬ x2 = 0) (fun z => z hc)).symm
  intro v10 hv10
  subst hv10
  refine lv_istore_n (lv' := [(2, .int (Int32.ofInt (if ¬ x2 = 0 then (1 : Int) else (if (M1 94 0 p1) = (M1 100 0 p1) then (0 : Int) else 1)))), (0, .ref (α 11 0)), (1, .int (Int32.ofInt p1))]) X.1.1 X.1.2.1 dX10_isOther_28 rfl hl (by decide) rfl (fun ls hl => ?_)
  refine sa_const X.1 dX10_isOther_29 ?_
  refine lv_istore_n (lv' := [(3, .int (Int32.ofInt 0)), (2, .int (Int32.ofInt (if ¬ x2 = 0 then (1 : Int) else (if (M1 94 0 p1) = (M1 100 0 p1) then (0 : Int) else 1)))), (0, .ref (α 11 0)), (1, .int (Int32.ofInt p1))]) X.1.1 X.1.2.1 dX10_isOther_30 rfl hl (by decide) rfl (fun ls hl => ?_)
  obtain ⟨n52, hw⟩ := hw
  exact t_X10_isOther_31 X hp1 n52 _ _ _ hw r9 (inR_c (a := 0) rfl) _ _ hR hS _ (lv_sub hl [2, 3, 1, 0] rfl)
theorem m_X10_isOther {l : Launch} {G : Gx} {e0 : Nat} {α : Ax} {κ : Nat → Int} {B : Nat} {p1 : Int} (hκ : kOK κ) (hp1 : inR p1) {M : Mem} {Qm : Int → Mem → Prop} (hw : wp_X10_isOther p1 M Qm) : CI l yX10_isOther (Cond.code yX10_isOther cX10_isOther 5 (some .boolean)) 3 G e0 α κ B [.ref (α 11 0), .int (Int32.ofInt p1)] M Qm :=
  CI.mk hκ (by decide +kernel) rfl (Nat.le_of_ble_eq_true rfl) (lv := [(0, .ref (α 11 0)), (1, .int (Int32.ofInt p1))]) rfl (fun p e s m args below meth c ls X hR hS hl => t_X10_isOther X hp1 hw _ _ hR hS ls hl)
theorem cs_X10_isOther {cc : ByteArray} {nL : Nat} {own : String} {ret : Option FieldType} {idx pc : Nat} {p1 : Int} (X : CX p m c cc nL s args own G B κ meth ret) (hp1 : inR p1) {kc : Nat} {R : Room} {cells slots : Nat} (hRr : RmOK R kc) (hcel : cells ≤ R.cells ∧ slots ≤ R.slots) (hk : 3 + 1 ≤ kc) {M : Mem} {H : Heap} {locs : List Loc} (hR : Rp G e0 α κ B M H) (hS : va_S (fun q => B ≤ q) s.heap H locs) (k1 : Cond.methodLink own idx yX10_isOther ∈ gw) {ls : Array Slot} (hml : ls.size = nL) {rest : List Value} (hd : decode cc pc = .ok (.invokevirtual idx, 3)) (hrest : (rest.map fun v => v.category).sum ≤ 8) {Q : State → Prop} {Qm : Int → Mem → Prop} (hw : wp_X10_isOther p1 M Qm) (kk : ∀ (r : Int) (M1 : Mem) (H1 : Heap) (locs1 : List Loc), Qm r M1 → inR r → Rp G e0 α κ B M1 H1 → va_S (fun q => B ≤ q) s.heap H1 locs1 → W p l e R s m args below meth c H1 locs1 cells slots Q (F0 m (pc + 3) ls (.int (Int32.ofInt r) :: rest))) : W p l e R s m args below meth c H locs cells slots Q (F0 m pc ls (.int (Int32.ofInt p1) :: .ref (α 11 0) :: rest)) :=
  sa_callVI 3 (n := 1) (As := [.int (Int32.ofInt p1)]) (rest := rest) X.1 X.2.1 hR hS (m_X10_isOther X.2.2.1 hp1 hw) k1 kw_2076 kw_90 kw_104 kw_2077 ⟨rfl, by decide +kernel, by decide +kernel, by decide +kernel⟩ (rm_ok hRr hk (by decide)) (rc_11 X hR (okf X.2.2.1 rfl)) rfl rfl hrest hml hd hcel kk
def wp_X10_keeps_173 (Qm : Mem → Prop) : Nat → Int → Mem → Prop
  | 0 => fun _ _ => False
  | n + 1 => fun y1 M => (((M 11 0 49) ≤ y1 → Qm M) ∧ (y1 < (M 11 0 49) → (0 ≤ y1 ∧ y1 < 1000) ∧ (0 ≤ y1 ∧ y1 < 1000) ∧ ∀ M13 : Mem, M13 = up M 100 0 y1 (M 94 0 y1) → (inR (y1 + 1)) ∧ wp_X10_keeps_173 Qm n (y1 + 1) M13))
def wp_X10_keeps_158 (Qm : Mem → Prop) (K82 : Int → Mem → Prop) (K121 : Int → Int → Mem → Prop) (y1 : Int) (y2 : Int) (z0 : Int) (z1 : Int) (M : Mem) : Prop := (0 ≤ z1 ∧ z1 < 6000) ∧ ∀ M37 : Mem, M37 = up M 101 0 z1 z0 → (inR (y2 + 1)) ∧ K121 y1 (y2 + 1) M37
def wp_X10_keeps_121 (Qm : Mem → Prop) (K82 : Int → Mem → Prop) : Nat → Int → Int → Mem → Prop
  | 0 => fun _ _ _ => False
  | n + 1 => fun y1 y2 M => (((M 11 0 49) ≤ y2 → (inR (y1 + 1)) ∧ K82 (y1 + 1) M) ∧ (y2 < (M 11 0 49) → (inR (6 * y2)) ∧ (inR ((6 * y2) + y1)) ∧ (0 ≤ y1 ∧ y1 < 6) ∧ (((M 102 0 y1) = 0 → wp_X10_keeps_158 Qm K82 (wp_X10_keeps_121 Qm K82 n) y1 y2 0 ((6 * y2) + y1) M) ∧ (¬ (M 102 0 y1) = 0 → wp_X10_carries y2 y1 M fun (x41 : Int) (M40 : Mem) => wp_X10_keeps_158 Qm K82 (wp_X10_keeps_121 Qm K82 n) y1 y2 x41 ((6 * y2) + y1) M40))))
def wp_X10_keeps_82 (Qm : Mem → Prop) : Nat → Int → Mem → Prop
  | 0 => fun _ _ => False
  | n + 1 => fun y1 M => (((M 11 0 4) ≤ y1 → (∃ n16 : Nat, wp_X10_keeps_173 Qm n16 0 M)) ∧ (y1 < (M 11 0 4) → (0 ≤ y1 ∧ y1 < 6) ∧ (¬ (M 58 0 y1) = 0 → (0 ≤ y1 ∧ y1 < 6) ∧ True) ∧ (bit (if (M 58 0 y1) = 0 then (0 : Int) else (if ¬ (M 59 0 y1) = 0 then (0 : Int) else 1))) ∧ (0 ≤ y1 ∧ y1 < 6) ∧ ∀ M28 : Mem, M28 = up M 102 0 y1 (if (M 58 0 y1) = 0 then (0 : Int) else (if ¬ (M 59 0 y1) = 0 then (0 : Int) else 1)) → (∃ n43 : Nat, wp_X10_keeps_121 Qm (wp_X10_keeps_82 Qm n) n43 y1 0 M28)))
def wp_X10_keeps_10 (Qm : Mem → Prop) : Nat → Int → Mem → Prop
  | 0 => fun _ _ => False
  | n + 1 => fun y1 M => (((M 11 0 46) ≤ y1 → ∀ M6 : Mem, M6 = up M 11 0 58 (M 11 0 49) → (∃ n44 : Nat, wp_X10_keeps_82 Qm n44 0 M6)) ∧ (y1 < (M 11 0 46) → (0 ≤ y1 ∧ y1 < 1100) ∧ (0 ≤ y1 ∧ y1 < 1100) ∧ ∀ M48 : Mem, M48 = up M 96 0 y1 (M 90 0 y1) → (0 ≤ y1 ∧ y1 < 1100) ∧ (0 ≤ y1 ∧ y1 < 1100) ∧ ∀ M53 : Mem, M53 = up M48 97 0 y1 (M48 91 0 y1) → (0 ≤ y1 ∧ y1 < 1100) ∧ (0 ≤ y1 ∧ y1 < 1100) ∧ ∀ M58 : Mem, M58 = up M53 98 0 y1 (M53 92 0 y1) → (0 ≤ y1 ∧ y1 < 1100) ∧ (0 ≤ y1 ∧ y1 < 1100) ∧ ∀ M63 : Mem, M63 = up M58 99 0 y1 (M58 93 0 y1) → (inR (y1 + 1)) ∧ wp_X10_keeps_10 Qm n (y1 + 1) M63))
def wp_X10_keeps (M : Mem) (Qm : Mem → Prop) : Prop := ∀ M2 : Mem, M2 = up M 11 0 54 (M 11 0 46) → (∃ n66 : Nat, wp_X10_keeps_10 Qm n66 0 M2)
set_option maxHeartbeats 4000000 in
set_option maxRecDepth 100000 in
theorem t_X10_keeps_173 (X : CX p m c cX10_keeps 3 s args RX10 G B κ meth none) {Qm : Mem → Prop} : ∀ n : Nat, ∀ y1 : Int, ∀ M : Mem, wp_X10_keeps_173 Qm n y1 M → inR y1 → ∀ (H : Heap) (locs : List Loc), Rp G e0 α κ B M H → va_S (fun q => B ≤ q) s.heap H locs → ∀ (ls : Array Slot), lv_has ls 3 [(0, .ref (α 11 0)), (1, .int (Int32.ofInt y1))] → WV p l e 3 s m args below meth c G e0 α κ B Qm H locs 173 ls [] := by
  intro n
  induction n with
  | zero =>
    intro y1 M hw hy1 H locs hR hS ls hl
    exact hw.elim
  | succ n ih =>
    intro y1 M hw hy1 H locs hR hS ls hl
    have hw : (((M 11 0 49) ≤ y1 → Qm M) ∧ (y1 < (M 11 0 49) → (0 ≤ y1 ∧ y1 < 1000) ∧ (0 ≤ y1 ∧ y1 < 1000) ∧ ∀ M13 : Mem, M13 = up M 100 0 y1 (M 94 0 y1) → (inR (y1 + 1)) ∧ wp_X10_keeps_173 Qm n (y1 + 1) M13)) := hw
    refine lv_iload_n X.1.1 X.1.2.1 dX10_keeps_173 rfl (lv_at hl 1 rfl) ?_
    refine lv_aload_n X.1.1 X.1.2.1 dX10_keeps_174 rfl (lv_at hl 0 rfl) ?_
    refine gt_11_49 X hR (okf X.2.2.1 rfl) kw_1578 dX10_keeps_175 ?_
    have r9 := hR.r 11 0 49
    refine sa_icmp_ge (tgt := 199) X.1 hy1 r9 dX10_keeps_178 (by decide) (fun hc => ?_) (fun hc => ?_)
    · have hw := hw.1 hc
      exact sa_vret X.1 X.2.2.2.1 X.2.2.2.2 hR hS hw dX10_keeps_199
    · have hw := hw.2 hc
      refine lv_aload_n X.1.1 X.1.2.1 dX10_keeps_181 rfl (lv_at hl 0 rfl) ?_
      refine gt_11_55 X hR (okf X.2.2.1 rfl) kw_1584 dX10_keeps_182 ?_
      refine lv_iload_n X.1.1 X.1.2.1 dX10_keeps_185 rfl (lv_at hl 1 rfl) ?_
      refine lv_aload_n X.1.1 X.1.2.1 dX10_keeps_186 rfl (lv_at hl 0 rfl) ?_
      refine gt_11_47 X hR (okf X.2.2.1 rfl) kw_1576 dX10_keeps_187 ?_
      refine lv_iload_n X.1.1 X.1.2.1 dX10_keeps_190 rfl (lv_at hl 1 rfl) ?_
      have c10 := hw.1
      have hw := hw.2
      refine ra_94 X hR (okf X.2.2.1 rfl) c10 dX10_keeps_191 ?_
      have r11 := hR.r 94 0 y1
      have c12 := hw.1
      have hw := hw.2
      refine wa_100 X hR hS (okf X.2.2.1 rfl) c12 r11 dX10_keeps_192 (fun H locs hR hS => ?_)
      obtain ⟨M13, e14⟩ : ∃ z : Mem, z = up M 100 0 y1 (M 94 0 y1) := ⟨_, rfl⟩
      rw [← e14] at hR
      have hw := hw M13 e14
      have c15 := hw.1
      have hw := hw.2
      refine lv_iinc (v := Int32.ofInt (y1 + 1)) (lv' := [(1, .int (Int32.ofInt (y1 + 1))), (0, .ref (α 11 0))]) X.1.1 X.1.2.1 dX10_keeps_193 hl (k := 1) rfl (Int32.ofInt_add _ _).symm (by decide) rfl (fun ls hl => ?_)
      refine lv_goto (tgt := 173) X.1.1 X.1.2.1 dX10_keeps_196 (by decide) ?_
      exact ih _ _ hw c15 _ _ hR hS _ (lv_sub hl [1, 0] rfl)
set_option maxHeartbeats 4000000 in
set_option maxRecDepth 100000 in
theorem t_X10_keeps_158 (X : CX p m c cX10_keeps 3 s args RX10 G B κ meth none) {Qm : Mem → Prop} {K82 : Int → Mem → Prop} {K121 : Int → Int → Mem → Prop} (hK82 : ∀ y1 : Int, ∀ M : Mem, K82 y1 M → inR y1 → ∀ (H : Heap) (locs : List Loc), Rp G e0 α κ B M H → va_S (fun q => B ≤ q) s.heap H locs → ∀ (ls : Array Slot), lv_has ls 3 [(0, .ref (α 11 0)), (1, .int (Int32.ofInt y1))] → WV p l e 3 s m args below meth c G e0 α κ B Qm H locs 82 ls []) (hK121 : ∀ y1 : Int, ∀ y2 : Int, ∀ M : Mem, K121 y1 y2 M → inR y1 → inR y2 → ∀ (H : Heap) (locs : List Loc), Rp G e0 α κ B M H → va_S (fun q => B ≤ q) s.heap H locs → ∀ (ls : Array Slot), lv_has ls 3 [(0, .ref (α 11 0)), (1, .int (Int32.ofInt y1)), (2, .int (Int32.ofInt y2))] → WV p l e 3 s m args below meth c G e0 α κ B Qm H locs 121 ls []) : ∀ y1 : Int, ∀ y2 : Int, ∀ z0 : Int, ∀ z1 : Int, ∀ M : Mem, wp_X10_keeps_158 Qm K82 K121 y1 y2 z0 z1 M → inR y1 → inR y2 → inR z0 → inR z1 → ∀ (H : Heap) (locs : List Loc), Rp G e0 α κ B M H → va_S (fun q => B ≤ q) s.heap H locs → ∀ (ls : Array Slot), lv_has ls 3 [(0, .ref (α 11 0)), (1, .int (Int32.ofInt y1)), (2, .int (Int32.ofInt y2))] → WV p l e 3 s m args below meth c G e0 α κ B Qm H locs 158 ls [.int (Int32.ofInt z0), .int (Int32.ofInt z1), .ref (α 101 0)] := by
  intro y1 y2 z0 z1 M hw hy1 hy2 hz0 hz1 H locs hR hS ls hl
  have hw : (0 ≤ z1 ∧ z1 < 6000) ∧ ∀ M37 : Mem, M37 = up M 101 0 z1 z0 → (inR (y2 + 1)) ∧ K121 y1 (y2 + 1) M37 := hw
  have c36 := hw.1
  have hw := hw.2
  refine wa_101 X hR hS (okf X.2.2.1 rfl) c36 hz0 dX10_keeps_158 (fun H locs hR hS => ?_)
  obtain ⟨M37, e38⟩ : ∃ z : Mem, z = up M 101 0 z1 z0 := ⟨_, rfl⟩
  rw [← e38] at hR
  have hw := hw M37 e38
  have c39 := hw.1
  have hw := hw.2
  refine lv_iinc (v := Int32.ofInt (y2 + 1)) (lv' := [(2, .int (Int32.ofInt (y2 + 1))), (0, .ref (α 11 0)), (1, .int (Int32.ofInt y1))]) X.1.1 X.1.2.1 dX10_keeps_159 hl (k := 2) rfl (Int32.ofInt_add _ _).symm (by decide) rfl (fun ls hl => ?_)
  refine lv_goto (tgt := 121) X.1.1 X.1.2.1 dX10_keeps_162 (by decide) ?_
  exact hK121 _ _ _ hw hy1 c39 _ _ hR hS _ (lv_sub hl [1, 2, 0] rfl)
set_option maxHeartbeats 4000000 in
set_option maxRecDepth 100000 in
theorem t_X10_keeps_121 (X : CX p m c cX10_keeps 3 s args RX10 G B κ meth none) {Qm : Mem → Prop} {K82 : Int → Mem → Prop} (hK82 : ∀ y1 : Int, ∀ M : Mem, K82 y1 M → inR y1 → ∀ (H : Heap) (locs : List Loc), Rp G e0 α κ B M H → va_S (fun q => B ≤ q) s.heap H locs → ∀ (ls : Array Slot), lv_has ls 3 [(0, .ref (α 11 0)), (1, .int (Int32.ofInt y1))] → WV p l e 3 s m args below meth c G e0 α κ B Qm H locs 82 ls []) : ∀ n : Nat, ∀ y1 : Int, ∀ y2 : Int, ∀ M : Mem, wp_X10_keeps_121 Qm K82 n y1 y2 M → inR y1 → inR y2 → ∀ (H : Heap) (locs : List Loc), Rp G e0 α κ B M H → va_S (fun q => B ≤ q) s.heap H locs → ∀ (ls : Array Slot), lv_has ls 3 [(0, .ref (α 11 0)), (1, .int (Int32.ofInt y1)), (2, .int (Int32.ofInt y2))] → WV p l e 3 s m args below meth c G e0 α κ B Qm H locs 121 ls [] := by
  intro n
  induction n with
  | zero =>
    intro y1 y2 M hw hy1 hy2 H locs hR hS ls hl
    exact hw.elim
  | succ n ih =>
    intro y1 y2 M hw hy1 hy2 H locs hR hS ls hl
    have hw : (((M 11 0 49) ≤ y2 → (inR (y1 + 1)) ∧ K82 (y1 + 1) M) ∧ (y2 < (M 11 0 49) → (inR (6 * y2)) ∧ (inR ((6 * y2) + y1)) ∧ (0 ≤ y1 ∧ y1 < 6) ∧ (((M 102 0 y1) = 0 → wp_X10_keeps_158 Qm K82 (wp_X10_keeps_121 Qm K82 n) y1 y2 0 ((6 * y2) + y1) M) ∧ (¬ (M 102 0 y1) = 0 → wp_X10_carries y2 y1 M fun (x41 : Int) (M40 : Mem) => wp_X10_keeps_158 Qm K82 (wp_X10_keeps_121 Qm K82 n) y1 y2 x41 ((6 * y2) + y1) M40)))) := hw
    refine lv_iload_n X.1.1 X.1.2.1 dX10_keeps_121 rfl (lv_at hl 2 rfl) ?_
    refine lv_aload_n X.1.1 X.1.2.1 dX10_keeps_122 rfl (lv_at hl 0 rfl) ?_
    refine gt_11_49 X hR (okf X.2.2.1 rfl) kw_1578 dX10_keeps_123 ?_
    have r30 := hR.r 11 0 49
    refine sa_icmp_ge (tgt := 165) X.1 hy2 r30 dX10_keeps_126 (by decide) (fun hc => ?_) (fun hc => ?_)
    · have hw := hw.1 hc
      have c31 := hw.1
      have hw := hw.2
      refine lv_iinc (v := Int32.ofInt (y1 + 1)) (lv' := [(1, .int (Int32.ofInt (y1 + 1))), (0, .ref (α 11 0)), (2, .int (Int32.ofInt y2))]) X.1.1 X.1.2.1 dX10_keeps_165 hl (k := 1) rfl (Int32.ofInt_add _ _).symm (by decide) rfl (fun ls hl => ?_)
      refine lv_goto (tgt := 82) X.1.1 X.1.2.1 dX10_keeps_168 (by decide) ?_
      exact hK82 _ _ hw c31 _ _ hR hS _ (lv_sub hl [1, 0] rfl)
    · have hw := hw.2 hc
      refine lv_aload_n X.1.1 X.1.2.1 dX10_keeps_129 rfl (lv_at hl 0 rfl) ?_
      refine gt_11_56 X hR (okf X.2.2.1 rfl) kw_1585 dX10_keeps_130 ?_
      refine sa_bipush X.1 dX10_keeps_133 (by decide) ?_
      refine lv_iload_n X.1.1 X.1.2.1 dX10_keeps_135 rfl (lv_at hl 2 rfl) ?_
      have c32 := hw.1
      have hw := hw.2
      refine sa_imul X.1 dX10_keeps_136 ?_
      refine lv_iload_n X.1.1 X.1.2.1 dX10_keeps_137 rfl (lv_at hl 1 rfl) ?_
      have c33 := hw.1
      have hw := hw.2
      refine sa_iadd X.1 dX10_keeps_138 ?_
      refine lv_aload_n X.1.1 X.1.2.1 dX10_keeps_139 rfl (lv_at hl 0 rfl) ?_
      refine gt_11_57 X hR (okf X.2.2.1 rfl) kw_1586 dX10_keeps_140 ?_
      refine lv_iload_n X.1.1 X.1.2.1 dX10_keeps_143 rfl (lv_at hl 1 rfl) ?_
      have c34 := hw.1
      have hw := hw.2
      refine ra_102 X hR (okf X.2.2.1 rfl) c34 dX10_keeps_144 ?_
      have r35 := hR.r 102 0 y1
      refine sa_if_eq (tgt := 157) X.1 r35 dX10_keeps_145 (by decide) (fun hc => ?_) (fun hc => ?_)
      · have hw := hw.1 hc
        refine sa_const X.1 dX10_keeps_157 ?_
        exact t_X10_keeps_158 X hK82 ih _ _ _ _ _ hw hy1 hy2 (inR_c (a := 0) rfl) c33 _ _ hR hS _ (lv_sub hl [0, 1, 2] rfl)
      · have hw := hw.2 hc
        refine lv_aload_n X.1.1 X.1.2.1 dX10_keeps_148 rfl (lv_at hl 0 rfl) ?_
        refine lv_iload_n X.1.1 X.1.2.1 dX10_keeps_149 rfl (lv_at hl 2 rfl) ?_
        refine lv_iload_n X.1.1 X.1.2.1 dX10_keeps_150 rfl (lv_at hl 1 rfl) ?_
        refine cs_X10_carries X hy2 hy1 (kc := 3) rmL_ok rm_c (by decide) hR hS kw_2061 hl.1 dX10_keeps_151 (Nat.le_of_ble_eq_true rfl) hw (fun x41 M40 H locs hw r42 hR hS => ?_)
        refine lv_goto (tgt := 158) X.1.1 X.1.2.1 dX10_keeps_154 (by decide) ?_
        exact t_X10_keeps_158 X hK82 ih _ _ _ _ _ hw hy1 hy2 r42 c33 _ _ hR hS _ (lv_sub hl [0, 1, 2] rfl)
set_option maxHeartbeats 4000000 in
set_option maxRecDepth 100000 in
theorem t_X10_keeps_82 (X : CX p m c cX10_keeps 3 s args RX10 G B κ meth none) {Qm : Mem → Prop} : ∀ n : Nat, ∀ y1 : Int, ∀ M : Mem, wp_X10_keeps_82 Qm n y1 M → inR y1 → ∀ (H : Heap) (locs : List Loc), Rp G e0 α κ B M H → va_S (fun q => B ≤ q) s.heap H locs → ∀ (ls : Array Slot), lv_has ls 3 [(0, .ref (α 11 0)), (1, .int (Int32.ofInt y1))] → WV p l e 3 s m args below meth c G e0 α κ B Qm H locs 82 ls [] := by
  intro n
  induction n with
  | zero =>
    intro y1 M hw hy1 H locs hR hS ls hl
    exact hw.elim
  | succ n ih =>
    intro y1 M hw hy1 H locs hR hS ls hl
    have hw : (((M 11 0 4) ≤ y1 → (∃ n16 : Nat, wp_X10_keeps_173 Qm n16 0 M)) ∧ (y1 < (M 11 0 4) → (0 ≤ y1 ∧ y1 < 6) ∧ (¬ (M 58 0 y1) = 0 → (0 ≤ y1 ∧ y1 < 6) ∧ True) ∧ (bit (if (M 58 0 y1) = 0 then (0 : Int) else (if ¬ (M 59 0 y1) = 0 then (0 : Int) else 1))) ∧ (0 ≤ y1 ∧ y1 < 6) ∧ ∀ M28 : Mem, M28 = up M 102 0 y1 (if (M 58 0 y1) = 0 then (0 : Int) else (if ¬ (M 59 0 y1) = 0 then (0 : Int) else 1)) → (∃ n43 : Nat, wp_X10_keeps_121 Qm (wp_X10_keeps_82 Qm n) n43 y1 0 M28))) := hw
    refine lv_iload_n X.1.1 X.1.2.1 dX10_keeps_82 rfl (lv_at hl 1 rfl) ?_
    refine lv_aload_n X.1.1 X.1.2.1 dX10_keeps_83 rfl (lv_at hl 0 rfl) ?_
    refine gt_11_4 X hR (okf X.2.2.1 rfl) kw_1533 dX10_keeps_84 ?_
    have r8 := hR.r 11 0 4
    refine sa_icmp_ge (tgt := 171) X.1 hy1 r8 dX10_keeps_87 (by decide) (fun hc => ?_) (fun hc => ?_)
    · have hw := hw.1 hc
      refine sa_const X.1 dX10_keeps_171 ?_
      refine lv_istore_n (lv' := [(1, .int (Int32.ofInt 0)), (0, .ref (α 11 0))]) X.1.1 X.1.2.1 dX10_keeps_172 rfl hl (by decide) rfl (fun ls hl => ?_)
      obtain ⟨n16, hw⟩ := hw
      exact t_X10_keeps_173 X n16 _ _ hw (inR_c (a := 0) rfl) _ _ hR hS _ (lv_sub hl [1, 0] rfl)
    · have hw := hw.2 hc
      refine lv_aload_n X.1.1 X.1.2.1 dX10_keeps_90 rfl (lv_at hl 0 rfl) ?_
      refine gt_11_57 X hR (okf X.2.2.1 rfl) kw_1586 dX10_keeps_91 ?_
      refine lv_iload_n X.1.1 X.1.2.1 dX10_keeps_94 rfl (lv_at hl 1 rfl) ?_
      refine lv_aload_n X.1.1 X.1.2.1 dX10_keeps_95 rfl (lv_at hl 0 rfl) ?_
      refine gt_11_2 X hR (okf X.2.2.1 rfl) kw_1531 dX10_keeps_96 ?_
      refine lv_iload_n X.1.1 X.1.2.1 dX10_keeps_99 rfl (lv_at hl 1 rfl) ?_
      have c17 := hw.1
      have hw := hw.2
      refine ra_58 X hR (okf X.2.2.1 rfl) c17 dX10_keeps_100 ?_
      have r18 := hR.r 58 0 y1
      have s22 := hw.1
      have hw := hw.2
      have r23 := inR_ite (c := (M 58 0 y1) = 0) (inR_c (a := 0) rfl) (inR_ite (c := ¬ (M 59 0 y1) = 0) (inR_c (a := 0) rfl) (inR_c (a := 1) rfl))
      refine cut_j (A := ∀ v24 : Int, v24 = (if (M 58 0 y1) = 0 then (0 : Int) else (if ¬ (M 59 0 y1) = 0 then (0 : Int) else 1)) → WV p l e 3 s m args below meth c G e0 α κ B Qm H locs 118 ls [.int (Int32.ofInt v24), .int (Int32.ofInt y1), .ref (α 102 0)]) (fun J25 => ?_) ?_
      · refine sa_if_eq (tgt := 117) X.1 r18 dX10_keeps_101 (by decide) (fun hc => ?_) (fun hc => ?_)
        · skip
          refine sa_const X.1 dX10_keeps_117 ?_
          exact J25 (0) (if_pos (c := (M 58 0 y1) = 0) hc).symm
        · have hw := s22 hc
          refine lv_aload_n X.1.1 X.1.2.1 dX10_keeps_104 rfl (lv_at hl 0 rfl) ?_
          refine gt_11_3 X hR (okf X.2.2.1 rfl) kw_1532 dX10_keeps_105 ?_
          refine lv_iload_n X.1.1 X.1.2.1 dX10_keeps_108 rfl (lv_at hl 1 rfl) ?_
          have c19 := hw.1
          have hw := hw.2
          refine ra_59 X hR (okf X.2.2.1 rfl) c19 dX10_keeps_109 ?_
          refine cut_j (A := ∀ v20 : Int, v20 = (if ¬ (M 59 0 y1) = 0 then (0 : Int) else 1) → WV p l e 3 s m args below meth c G e0 α κ B Qm H locs 118 ls [.int (Int32.ofInt v20), .int (Int32.ofInt y1), .ref (α 102 0)]) (fun J21 => ?_) ?_
          · refine sa_if_ne (tgt := 117) X.1 (hR.r 59 0 y1) dX10_keeps_110 (by decide) (fun hc => ?_) (fun hc => ?_)
            · skip
              refine sa_const X.1 dX10_keeps_117 ?_
              exact J21 (0) (if_pos (c := ¬ (M 59 0 y1) = 0) hc).symm
            · skip
              refine sa_const X.1 dX10_keeps_113 ?_
              refine lv_goto (tgt := 118) X.1.1 X.1.2.1 dX10_keeps_114 (by decide) ?_
              exact J21 (1) (if_neg (c := ¬ (M 59 0 y1) = 0) (fun z => z hc)).symm
          intro v20 hv20
          subst hv20
          exact J25 ((if ¬ (M 59 0 y1) = 0 then (0 : Int) else 1)) (if_neg (c := (M 58 0 y1) = 0) hc).symm
      intro v24 hv24
      subst hv24
      have c26 := hw.1
      have hw := hw.2
      have c27 := hw.1
      have hw := hw.2
      refine wa_102 X hR hS (okf X.2.2.1 rfl) c27 c26 dX10_keeps_118 (fun H locs hR hS => ?_)
      obtain ⟨M28, e29⟩ : ∃ z : Mem, z = up M 102 0 y1 (if (M 58 0 y1) = 0 then (0 : Int) else (if ¬ (M 59 0 y1) = 0 then (0 : Int) else 1)) := ⟨_, rfl⟩
      rw [← e29] at hR
      have hw := hw M28 e29
      refine sa_const X.1 dX10_keeps_119 ?_
      refine lv_istore_n (lv' := [(2, .int (Int32.ofInt 0)), (0, .ref (α 11 0)), (1, .int (Int32.ofInt y1))]) X.1.1 X.1.2.1 dX10_keeps_120 rfl hl (by decide) rfl (fun ls hl => ?_)
      obtain ⟨n43, hw⟩ := hw
      exact t_X10_keeps_121 X ih n43 _ _ _ hw hy1 (inR_c (a := 0) rfl) _ _ hR hS _ (lv_sub hl [1, 2, 0] rfl)
set_option maxHeartbeats 4000000 in
set_option maxRecDepth 100000 in
theorem t_X10_keeps_10 (X : CX p m c cX10_keeps 3 s args RX10 G B κ meth none) {Qm : Mem → Prop} : ∀ n : Nat, ∀ y1 : Int, ∀ M : Mem, wp_X10_keeps_10 Qm n y1 M → inR y1 → ∀ (H : Heap) (locs : List Loc), Rp G e0 α κ B M H → va_S (fun q => B ≤ q) s.heap H locs → ∀ (ls : Array Slot), lv_has ls 3 [(0, .ref (α 11 0)), (1, .int (Int32.ofInt y1))] → WV p l e 3 s m args below meth c G e0 α κ B Qm H locs 10 ls [] := by
  intro n
  induction n with
  | zero =>
    intro y1 M hw hy1 H locs hR hS ls hl
    exact hw.elim
  | succ n ih =>
    intro y1 M hw hy1 H locs hR hS ls hl
    have hw : (((M 11 0 46) ≤ y1 → ∀ M6 : Mem, M6 = up M 11 0 58 (M 11 0 49) → (∃ n44 : Nat, wp_X10_keeps_82 Qm n44 0 M6)) ∧ (y1 < (M 11 0 46) → (0 ≤ y1 ∧ y1 < 1100) ∧ (0 ≤ y1 ∧ y1 < 1100) ∧ ∀ M48 : Mem, M48 = up M 96 0 y1 (M 90 0 y1) → (0 ≤ y1 ∧ y1 < 1100) ∧ (0 ≤ y1 ∧ y1 < 1100) ∧ ∀ M53 : Mem, M53 = up M48 97 0 y1 (M48 91 0 y1) → (0 ≤ y1 ∧ y1 < 1100) ∧ (0 ≤ y1 ∧ y1 < 1100) ∧ ∀ M58 : Mem, M58 = up M53 98 0 y1 (M53 92 0 y1) → (0 ≤ y1 ∧ y1 < 1100) ∧ (0 ≤ y1 ∧ y1 < 1100) ∧ ∀ M63 : Mem, M63 = up M58 99 0 y1 (M58 93 0 y1) → (inR (y1 + 1)) ∧ wp_X10_keeps_10 Qm n (y1 + 1) M63)) := hw
    refine lv_iload_n X.1.1 X.1.2.1 dX10_keeps_10 rfl (lv_at hl 1 rfl) ?_
    refine lv_aload_n X.1.1 X.1.2.1 dX10_keeps_11 rfl (lv_at hl 0 rfl) ?_
    refine gt_11_46 X hR (okf X.2.2.1 rfl) kw_1575 dX10_keeps_12 ?_
    have r4 := hR.r 11 0 46
    refine sa_icmp_ge (tgt := 72) X.1 hy1 r4 dX10_keeps_15 (by decide) (fun hc => ?_) (fun hc => ?_)
    · have hw := hw.1 hc
      refine lv_aload_n X.1.1 X.1.2.1 dX10_keeps_72 rfl (lv_at hl 0 rfl) ?_
      refine lv_aload_n X.1.1 X.1.2.1 dX10_keeps_73 rfl (lv_at hl 0 rfl) ?_
      refine gt_11_49 X hR (okf X.2.2.1 rfl) kw_1578 dX10_keeps_74 ?_
      have r5 := hR.r 11 0 49
      refine pt_11_58 X hR hS (okf X.2.2.1 rfl) r5 kw_1587 dX10_keeps_77 (fun H locs hR hS => ?_)
      obtain ⟨M6, e7⟩ : ∃ z : Mem, z = up M 11 0 58 (M 11 0 49) := ⟨_, rfl⟩
      rw [← e7] at hR
      have hw := hw M6 e7
      refine sa_const X.1 dX10_keeps_80 ?_
      refine lv_istore_n (lv' := [(1, .int (Int32.ofInt 0)), (0, .ref (α 11 0))]) X.1.1 X.1.2.1 dX10_keeps_81 rfl hl (by decide) rfl (fun ls hl => ?_)
      obtain ⟨n44, hw⟩ := hw
      exact t_X10_keeps_82 X n44 _ _ hw (inR_c (a := 0) rfl) _ _ hR hS _ (lv_sub hl [1, 0] rfl)
    · have hw := hw.2 hc
      refine lv_aload_n X.1.1 X.1.2.1 dX10_keeps_18 rfl (lv_at hl 0 rfl) ?_
      refine gt_11_50 X hR (okf X.2.2.1 rfl) kw_1579 dX10_keeps_19 ?_
      refine lv_iload_n X.1.1 X.1.2.1 dX10_keeps_22 rfl (lv_at hl 1 rfl) ?_
      refine lv_aload_n X.1.1 X.1.2.1 dX10_keeps_23 rfl (lv_at hl 0 rfl) ?_
      refine gt_11_42 X hR (okf X.2.2.1 rfl) kw_1571 dX10_keeps_24 ?_
      refine lv_iload_n X.1.1 X.1.2.1 dX10_keeps_27 rfl (lv_at hl 1 rfl) ?_
      have c45 := hw.1
      have hw := hw.2
      refine ra_90 X hR (okf X.2.2.1 rfl) c45 dX10_keeps_28 ?_
      have r46 := hR.r 90 0 y1
      have c47 := hw.1
      have hw := hw.2
      refine wa_96 X hR hS (okf X.2.2.1 rfl) c47 r46 dX10_keeps_29 (fun H locs hR hS => ?_)
      obtain ⟨M48, e49⟩ : ∃ z : Mem, z = up M 96 0 y1 (M 90 0 y1) := ⟨_, rfl⟩
      rw [← e49] at hR
      have hw := hw M48 e49
      refine lv_aload_n X.1.1 X.1.2.1 dX10_keeps_30 rfl (lv_at hl 0 rfl) ?_
      refine gt_11_51 X hR (okf X.2.2.1 rfl) kw_1580 dX10_keeps_31 ?_
      refine lv_iload_n X.1.1 X.1.2.1 dX10_keeps_34 rfl (lv_at hl 1 rfl) ?_
      refine lv_aload_n X.1.1 X.1.2.1 dX10_keeps_35 rfl (lv_at hl 0 rfl) ?_
      refine gt_11_43 X hR (okf X.2.2.1 rfl) kw_1572 dX10_keeps_36 ?_
      refine lv_iload_n X.1.1 X.1.2.1 dX10_keeps_39 rfl (lv_at hl 1 rfl) ?_
      have c50 := hw.1
      have hw := hw.2
      refine ra_91 X hR (okf X.2.2.1 rfl) c50 dX10_keeps_40 ?_
      have r51 := hR.r 91 0 y1
      have c52 := hw.1
      have hw := hw.2
      refine wa_97 X hR hS (okf X.2.2.1 rfl) c52 r51 dX10_keeps_41 (fun H locs hR hS => ?_)
      obtain ⟨M53, e54⟩ : ∃ z : Mem, z = up M48 97 0 y1 (M48 91 0 y1) := ⟨_, rfl⟩
      rw [← e54] at hR
      have hw := hw M53 e54
      refine lv_aload_n X.1.1 X.1.2.1 dX10_keeps_42 rfl (lv_at hl 0 rfl) ?_
      refine gt_11_52 X hR (okf X.2.2.1 rfl) kw_1581 dX10_keeps_43 ?_
      refine lv_iload_n X.1.1 X.1.2.1 dX10_keeps_46 rfl (lv_at hl 1 rfl) ?_
      refine lv_aload_n X.1.1 X.1.2.1 dX10_keeps_47 rfl (lv_at hl 0 rfl) ?_
      refine gt_11_44 X hR (okf X.2.2.1 rfl) kw_1573 dX10_keeps_48 ?_
      refine lv_iload_n X.1.1 X.1.2.1 dX10_keeps_51 rfl (lv_at hl 1 rfl) ?_
      have c55 := hw.1
      have hw := hw.2
      refine ra_92 X hR (okf X.2.2.1 rfl) c55 dX10_keeps_52 ?_
      have r56 := hR.r 92 0 y1
      have c57 := hw.1
      have hw := hw.2
      refine wa_98 X hR hS (okf X.2.2.1 rfl) c57 r56 dX10_keeps_53 (fun H locs hR hS => ?_)
      obtain ⟨M58, e59⟩ : ∃ z : Mem, z = up M53 98 0 y1 (M53 92 0 y1) := ⟨_, rfl⟩
      rw [← e59] at hR
      have hw := hw M58 e59
      refine lv_aload_n X.1.1 X.1.2.1 dX10_keeps_54 rfl (lv_at hl 0 rfl) ?_
      refine gt_11_53 X hR (okf X.2.2.1 rfl) kw_1582 dX10_keeps_55 ?_
      refine lv_iload_n X.1.1 X.1.2.1 dX10_keeps_58 rfl (lv_at hl 1 rfl) ?_
      refine lv_aload_n X.1.1 X.1.2.1 dX10_keeps_59 rfl (lv_at hl 0 rfl) ?_
      refine gt_11_45 X hR (okf X.2.2.1 rfl) kw_1574 dX10_keeps_60 ?_
      refine lv_iload_n X.1.1 X.1.2.1 dX10_keeps_63 rfl (lv_at hl 1 rfl) ?_
      have c60 := hw.1
      have hw := hw.2
      refine ra_93 X hR (okf X.2.2.1 rfl) c60 dX10_keeps_64 ?_
      have r61 := hR.r 93 0 y1
      have c62 := hw.1
      have hw := hw.2
      refine wa_99 X hR hS (okf X.2.2.1 rfl) c62 r61 dX10_keeps_65 (fun H locs hR hS => ?_)
      obtain ⟨M63, e64⟩ : ∃ z : Mem, z = up M58 99 0 y1 (M58 93 0 y1) := ⟨_, rfl⟩
      rw [← e64] at hR
      have hw := hw M63 e64
      have c65 := hw.1
      have hw := hw.2
      refine lv_iinc (v := Int32.ofInt (y1 + 1)) (lv' := [(1, .int (Int32.ofInt (y1 + 1))), (0, .ref (α 11 0))]) X.1.1 X.1.2.1 dX10_keeps_66 hl (k := 1) rfl (Int32.ofInt_add _ _).symm (by decide) rfl (fun ls hl => ?_)
      refine lv_goto (tgt := 10) X.1.1 X.1.2.1 dX10_keeps_69 (by decide) ?_
      exact ih _ _ hw c65 _ _ hR hS _ (lv_sub hl [1, 0] rfl)
set_option maxHeartbeats 4000000 in
set_option maxRecDepth 100000 in
theorem t_X10_keeps (X : CX p m c cX10_keeps 3 s args RX10 G B κ meth none) {M : Mem} {Qm : Mem → Prop} (hw : wp_X10_keeps M Qm) (H : Heap) (locs : List Loc) (hR : Rp G e0 α κ B M H) (hS : va_S (fun q => B ≤ q) s.heap H locs) (ls : Array Slot) (hl : lv_has ls 3 [(0, .ref (α 11 0))]) : WV p l e 3 s m args below meth c G e0 α κ B Qm H locs 0 ls [] := by
  have hw : ∀ M2 : Mem, M2 = up M 11 0 54 (M 11 0 46) → (∃ n66 : Nat, wp_X10_keeps_10 Qm n66 0 M2) := hw
  refine lv_aload_n X.1.1 X.1.2.1 dX10_keeps_0 rfl (lv_at hl 0 rfl) ?_
  refine lv_aload_n X.1.1 X.1.2.1 dX10_keeps_1 rfl (lv_at hl 0 rfl) ?_
  refine gt_11_46 X hR (okf X.2.2.1 rfl) kw_1575 dX10_keeps_2 ?_
  have r1 := hR.r 11 0 46
  refine pt_11_54 X hR hS (okf X.2.2.1 rfl) r1 kw_1583 dX10_keeps_5 (fun H locs hR hS => ?_)
  obtain ⟨M2, e3⟩ : ∃ z : Mem, z = up M 11 0 54 (M 11 0 46) := ⟨_, rfl⟩
  rw [← e3] at hR
  have hw := hw M2 e3
  refine sa_const X.1 dX10_keeps_8 ?_
  refine lv_istore_n (lv' := [(1, .int (Int32.ofInt 0)), (0, .ref (α 11 0))]) X.1.1 X.1.2.1 dX10_keeps_9 rfl hl (by decide) rfl (fun ls hl => ?_)
  obtain ⟨n66, hw⟩ := hw
  exact t_X10_keeps_10 X n66 _ _ hw (inR_c (a := 0) rfl) _ _ hR hS _ (lv_sub hl [1, 0] rfl)
theorem m_X10_keeps {l : Launch} {G : Gx} {e0 : Nat} {α : Ax} {κ : Nat → Int} {B : Nat} (hκ : kOK κ) {M : Mem} {Qm : Mem → Prop} (hw : wp_X10_keeps M Qm) : CV l yX10_keeps (Cond.code yX10_keeps cX10_keeps 3 none) 3 G e0 α κ B [.ref (α 11 0)] M Qm :=
  CV.mk hκ (by decide +kernel) rfl (Nat.le_of_ble_eq_true rfl) (lv := [(0, .ref (α 11 0))]) rfl (fun p e s m args below meth c ls X hR hS hl => t_X10_keeps X hw _ _ hR hS ls hl)
theorem cs_X10_keeps {cc : ByteArray} {nL : Nat} {own : String} {ret : Option FieldType} {idx pc : Nat} (X : CX p m c cc nL s args own G B κ meth ret) {kc : Nat} {R : Room} {cells slots : Nat} (hRr : RmOK R kc) (hcel : cells ≤ R.cells ∧ slots ≤ R.slots) (hk : 3 + 1 ≤ kc) {M : Mem} {H : Heap} {locs : List Loc} (hR : Rp G e0 α κ B M H) (hS : va_S (fun q => B ≤ q) s.heap H locs) (k1 : Cond.methodLink own idx yX10_keeps ∈ gw) {ls : Array Slot} (hml : ls.size = nL) {rest : List Value} (hd : decode cc pc = .ok (.invokevirtual idx, 3)) (hrest : (rest.map fun v => v.category).sum ≤ 8) {Q : State → Prop} {Qm : Mem → Prop} (hw : wp_X10_keeps M Qm) (kk : ∀ (M1 : Mem) (H1 : Heap) (locs1 : List Loc), Qm M1 → Rp G e0 α κ B M1 H1 → va_S (fun q => B ≤ q) s.heap H1 locs1 → W p l e R s m args below meth c H1 locs1 cells slots Q (F0 m (pc + 3) ls (rest))) : W p l e R s m args below meth c H locs cells slots Q (F0 m pc ls (.ref (α 11 0) :: rest)) :=
  sa_callVV 3 (n := 0) (As := []) (rest := rest) X.1 X.2.1 hR hS (m_X10_keeps X.2.2.1 hw) k1 kw_2084 kw_92 kw_104 kw_2085 ⟨rfl, by decide +kernel, by decide +kernel, by decide +kernel⟩ (rm_ok hRr hk (by decide)) (rc_11 X hR (okf X.2.2.1 rfl)) rfl rfl hrest hml hd hcel kk
def wp_X10_look_83 (Qm : Int → Mem → Prop) (y1 : Int) (M : Mem) : Prop := wp_X10_keeps M fun (M16 : Mem) => Qm y1 M16
def wp_X10_look_45 (Qm : Int → Mem → Prop) : Nat → Int → Int → Mem → Prop
  | 0 => fun _ _ _ => False
  | n + 1 => fun y1 y2 M => (((M 11 0 49) ≤ y2 → wp_X10_look_83 Qm y1 M) ∧ (y2 < (M 11 0 49) → (((M 11 0 58) ≤ y2 → wp_X10_look_83 Qm y1 M) ∧ (y2 < (M 11 0 58) → wp_X10_isOther y2 M fun (x19 : Int) (M18 : Mem) => (inR (y1 + (if x19 = 0 then (0 : Int) else 1))) ∧ (inR (y2 + 1)) ∧ wp_X10_look_45 Qm n (y1 + (if x19 = 0 then (0 : Int) else 1)) (y2 + 1) M18))))
def wp_X10_look (M : Mem) (Qm : Int → Mem → Prop) : Prop := ∀ M1 : Mem, M1 = up M 11 0 59 0 → wp_X10_laysPages M1 fun (x4 : Int) (M3 : Mem) => ((M3 11 0 49) ≤ (M3 11 0 58) → (inR ((M3 11 0 58) - (M3 11 0 49))) ∧ True) ∧ ((M3 11 0 58) < (M3 11 0 49) → (inR ((M3 11 0 49) - (M3 11 0 58))) ∧ True) ∧ (inR (if (M3 11 0 49) ≤ (M3 11 0 58) then ((M3 11 0 58) - (M3 11 0 49)) else ((M3 11 0 49) - (M3 11 0 58)))) ∧ (∃ n26 : Nat, wp_X10_look_45 Qm n26 (if (M3 11 0 49) ≤ (M3 11 0 58) then ((M3 11 0 58) - (M3 11 0 49)) else ((M3 11 0 49) - (M3 11 0 58))) 0 M3)
set_option maxHeartbeats 4000000 in
set_option maxRecDepth 100000 in
theorem t_X10_look_83 (X : CX p m c cX10_look 3 s args RX10 G B κ meth (some .int)) {Qm : Int → Mem → Prop} : ∀ y1 : Int, ∀ M : Mem, wp_X10_look_83 Qm y1 M → inR y1 → ∀ (H : Heap) (locs : List Loc), Rp G e0 α κ B M H → va_S (fun q => B ≤ q) s.heap H locs → ∀ (ls : Array Slot), lv_has ls 3 [(0, .ref (α 11 0)), (1, .int (Int32.ofInt y1))] → WI p l e 8 s m args below meth c G e0 α κ B Qm H locs 83 ls [] := by
  intro y1 M hw hy1 H locs hR hS ls hl
  have hw : wp_X10_keeps M fun (M16 : Mem) => Qm y1 M16 := hw
  refine lv_aload_n X.1.1 X.1.2.1 dX10_look_83 rfl (lv_at hl 0 rfl) ?_
  refine cs_X10_keeps X  (kc := 8) rmL_ok rm_c (by decide) hR hS kw_2082 hl.1 dX10_look_84 (Nat.le_of_ble_eq_true rfl) hw (fun M16 H locs hw hR hS => ?_)
  refine lv_iload_n X.1.1 X.1.2.1 dX10_look_87 rfl (lv_at hl 1 rfl) ?_
  exact sa_iret X.1 X.2.2.2.1 X.2.2.2.2 hR hS hy1 hw dX10_look_88
set_option maxHeartbeats 4000000 in
set_option maxRecDepth 100000 in
theorem t_X10_look_45 (X : CX p m c cX10_look 3 s args RX10 G B κ meth (some .int)) {Qm : Int → Mem → Prop} : ∀ n : Nat, ∀ y1 : Int, ∀ y2 : Int, ∀ M : Mem, wp_X10_look_45 Qm n y1 y2 M → inR y1 → inR y2 → ∀ (H : Heap) (locs : List Loc), Rp G e0 α κ B M H → va_S (fun q => B ≤ q) s.heap H locs → ∀ (ls : Array Slot), lv_has ls 3 [(0, .ref (α 11 0)), (1, .int (Int32.ofInt y1)), (2, .int (Int32.ofInt y2))] → WI p l e 8 s m args below meth c G e0 α κ B Qm H locs 45 ls [] := by
  intro n
  induction n with
  | zero =>
    intro y1 y2 M hw hy1 hy2 H locs hR hS ls hl
    exact hw.elim
  | succ n ih =>
    intro y1 y2 M hw hy1 hy2 H locs hR hS ls hl
    have hw : (((M 11 0 49) ≤ y2 → wp_X10_look_83 Qm y1 M) ∧ (y2 < (M 11 0 49) → (((M 11 0 58) ≤ y2 → wp_X10_look_83 Qm y1 M) ∧ (y2 < (M 11 0 58) → wp_X10_isOther y2 M fun (x19 : Int) (M18 : Mem) => (inR (y1 + (if x19 = 0 then (0 : Int) else 1))) ∧ (inR (y2 + 1)) ∧ wp_X10_look_45 Qm n (y1 + (if x19 = 0 then (0 : Int) else 1)) (y2 + 1) M18)))) := hw
    refine lv_iload_n X.1.1 X.1.2.1 dX10_look_45 rfl (lv_at hl 2 rfl) ?_
    refine lv_aload_n X.1.1 X.1.2.1 dX10_look_46 rfl (lv_at hl 0 rfl) ?_
    refine gt_11_49 X hR (okf X.2.2.1 rfl) kw_1578 dX10_look_47 ?_
    have r15 := hR.r 11 0 49
    refine sa_icmp_ge (tgt := 83) X.1 hy2 r15 dX10_look_50 (by decide) (fun hc => ?_) (fun hc => ?_)
    · have hw := hw.1 hc
      exact t_X10_look_83 X _ _ hw hy1 _ _ hR hS _ (lv_sub hl [0, 1] rfl)
    · have hw := hw.2 hc
      refine lv_iload_n X.1.1 X.1.2.1 dX10_look_53 rfl (lv_at hl 2 rfl) ?_
      refine lv_aload_n X.1.1 X.1.2.1 dX10_look_54 rfl (lv_at hl 0 rfl) ?_
      refine gt_11_58 X hR (okf X.2.2.1 rfl) kw_1587 dX10_look_55 ?_
      have r17 := hR.r 11 0 58
      refine sa_icmp_ge (tgt := 83) X.1 hy2 r17 dX10_look_58 (by decide) (fun hc => ?_) (fun hc => ?_)
      · have hw := hw.1 hc
        exact t_X10_look_83 X _ _ hw hy1 _ _ hR hS _ (lv_sub hl [0, 1] rfl)
      · have hw := hw.2 hc
        refine lv_iload_n X.1.1 X.1.2.1 dX10_look_61 rfl (lv_at hl 1 rfl) ?_
        refine lv_aload_n X.1.1 X.1.2.1 dX10_look_62 rfl (lv_at hl 0 rfl) ?_
        refine lv_iload_n X.1.1 X.1.2.1 dX10_look_63 rfl (lv_at hl 2 rfl) ?_
        refine cs_X10_isOther X hy2 (kc := 8) rmL_ok rm_c (by decide) hR hS kw_2074 hl.1 dX10_look_64 (Nat.le_of_ble_eq_true rfl) hw (fun x19 M18 H locs hw r20 hR hS => ?_)
        have r21 := inR_ite (c := x19 = 0) (inR_c (a := 0) rfl) (inR_c (a := 1) rfl)
        refine cut_j (A := ∀ v22 : Int, v22 = (if x19 = 0 then (0 : Int) else 1) → WI p l e 8 s m args below meth c G e0 α κ B Qm H locs 75 ls [.int (Int32.ofInt v22), .int (Int32.ofInt y1)]) (fun J23 => ?_) ?_
        · refine sa_if_eq (tgt := 74) X.1 r20 dX10_look_67 (by decide) (fun hc => ?_) (fun hc => ?_)
          · skip
            refine sa_const X.1 dX10_look_74 ?_
            exact J23 (0) (if_pos (c := x19 = 0) hc).symm
          · skip
            refine sa_const X.1 dX10_look_70 ?_
            refine lv_goto (tgt := 75) X.1.1 X.1.2.1 dX10_look_71 (by decide) ?_
            exact J23 (1) (if_neg (c := x19 = 0) hc).symm
        intro v22 hv22
        subst hv22
        have c24 := hw.1
        have hw := hw.2
        refine sa_iadd X.1 dX10_look_75 ?_
        refine lv_istore_n (lv' := [(1, .int (Int32.ofInt (y1 + (if x19 = 0 then (0 : Int) else 1)))), (0, .ref (α 11 0)), (2, .int (Int32.ofInt y2))]) X.1.1 X.1.2.1 dX10_look_76 rfl hl (by decide) rfl (fun ls hl => ?_)
        have c25 := hw.1
        have hw := hw.2
        refine lv_iinc (v := Int32.ofInt (y2 + 1)) (lv' := [(2, .int (Int32.ofInt (y2 + 1))), (1, .int (Int32.ofInt (y1 + (if x19 = 0 then (0 : Int) else 1)))), (0, .ref (α 11 0))]) X.1.1 X.1.2.1 dX10_look_77 hl (k := 2) rfl (Int32.ofInt_add _ _).symm (by decide) rfl (fun ls hl => ?_)
        refine lv_goto (tgt := 45) X.1.1 X.1.2.1 dX10_look_80 (by decide) ?_
        exact ih _ _ _ hw c24 c25 _ _ hR hS _ (lv_sub hl [2, 1, 0] rfl)
set_option maxHeartbeats 4000000 in
set_option maxRecDepth 100000 in
theorem t_X10_look (X : CX p m c cX10_look 3 s args RX10 G B κ meth (some .int)) {M : Mem} {Qm : Int → Mem → Prop} (hw : wp_X10_look M Qm) (H : Heap) (locs : List Loc) (hR : Rp G e0 α κ B M H) (hS : va_S (fun q => B ≤ q) s.heap H locs) (ls : Array Slot) (hl : lv_has ls 3 [(0, .ref (α 11 0))]) : WI p l e 8 s m args below meth c G e0 α κ B Qm H locs 0 ls [] := by
  have hw : ∀ M1 : Mem, M1 = up M 11 0 59 0 → wp_X10_laysPages M1 fun (x4 : Int) (M3 : Mem) => ((M3 11 0 49) ≤ (M3 11 0 58) → (inR ((M3 11 0 58) - (M3 11 0 49))) ∧ True) ∧ ((M3 11 0 58) < (M3 11 0 49) → (inR ((M3 11 0 49) - (M3 11 0 58))) ∧ True) ∧ (inR (if (M3 11 0 49) ≤ (M3 11 0 58) then ((M3 11 0 58) - (M3 11 0 49)) else ((M3 11 0 49) - (M3 11 0 58)))) ∧ (∃ n26 : Nat, wp_X10_look_45 Qm n26 (if (M3 11 0 49) ≤ (M3 11 0 58) then ((M3 11 0 58) - (M3 11 0 49)) else ((M3 11 0 49) - (M3 11 0 58))) 0 M3) := hw
  refine lv_aload_n X.1.1 X.1.2.1 dX10_look_0 rfl (lv_at hl 0 rfl) ?_
  refine sa_const X.1 dX10_look_1 ?_
  refine pt_11_59 X hR hS (okf X.2.2.1 rfl) (inR_c (a := 0) rfl) kw_1588 dX10_look_2 (fun H locs hR hS => ?_)
  obtain ⟨M1, e2⟩ : ∃ z : Mem, z = up M 11 0 59 0 := ⟨_, rfl⟩
  rw [← e2] at hR
  have hw := hw M1 e2
  refine lv_aload_n X.1.1 X.1.2.1 dX10_look_5 rfl (lv_at hl 0 rfl) ?_
  refine cs_X10_laysPages X  (kc := 8) rmL_ok rm_c (by decide) hR hS kw_1973 hl.1 dX10_look_6 (Nat.le_of_ble_eq_true rfl) hw (fun x4 M3 H locs hw r5 hR hS => ?_)
  refine lv_pop X.1.1 X.1.2.1 dX10_look_9 rfl ?_
  refine lv_aload_n X.1.1 X.1.2.1 dX10_look_10 rfl (lv_at hl 0 rfl) ?_
  refine gt_11_49 X hR (okf X.2.2.1 rfl) kw_1578 dX10_look_11 ?_
  have r6 := hR.r 11 0 49
  refine lv_aload_n X.1.1 X.1.2.1 dX10_look_14 rfl (lv_at hl 0 rfl) ?_
  refine gt_11_58 X hR (okf X.2.2.1 rfl) kw_1587 dX10_look_15 ?_
  have r7 := hR.r 11 0 58
  have s10 := hw.1
  have hw := hw.2
  have s11 := hw.1
  have hw := hw.2
  have c12 := hw.1
  have hw := hw.2
  refine cut_j (A := ∀ v13 : Int, v13 = (if (M3 11 0 49) ≤ (M3 11 0 58) then ((M3 11 0 58) - (M3 11 0 49)) else ((M3 11 0 49) - (M3 11 0 58))) → WI p l e 8 s m args below meth c G e0 α κ B Qm H locs 42 ls [.int (Int32.ofInt v13)]) (fun J14 => ?_) ?_
  · refine sa_icmp_le (tgt := 33) X.1 r6 r7 dX10_look_18 (by decide) (fun hc => ?_) (fun hc => ?_)
    · have hw := s10 hc
      refine lv_aload_n X.1.1 X.1.2.1 dX10_look_33 rfl (lv_at hl 0 rfl) ?_
      refine gt_11_58 X hR (okf X.2.2.1 rfl) kw_1587 dX10_look_34 ?_
      refine lv_aload_n X.1.1 X.1.2.1 dX10_look_37 rfl (lv_at hl 0 rfl) ?_
      refine gt_11_49 X hR (okf X.2.2.1 rfl) kw_1578 dX10_look_38 ?_
      have c8 := hw.1
      have hw := hw.2
      refine sa_isub X.1 dX10_look_41 ?_
      exact J14 (((M3 11 0 58) - (M3 11 0 49))) (if_pos (c := (M3 11 0 49) ≤ (M3 11 0 58)) hc).symm
    · have hw := s11 hc
      refine lv_aload_n X.1.1 X.1.2.1 dX10_look_21 rfl (lv_at hl 0 rfl) ?_
      refine gt_11_49 X hR (okf X.2.2.1 rfl) kw_1578 dX10_look_22 ?_
      refine lv_aload_n X.1.1 X.1.2.1 dX10_look_25 rfl (lv_at hl 0 rfl) ?_
      refine gt_11_58 X hR (okf X.2.2.1 rfl) kw_1587 dX10_look_26 ?_
      have c9 := hw.1
      have hw := hw.2
      refine sa_isub X.1 dX10_look_29 ?_
      refine lv_goto (tgt := 42) X.1.1 X.1.2.1 dX10_look_30 (by decide) ?_
      exact J14 (((M3 11 0 49) - (M3 11 0 58))) (if_neg (c := (M3 11 0 49) ≤ (M3 11 0 58)) (Int.not_le.mpr hc)).symm
  intro v13 hv13
  subst hv13
  refine lv_istore_n (lv' := [(1, .int (Int32.ofInt (if (M3 11 0 49) ≤ (M3 11 0 58) then ((M3 11 0 58) - (M3 11 0 49)) else ((M3 11 0 49) - (M3 11 0 58))))), (0, .ref (α 11 0))]) X.1.1 X.1.2.1 dX10_look_42 rfl hl (by decide) rfl (fun ls hl => ?_)
  refine sa_const X.1 dX10_look_43 ?_
  refine lv_istore_n (lv' := [(2, .int (Int32.ofInt 0)), (1, .int (Int32.ofInt (if (M3 11 0 49) ≤ (M3 11 0 58) then ((M3 11 0 58) - (M3 11 0 49)) else ((M3 11 0 49) - (M3 11 0 58))))), (0, .ref (α 11 0))]) X.1.1 X.1.2.1 dX10_look_44 rfl hl (by decide) rfl (fun ls hl => ?_)
  obtain ⟨n26, hw⟩ := hw
  exact t_X10_look_45 X n26 _ _ _ hw c12 (inR_c (a := 0) rfl) _ _ hR hS _ (lv_sub hl [2, 1, 0] rfl)
theorem m_X10_look {l : Launch} {G : Gx} {e0 : Nat} {α : Ax} {κ : Nat → Int} {B : Nat} (hκ : kOK κ) {M : Mem} {Qm : Int → Mem → Prop} (hw : wp_X10_look M Qm) : CI l yX10_look (Cond.code yX10_look cX10_look 3 (some .int)) 8 G e0 α κ B [.ref (α 11 0)] M Qm :=
  CI.mk hκ (by decide +kernel) rfl (Nat.le_of_ble_eq_true rfl) (lv := [(0, .ref (α 11 0))]) rfl (fun p e s m args below meth c ls X hR hS hl => t_X10_look X hw _ _ hR hS ls hl)
theorem cs_X10_look {cc : ByteArray} {nL : Nat} {own : String} {ret : Option FieldType} {idx pc : Nat} (X : CX p m c cc nL s args own G B κ meth ret) {kc : Nat} {R : Room} {cells slots : Nat} (hRr : RmOK R kc) (hcel : cells ≤ R.cells ∧ slots ≤ R.slots) (hk : 8 + 1 ≤ kc) {M : Mem} {H : Heap} {locs : List Loc} (hR : Rp G e0 α κ B M H) (hS : va_S (fun q => B ≤ q) s.heap H locs) (k1 : Cond.methodLink own idx yX10_look ∈ gw) {ls : Array Slot} (hml : ls.size = nL) {rest : List Value} (hd : decode cc pc = .ok (.invokevirtual idx, 3)) (hrest : (rest.map fun v => v.category).sum ≤ 8) {Q : State → Prop} {Qm : Int → Mem → Prop} (hw : wp_X10_look M Qm) (kk : ∀ (r : Int) (M1 : Mem) (H1 : Heap) (locs1 : List Loc), Qm r M1 → inR r → Rp G e0 α κ B M1 H1 → va_S (fun q => B ≤ q) s.heap H1 locs1 → W p l e R s m args below meth c H1 locs1 cells slots Q (F0 m (pc + 3) ls (.int (Int32.ofInt r) :: rest))) : W p l e R s m args below meth c H locs cells slots Q (F0 m pc ls (.ref (α 11 0) :: rest)) :=
  sa_callVI 8 (n := 0) (As := []) (rest := rest) X.1 X.2.1 hR hS (m_X10_look X.2.2.1 hw) k1 kw_2071 kw_2072 kw_104 kw_2073 ⟨rfl, by decide +kernel, by decide +kernel, by decide +kernel⟩ (rm_ok hRr hk (by decide)) (rc_11 X hR (okf X.2.2.1 rfl)) rfl rfl hrest hml hd hcel kk
def wp_X10_used_23 (p1 : Int) (Qm : Int → Mem → Prop) (z0 : Int) (M : Mem) : Prop := wp_X10_goes z0 0 1 M fun (x5 : Int) (M4 : Mem) => ((¬ x5 = 0 → wp_X10_isAnyTotalled M4 fun (x8 : Int) (M7 : Mem) => wp_X10_sumOf 0 M7 fun (x14 : Int) (M13 : Mem) => wp_X10_sumOf 2 M13 fun (x17 : Int) (M16 : Mem) => (inR (x14 + x17)) ∧ (0 < p1 → (inR (1 + (if x8 = 0 then (0 : Int) else 1))) ∧ True) ∧ (inR (if p1 ≤ 0 then (0 : Int) else (1 + (if x8 = 0 then (0 : Int) else 1)))) ∧ (inR ((x14 + x17) + (if p1 ≤ 0 then (0 : Int) else (1 + (if x8 = 0 then (0 : Int) else 1))))) ∧ (inR ((M16 11 0 49) - 1)) ∧ (inR (((x14 + x17) + (if p1 ≤ 0 then (0 : Int) else (1 + (if x8 = 0 then (0 : Int) else 1)))) + (if ((M16 11 0 49) - 1) ≤ p1 then (0 : Int) else (if x8 = 0 then (0 : Int) else 1)))) ∧ (0 ≤ p1 ∧ p1 < 1000) ∧ (inR ((((x14 + x17) + (if p1 ≤ 0 then (0 : Int) else (1 + (if x8 = 0 then (0 : Int) else 1)))) + (if ((M16 11 0 49) - 1) ≤ p1 then (0 : Int) else (if x8 = 0 then (0 : Int) else 1))) + (M16 95 0 p1))) ∧ wp_X10_restOfNotes p1 M16 fun (x36 : Int) (M35 : Mem) => (inR (((((x14 + x17) + (if p1 ≤ 0 then (0 : Int) else (1 + (if x8 = 0 then (0 : Int) else 1)))) + (if ((M16 11 0 49) - 1) ≤ p1 then (0 : Int) else (if x8 = 0 then (0 : Int) else 1))) + (M16 95 0 p1)) + x36)) ∧ Qm (((((x14 + x17) + (if p1 ≤ 0 then (0 : Int) else (1 + (if x8 = 0 then (0 : Int) else 1)))) + (if ((M16 11 0 49) - 1) ≤ p1 then (0 : Int) else (if x8 = 0 then (0 : Int) else 1))) + (M16 95 0 p1)) + x36) M35) ∧ (x5 = 0 → Qm 0 M4))
def wp_X10_used (p1 : Int) (M : Mem) (Qm : Int → Mem → Prop) : Prop := wp_X10_laysPages M fun (x2 : Int) (M1 : Mem) => ((x2 = 0 → wp_X10_used_23 p1 Qm x2 M1) ∧ (¬ x2 = 0 → wp_X10_isPage p1 M1 fun (x40 : Int) (M39 : Mem) => wp_X10_goes x2 (if x40 = 0 then (0 : Int) else 1) 1 M39 fun (x46 : Int) (M45 : Mem) => ((¬ x46 = 0 → wp_X10_isAnyTotalled M45 fun (x49 : Int) (M48 : Mem) => wp_X10_sumOf 0 M48 fun (x55 : Int) (M54 : Mem) => wp_X10_sumOf 2 M54 fun (x58 : Int) (M57 : Mem) => (inR (x55 + x58)) ∧ (0 < p1 → (inR (1 + (if x49 = 0 then (0 : Int) else 1))) ∧ True) ∧ (inR (if p1 ≤ 0 then (0 : Int) else (1 + (if x49 = 0 then (0 : Int) else 1)))) ∧ (inR ((x55 + x58) + (if p1 ≤ 0 then (0 : Int) else (1 + (if x49 = 0 then (0 : Int) else 1))))) ∧ (inR ((M57 11 0 49) - 1)) ∧ (inR (((x55 + x58) + (if p1 ≤ 0 then (0 : Int) else (1 + (if x49 = 0 then (0 : Int) else 1)))) + (if ((M57 11 0 49) - 1) ≤ p1 then (0 : Int) else (if x49 = 0 then (0 : Int) else 1)))) ∧ (0 ≤ p1 ∧ p1 < 1000) ∧ (inR ((((x55 + x58) + (if p1 ≤ 0 then (0 : Int) else (1 + (if x49 = 0 then (0 : Int) else 1)))) + (if ((M57 11 0 49) - 1) ≤ p1 then (0 : Int) else (if x49 = 0 then (0 : Int) else 1))) + (M57 95 0 p1))) ∧ wp_X10_restOfNotes p1 M57 fun (x77 : Int) (M76 : Mem) => (inR (((((x55 + x58) + (if p1 ≤ 0 then (0 : Int) else (1 + (if x49 = 0 then (0 : Int) else 1)))) + (if ((M57 11 0 49) - 1) ≤ p1 then (0 : Int) else (if x49 = 0 then (0 : Int) else 1))) + (M57 95 0 p1)) + x77)) ∧ Qm (((((x55 + x58) + (if p1 ≤ 0 then (0 : Int) else (1 + (if x49 = 0 then (0 : Int) else 1)))) + (if ((M57 11 0 49) - 1) ≤ p1 then (0 : Int) else (if x49 = 0 then (0 : Int) else 1))) + (M57 95 0 p1)) + x77) M76) ∧ (x46 = 0 → Qm 0 M45))))
set_option maxHeartbeats 4000000 in
set_option maxRecDepth 100000 in
theorem t_X10_used_23 {p1 : Int} (X : CX p m c cX10_used 4 s args RX10 G B κ meth (some .int)) (hp1 : inR p1) {Qm : Int → Mem → Prop} : ∀ z0 : Int, ∀ M : Mem, wp_X10_used_23 p1 Qm z0 M → inR z0 → ∀ (H : Heap) (locs : List Loc), Rp G e0 α κ B M H → va_S (fun q => B ≤ q) s.heap H locs → ∀ (ls : Array Slot), lv_has ls 4 [(0, .ref (α 11 0)), (1, .int (Int32.ofInt p1))] → WI p l e 8 s m args below meth c G e0 α κ B Qm H locs 23 ls [.int (Int32.ofInt z0), .ref (α 11 0)] := by
  intro z0 M hw hz0 H locs hR hS ls hl
  have hw : wp_X10_goes z0 0 1 M fun (x5 : Int) (M4 : Mem) => ((¬ x5 = 0 → wp_X10_isAnyTotalled M4 fun (x8 : Int) (M7 : Mem) => wp_X10_sumOf 0 M7 fun (x14 : Int) (M13 : Mem) => wp_X10_sumOf 2 M13 fun (x17 : Int) (M16 : Mem) => (inR (x14 + x17)) ∧ (0 < p1 → (inR (1 + (if x8 = 0 then (0 : Int) else 1))) ∧ True) ∧ (inR (if p1 ≤ 0 then (0 : Int) else (1 + (if x8 = 0 then (0 : Int) else 1)))) ∧ (inR ((x14 + x17) + (if p1 ≤ 0 then (0 : Int) else (1 + (if x8 = 0 then (0 : Int) else 1))))) ∧ (inR ((M16 11 0 49) - 1)) ∧ (inR (((x14 + x17) + (if p1 ≤ 0 then (0 : Int) else (1 + (if x8 = 0 then (0 : Int) else 1)))) + (if ((M16 11 0 49) - 1) ≤ p1 then (0 : Int) else (if x8 = 0 then (0 : Int) else 1)))) ∧ (0 ≤ p1 ∧ p1 < 1000) ∧ (inR ((((x14 + x17) + (if p1 ≤ 0 then (0 : Int) else (1 + (if x8 = 0 then (0 : Int) else 1)))) + (if ((M16 11 0 49) - 1) ≤ p1 then (0 : Int) else (if x8 = 0 then (0 : Int) else 1))) + (M16 95 0 p1))) ∧ wp_X10_restOfNotes p1 M16 fun (x36 : Int) (M35 : Mem) => (inR (((((x14 + x17) + (if p1 ≤ 0 then (0 : Int) else (1 + (if x8 = 0 then (0 : Int) else 1)))) + (if ((M16 11 0 49) - 1) ≤ p1 then (0 : Int) else (if x8 = 0 then (0 : Int) else 1))) + (M16 95 0 p1)) + x36)) ∧ Qm (((((x14 + x17) + (if p1 ≤ 0 then (0 : Int) else (1 + (if x8 = 0 then (0 : Int) else 1)))) + (if ((M16 11 0 49) - 1) ≤ p1 then (0 : Int) else (if x8 = 0 then (0 : Int) else 1))) + (M16 95 0 p1)) + x36) M35) ∧ (x5 = 0 → Qm 0 M4)) := hw
  refine sa_const X.1 dX10_used_23 ?_
  refine sa_const X.1 dX10_used_24 ?_
  refine cs_X10_goes X hz0 (inR_c (a := 0) rfl) (inR_c (a := 1) rfl) (kc := 8) rmL_ok rm_c (by decide) hR hS kw_1721 hl.1 dX10_used_25 (Nat.le_of_ble_eq_true rfl) hw (fun x5 M4 H locs hw r6 hR hS => ?_)
  refine sa_if_ne (tgt := 33) X.1 r6 dX10_used_28 (by decide) (fun hc => ?_) (fun hc => ?_)
  · have hw := hw.1 hc
    refine lv_aload_n X.1.1 X.1.2.1 dX10_used_33 rfl (lv_at hl 0 rfl) ?_
    refine cs_X10_isAnyTotalled X  (kc := 8) rmL_ok rm_c (by decide) hR hS kw_1981 hl.1 dX10_used_34 (Nat.le_of_ble_eq_true rfl) hw (fun x8 M7 H locs hw r9 hR hS => ?_)
    have r10 := inR_ite (c := x8 = 0) (inR_c (a := 0) rfl) (inR_c (a := 1) rfl)
    refine cut_j (A := ∀ v11 : Int, v11 = (if x8 = 0 then (0 : Int) else 1) → WI p l e 8 s m args below meth c G e0 α κ B Qm H locs 45 ls [.int (Int32.ofInt v11)]) (fun J12 => ?_) ?_
    · refine sa_if_eq (tgt := 44) X.1 r9 dX10_used_37 (by decide) (fun hc => ?_) (fun hc => ?_)
      · skip
        refine sa_const X.1 dX10_used_44 ?_
        exact J12 (0) (if_pos (c := x8 = 0) hc).symm
      · skip
        refine sa_const X.1 dX10_used_40 ?_
        refine lv_goto (tgt := 45) X.1.1 X.1.2.1 dX10_used_41 (by decide) ?_
        exact J12 (1) (if_neg (c := x8 = 0) hc).symm
    intro v11 hv11
    subst hv11
    refine lv_istore_n (lv' := [(3, .int (Int32.ofInt (if x8 = 0 then (0 : Int) else 1))), (0, .ref (α 11 0)), (1, .int (Int32.ofInt p1))]) X.1.1 X.1.2.1 dX10_used_45 rfl hl (by decide) rfl (fun ls hl => ?_)
    refine lv_aload_n X.1.1 X.1.2.1 dX10_used_46 rfl (lv_at hl 1 rfl) ?_
    refine sa_const X.1 dX10_used_47 ?_
    refine cs_X10_sumOf X (inR_c (a := 0) rfl) (kc := 8) rmL_ok rm_c (by decide) hR hS kw_1934 hl.1 dX10_used_48 (Nat.le_of_ble_eq_true rfl) hw (fun x14 M13 H locs hw r15 hR hS => ?_)
    refine lv_aload_n X.1.1 X.1.2.1 dX10_used_51 rfl (lv_at hl 1 rfl) ?_
    refine sa_const X.1 dX10_used_52 ?_
    refine cs_X10_sumOf X (inR_c (a := 2) rfl) (kc := 8) rmL_ok rm_c (by decide) hR hS kw_1934 hl.1 dX10_used_53 (Nat.le_of_ble_eq_true rfl) hw (fun x17 M16 H locs hw r18 hR hS => ?_)
    have c19 := hw.1
    have hw := hw.2
    refine sa_iadd X.1 dX10_used_56 ?_
    refine lv_iload_n X.1.1 X.1.2.1 dX10_used_57 rfl (lv_at hl 2 rfl) ?_
    have s21 := hw.1
    have hw := hw.2
    have c22 := hw.1
    have hw := hw.2
    refine cut_j (A := ∀ v23 : Int, v23 = (if p1 ≤ 0 then (0 : Int) else (1 + (if x8 = 0 then (0 : Int) else 1))) → WI p l e 8 s m args below meth c G e0 α κ B Qm H locs 68 ls [.int (Int32.ofInt v23), .int (Int32.ofInt (x14 + x17))]) (fun J24 => ?_) ?_
    · refine sa_if_le (tgt := 67) X.1 hp1 dX10_used_58 (by decide) (fun hc => ?_) (fun hc => ?_)
      · skip
        refine sa_const X.1 dX10_used_67 ?_
        exact J24 (0) (if_pos (c := p1 ≤ 0) hc).symm
      · have hw := s21 hc
        refine sa_const X.1 dX10_used_61 ?_
        refine lv_iload_n X.1.1 X.1.2.1 dX10_used_62 rfl (lv_at hl 0 rfl) ?_
        have c20 := hw.1
        have hw := hw.2
        refine sa_iadd X.1 dX10_used_63 ?_
        refine lv_goto (tgt := 68) X.1.1 X.1.2.1 dX10_used_64 (by decide) ?_
        exact J24 ((1 + (if x8 = 0 then (0 : Int) else 1))) (if_neg (c := p1 ≤ 0) (Int.not_le.mpr hc)).symm
    intro v23 hv23
    subst hv23
    have c25 := hw.1
    have hw := hw.2
    refine sa_iadd X.1 dX10_used_68 ?_
    refine lv_iload_n X.1.1 X.1.2.1 dX10_used_69 rfl (lv_at hl 2 rfl) ?_
    refine lv_aload_n X.1.1 X.1.2.1 dX10_used_70 rfl (lv_at hl 1 rfl) ?_
    refine gt_11_49 X hR (okf X.2.2.1 rfl) kw_1578 dX10_used_71 ?_
    have r26 := hR.r 11 0 49
    refine sa_const X.1 dX10_used_74 ?_
    have c27 := hw.1
    have hw := hw.2
    refine sa_isub X.1 dX10_used_75 ?_
    have r28 := inR_ite (c := ((M16 11 0 49) - 1) ≤ p1) (inR_c (a := 0) rfl) r10
    refine cut_j (A := ∀ v29 : Int, v29 = (if ((M16 11 0 49) - 1) ≤ p1 then (0 : Int) else (if x8 = 0 then (0 : Int) else 1)) → WI p l e 8 s m args below meth c G e0 α κ B Qm H locs 84 ls [.int (Int32.ofInt v29), .int (Int32.ofInt ((x14 + x17) + (if p1 ≤ 0 then (0 : Int) else (1 + (if x8 = 0 then (0 : Int) else 1)))))]) (fun J30 => ?_) ?_
    · refine sa_icmp_ge (tgt := 83) X.1 hp1 c27 dX10_used_76 (by decide) (fun hc => ?_) (fun hc => ?_)
      · skip
        refine sa_const X.1 dX10_used_83 ?_
        exact J30 (0) (if_pos (c := ((M16 11 0 49) - 1) ≤ p1) hc).symm
      · skip
        refine lv_iload_n X.1.1 X.1.2.1 dX10_used_79 rfl (lv_at hl 0 rfl) ?_
        refine lv_goto (tgt := 84) X.1.1 X.1.2.1 dX10_used_80 (by decide) ?_
        exact J30 ((if x8 = 0 then (0 : Int) else 1)) (if_neg (c := ((M16 11 0 49) - 1) ≤ p1) (Int.not_le.mpr hc)).symm
    intro v29 hv29
    subst hv29
    have c31 := hw.1
    have hw := hw.2
    refine sa_iadd X.1 dX10_used_84 ?_
    refine lv_aload_n X.1.1 X.1.2.1 dX10_used_85 rfl (lv_at hl 1 rfl) ?_
    refine gt_11_48 X hR (okf X.2.2.1 rfl) kw_1577 dX10_used_86 ?_
    refine lv_iload_n X.1.1 X.1.2.1 dX10_used_89 rfl (lv_at hl 2 rfl) ?_
    have c32 := hw.1
    have hw := hw.2
    refine ra_95 X hR (okf X.2.2.1 rfl) c32 dX10_used_90 ?_
    have r33 := hR.r 95 0 p1
    have c34 := hw.1
    have hw := hw.2
    refine sa_iadd X.1 dX10_used_91 ?_
    refine lv_aload_n X.1.1 X.1.2.1 dX10_used_92 rfl (lv_at hl 1 rfl) ?_
    refine lv_iload_n X.1.1 X.1.2.1 dX10_used_93 rfl (lv_at hl 2 rfl) ?_
    refine cs_X10_restOfNotes X hp1 (kc := 8) rmL_ok rm_c (by decide) hR hS kw_2037 hl.1 dX10_used_94 (Nat.le_of_ble_eq_true rfl) hw (fun x36 M35 H locs hw r37 hR hS => ?_)
    have c38 := hw.1
    have hw := hw.2
    refine sa_iadd X.1 dX10_used_97 ?_
    exact sa_iret X.1 X.2.2.2.1 X.2.2.2.2 hR hS c38 hw dX10_used_98
  · have hw := hw.2 hc
    refine sa_const X.1 dX10_used_31 ?_
    exact sa_iret X.1 X.2.2.2.1 X.2.2.2.2 hR hS (inR_c (a := 0) rfl) hw dX10_used_32
set_option maxHeartbeats 4000000 in
set_option maxRecDepth 100000 in
theorem t_X10_used {p1 : Int} (X : CX p m c cX10_used 4 s args RX10 G B κ meth (some .int)) (hp1 : inR p1) {M : Mem} {Qm : Int → Mem → Prop} (hw : wp_X10_used p1 M Qm) (H : Heap) (locs : List Loc) (hR : Rp G e0 α κ B M H) (hS : va_S (fun q => B ≤ q) s.heap H locs) (ls : Array Slot) (hl : lv_has ls 4 [(0, .ref (α 11 0)), (1, .int (Int32.ofInt p1))]) : WI p l e 8 s m args below meth c G e0 α κ B Qm H locs 0 ls [] := by
  have hw : wp_X10_laysPages M fun (x2 : Int) (M1 : Mem) => ((x2 = 0 → wp_X10_used_23 p1 Qm x2 M1) ∧ (¬ x2 = 0 → wp_X10_isPage p1 M1 fun (x40 : Int) (M39 : Mem) => wp_X10_goes x2 (if x40 = 0 then (0 : Int) else 1) 1 M39 fun (x46 : Int) (M45 : Mem) => ((¬ x46 = 0 → wp_X10_isAnyTotalled M45 fun (x49 : Int) (M48 : Mem) => wp_X10_sumOf 0 M48 fun (x55 : Int) (M54 : Mem) => wp_X10_sumOf 2 M54 fun (x58 : Int) (M57 : Mem) => (inR (x55 + x58)) ∧ (0 < p1 → (inR (1 + (if x49 = 0 then (0 : Int) else 1))) ∧ True) ∧ (inR (if p1 ≤ 0 then (0 : Int) else (1 + (if x49 = 0 then (0 : Int) else 1)))) ∧ (inR ((x55 + x58) + (if p1 ≤ 0 then (0 : Int) else (1 + (if x49 = 0 then (0 : Int) else 1))))) ∧ (inR ((M57 11 0 49) - 1)) ∧ (inR (((x55 + x58) + (if p1 ≤ 0 then (0 : Int) else (1 + (if x49 = 0 then (0 : Int) else 1)))) + (if ((M57 11 0 49) - 1) ≤ p1 then (0 : Int) else (if x49 = 0 then (0 : Int) else 1)))) ∧ (0 ≤ p1 ∧ p1 < 1000) ∧ (inR ((((x55 + x58) + (if p1 ≤ 0 then (0 : Int) else (1 + (if x49 = 0 then (0 : Int) else 1)))) + (if ((M57 11 0 49) - 1) ≤ p1 then (0 : Int) else (if x49 = 0 then (0 : Int) else 1))) + (M57 95 0 p1))) ∧ wp_X10_restOfNotes p1 M57 fun (x77 : Int) (M76 : Mem) => (inR (((((x55 + x58) + (if p1 ≤ 0 then (0 : Int) else (1 + (if x49 = 0 then (0 : Int) else 1)))) + (if ((M57 11 0 49) - 1) ≤ p1 then (0 : Int) else (if x49 = 0 then (0 : Int) else 1))) + (M57 95 0 p1)) + x77)) ∧ Qm (((((x55 + x58) + (if p1 ≤ 0 then (0 : Int) else (1 + (if x49 = 0 then (0 : Int) else 1)))) + (if ((M57 11 0 49) - 1) ≤ p1 then (0 : Int) else (if x49 = 0 then (0 : Int) else 1))) + (M57 95 0 p1)) + x77) M76) ∧ (x46 = 0 → Qm 0 M45)))) := hw
  refine lv_aload_n X.1.1 X.1.2.1 dX10_used_0 rfl (lv_at hl 0 rfl) ?_
  refine cs_X10_laysPages X  (kc := 8) rmL_ok rm_c (by decide) hR hS kw_1973 hl.1 dX10_used_1 (Nat.le_of_ble_eq_true rfl) hw (fun x2 M1 H locs hw r3 hR hS => ?_)
  refine lv_istore_n (lv' := [(2, .int (Int32.ofInt x2)), (0, .ref (α 11 0)), (1, .int (Int32.ofInt p1))]) X.1.1 X.1.2.1 dX10_used_4 rfl hl (by decide) rfl (fun ls hl => ?_)
  refine lv_aload_n X.1.1 X.1.2.1 dX10_used_5 rfl (lv_at hl 1 rfl) ?_
  refine lv_iload_n X.1.1 X.1.2.1 dX10_used_6 rfl (lv_at hl 0 rfl) ?_
  refine lv_iload_n X.1.1 X.1.2.1 dX10_used_7 rfl (lv_at hl 0 rfl) ?_
  refine sa_if_eq (tgt := 23) X.1 r3 dX10_used_8 (by decide) (fun hc => ?_) (fun hc => ?_)
  · have hw := hw.1 hc
    exact t_X10_used_23 X hp1 _ _ hw r3 _ _ hR hS _ (lv_sub hl [1, 2] rfl)
  · have hw := hw.2 hc
    refine lv_aload_n X.1.1 X.1.2.1 dX10_used_11 rfl (lv_at hl 1 rfl) ?_
    refine lv_iload_n X.1.1 X.1.2.1 dX10_used_12 rfl (lv_at hl 2 rfl) ?_
    refine cs_X10_isPage X hp1 (kc := 8) rmL_ok rm_c (by decide) hR hS kw_2033 hl.1 dX10_used_13 (Nat.le_of_ble_eq_true rfl) hw (fun x40 M39 H locs hw r41 hR hS => ?_)
    have r42 := inR_ite (c := x40 = 0) (inR_c (a := 0) rfl) (inR_c (a := 1) rfl)
    refine cut_j (A := ∀ v43 : Int, v43 = (if x40 = 0 then (0 : Int) else 1) → WI p l e 8 s m args below meth c G e0 α κ B Qm H locs 24 ls [.int (Int32.ofInt v43), .int (Int32.ofInt x2), .ref (α 11 0)]) (fun J44 => ?_) ?_
    · refine sa_if_eq (tgt := 23) X.1 r41 dX10_used_16 (by decide) (fun hc => ?_) (fun hc => ?_)
      · skip
        refine sa_const X.1 dX10_used_23 ?_
        exact J44 (0) (if_pos (c := x40 = 0) hc).symm
      · skip
        refine sa_const X.1 dX10_used_19 ?_
        refine lv_goto (tgt := 24) X.1.1 X.1.2.1 dX10_used_20 (by decide) ?_
        exact J44 (1) (if_neg (c := x40 = 0) hc).symm
    intro v43 hv43
    subst hv43
    refine sa_const X.1 dX10_used_24 ?_
    refine cs_X10_goes X r3 r42 (inR_c (a := 1) rfl) (kc := 8) rmL_ok rm_c (by decide) hR hS kw_1721 hl.1 dX10_used_25 (Nat.le_of_ble_eq_true rfl) hw (fun x46 M45 H locs hw r47 hR hS => ?_)
    refine sa_if_ne (tgt := 33) X.1 r47 dX10_used_28 (by decide) (fun hc => ?_) (fun hc => ?_)
    · have hw := hw.1 hc
      refine lv_aload_n X.1.1 X.1.2.1 dX10_used_33 rfl (lv_at hl 1 rfl) ?_
      refine cs_X10_isAnyTotalled X  (kc := 8) rmL_ok rm_c (by decide) hR hS kw_1981 hl.1 dX10_used_34 (Nat.le_of_ble_eq_true rfl) hw (fun x49 M48 H locs hw r50 hR hS => ?_)
      have r51 := inR_ite (c := x49 = 0) (inR_c (a := 0) rfl) (inR_c (a := 1) rfl)
      refine cut_j (A := ∀ v52 : Int, v52 = (if x49 = 0 then (0 : Int) else 1) → WI p l e 8 s m args below meth c G e0 α κ B Qm H locs 45 ls [.int (Int32.ofInt v52)]) (fun J53 => ?_) ?_
      · refine sa_if_eq (tgt := 44) X.1 r50 dX10_used_37 (by decide) (fun hc => ?_) (fun hc => ?_)
        · skip
          refine sa_const X.1 dX10_used_44 ?_
          exact J53 (0) (if_pos (c := x49 = 0) hc).symm
        · skip
          refine sa_const X.1 dX10_used_40 ?_
          refine lv_goto (tgt := 45) X.1.1 X.1.2.1 dX10_used_41 (by decide) ?_
          exact J53 (1) (if_neg (c := x49 = 0) hc).symm
      intro v52 hv52
      subst hv52
      refine lv_istore_n (lv' := [(3, .int (Int32.ofInt (if x49 = 0 then (0 : Int) else 1))), (2, .int (Int32.ofInt x2)), (0, .ref (α 11 0)), (1, .int (Int32.ofInt p1))]) X.1.1 X.1.2.1 dX10_used_45 rfl hl (by decide) rfl (fun ls hl => ?_)
      refine lv_aload_n X.1.1 X.1.2.1 dX10_used_46 rfl (lv_at hl 2 rfl) ?_
      refine sa_const X.1 dX10_used_47 ?_
      refine cs_X10_sumOf X (inR_c (a := 0) rfl) (kc := 8) rmL_ok rm_c (by decide) hR hS kw_1934 hl.1 dX10_used_48 (Nat.le_of_ble_eq_true rfl) hw (fun x55 M54 H locs hw r56 hR hS => ?_)
      refine lv_aload_n X.1.1 X.1.2.1 dX10_used_51 rfl (lv_at hl 2 rfl) ?_
      refine sa_const X.1 dX10_used_52 ?_
      refine cs_X10_sumOf X (inR_c (a := 2) rfl) (kc := 8) rmL_ok rm_c (by decide) hR hS kw_1934 hl.1 dX10_used_53 (Nat.le_of_ble_eq_true rfl) hw (fun x58 M57 H locs hw r59 hR hS => ?_)
      have c60 := hw.1
      have hw := hw.2
      refine sa_iadd X.1 dX10_used_56 ?_
      refine lv_iload_n X.1.1 X.1.2.1 dX10_used_57 rfl (lv_at hl 3 rfl) ?_
      have s62 := hw.1
      have hw := hw.2
      have c63 := hw.1
      have hw := hw.2
      refine cut_j (A := ∀ v64 : Int, v64 = (if p1 ≤ 0 then (0 : Int) else (1 + (if x49 = 0 then (0 : Int) else 1))) → WI p l e 8 s m args below meth c G e0 α κ B Qm H locs 68 ls [.int (Int32.ofInt v64), .int (Int32.ofInt (x55 + x58))]) (fun J65 => ?_) ?_
      · refine sa_if_le (tgt := 67) X.1 hp1 dX10_used_58 (by decide) (fun hc => ?_) (fun hc => ?_)
        · skip
          refine sa_const X.1 dX10_used_67 ?_
          exact J65 (0) (if_pos (c := p1 ≤ 0) hc).symm
        · have hw := s62 hc
          refine sa_const X.1 dX10_used_61 ?_
          refine lv_iload_n X.1.1 X.1.2.1 dX10_used_62 rfl (lv_at hl 0 rfl) ?_
          have c61 := hw.1
          have hw := hw.2
          refine sa_iadd X.1 dX10_used_63 ?_
          refine lv_goto (tgt := 68) X.1.1 X.1.2.1 dX10_used_64 (by decide) ?_
          exact J65 ((1 + (if x49 = 0 then (0 : Int) else 1))) (if_neg (c := p1 ≤ 0) (Int.not_le.mpr hc)).symm
      intro v64 hv64
      subst hv64
      have c66 := hw.1
      have hw := hw.2
      refine sa_iadd X.1 dX10_used_68 ?_
      refine lv_iload_n X.1.1 X.1.2.1 dX10_used_69 rfl (lv_at hl 3 rfl) ?_
      refine lv_aload_n X.1.1 X.1.2.1 dX10_used_70 rfl (lv_at hl 2 rfl) ?_
      refine gt_11_49 X hR (okf X.2.2.1 rfl) kw_1578 dX10_used_71 ?_
      have r67 := hR.r 11 0 49
      refine sa_const X.1 dX10_used_74 ?_
      have c68 := hw.1
      have hw := hw.2
      refine sa_isub X.1 dX10_used_75 ?_
      have r69 := inR_ite (c := ((M57 11 0 49) - 1) ≤ p1) (inR_c (a := 0) rfl) r51
      refine cut_j (A := ∀ v70 : Int, v70 = (if ((M57 11 0 49) - 1) ≤ p1 then (0 : Int) else (if x49 = 0 then (0 : Int) else 1)) → WI p l e 8 s m args below meth c G e0 α κ B Qm H locs 84 ls [.int (Int32.ofInt v70), .int (Int32.ofInt ((x55 + x58) + (if p1 ≤ 0 then (0 : Int) else (1 + (if x49 = 0 then (0 : Int) else 1)))))]) (fun J71 => ?_) ?_
      · refine sa_icmp_ge (tgt := 83) X.1 hp1 c68 dX10_used_76 (by decide) (fun hc => ?_) (fun hc => ?_)
        · skip
          refine sa_const X.1 dX10_used_83 ?_
          exact J71 (0) (if_pos (c := ((M57 11 0 49) - 1) ≤ p1) hc).symm
        · skip
          refine lv_iload_n X.1.1 X.1.2.1 dX10_used_79 rfl (lv_at hl 0 rfl) ?_
          refine lv_goto (tgt := 84) X.1.1 X.1.2.1 dX10_used_80 (by decide) ?_
          exact J71 ((if x49 = 0 then (0 : Int) else 1)) (if_neg (c := ((M57 11 0 49) - 1) ≤ p1) (Int.not_le.mpr hc)).symm
      intro v70 hv70
      subst hv70
      have c72 := hw.1
      have hw := hw.2
      refine sa_iadd X.1 dX10_used_84 ?_
      refine lv_aload_n X.1.1 X.1.2.1 dX10_used_85 rfl (lv_at hl 2 rfl) ?_
      refine gt_11_48 X hR (okf X.2.2.1 rfl) kw_1577 dX10_used_86 ?_
      refine lv_iload_n X.1.1 X.1.2.1 dX10_used_89 rfl (lv_at hl 3 rfl) ?_
      have c73 := hw.1
      have hw := hw.2
      refine ra_95 X hR (okf X.2.2.1 rfl) c73 dX10_used_90 ?_
      have r74 := hR.r 95 0 p1
      have c75 := hw.1
      have hw := hw.2
      refine sa_iadd X.1 dX10_used_91 ?_
      refine lv_aload_n X.1.1 X.1.2.1 dX10_used_92 rfl (lv_at hl 2 rfl) ?_
      refine lv_iload_n X.1.1 X.1.2.1 dX10_used_93 rfl (lv_at hl 3 rfl) ?_
      refine cs_X10_restOfNotes X hp1 (kc := 8) rmL_ok rm_c (by decide) hR hS kw_2037 hl.1 dX10_used_94 (Nat.le_of_ble_eq_true rfl) hw (fun x77 M76 H locs hw r78 hR hS => ?_)
      have c79 := hw.1
      have hw := hw.2
      refine sa_iadd X.1 dX10_used_97 ?_
      exact sa_iret X.1 X.2.2.2.1 X.2.2.2.2 hR hS c79 hw dX10_used_98
    · have hw := hw.2 hc
      refine sa_const X.1 dX10_used_31 ?_
      exact sa_iret X.1 X.2.2.2.1 X.2.2.2.2 hR hS (inR_c (a := 0) rfl) hw dX10_used_32
theorem m_X10_used {l : Launch} {G : Gx} {e0 : Nat} {α : Ax} {κ : Nat → Int} {B : Nat} {p1 : Int} (hκ : kOK κ) (hp1 : inR p1) {M : Mem} {Qm : Int → Mem → Prop} (hw : wp_X10_used p1 M Qm) : CI l yX10_used (Cond.code yX10_used cX10_used 4 (some .int)) 8 G e0 α κ B [.ref (α 11 0), .int (Int32.ofInt p1)] M Qm :=
  CI.mk hκ (by decide +kernel) rfl (Nat.le_of_ble_eq_true rfl) (lv := [(0, .ref (α 11 0)), (1, .int (Int32.ofInt p1))]) rfl (fun p e s m args below meth c ls X hR hS hl => t_X10_used X hp1 hw _ _ hR hS ls hl)
theorem cs_X10_used {cc : ByteArray} {nL : Nat} {own : String} {ret : Option FieldType} {idx pc : Nat} {p1 : Int} (X : CX p m c cc nL s args own G B κ meth ret) (hp1 : inR p1) {kc : Nat} {R : Room} {cells slots : Nat} (hRr : RmOK R kc) (hcel : cells ≤ R.cells ∧ slots ≤ R.slots) (hk : 8 + 1 ≤ kc) {M : Mem} {H : Heap} {locs : List Loc} (hR : Rp G e0 α κ B M H) (hS : va_S (fun q => B ≤ q) s.heap H locs) (k1 : Cond.methodLink own idx yX10_used ∈ gw) {ls : Array Slot} (hml : ls.size = nL) {rest : List Value} (hd : decode cc pc = .ok (.invokevirtual idx, 3)) (hrest : (rest.map fun v => v.category).sum ≤ 8) {Q : State → Prop} {Qm : Int → Mem → Prop} (hw : wp_X10_used p1 M Qm) (kk : ∀ (r : Int) (M1 : Mem) (H1 : Heap) (locs1 : List Loc), Qm r M1 → inR r → Rp G e0 α κ B M1 H1 → va_S (fun q => B ≤ q) s.heap H1 locs1 → W p l e R s m args below meth c H1 locs1 cells slots Q (F0 m (pc + 3) ls (.int (Int32.ofInt r) :: rest))) : W p l e R s m args below meth c H locs cells slots Q (F0 m pc ls (.int (Int32.ofInt p1) :: .ref (α 11 0) :: rest)) :=
  sa_callVI 8 (n := 1) (As := [.int (Int32.ofInt p1)]) (rest := rest) X.1 X.2.1 hR hS (m_X10_used X.2.2.1 hp1 hw) k1 kw_2030 kw_2031 kw_104 kw_2032 ⟨rfl, by decide +kernel, by decide +kernel, by decide +kernel⟩ (rm_ok hRr hk (by decide)) (rc_11 X hR (okf X.2.2.1 rfl)) rfl rfl hrest hml hd hcel kk
end
