theorem dX0_linesAt_0 : decode cX0_linesAt 0 = .ok (.aload_n 0, 1) := by decide +kernel
theorem dX0_linesAt_1 : decode cX0_linesAt 1 = .ok (.getfield 35, 3) := by decide +kernel
theorem dX0_linesAt_4 : decode cX0_linesAt 4 = .ok (.ifCond .ne 16, 3) := by decide +kernel
theorem dX0_linesAt_7 : decode cX0_linesAt 7 = .ok (.aload_n 0, 1) := by decide +kernel
theorem dX0_linesAt_8 : decode cX0_linesAt 8 = .ok (.getfield 41, 3) := by decide +kernel
theorem dX0_linesAt_11 : decode cX0_linesAt 11 = .ok (.ifCond .eq 7, 3) := by decide +kernel
theorem dX0_linesAt_14 : decode cX0_linesAt 14 = .ok (.iconst 1, 1) := by decide +kernel
theorem dX0_linesAt_15 : decode cX0_linesAt 15 = .ok (.goto 4, 3) := by decide +kernel
theorem dX0_linesAt_18 : decode cX0_linesAt 18 = .ok (.iconst 0, 1) := by decide +kernel
theorem dX0_linesAt_19 : decode cX0_linesAt 19 = .ok (.ireturn, 1) := by decide +kernel
theorem dX0_linesAt_20 : decode cX0_linesAt 20 = .ok (.iconst 1, 1) := by decide +kernel
theorem dX0_linesAt_21 : decode cX0_linesAt 21 = .ok (.istore_n 2, 1) := by decide +kernel
theorem dX0_linesAt_22 : decode cX0_linesAt 22 = .ok (.iconst 0, 1) := by decide +kernel
theorem dX0_linesAt_23 : decode cX0_linesAt 23 = .ok (.istore_n 3, 1) := by decide +kernel
theorem dX0_linesAt_24 : decode cX0_linesAt 24 = .ok (.iconst 0, 1) := by decide +kernel
theorem dX0_linesAt_25 : decode cX0_linesAt 25 = .ok (.istore 4, 2) := by decide +kernel
theorem dX0_linesAt_27 : decode cX0_linesAt 27 = .ok (.iload 4, 2) := by decide +kernel
theorem dX0_linesAt_29 : decode cX0_linesAt 29 = .ok (.aload_n 0, 1) := by decide +kernel
theorem dX0_linesAt_30 : decode cX0_linesAt 30 = .ok (.getfield 35, 3) := by decide +kernel
theorem dX0_linesAt_33 : decode cX0_linesAt 33 = .ok (.if_icmp .ge 91, 3) := by decide +kernel
theorem dX0_linesAt_36 : decode cX0_linesAt 36 = .ok (.iload_n 3, 1) := by decide +kernel
theorem dX0_linesAt_37 : decode cX0_linesAt 37 = .ok (.ifCond .le 19, 3) := by decide +kernel
theorem dX0_linesAt_40 : decode cX0_linesAt 40 = .ok (.aload_n 0, 1) := by decide +kernel
theorem dX0_linesAt_41 : decode cX0_linesAt 41 = .ok (.iload_n 3, 1) := by decide +kernel
theorem dX0_linesAt_42 : decode cX0_linesAt 42 = .ok (.iload 4, 2) := by decide +kernel
theorem dX0_linesAt_44 : decode cX0_linesAt 44 = .ok (.iload_n 1, 1) := by decide +kernel
theorem dX0_linesAt_45 : decode cX0_linesAt 45 = .ok (.invokevirtual 61, 3) := by decide +kernel
theorem dX0_linesAt_48 : decode cX0_linesAt 48 = .ok (.ifCond .ne 8, 3) := by decide +kernel
theorem dX0_linesAt_51 : decode cX0_linesAt 51 = .ok (.iinc 2 1, 3) := by decide +kernel
theorem dX0_linesAt_54 : decode cX0_linesAt 54 = .ok (.iconst 0, 1) := by decide +kernel
theorem dX0_linesAt_55 : decode cX0_linesAt 55 = .ok (.istore_n 3, 1) := by decide +kernel
theorem dX0_linesAt_56 : decode cX0_linesAt 56 = .ok (.iload_n 3, 1) := by decide +kernel
theorem dX0_linesAt_57 : decode cX0_linesAt 57 = .ok (.invokestatic 65, 3) := by decide +kernel
theorem dX0_linesAt_60 : decode cX0_linesAt 60 = .ok (.aload_n 0, 1) := by decide +kernel
theorem dX0_linesAt_61 : decode cX0_linesAt 61 = .ok (.getfield 15, 3) := by decide +kernel
theorem dX0_linesAt_64 : decode cX0_linesAt 64 = .ok (.iload 4, 2) := by decide +kernel
theorem dX0_linesAt_66 : decode cX0_linesAt 66 = .ok (.iaload, 1) := by decide +kernel
theorem dX0_linesAt_67 : decode cX0_linesAt 67 = .ok (.iadd, 1) := by decide +kernel
theorem dX0_linesAt_68 : decode cX0_linesAt 68 = .ok (.iload_n 1, 1) := by decide +kernel
theorem dX0_linesAt_69 : decode cX0_linesAt 69 = .ok (.if_icmp .le 14, 3) := by decide +kernel
theorem dX0_linesAt_72 : decode cX0_linesAt 72 = .ok (.aload_n 0, 1) := by decide +kernel
theorem dX0_linesAt_73 : decode cX0_linesAt 73 = .ok (.iload_n 3, 1) := by decide +kernel
theorem dX0_linesAt_74 : decode cX0_linesAt 74 = .ok (.iload 4, 2) := by decide +kernel
theorem dX0_linesAt_76 : decode cX0_linesAt 76 = .ok (.iload_n 1, 1) := by decide +kernel
theorem dX0_linesAt_77 : decode cX0_linesAt 77 = .ok (.invokevirtual 61, 3) := by decide +kernel
theorem dX0_linesAt_80 : decode cX0_linesAt 80 = .ok (.ifCond .ne 19, 3) := by decide +kernel
theorem dX0_linesAt_83 : decode cX0_linesAt 83 = .ok (.iload_n 3, 1) := by decide +kernel
theorem dX0_linesAt_84 : decode cX0_linesAt 84 = .ok (.invokestatic 65, 3) := by decide +kernel
theorem dX0_linesAt_87 : decode cX0_linesAt 87 = .ok (.aload_n 0, 1) := by decide +kernel
theorem dX0_linesAt_88 : decode cX0_linesAt 88 = .ok (.getfield 15, 3) := by decide +kernel
theorem dX0_linesAt_91 : decode cX0_linesAt 91 = .ok (.iload 4, 2) := by decide +kernel
theorem dX0_linesAt_93 : decode cX0_linesAt 93 = .ok (.iaload, 1) := by decide +kernel
theorem dX0_linesAt_94 : decode cX0_linesAt 94 = .ok (.iadd, 1) := by decide +kernel
theorem dX0_linesAt_95 : decode cX0_linesAt 95 = .ok (.istore_n 3, 1) := by decide +kernel
theorem dX0_linesAt_96 : decode cX0_linesAt 96 = .ok (.goto 22, 3) := by decide +kernel
theorem dX0_linesAt_99 : decode cX0_linesAt 99 = .ok (.iinc 2 1, 3) := by decide +kernel
theorem dX0_linesAt_102 : decode cX0_linesAt 102 = .ok (.aload_n 0, 1) := by decide +kernel
theorem dX0_linesAt_103 : decode cX0_linesAt 103 = .ok (.getfield 15, 3) := by decide +kernel
theorem dX0_linesAt_106 : decode cX0_linesAt 106 = .ok (.iload 4, 2) := by decide +kernel
theorem dX0_linesAt_108 : decode cX0_linesAt 108 = .ok (.iaload, 1) := by decide +kernel
theorem dX0_linesAt_109 : decode cX0_linesAt 109 = .ok (.aload_n 0, 1) := by decide +kernel
theorem dX0_linesAt_110 : decode cX0_linesAt 110 = .ok (.getfield 18, 3) := by decide +kernel
theorem dX0_linesAt_113 : decode cX0_linesAt 113 = .ok (.iload 4, 2) := by decide +kernel
theorem dX0_linesAt_115 : decode cX0_linesAt 115 = .ok (.iaload, 1) := by decide +kernel
theorem dX0_linesAt_116 : decode cX0_linesAt 116 = .ok (.isub, 1) := by decide +kernel
theorem dX0_linesAt_117 : decode cX0_linesAt 117 = .ok (.istore_n 3, 1) := by decide +kernel
theorem dX0_linesAt_118 : decode cX0_linesAt 118 = .ok (.iinc 4 1, 3) := by decide +kernel
theorem dX0_linesAt_121 : decode cX0_linesAt 121 = .ok (.goto (-94), 3) := by decide +kernel
theorem dX0_linesAt_124 : decode cX0_linesAt 124 = .ok (.iload_n 2, 1) := by decide +kernel
theorem dX0_linesAt_125 : decode cX0_linesAt 125 = .ok (.ireturn, 1) := by decide +kernel
theorem dX2_collectItems_0 : decode cX2_collectItems 0 = .ok (.aload_n 0, 1) := by decide +kernel
theorem dX2_collectItems_1 : decode cX2_collectItems 1 = .ok (.iconst 0, 1) := by decide +kernel
theorem dX2_collectItems_2 : decode cX2_collectItems 2 = .ok (.putfield 75, 3) := by decide +kernel
theorem dX2_collectItems_5 : decode cX2_collectItems 5 = .ok (.aload_n 0, 1) := by decide +kernel
theorem dX2_collectItems_6 : decode cX2_collectItems 6 = .ok (.invokevirtual 89, 3) := by decide +kernel
theorem dX2_collectItems_9 : decode cX2_collectItems 9 = .ok (.istore_n 2, 1) := by decide +kernel
theorem dX2_collectItems_10 : decode cX2_collectItems 10 = .ok (.iconst 0, 1) := by decide +kernel
theorem dX2_collectItems_11 : decode cX2_collectItems 11 = .ok (.istore_n 3, 1) := by decide +kernel
theorem dX2_collectItems_12 : decode cX2_collectItems 12 = .ok (.iload_n 3, 1) := by decide +kernel
theorem dX2_collectItems_13 : decode cX2_collectItems 13 = .ok (.aload_n 0, 1) := by decide +kernel
theorem dX2_collectItems_14 : decode cX2_collectItems 14 = .ok (.getfield 28, 3) := by decide +kernel
theorem dX2_collectItems_17 : decode cX2_collectItems 17 = .ok (.getfield 92, 3) := by decide +kernel
theorem dX2_collectItems_20 : decode cX2_collectItems 20 = .ok (.invokevirtual 96, 3) := by decide +kernel
theorem dX2_collectItems_23 : decode cX2_collectItems 23 = .ok (.if_icmp .ge 118, 3) := by decide +kernel
theorem dX2_collectItems_26 : decode cX2_collectItems 26 = .ok (.aload_n 0, 1) := by decide +kernel
theorem dX2_collectItems_27 : decode cX2_collectItems 27 = .ok (.getfield 28, 3) := by decide +kernel
theorem dX2_collectItems_30 : decode cX2_collectItems 30 = .ok (.getfield 92, 3) := by decide +kernel
theorem dX2_collectItems_33 : decode cX2_collectItems 33 = .ok (.iload_n 3, 1) := by decide +kernel
theorem dX2_collectItems_34 : decode cX2_collectItems 34 = .ok (.invokevirtual 101, 3) := by decide +kernel
theorem dX2_collectItems_37 : decode cX2_collectItems 37 = .ok (.checkcast 105, 3) := by decide +kernel
theorem dX2_collectItems_40 : decode cX2_collectItems 40 = .ok (.astore 4, 2) := by decide +kernel
theorem dX2_collectItems_42 : decode cX2_collectItems 42 = .ok (.aload 4, 2) := by decide +kernel
theorem dX2_collectItems_44 : decode cX2_collectItems 44 = .ok (.getfield 107, 3) := by decide +kernel
theorem dX2_collectItems_47 : decode cX2_collectItems 47 = .ok (.bipush 29, 2) := by decide +kernel
theorem dX2_collectItems_49 : decode cX2_collectItems 49 = .ok (.if_icmp .ge 52, 3) := by decide +kernel
theorem dX2_collectItems_52 : decode cX2_collectItems 52 = .ok (.iload_n 1, 1) := by decide +kernel
theorem dX2_collectItems_53 : decode cX2_collectItems 53 = .ok (.ifCond .eq 7, 3) := by decide +kernel
theorem dX2_collectItems_56 : decode cX2_collectItems 56 = .ok (.iconst 0, 1) := by decide +kernel
theorem dX2_collectItems_57 : decode cX2_collectItems 57 = .ok (.goto 13, 3) := by decide +kernel
theorem dX2_collectItems_60 : decode cX2_collectItems 60 = .ok (.aload_n 0, 1) := by decide +kernel
theorem dX2_collectItems_61 : decode cX2_collectItems 61 = .ok (.getfield 25, 3) := by decide +kernel
theorem dX2_collectItems_64 : decode cX2_collectItems 64 = .ok (.aload 4, 2) := by decide +kernel
theorem dX2_collectItems_66 : decode cX2_collectItems 66 = .ok (.getfield 107, 3) := by decide +kernel
theorem dX2_collectItems_69 : decode cX2_collectItems 69 = .ok (.iaload, 1) := by decide +kernel
theorem dX2_collectItems_70 : decode cX2_collectItems 70 = .ok (.istore 5, 2) := by decide +kernel
theorem dX2_collectItems_72 : decode cX2_collectItems 72 = .ok (.aload_n 0, 1) := by decide +kernel
theorem dX2_collectItems_73 : decode cX2_collectItems 73 = .ok (.aload 4, 2) := by decide +kernel
theorem dX2_collectItems_75 : decode cX2_collectItems 75 = .ok (.getfield 107, 3) := by decide +kernel
theorem dX2_collectItems_78 : decode cX2_collectItems 78 = .ok (.aload_n 0, 1) := by decide +kernel
theorem dX2_collectItems_79 : decode cX2_collectItems 79 = .ok (.getfield 32, 3) := by decide +kernel
theorem dX2_collectItems_82 : decode cX2_collectItems 82 = .ok (.getfield 110, 3) := by decide +kernel
theorem dX2_collectItems_85 : decode cX2_collectItems 85 = .ok (.aload 4, 2) := by decide +kernel
theorem dX2_collectItems_87 : decode cX2_collectItems 87 = .ok (.getfield 107, 3) := by decide +kernel
theorem dX2_collectItems_90 : decode cX2_collectItems 90 = .ok (.iaload, 1) := by decide +kernel
theorem dX2_collectItems_91 : decode cX2_collectItems 91 = .ok (.iload 5, 2) := by decide +kernel
theorem dX2_collectItems_93 : decode cX2_collectItems 93 = .ok (.aload 4, 2) := by decide +kernel
theorem dX2_collectItems_95 : decode cX2_collectItems 95 = .ok (.getfield 113, 3) := by decide +kernel
theorem dX2_collectItems_98 : decode cX2_collectItems 98 = .ok (.invokevirtual 117, 3) := by decide +kernel
theorem dX2_collectItems_101 : decode cX2_collectItems 101 = .ok (.aload_n 0, 1) := by decide +kernel
theorem dX2_collectItems_102 : decode cX2_collectItems 102 = .ok (.getfield 50, 3) := by decide +kernel
theorem dX2_collectItems_105 : decode cX2_collectItems 105 = .ok (.ifCond .le 30, 3) := by decide +kernel
theorem dX2_collectItems_108 : decode cX2_collectItems 108 = .ok (.aload_n 0, 1) := by decide +kernel
theorem dX2_collectItems_109 : decode cX2_collectItems 109 = .ok (.getfield 28, 3) := by decide +kernel
theorem dX2_collectItems_112 : decode cX2_collectItems 112 = .ok (.aload 4, 2) := by decide +kernel
theorem dX2_collectItems_114 : decode cX2_collectItems 114 = .ok (.invokevirtual 121, 3) := by decide +kernel
theorem dX2_collectItems_117 : decode cX2_collectItems 117 = .ok (.ifCond .eq 18, 3) := by decide +kernel
theorem dX2_collectItems_120 : decode cX2_collectItems 120 = .ok (.aload_n 0, 1) := by decide +kernel
theorem dX2_collectItems_121 : decode cX2_collectItems 121 = .ok (.bipush 32, 2) := by decide +kernel
theorem dX2_collectItems_123 : decode cX2_collectItems 123 = .ok (.aload 4, 2) := by decide +kernel
theorem dX2_collectItems_125 : decode cX2_collectItems 125 = .ok (.getfield 107, 3) := by decide +kernel
theorem dX2_collectItems_128 : decode cX2_collectItems 128 = .ok (.iadd, 1) := by decide +kernel
theorem dX2_collectItems_129 : decode cX2_collectItems 129 = .ok (.iconst 1, 1) := by decide +kernel
theorem dX2_collectItems_130 : decode cX2_collectItems 130 = .ok (.iconst 0, 1) := by decide +kernel
theorem dX2_collectItems_131 : decode cX2_collectItems 131 = .ok (.iconst 0, 1) := by decide +kernel
theorem dX2_collectItems_132 : decode cX2_collectItems 132 = .ok (.invokevirtual 117, 3) := by decide +kernel
theorem dX2_collectItems_135 : decode cX2_collectItems 135 = .ok (.iinc 3 1, 3) := by decide +kernel
theorem dX2_collectItems_138 : decode cX2_collectItems 138 = .ok (.goto (-126), 3) := by decide +kernel
theorem dX2_collectItems_141 : decode cX2_collectItems 141 = .ok (.aload_n 0, 1) := by decide +kernel
theorem dX2_collectItems_142 : decode cX2_collectItems 142 = .ok (.getfield 50, 3) := by decide +kernel
theorem dX2_collectItems_145 : decode cX2_collectItems 145 = .ok (.ifCond .le 12, 3) := by decide +kernel
theorem dX2_collectItems_148 : decode cX2_collectItems 148 = .ok (.aload_n 0, 1) := by decide +kernel
theorem dX2_collectItems_149 : decode cX2_collectItems 149 = .ok (.bipush 64, 2) := by decide +kernel
theorem dX2_collectItems_151 : decode cX2_collectItems 151 = .ok (.iconst 1, 1) := by decide +kernel
theorem dX2_collectItems_152 : decode cX2_collectItems 152 = .ok (.iconst 0, 1) := by decide +kernel
theorem dX2_collectItems_153 : decode cX2_collectItems 153 = .ok (.iconst 0, 1) := by decide +kernel
theorem dX2_collectItems_154 : decode cX2_collectItems 154 = .ok (.invokevirtual 117, 3) := by decide +kernel
theorem dX2_collectItems_157 : decode cX2_collectItems 157 = .ok (.iload_n 1, 1) := by decide +kernel
theorem dX2_collectItems_158 : decode cX2_collectItems 158 = .ok (.ifCond .eq 16, 3) := by decide +kernel
theorem dX2_collectItems_161 : decode cX2_collectItems 161 = .ok (.iload_n 2, 1) := by decide +kernel
theorem dX2_collectItems_162 : decode cX2_collectItems 162 = .ok (.ifCond .le 12, 3) := by decide +kernel
theorem dX2_collectItems_165 : decode cX2_collectItems 165 = .ok (.aload_n 0, 1) := by decide +kernel
theorem dX2_collectItems_166 : decode cX2_collectItems 166 = .ok (.bipush 65, 2) := by decide +kernel
theorem dX2_collectItems_168 : decode cX2_collectItems 168 = .ok (.iload_n 2, 1) := by decide +kernel
theorem dX2_collectItems_169 : decode cX2_collectItems 169 = .ok (.iconst 0, 1) := by decide +kernel
theorem dX2_collectItems_170 : decode cX2_collectItems 170 = .ok (.iconst 1, 1) := by decide +kernel
theorem dX2_collectItems_171 : decode cX2_collectItems 171 = .ok (.invokevirtual 117, 3) := by decide +kernel
theorem dX2_collectItems_174 : decode cX2_collectItems 174 = .ok (.return_, 1) := by decide +kernel
theorem dX2_putItem_0 : decode cX2_putItem 0 = .ok (.iload_n 1, 1) := by decide +kernel
theorem dX2_putItem_1 : decode cX2_putItem 1 = .ok (.ifCond .lt 17, 3) := by decide +kernel
theorem dX2_putItem_4 : decode cX2_putItem 4 = .ok (.iload_n 1, 1) := by decide +kernel
theorem dX2_putItem_5 : decode cX2_putItem 5 = .ok (.aload_n 0, 1) := by decide +kernel
theorem dX2_putItem_6 : decode cX2_putItem 6 = .ok (.getfield 75, 3) := by decide +kernel
theorem dX2_putItem_9 : decode cX2_putItem 9 = .ok (.if_icmp .ge 9, 3) := by decide +kernel
theorem dX2_putItem_12 : decode cX2_putItem 12 = .ok (.iload_n 1, 1) := by decide +kernel
theorem dX2_putItem_13 : decode cX2_putItem 13 = .ok (.bipush 50, 2) := by decide +kernel
theorem dX2_putItem_15 : decode cX2_putItem 15 = .ok (.if_icmp .lt 5, 3) := by decide +kernel
theorem dX2_putItem_18 : decode cX2_putItem 18 = .ok (.iconst 0, 1) := by decide +kernel
theorem dX2_putItem_19 : decode cX2_putItem 19 = .ok (.ireturn, 1) := by decide +kernel
theorem dX2_putItem_20 : decode cX2_putItem 20 = .ok (.aload_n 0, 1) := by decide +kernel
theorem dX2_putItem_21 : decode cX2_putItem 21 = .ok (.getfield 15, 3) := by decide +kernel
theorem dX2_putItem_24 : decode cX2_putItem 24 = .ok (.iload_n 1, 1) := by decide +kernel
theorem dX2_putItem_25 : decode cX2_putItem 25 = .ok (.iaload, 1) := by decide +kernel
theorem dX2_putItem_26 : decode cX2_putItem 26 = .ok (.istore_n 2, 1) := by decide +kernel
theorem dX2_putItem_27 : decode cX2_putItem 27 = .ok (.aload_n 0, 1) := by decide +kernel
theorem dX2_putItem_28 : decode cX2_putItem 28 = .ok (.getfield 18, 3) := by decide +kernel
theorem dX2_putItem_31 : decode cX2_putItem 31 = .ok (.iload_n 1, 1) := by decide +kernel
theorem dX2_putItem_32 : decode cX2_putItem 32 = .ok (.iaload, 1) := by decide +kernel
theorem dX2_putItem_33 : decode cX2_putItem 33 = .ok (.istore_n 3, 1) := by decide +kernel
theorem dX2_putItem_34 : decode cX2_putItem 34 = .ok (.iload_n 1, 1) := by decide +kernel
theorem dX2_putItem_35 : decode cX2_putItem 35 = .ok (.aload_n 0, 1) := by decide +kernel
theorem dX2_putItem_36 : decode cX2_putItem 36 = .ok (.getfield 75, 3) := by decide +kernel
theorem dX2_putItem_39 : decode cX2_putItem 39 = .ok (.iconst 1, 1) := by decide +kernel
theorem dX2_putItem_40 : decode cX2_putItem 40 = .ok (.isub, 1) := by decide +kernel
theorem dX2_putItem_41 : decode cX2_putItem 41 = .ok (.if_icmp .ne 7, 3) := by decide +kernel
theorem dX2_putItem_44 : decode cX2_putItem 44 = .ok (.iconst 0, 1) := by decide +kernel
theorem dX2_putItem_45 : decode cX2_putItem 45 = .ok (.goto 7, 3) := by decide +kernel
theorem dX2_putItem_48 : decode cX2_putItem 48 = .ok (.aload_n 0, 1) := by decide +kernel
theorem dX2_putItem_49 : decode cX2_putItem 49 = .ok (.getfield 50, 3) := by decide +kernel
theorem dX2_putItem_52 : decode cX2_putItem 52 = .ok (.istore 4, 2) := by decide +kernel
theorem dX2_putItem_54 : decode cX2_putItem 54 = .ok (.iconst 0, 1) := by decide +kernel
theorem dX2_putItem_55 : decode cX2_putItem 55 = .ok (.istore 5, 2) := by decide +kernel
theorem dX2_putItem_57 : decode cX2_putItem 57 = .ok (.iload 5, 2) := by decide +kernel
theorem dX2_putItem_59 : decode cX2_putItem 59 = .ok (.sipush 1808, 3) := by decide +kernel
theorem dX2_putItem_62 : decode cX2_putItem 62 = .ok (.if_icmp .ge 99, 3) := by decide +kernel
theorem dX2_putItem_65 : decode cX2_putItem 65 = .ok (.iload_n 2, 1) := by decide +kernel
theorem dX2_putItem_66 : decode cX2_putItem 66 = .ok (.iload_n 3, 1) := by decide +kernel
theorem dX2_putItem_67 : decode cX2_putItem 67 = .ok (.iadd, 1) := by decide +kernel
theorem dX2_putItem_68 : decode cX2_putItem 68 = .ok (.aload_n 0, 1) := by decide +kernel
theorem dX2_putItem_69 : decode cX2_putItem 69 = .ok (.getfield 154, 3) := by decide +kernel
theorem dX2_putItem_72 : decode cX2_putItem 72 = .ok (.iload 4, 2) := by decide +kernel
theorem dX2_putItem_74 : decode cX2_putItem 74 = .ok (.isub, 1) := by decide +kernel
theorem dX2_putItem_75 : decode cX2_putItem 75 = .ok (.if_icmp .gt 13, 3) := by decide +kernel
theorem dX2_putItem_78 : decode cX2_putItem 78 = .ok (.aload_n 0, 1) := by decide +kernel
theorem dX2_putItem_79 : decode cX2_putItem 79 = .ok (.iload_n 1, 1) := by decide +kernel
theorem dX2_putItem_80 : decode cX2_putItem 80 = .ok (.iload_n 2, 1) := by decide +kernel
theorem dX2_putItem_81 : decode cX2_putItem 81 = .ok (.iload_n 2, 1) := by decide +kernel
theorem dX2_putItem_82 : decode cX2_putItem 82 = .ok (.iload_n 3, 1) := by decide +kernel
theorem dX2_putItem_83 : decode cX2_putItem 83 = .ok (.invokevirtual 157, 3) := by decide +kernel
theorem dX2_putItem_86 : decode cX2_putItem 86 = .ok (.iconst 1, 1) := by decide +kernel
theorem dX2_putItem_87 : decode cX2_putItem 87 = .ok (.ireturn, 1) := by decide +kernel
theorem dX2_putItem_88 : decode cX2_putItem 88 = .ok (.aload_n 0, 1) := by decide +kernel
theorem dX2_putItem_89 : decode cX2_putItem 89 = .ok (.getfield 154, 3) := by decide +kernel
theorem dX2_putItem_92 : decode cX2_putItem 92 = .ok (.aload_n 0, 1) := by decide +kernel
theorem dX2_putItem_93 : decode cX2_putItem 93 = .ok (.getfield 50, 3) := by decide +kernel
theorem dX2_putItem_96 : decode cX2_putItem 96 = .ok (.isub, 1) := by decide +kernel
theorem dX2_putItem_97 : decode cX2_putItem 97 = .ok (.iload_n 3, 1) := by decide +kernel
theorem dX2_putItem_98 : decode cX2_putItem 98 = .ok (.isub, 1) := by decide +kernel
theorem dX2_putItem_99 : decode cX2_putItem 99 = .ok (.istore 6, 2) := by decide +kernel
theorem dX2_putItem_101 : decode cX2_putItem 101 = .ok (.iload 6, 2) := by decide +kernel
theorem dX2_putItem_103 : decode cX2_putItem 103 = .ok (.iconst 1, 1) := by decide +kernel
theorem dX2_putItem_104 : decode cX2_putItem 104 = .ok (.if_icmp .lt 38, 3) := by decide +kernel
theorem dX2_putItem_107 : decode cX2_putItem 107 = .ok (.aload_n 0, 1) := by decide +kernel
theorem dX2_putItem_108 : decode cX2_putItem 108 = .ok (.getfield 21, 3) := by decide +kernel
theorem dX2_putItem_111 : decode cX2_putItem 111 = .ok (.iload_n 1, 1) := by decide +kernel
theorem dX2_putItem_112 : decode cX2_putItem 112 = .ok (.baload, 1) := by decide +kernel
theorem dX2_putItem_113 : decode cX2_putItem 113 = .ok (.ifCond .ne 10, 3) := by decide +kernel
theorem dX2_putItem_116 : decode cX2_putItem 116 = .ok (.aload_n 0, 1) := by decide +kernel
theorem dX2_putItem_117 : decode cX2_putItem 117 = .ok (.getfield 148, 3) := by decide +kernel
theorem dX2_putItem_120 : decode cX2_putItem 120 = .ok (.ifCond .eq 22, 3) := by decide +kernel
theorem dX2_putItem_123 : decode cX2_putItem 123 = .ok (.aload_n 0, 1) := by decide +kernel
theorem dX2_putItem_124 : decode cX2_putItem 124 = .ok (.iload_n 1, 1) := by decide +kernel
theorem dX2_putItem_125 : decode cX2_putItem 125 = .ok (.iload_n 2, 1) := by decide +kernel
theorem dX2_putItem_126 : decode cX2_putItem 126 = .ok (.iload 6, 2) := by decide +kernel
theorem dX2_putItem_128 : decode cX2_putItem 128 = .ok (.iload_n 3, 1) := by decide +kernel
theorem dX2_putItem_129 : decode cX2_putItem 129 = .ok (.invokevirtual 157, 3) := by decide +kernel
theorem dX2_putItem_132 : decode cX2_putItem 132 = .ok (.iload_n 2, 1) := by decide +kernel
theorem dX2_putItem_133 : decode cX2_putItem 133 = .ok (.iload 6, 2) := by decide +kernel
theorem dX2_putItem_135 : decode cX2_putItem 135 = .ok (.isub, 1) := by decide +kernel
theorem dX2_putItem_136 : decode cX2_putItem 136 = .ok (.istore_n 2, 1) := by decide +kernel
theorem dX2_putItem_137 : decode cX2_putItem 137 = .ok (.iconst 0, 1) := by decide +kernel
theorem dX2_putItem_138 : decode cX2_putItem 138 = .ok (.istore_n 3, 1) := by decide +kernel
theorem dX2_putItem_139 : decode cX2_putItem 139 = .ok (.goto 12, 3) := by decide +kernel
theorem dX2_putItem_142 : decode cX2_putItem 142 = .ok (.aload_n 0, 1) := by decide +kernel
theorem dX2_putItem_143 : decode cX2_putItem 143 = .ok (.getfield 148, 3) := by decide +kernel
theorem dX2_putItem_146 : decode cX2_putItem 146 = .ok (.ifCond .eq 5, 3) := by decide +kernel
theorem dX2_putItem_149 : decode cX2_putItem 149 = .ok (.iconst 0, 1) := by decide +kernel
theorem dX2_putItem_150 : decode cX2_putItem 150 = .ok (.ireturn, 1) := by decide +kernel
theorem dX2_putItem_151 : decode cX2_putItem 151 = .ok (.aload_n 0, 1) := by decide +kernel
theorem dX2_putItem_152 : decode cX2_putItem 152 = .ok (.invokevirtual 72, 3) := by decide +kernel
theorem dX2_putItem_155 : decode cX2_putItem 155 = .ok (.iinc 5 1, 3) := by decide +kernel
theorem dX2_putItem_158 : decode cX2_putItem 158 = .ok (.goto (-101), 3) := by decide +kernel
theorem dX2_putItem_161 : decode cX2_putItem 161 = .ok (.iconst 0, 1) := by decide +kernel
theorem dX2_putItem_162 : decode cX2_putItem 162 = .ok (.ireturn, 1) := by decide +kernel
theorem dX4_measureCells_0 : decode cX4_measureCells 0 = .ok (.iconst 0, 1) := by decide +kernel
theorem dX4_measureCells_1 : decode cX4_measureCells 1 = .ok (.istore_n 2, 1) := by decide +kernel
theorem dX4_measureCells_2 : decode cX4_measureCells 2 = .ok (.iload_n 2, 1) := by decide +kernel
theorem dX4_measureCells_3 : decode cX4_measureCells 3 = .ok (.aload_n 0, 1) := by decide +kernel
theorem dX4_measureCells_4 : decode cX4_measureCells 4 = .ok (.getfield 18, 3) := by decide +kernel
theorem dX4_measureCells_7 : decode cX4_measureCells 7 = .ok (.getfield 22, 3) := by decide +kernel
theorem dX4_measureCells_10 : decode cX4_measureCells 10 = .ok (.invokevirtual 28, 3) := by decide +kernel
theorem dX4_measureCells_13 : decode cX4_measureCells 13 = .ok (.if_icmp .ge 60, 3) := by decide +kernel
theorem dX4_measureCells_16 : decode cX4_measureCells 16 = .ok (.iload_n 2, 1) := by decide +kernel
theorem dX4_measureCells_17 : decode cX4_measureCells 17 = .ok (.bipush 100, 2) := by decide +kernel
theorem dX4_measureCells_19 : decode cX4_measureCells 19 = .ok (.if_icmp .ge 54, 3) := by decide +kernel
theorem dX4_measureCells_22 : decode cX4_measureCells 22 = .ok (.aload_n 0, 1) := by decide +kernel
theorem dX4_measureCells_23 : decode cX4_measureCells 23 = .ok (.getfield 18, 3) := by decide +kernel
theorem dX4_measureCells_26 : decode cX4_measureCells 26 = .ok (.getfield 22, 3) := by decide +kernel
theorem dX4_measureCells_29 : decode cX4_measureCells 29 = .ok (.iload_n 2, 1) := by decide +kernel
theorem dX4_measureCells_30 : decode cX4_measureCells 30 = .ok (.invokevirtual 34, 3) := by decide +kernel
theorem dX4_measureCells_33 : decode cX4_measureCells 33 = .ok (.checkcast 38, 3) := by decide +kernel
theorem dX4_measureCells_36 : decode cX4_measureCells 36 = .ok (.astore_n 3, 1) := by decide +kernel
theorem dX4_measureCells_37 : decode cX4_measureCells 37 = .ok (.aload_n 0, 1) := by decide +kernel
theorem dX4_measureCells_38 : decode cX4_measureCells 38 = .ok (.getfield 9, 3) := by decide +kernel
theorem dX4_measureCells_41 : decode cX4_measureCells 41 = .ok (.iload_n 2, 1) := by decide +kernel
theorem dX4_measureCells_42 : decode cX4_measureCells 42 = .ok (.aload_n 3, 1) := by decide +kernel
theorem dX4_measureCells_43 : decode cX4_measureCells 43 = .ok (.invokevirtual 40, 3) := by decide +kernel
theorem dX4_measureCells_46 : decode cX4_measureCells 46 = .ok (.ifCond .eq 7, 3) := by decide +kernel
theorem dX4_measureCells_49 : decode cX4_measureCells 49 = .ok (.iconst 0, 1) := by decide +kernel
theorem dX4_measureCells_50 : decode cX4_measureCells 50 = .ok (.goto 16, 3) := by decide +kernel
theorem dX4_measureCells_53 : decode cX4_measureCells 53 = .ok (.aload_n 3, 1) := by decide +kernel
theorem dX4_measureCells_54 : decode cX4_measureCells 54 = .ok (.aload_n 0, 1) := by decide +kernel
theorem dX4_measureCells_55 : decode cX4_measureCells 55 = .ok (.getfield 18, 3) := by decide +kernel
theorem dX4_measureCells_58 : decode cX4_measureCells 58 = .ok (.aload_n 3, 1) := by decide +kernel
theorem dX4_measureCells_59 : decode cX4_measureCells 59 = .ok (.aload_n 1, 1) := by decide +kernel
theorem dX4_measureCells_60 : decode cX4_measureCells 60 = .ok (.invokevirtual 44, 3) := by decide +kernel
theorem dX4_measureCells_63 : decode cX4_measureCells 63 = .ok (.invokevirtual 48, 3) := by decide +kernel
theorem dX4_measureCells_66 : decode cX4_measureCells 66 = .ok (.iastore, 1) := by decide +kernel
theorem dX4_measureCells_67 : decode cX4_measureCells 67 = .ok (.iinc 2 1, 3) := by decide +kernel
theorem dX4_measureCells_70 : decode cX4_measureCells 70 = .ok (.goto (-68), 3) := by decide +kernel
theorem dX4_measureCells_73 : decode cX4_measureCells 73 = .ok (.return_, 1) := by decide +kernel
theorem dX6_countDifferencesTo_0 : decode cX6_countDifferencesTo 0 = .ok (.aload_n 0, 1) := by decide +kernel
theorem dX6_countDifferencesTo_1 : decode cX6_countDifferencesTo 1 = .ok (.getfield 44, 3) := by decide +kernel
theorem dX6_countDifferencesTo_4 : decode cX6_countDifferencesTo 4 = .ok (.aload_n 1, 1) := by decide +kernel
theorem dX6_countDifferencesTo_5 : decode cX6_countDifferencesTo 5 = .ok (.getfield 44, 3) := by decide +kernel
theorem dX6_countDifferencesTo_8 : decode cX6_countDifferencesTo 8 = .ok (.invokestatic 74, 3) := by decide +kernel
theorem dX6_countDifferencesTo_11 : decode cX6_countDifferencesTo 11 = .ok (.istore_n 2, 1) := by decide +kernel
theorem dX6_countDifferencesTo_12 : decode cX6_countDifferencesTo 12 = .ok (.aload_n 0, 1) := by decide +kernel
theorem dX6_countDifferencesTo_13 : decode cX6_countDifferencesTo 13 = .ok (.getfield 44, 3) := by decide +kernel
theorem dX6_countDifferencesTo_16 : decode cX6_countDifferencesTo 16 = .ok (.aload_n 1, 1) := by decide +kernel
theorem dX6_countDifferencesTo_17 : decode cX6_countDifferencesTo 17 = .ok (.getfield 44, 3) := by decide +kernel
theorem dX6_countDifferencesTo_20 : decode cX6_countDifferencesTo 20 = .ok (.invokestatic 62, 3) := by decide +kernel
theorem dX6_countDifferencesTo_23 : decode cX6_countDifferencesTo 23 = .ok (.iload_n 2, 1) := by decide +kernel
theorem dX6_countDifferencesTo_24 : decode cX6_countDifferencesTo 24 = .ok (.isub, 1) := by decide +kernel
theorem dX6_countDifferencesTo_25 : decode cX6_countDifferencesTo 25 = .ok (.istore_n 3, 1) := by decide +kernel
theorem dX6_countDifferencesTo_26 : decode cX6_countDifferencesTo 26 = .ok (.iconst 0, 1) := by decide +kernel
theorem dX6_countDifferencesTo_27 : decode cX6_countDifferencesTo 27 = .ok (.istore 4, 2) := by decide +kernel
theorem dX6_countDifferencesTo_29 : decode cX6_countDifferencesTo 29 = .ok (.iload 4, 2) := by decide +kernel
theorem dX6_countDifferencesTo_31 : decode cX6_countDifferencesTo 31 = .ok (.iload_n 2, 1) := by decide +kernel
theorem dX6_countDifferencesTo_32 : decode cX6_countDifferencesTo 32 = .ok (.if_icmp .ge 35, 3) := by decide +kernel
theorem dX6_countDifferencesTo_35 : decode cX6_countDifferencesTo 35 = .ok (.iload 4, 2) := by decide +kernel
theorem dX6_countDifferencesTo_37 : decode cX6_countDifferencesTo 37 = .ok (.sipush 904, 3) := by decide +kernel
theorem dX6_countDifferencesTo_40 : decode cX6_countDifferencesTo 40 = .ok (.if_icmp .ge 27, 3) := by decide +kernel
theorem dX6_countDifferencesTo_43 : decode cX6_countDifferencesTo 43 = .ok (.iload_n 3, 1) := by decide +kernel
theorem dX6_countDifferencesTo_44 : decode cX6_countDifferencesTo 44 = .ok (.aload_n 0, 1) := by decide +kernel
theorem dX6_countDifferencesTo_45 : decode cX6_countDifferencesTo 45 = .ok (.iload 4, 2) := by decide +kernel
theorem dX6_countDifferencesTo_47 : decode cX6_countDifferencesTo 47 = .ok (.aload_n 1, 1) := by decide +kernel
theorem dX6_countDifferencesTo_48 : decode cX6_countDifferencesTo 48 = .ok (.invokevirtual 102, 3) := by decide +kernel
theorem dX6_countDifferencesTo_51 : decode cX6_countDifferencesTo 51 = .ok (.ifCond .eq 7, 3) := by decide +kernel
theorem dX6_countDifferencesTo_54 : decode cX6_countDifferencesTo 54 = .ok (.iconst 0, 1) := by decide +kernel
theorem dX6_countDifferencesTo_55 : decode cX6_countDifferencesTo 55 = .ok (.goto 4, 3) := by decide +kernel
theorem dX6_countDifferencesTo_58 : decode cX6_countDifferencesTo 58 = .ok (.iconst 1, 1) := by decide +kernel
theorem dX6_countDifferencesTo_59 : decode cX6_countDifferencesTo 59 = .ok (.iadd, 1) := by decide +kernel
theorem dX6_countDifferencesTo_60 : decode cX6_countDifferencesTo 60 = .ok (.istore_n 3, 1) := by decide +kernel
theorem dX6_countDifferencesTo_61 : decode cX6_countDifferencesTo 61 = .ok (.iinc 4 1, 3) := by decide +kernel
theorem dX6_countDifferencesTo_64 : decode cX6_countDifferencesTo 64 = .ok (.goto (-35), 3) := by decide +kernel
theorem dX6_countDifferencesTo_67 : decode cX6_countDifferencesTo 67 = .ok (.iload_n 3, 1) := by decide +kernel
theorem dX6_countDifferencesTo_68 : decode cX6_countDifferencesTo 68 = .ok (.ireturn, 1) := by decide +kernel
theorem dX8_solve_0 : decode cX8_solve 0 = .ok (.aload_n 0, 1) := by decide +kernel
theorem dX8_solve_1 : decode cX8_solve 1 = .ok (.invokevirtual 37, 3) := by decide +kernel
theorem dX8_solve_4 : decode cX8_solve 4 = .ok (.aload_n 0, 1) := by decide +kernel
theorem dX8_solve_5 : decode cX8_solve 5 = .ok (.invokevirtual 40, 3) := by decide +kernel
theorem dX8_solve_8 : decode cX8_solve 8 = .ok (.aload_n 0, 1) := by decide +kernel
theorem dX8_solve_9 : decode cX8_solve 9 = .ok (.invokevirtual 43, 3) := by decide +kernel
theorem dX8_solve_12 : decode cX8_solve 12 = .ok (.aload_n 0, 1) := by decide +kernel
theorem dX8_solve_13 : decode cX8_solve 13 = .ok (.invokevirtual 46, 3) := by decide +kernel
theorem dX8_solve_16 : decode cX8_solve 16 = .ok (.aload_n 0, 1) := by decide +kernel
theorem dX8_solve_17 : decode cX8_solve 17 = .ok (.aload_n 0, 1) := by decide +kernel
theorem dX8_solve_18 : decode cX8_solve 18 = .ok (.getfield 9, 3) := by decide +kernel
theorem dX8_solve_21 : decode cX8_solve 21 = .ok (.iconst 0, 1) := by decide +kernel
theorem dX8_solve_22 : decode cX8_solve 22 = .ok (.invokevirtual 49, 3) := by decide +kernel
theorem dX8_solve_25 : decode cX8_solve 25 = .ok (.aload_n 0, 1) := by decide +kernel
theorem dX8_solve_26 : decode cX8_solve 26 = .ok (.aload_n 0, 1) := by decide +kernel
theorem dX8_solve_27 : decode cX8_solve 27 = .ok (.getfield 15, 3) := by decide +kernel
theorem dX8_solve_30 : decode cX8_solve 30 = .ok (.iconst 1, 1) := by decide +kernel
theorem dX8_solve_31 : decode cX8_solve 31 = .ok (.invokevirtual 49, 3) := by decide +kernel
theorem dX8_solve_34 : decode cX8_solve 34 = .ok (.iconst 0, 1) := by decide +kernel
theorem dX8_solve_35 : decode cX8_solve 35 = .ok (.istore_n 2, 1) := by decide +kernel
theorem dX8_solve_36 : decode cX8_solve 36 = .ok (.iload_n 2, 1) := by decide +kernel
theorem dX8_solve_37 : decode cX8_solve 37 = .ok (.bipush 6, 2) := by decide +kernel
theorem dX8_solve_39 : decode cX8_solve 39 = .ok (.if_icmp .ge 30, 3) := by decide +kernel
theorem dX8_solve_42 : decode cX8_solve 42 = .ok (.aload_n 0, 1) := by decide +kernel
theorem dX8_solve_43 : decode cX8_solve 43 = .ok (.getfield 15, 3) := by decide +kernel
theorem dX8_solve_46 : decode cX8_solve 46 = .ok (.iload_n 2, 1) := by decide +kernel
theorem dX8_solve_47 : decode cX8_solve 47 = .ok (.aload_n 0, 1) := by decide +kernel
theorem dX8_solve_48 : decode cX8_solve 48 = .ok (.getfield 15, 3) := by decide +kernel
theorem dX8_solve_51 : decode cX8_solve 51 = .ok (.iload_n 2, 1) := by decide +kernel
theorem dX8_solve_52 : decode cX8_solve 52 = .ok (.iaload, 1) := by decide +kernel
theorem dX8_solve_53 : decode cX8_solve 53 = .ok (.aload_n 0, 1) := by decide +kernel
theorem dX8_solve_54 : decode cX8_solve 54 = .ok (.getfield 9, 3) := by decide +kernel
theorem dX8_solve_57 : decode cX8_solve 57 = .ok (.iload_n 2, 1) := by decide +kernel
theorem dX8_solve_58 : decode cX8_solve 58 = .ok (.iaload, 1) := by decide +kernel
theorem dX8_solve_59 : decode cX8_solve 59 = .ok (.invokestatic 53, 3) := by decide +kernel
theorem dX8_solve_62 : decode cX8_solve 62 = .ok (.iastore, 1) := by decide +kernel
theorem dX8_solve_63 : decode cX8_solve 63 = .ok (.iinc 2 1, 3) := by decide +kernel
theorem dX8_solve_66 : decode cX8_solve 66 = .ok (.goto (-30), 3) := by decide +kernel
theorem dX8_solve_69 : decode cX8_solve 69 = .ok (.aload_n 0, 1) := by decide +kernel
theorem dX8_solve_70 : decode cX8_solve 70 = .ok (.iload_n 1, 1) := by decide +kernel
theorem dX8_solve_71 : decode cX8_solve 71 = .ok (.aload_n 0, 1) := by decide +kernel
theorem dX8_solve_72 : decode cX8_solve 72 = .ok (.getfield 33, 3) := by decide +kernel
theorem dX8_solve_75 : decode cX8_solve 75 = .ok (.invokevirtual 59, 3) := by decide +kernel
theorem dX8_solve_78 : decode cX8_solve 78 = .ok (.isub, 1) := by decide +kernel
theorem dX8_solve_79 : decode cX8_solve 79 = .ok (.invokevirtual 65, 3) := by decide +kernel
theorem dX8_solve_82 : decode cX8_solve 82 = .ok (.return_, 1) := by decide +kernel
theorem dX2_fillSheets_0 : decode cX2_fillSheets 0 = .ok (.aload_n 0, 1) := by decide +kernel
theorem dX2_fillSheets_1 : decode cX2_fillSheets 1 = .ok (.iload_n 1, 1) := by decide +kernel
theorem dX2_fillSheets_2 : decode cX2_fillSheets 2 = .ok (.putfield 40, 3) := by decide +kernel
theorem dX2_fillSheets_5 : decode cX2_fillSheets 5 = .ok (.aload_n 0, 1) := by decide +kernel
theorem dX2_fillSheets_6 : decode cX2_fillSheets 6 = .ok (.getfield 28, 3) := by decide +kernel
theorem dX2_fillSheets_9 : decode cX2_fillSheets 9 = .ok (.invokevirtual 44, 3) := by decide +kernel
theorem dX2_fillSheets_12 : decode cX2_fillSheets 12 = .ok (.istore_n 3, 1) := by decide +kernel
theorem dX2_fillSheets_13 : decode cX2_fillSheets 13 = .ok (.aload_n 0, 1) := by decide +kernel
theorem dX2_fillSheets_14 : decode cX2_fillSheets 14 = .ok (.iload_n 3, 1) := by decide +kernel
theorem dX2_fillSheets_15 : decode cX2_fillSheets 15 = .ok (.ifCond .ne 7, 3) := by decide +kernel
theorem dX2_fillSheets_18 : decode cX2_fillSheets 18 = .ok (.iconst 0, 1) := by decide +kernel
theorem dX2_fillSheets_19 : decode cX2_fillSheets 19 = .ok (.goto 4, 3) := by decide +kernel
theorem dX2_fillSheets_22 : decode cX2_fillSheets 22 = .ok (.iconst 1, 1) := by decide +kernel
theorem dX2_fillSheets_23 : decode cX2_fillSheets 23 = .ok (.putfield 50, 3) := by decide +kernel
theorem dX2_fillSheets_26 : decode cX2_fillSheets 26 = .ok (.aload_n 0, 1) := by decide +kernel
theorem dX2_fillSheets_27 : decode cX2_fillSheets 27 = .ok (.aload_n 0, 1) := by decide +kernel
theorem dX2_fillSheets_28 : decode cX2_fillSheets 28 = .ok (.getfield 32, 3) := by decide +kernel
theorem dX2_fillSheets_31 : decode cX2_fillSheets 31 = .ok (.iconst 0, 1) := by decide +kernel
theorem dX2_fillSheets_32 : decode cX2_fillSheets 32 = .ok (.invokevirtual 53, 3) := by decide +kernel
theorem dX2_fillSheets_35 : decode cX2_fillSheets 35 = .ok (.aload_n 0, 1) := by decide +kernel
theorem dX2_fillSheets_36 : decode cX2_fillSheets 36 = .ok (.getfield 32, 3) := by decide +kernel
theorem dX2_fillSheets_39 : decode cX2_fillSheets 39 = .ok (.iconst 2, 1) := by decide +kernel
theorem dX2_fillSheets_40 : decode cX2_fillSheets 40 = .ok (.invokevirtual 53, 3) := by decide +kernel
theorem dX2_fillSheets_43 : decode cX2_fillSheets 43 = .ok (.iadd, 1) := by decide +kernel
theorem dX2_fillSheets_44 : decode cX2_fillSheets 44 = .ok (.putfield 59, 3) := by decide +kernel
theorem dX2_fillSheets_47 : decode cX2_fillSheets 47 = .ok (.aload_n 0, 1) := by decide +kernel
theorem dX2_fillSheets_48 : decode cX2_fillSheets 48 = .ok (.iload_n 2, 1) := by decide +kernel
theorem dX2_fillSheets_49 : decode cX2_fillSheets 49 = .ok (.invokevirtual 62, 3) := by decide +kernel
theorem dX2_fillSheets_52 : decode cX2_fillSheets 52 = .ok (.aload_n 0, 1) := by decide +kernel
theorem dX2_fillSheets_53 : decode cX2_fillSheets 53 = .ok (.getfield 36, 3) := by decide +kernel
theorem dX2_fillSheets_56 : decode cX2_fillSheets 56 = .ok (.iload_n 3, 1) := by decide +kernel
theorem dX2_fillSheets_57 : decode cX2_fillSheets 57 = .ok (.invokevirtual 66, 3) := by decide +kernel
theorem dX2_fillSheets_60 : decode cX2_fillSheets 60 = .ok (.aload_n 0, 1) := by decide +kernel
theorem dX2_fillSheets_61 : decode cX2_fillSheets 61 = .ok (.invokevirtual 72, 3) := by decide +kernel
theorem dX2_fillSheets_64 : decode cX2_fillSheets 64 = .ok (.iconst 0, 1) := by decide +kernel
theorem dX2_fillSheets_65 : decode cX2_fillSheets 65 = .ok (.istore 4, 2) := by decide +kernel
theorem dX2_fillSheets_67 : decode cX2_fillSheets 67 = .ok (.iload 4, 2) := by decide +kernel
theorem dX2_fillSheets_69 : decode cX2_fillSheets 69 = .ok (.aload_n 0, 1) := by decide +kernel
theorem dX2_fillSheets_70 : decode cX2_fillSheets 70 = .ok (.getfield 75, 3) := by decide +kernel
theorem dX2_fillSheets_73 : decode cX2_fillSheets 73 = .ok (.if_icmp .ge 26, 3) := by decide +kernel
theorem dX2_fillSheets_76 : decode cX2_fillSheets 76 = .ok (.aload_n 0, 1) := by decide +kernel
theorem dX2_fillSheets_77 : decode cX2_fillSheets 77 = .ok (.iload 4, 2) := by decide +kernel
theorem dX2_fillSheets_79 : decode cX2_fillSheets 79 = .ok (.invokevirtual 78, 3) := by decide +kernel
theorem dX2_fillSheets_82 : decode cX2_fillSheets 82 = .ok (.ifCond .ne 11, 3) := by decide +kernel
theorem dX2_fillSheets_85 : decode cX2_fillSheets 85 = .ok (.aload_n 0, 1) := by decide +kernel
theorem dX2_fillSheets_86 : decode cX2_fillSheets 86 = .ok (.getfield 36, 3) := by decide +kernel
theorem dX2_fillSheets_89 : decode cX2_fillSheets 89 = .ok (.invokevirtual 82, 3) := by decide +kernel
theorem dX2_fillSheets_92 : decode cX2_fillSheets 92 = .ok (.return_, 1) := by decide +kernel
theorem dX2_fillSheets_93 : decode cX2_fillSheets 93 = .ok (.iinc 4 1, 3) := by decide +kernel
theorem dX2_fillSheets_96 : decode cX2_fillSheets 96 = .ok (.goto (-29), 3) := by decide +kernel
theorem dX2_fillSheets_99 : decode cX2_fillSheets 99 = .ok (.aload_n 0, 1) := by decide +kernel
theorem dX2_fillSheets_100 : decode cX2_fillSheets 100 = .ok (.getfield 36, 3) := by decide +kernel
theorem dX2_fillSheets_103 : decode cX2_fillSheets 103 = .ok (.aload_n 0, 1) := by decide +kernel
theorem dX2_fillSheets_104 : decode cX2_fillSheets 104 = .ok (.getfield 59, 3) := by decide +kernel
theorem dX2_fillSheets_107 : decode cX2_fillSheets 107 = .ok (.aload_n 0, 1) := by decide +kernel
theorem dX2_fillSheets_108 : decode cX2_fillSheets 108 = .ok (.getfield 50, 3) := by decide +kernel
theorem dX2_fillSheets_111 : decode cX2_fillSheets 111 = .ok (.invokevirtual 85, 3) := by decide +kernel
theorem dX2_fillSheets_114 : decode cX2_fillSheets 114 = .ok (.return_, 1) := by decide +kernel
theorem dX7_heightFromNothing_0 : decode cX7_heightFromNothing 0 = .ok (.aload_n 0, 1) := by decide +kernel
theorem dX7_heightFromNothing_1 : decode cX7_heightFromNothing 1 = .ok (.getfield 30, 3) := by decide +kernel
theorem dX7_heightFromNothing_4 : decode cX7_heightFromNothing 4 = .ok (.iload_n 2, 1) := by decide +kernel
theorem dX7_heightFromNothing_5 : decode cX7_heightFromNothing 5 = .ok (.invokevirtual 41, 3) := by decide +kernel
theorem dX7_heightFromNothing_8 : decode cX7_heightFromNothing 8 = .ok (.aload_n 0, 1) := by decide +kernel
theorem dX7_heightFromNothing_9 : decode cX7_heightFromNothing 9 = .ok (.getfield 37, 3) := by decide +kernel
theorem dX7_heightFromNothing_12 : decode cX7_heightFromNothing 12 = .ok (.aload_n 0, 1) := by decide +kernel
theorem dX7_heightFromNothing_13 : decode cX7_heightFromNothing 13 = .ok (.getfield 30, 3) := by decide +kernel
theorem dX7_heightFromNothing_16 : decode cX7_heightFromNothing 16 = .ok (.getfield 45, 3) := by decide +kernel
theorem dX7_heightFromNothing_19 : decode cX7_heightFromNothing 19 = .ok (.invokevirtual 48, 3) := by decide +kernel
theorem dX7_heightFromNothing_22 : decode cX7_heightFromNothing 22 = .ok (.aload_n 0, 1) := by decide +kernel
theorem dX7_heightFromNothing_23 : decode cX7_heightFromNothing 23 = .ok (.getfield 37, 3) := by decide +kernel
theorem dX7_heightFromNothing_26 : decode cX7_heightFromNothing 26 = .ok (.invokevirtual 52, 3) := by decide +kernel
theorem dX7_heightFromNothing_29 : decode cX7_heightFromNothing 29 = .ok (.iload_n 1, 1) := by decide +kernel
theorem dX7_heightFromNothing_30 : decode cX7_heightFromNothing 30 = .ok (.ifCond .lt 21, 3) := by decide +kernel
theorem dX7_heightFromNothing_33 : decode cX7_heightFromNothing 33 = .ok (.iload_n 1, 1) := by decide +kernel
theorem dX7_heightFromNothing_34 : decode cX7_heightFromNothing 34 = .ok (.bipush 29, 2) := by decide +kernel
theorem dX7_heightFromNothing_36 : decode cX7_heightFromNothing 36 = .ok (.if_icmp .ge 15, 3) := by decide +kernel
theorem dX7_heightFromNothing_39 : decode cX7_heightFromNothing 39 = .ok (.aload_n 0, 1) := by decide +kernel
theorem dX7_heightFromNothing_40 : decode cX7_heightFromNothing 40 = .ok (.getfield 37, 3) := by decide +kernel
theorem dX7_heightFromNothing_43 : decode cX7_heightFromNothing 43 = .ok (.getfield 55, 3) := by decide +kernel
theorem dX7_heightFromNothing_46 : decode cX7_heightFromNothing 46 = .ok (.iload_n 1, 1) := by decide +kernel
theorem dX7_heightFromNothing_47 : decode cX7_heightFromNothing 47 = .ok (.iaload, 1) := by decide +kernel
theorem dX7_heightFromNothing_48 : decode cX7_heightFromNothing 48 = .ok (.goto 4, 3) := by decide +kernel
theorem dX7_heightFromNothing_51 : decode cX7_heightFromNothing 51 = .ok (.iconst 0, 1) := by decide +kernel
theorem dX7_heightFromNothing_52 : decode cX7_heightFromNothing 52 = .ok (.ireturn, 1) := by decide +kernel
theorem dX9_refresh_0 : decode cX9_refresh 0 = .ok (.aload_n 0, 1) := by decide +kernel
theorem dX9_refresh_1 : decode cX9_refresh 1 = .ok (.getfield 65, 3) := by decide +kernel
theorem dX9_refresh_4 : decode cX9_refresh 4 = .ok (.ifCond .eq 66, 3) := by decide +kernel
theorem dX9_refresh_7 : decode cX9_refresh 7 = .ok (.aload_n 0, 1) := by decide +kernel
theorem dX9_refresh_8 : decode cX9_refresh 8 = .ok (.getfield 21, 3) := by decide +kernel
theorem dX9_refresh_11 : decode cX9_refresh 11 = .ok (.aload_n 0, 1) := by decide +kernel
theorem dX9_refresh_12 : decode cX9_refresh 12 = .ok (.getfield 58, 3) := by decide +kernel
theorem dX9_refresh_15 : decode cX9_refresh 15 = .ok (.invokevirtual 427, 3) := by decide +kernel
theorem dX9_refresh_18 : decode cX9_refresh 18 = .ok (.aload_n 0, 1) := by decide +kernel
theorem dX9_refresh_19 : decode cX9_refresh 19 = .ok (.getfield 28, 3) := by decide +kernel
theorem dX9_refresh_22 : decode cX9_refresh 22 = .ok (.aload_n 0, 1) := by decide +kernel
theorem dX9_refresh_23 : decode cX9_refresh 23 = .ok (.getfield 21, 3) := by decide +kernel
theorem dX9_refresh_26 : decode cX9_refresh 26 = .ok (.getfield 244, 3) := by decide +kernel
theorem dX9_refresh_29 : decode cX9_refresh 29 = .ok (.invokevirtual 430, 3) := by decide +kernel
theorem dX9_refresh_32 : decode cX9_refresh 32 = .ok (.aload_n 0, 1) := by decide +kernel
theorem dX9_refresh_33 : decode cX9_refresh 33 = .ok (.getfield 28, 3) := by decide +kernel
theorem dX9_refresh_36 : decode cX9_refresh 36 = .ok (.invokevirtual 434, 3) := by decide +kernel
theorem dX9_refresh_39 : decode cX9_refresh 39 = .ok (.aload_n 0, 1) := by decide +kernel
theorem dX9_refresh_40 : decode cX9_refresh 40 = .ok (.getfield 54, 3) := by decide +kernel
theorem dX9_refresh_43 : decode cX9_refresh 43 = .ok (.aload_n 0, 1) := by decide +kernel
theorem dX9_refresh_44 : decode cX9_refresh 44 = .ok (.getfield 62, 3) := by decide +kernel
theorem dX9_refresh_47 : decode cX9_refresh 47 = .ok (.aload_n 0, 1) := by decide +kernel
theorem dX9_refresh_48 : decode cX9_refresh 48 = .ok (.getfield 203, 3) := by decide +kernel
theorem dX9_refresh_51 : decode cX9_refresh 51 = .ok (.invokevirtual 437, 3) := by decide +kernel
theorem dX9_refresh_54 : decode cX9_refresh 54 = .ok (.aload_n 0, 1) := by decide +kernel
theorem dX9_refresh_55 : decode cX9_refresh 55 = .ok (.getfield 42, 3) := by decide +kernel
theorem dX9_refresh_58 : decode cX9_refresh 58 = .ok (.aload_n 0, 1) := by decide +kernel
theorem dX9_refresh_59 : decode cX9_refresh 59 = .ok (.getfield 12, 3) := by decide +kernel
theorem dX9_refresh_62 : decode cX9_refresh 62 = .ok (.invokevirtual 440, 3) := by decide +kernel
theorem dX9_refresh_65 : decode cX9_refresh 65 = .ok (.aload_n 0, 1) := by decide +kernel
theorem dX9_refresh_66 : decode cX9_refresh 66 = .ok (.iconst 0, 1) := by decide +kernel
theorem dX9_refresh_67 : decode cX9_refresh 67 = .ok (.putfield 65, 3) := by decide +kernel
theorem dX9_refresh_70 : decode cX9_refresh 70 = .ok (.return_, 1) := by decide +kernel
theorem dX9_over_0 : decode cX9_over 0 = .ok (.aload_n 0, 1) := by decide +kernel
theorem dX9_over_1 : decode cX9_over 1 = .ok (.invokevirtual 234, 3) := by decide +kernel
theorem dX9_over_4 : decode cX9_over 4 = .ok (.iconst 0, 1) := by decide +kernel
theorem dX9_over_5 : decode cX9_over 5 = .ok (.aload_n 0, 1) := by decide +kernel
theorem dX9_over_6 : decode cX9_over 6 = .ok (.getfield 12, 3) := by decide +kernel
theorem dX9_over_9 : decode cX9_over 9 = .ok (.aload_n 0, 1) := by decide +kernel
theorem dX9_over_10 : decode cX9_over 10 = .ok (.getfield 21, 3) := by decide +kernel
theorem dX9_over_13 : decode cX9_over 13 = .ok (.getfield 244, 3) := by decide +kernel
theorem dX9_over_16 : decode cX9_over 16 = .ok (.invokevirtual 247, 3) := by decide +kernel
theorem dX9_over_19 : decode cX9_over 19 = .ok (.aload_n 0, 1) := by decide +kernel
theorem dX9_over_20 : decode cX9_over 20 = .ok (.getfield 58, 3) := by decide +kernel
theorem dX9_over_23 : decode cX9_over 23 = .ok (.isub, 1) := by decide +kernel
theorem dX9_over_24 : decode cX9_over 24 = .ok (.invokestatic 251, 3) := by decide +kernel
theorem dX9_over_27 : decode cX9_over 27 = .ok (.ireturn, 1) := by decide +kernel
theorem dX9_tableHeight_0 : decode cX9_tableHeight 0 = .ok (.aload_n 0, 1) := by decide +kernel
theorem dX9_tableHeight_1 : decode cX9_tableHeight 1 = .ok (.invokevirtual 234, 3) := by decide +kernel
theorem dX9_tableHeight_4 : decode cX9_tableHeight 4 = .ok (.aload_n 0, 1) := by decide +kernel
theorem dX9_tableHeight_5 : decode cX9_tableHeight 5 = .ok (.getfield 28, 3) := by decide +kernel
theorem dX9_tableHeight_8 : decode cX9_tableHeight 8 = .ok (.iconst 1, 1) := by decide +kernel
theorem dX9_tableHeight_9 : decode cX9_tableHeight 9 = .ok (.invokevirtual 280, 3) := by decide +kernel
theorem dX9_tableHeight_12 : decode cX9_tableHeight 12 = .ok (.ireturn, 1) := by decide +kernel
theorem dX9_look_0 : decode cX9_look 0 = .ok (.aload_n 0, 1) := by decide +kernel
theorem dX9_look_1 : decode cX9_look 1 = .ok (.invokevirtual 234, 3) := by decide +kernel
theorem dX9_look_4 : decode cX9_look 4 = .ok (.aload_n 0, 1) := by decide +kernel
theorem dX9_look_5 : decode cX9_look 5 = .ok (.getfield 42, 3) := by decide +kernel
theorem dX9_look_8 : decode cX9_look 8 = .ok (.aload_n 0, 1) := by decide +kernel
theorem dX9_look_9 : decode cX9_look 9 = .ok (.getfield 46, 3) := by decide +kernel
theorem dX9_look_12 : decode cX9_look 12 = .ok (.invokevirtual 371, 3) := by decide +kernel
theorem dX9_look_15 : decode cX9_look 15 = .ok (.istore_n 1, 1) := by decide +kernel
theorem dX9_look_16 : decode cX9_look 16 = .ok (.aload_n 0, 1) := by decide +kernel
theorem dX9_look_17 : decode cX9_look 17 = .ok (.getfield 46, 3) := by decide +kernel
theorem dX9_look_20 : decode cX9_look 20 = .ok (.aload_n 0, 1) := by decide +kernel
theorem dX9_look_21 : decode cX9_look 21 = .ok (.getfield 42, 3) := by decide +kernel
theorem dX9_look_24 : decode cX9_look 24 = .ok (.invokevirtual 375, 3) := by decide +kernel
theorem dX9_look_27 : decode cX9_look 27 = .ok (.iload_n 1, 1) := by decide +kernel
theorem dX9_look_28 : decode cX9_look 28 = .ok (.ireturn, 1) := by decide +kernel
section
variable {p : Program} {l : Launch} {e : Env} {s : State} {m : MethodId} {args : Array Value} {below : List Frame} {meth : Method} {c : Code} {G : Gx} {e0 : Nat} {α : Ax} {κ : Nat → Int} {B : Nat}
def wp_X0_linesAt_118 (u0 : Int) (p1 : Int) (Qm : Int → Mem → Prop) (K27 : Int → Int → Int → Mem → Prop) (y2 : Int) (y3 : Int) (y4 : Int) (M : Mem) : Prop := (inR (y4 + 1)) ∧ K27 y2 y3 (y4 + 1) M
def wp_X0_linesAt_83 (u0 : Int) (p1 : Int) (Qm : Int → Mem → Prop) (K27 : Int → Int → Int → Mem → Prop) (y2 : Int) (y3 : Int) (y4 : Int) (M : Mem) : Prop := wp_X0_begin y3 M fun (x10 : Int) (M9 : Mem) => (0 ≤ y4 ∧ y4 < 12) ∧ (inR (x10 + (M9 25 u0 y4))) ∧ wp_X0_linesAt_118 u0 p1 Qm K27 y2 (x10 + (M9 25 u0 y4)) y4 M9
def wp_X0_linesAt_56 (u0 : Int) (p1 : Int) (Qm : Int → Mem → Prop) (K27 : Int → Int → Int → Mem → Prop) (y2 : Int) (y3 : Int) (y4 : Int) (M : Mem) : Prop := wp_X0_begin y3 M fun (x4 : Int) (M3 : Mem) => (0 ≤ y4 ∧ y4 < 12) ∧ (inR (x4 + (M3 25 u0 y4))) ∧ (((x4 + (M3 25 u0 y4)) ≤ p1 → wp_X0_linesAt_83 u0 p1 Qm K27 y2 y3 y4 M3) ∧ (p1 < (x4 + (M3 25 u0 y4)) → wp_X0_canBePut u0 y3 y4 p1 M3 fun (x17 : Int) (M16 : Mem) => ((¬ x17 = 0 → (inR (y2 + 1)) ∧ (0 ≤ y4 ∧ y4 < 12) ∧ (0 ≤ y4 ∧ y4 < 12) ∧ (inR ((M16 25 u0 y4) - (M16 26 u0 y4))) ∧ wp_X0_linesAt_118 u0 p1 Qm K27 (y2 + 1) ((M16 25 u0 y4) - (M16 26 u0 y4)) y4 M16) ∧ (x17 = 0 → wp_X0_linesAt_83 u0 p1 Qm K27 y2 y3 y4 M16))))
def wp_X0_linesAt_27 (u0 : Int) (p1 : Int) (Qm : Int → Mem → Prop) : Nat → Int → Int → Int → Mem → Prop
  | 0 => fun _ _ _ _ => False
  | n + 1 => fun y2 y3 y4 M => (((M 1 u0 7) ≤ y4 → Qm y2 M) ∧ (y4 < (M 1 u0 7) → ((y3 ≤ 0 → wp_X0_linesAt_56 u0 p1 Qm (wp_X0_linesAt_27 u0 p1 Qm n) y2 y3 y4 M) ∧ (0 < y3 → wp_X0_canBePut u0 y3 y4 p1 M fun (x26 : Int) (M25 : Mem) => ((¬ x26 = 0 → wp_X0_linesAt_56 u0 p1 Qm (wp_X0_linesAt_27 u0 p1 Qm n) y2 y3 y4 M25) ∧ (x26 = 0 → (inR (y2 + 1)) ∧ wp_X0_linesAt_56 u0 p1 Qm (wp_X0_linesAt_27 u0 p1 Qm n) (y2 + 1) 0 y4 M25))))))
def wp_X0_linesAt (u0 : Int) (p1 : Int) (M : Mem) (Qm : Int → Mem → Prop) : Prop := ((¬ (M 1 u0 7) = 0 → (∃ n29 : Nat, wp_X0_linesAt_27 u0 p1 Qm n29 1 0 0 M)) ∧ ((M 1 u0 7) = 0 → Qm (if (M 1 u0 8) = 0 then (0 : Int) else 1) M))
set_option maxHeartbeats 4000000 in
set_option maxRecDepth 100000 in
theorem t_X0_linesAt_118 {u0 : Int} {p1 : Int} (X : CX p m c cX0_linesAt 5 s args RX0 G B κ meth (some .int)) (hu0 : okk κ 1 u0) (hp1 : inR p1) {Qm : Int → Mem → Prop} {K27 : Int → Int → Int → Mem → Prop} (hK27 : ∀ y2 : Int, ∀ y3 : Int, ∀ y4 : Int, ∀ M : Mem, K27 y2 y3 y4 M → inR y2 → inR y3 → inR y4 → ∀ (H : Heap) (locs : List Loc), Rp G e0 α κ B M H → va_S (fun q => B ≤ q) s.heap H locs → ∀ (ls : Array Slot), lv_has ls 5 [(0, .ref (α 1 u0)), (1, .int (Int32.ofInt p1)), (2, .int (Int32.ofInt y2)), (3, .int (Int32.ofInt y3)), (4, .int (Int32.ofInt y4))] → WI p l e 2 s m args below meth c G e0 α κ B Qm H locs 27 ls []) : ∀ y2 : Int, ∀ y3 : Int, ∀ y4 : Int, ∀ M : Mem, wp_X0_linesAt_118 u0 p1 Qm K27 y2 y3 y4 M → inR y2 → inR y3 → inR y4 → ∀ (H : Heap) (locs : List Loc), Rp G e0 α κ B M H → va_S (fun q => B ≤ q) s.heap H locs → ∀ (ls : Array Slot), lv_has ls 5 [(0, .ref (α 1 u0)), (1, .int (Int32.ofInt p1)), (2, .int (Int32.ofInt y2)), (3, .int (Int32.ofInt y3)), (4, .int (Int32.ofInt y4))] → WI p l e 2 s m args below meth c G e0 α κ B Qm H locs 118 ls [] := by
  intro y2 y3 y4 M hw hy2 hy3 hy4 H locs hR hS ls hl
  have hw : (inR (y4 + 1)) ∧ K27 y2 y3 (y4 + 1) M := hw
  have c15 := hw.1
  have hw := hw.2
  refine lv_iinc (v := Int32.ofInt (y4 + 1)) (lv' := [(4, .int (Int32.ofInt (y4 + 1))), (0, .ref (α 1 u0)), (1, .int (Int32.ofInt p1)), (2, .int (Int32.ofInt y2)), (3, .int (Int32.ofInt y3))]) X.1.1 X.1.2.1 dX0_linesAt_118 hl (k := 4) rfl (Int32.ofInt_add _ _).symm (by decide) rfl (fun ls hl => ?_)
  refine lv_goto (tgt := 27) X.1.1 X.1.2.1 dX0_linesAt_121 (by decide) ?_
  exact hK27 _ _ _ _ hw hy2 hy3 c15 _ _ hR hS _ (lv_sub hl [1, 2, 3, 4, 0] rfl)
set_option maxHeartbeats 4000000 in
set_option maxRecDepth 100000 in
theorem t_X0_linesAt_83 {u0 : Int} {p1 : Int} (X : CX p m c cX0_linesAt 5 s args RX0 G B κ meth (some .int)) (hu0 : okk κ 1 u0) (hp1 : inR p1) {Qm : Int → Mem → Prop} {K27 : Int → Int → Int → Mem → Prop} (hK27 : ∀ y2 : Int, ∀ y3 : Int, ∀ y4 : Int, ∀ M : Mem, K27 y2 y3 y4 M → inR y2 → inR y3 → inR y4 → ∀ (H : Heap) (locs : List Loc), Rp G e0 α κ B M H → va_S (fun q => B ≤ q) s.heap H locs → ∀ (ls : Array Slot), lv_has ls 5 [(0, .ref (α 1 u0)), (1, .int (Int32.ofInt p1)), (2, .int (Int32.ofInt y2)), (3, .int (Int32.ofInt y3)), (4, .int (Int32.ofInt y4))] → WI p l e 2 s m args below meth c G e0 α κ B Qm H locs 27 ls []) : ∀ y2 : Int, ∀ y3 : Int, ∀ y4 : Int, ∀ M : Mem, wp_X0_linesAt_83 u0 p1 Qm K27 y2 y3 y4 M → inR y2 → inR y3 → inR y4 → ∀ (H : Heap) (locs : List Loc), Rp G e0 α κ B M H → va_S (fun q => B ≤ q) s.heap H locs → ∀ (ls : Array Slot), lv_has ls 5 [(0, .ref (α 1 u0)), (1, .int (Int32.ofInt p1)), (2, .int (Int32.ofInt y2)), (3, .int (Int32.ofInt y3)), (4, .int (Int32.ofInt y4))] → WI p l e 2 s m args below meth c G e0 α κ B Qm H locs 83 ls [] := by
  intro y2 y3 y4 M hw hy2 hy3 hy4 H locs hR hS ls hl
  have hw : wp_X0_begin y3 M fun (x10 : Int) (M9 : Mem) => (0 ≤ y4 ∧ y4 < 12) ∧ (inR (x10 + (M9 25 u0 y4))) ∧ wp_X0_linesAt_118 u0 p1 Qm K27 y2 (x10 + (M9 25 u0 y4)) y4 M9 := hw
  refine lv_iload_n X.1.1 X.1.2.1 dX0_linesAt_83 rfl (lv_at hl 3 rfl) ?_
  refine cs_X0_begin X hy3 (kc := 2) rmL_ok rm_c (by decide) hR hS kw_526 hl.1 dX0_linesAt_84 (Nat.le_of_ble_eq_true rfl) hw (fun x10 M9 H locs hw r11 hR hS => ?_)
  refine lv_aload_n X.1.1 X.1.2.1 dX0_linesAt_87 rfl (lv_at hl 0 rfl) ?_
  refine gt_1_5 X hR hu0 kw_1001 dX0_linesAt_88 ?_
  refine lv_iload X.1.1 X.1.2.1 dX0_linesAt_91 (lv_at hl 4 rfl) ?_
  have c12 := hw.1
  have hw := hw.2
  refine ra_25 X hR (ok2 X.2.2.1 rfl hu0) c12 dX0_linesAt_93 ?_
  have r13 := hR.r 25 u0 y4
  have c14 := hw.1
  have hw := hw.2
  refine sa_iadd X.1 dX0_linesAt_94 ?_
  refine lv_istore_n (lv' := [(3, .int (Int32.ofInt (x10 + (M9 25 u0 y4)))), (0, .ref (α 1 u0)), (1, .int (Int32.ofInt p1)), (2, .int (Int32.ofInt y2)), (4, .int (Int32.ofInt y4))]) X.1.1 X.1.2.1 dX0_linesAt_95 rfl hl (by decide) rfl (fun ls hl => ?_)
  refine lv_goto (tgt := 118) X.1.1 X.1.2.1 dX0_linesAt_96 (by decide) ?_
  exact t_X0_linesAt_118 X hu0 hp1 hK27 _ _ _ _ hw hy2 c14 hy4 _ _ hR hS _ (lv_sub hl [1, 2, 3, 0, 4] rfl)
set_option maxHeartbeats 4000000 in
set_option maxRecDepth 100000 in
theorem t_X0_linesAt_56 {u0 : Int} {p1 : Int} (X : CX p m c cX0_linesAt 5 s args RX0 G B κ meth (some .int)) (hu0 : okk κ 1 u0) (hp1 : inR p1) {Qm : Int → Mem → Prop} {K27 : Int → Int → Int → Mem → Prop} (hK27 : ∀ y2 : Int, ∀ y3 : Int, ∀ y4 : Int, ∀ M : Mem, K27 y2 y3 y4 M → inR y2 → inR y3 → inR y4 → ∀ (H : Heap) (locs : List Loc), Rp G e0 α κ B M H → va_S (fun q => B ≤ q) s.heap H locs → ∀ (ls : Array Slot), lv_has ls 5 [(0, .ref (α 1 u0)), (1, .int (Int32.ofInt p1)), (2, .int (Int32.ofInt y2)), (3, .int (Int32.ofInt y3)), (4, .int (Int32.ofInt y4))] → WI p l e 2 s m args below meth c G e0 α κ B Qm H locs 27 ls []) : ∀ y2 : Int, ∀ y3 : Int, ∀ y4 : Int, ∀ M : Mem, wp_X0_linesAt_56 u0 p1 Qm K27 y2 y3 y4 M → inR y2 → inR y3 → inR y4 → ∀ (H : Heap) (locs : List Loc), Rp G e0 α κ B M H → va_S (fun q => B ≤ q) s.heap H locs → ∀ (ls : Array Slot), lv_has ls 5 [(0, .ref (α 1 u0)), (1, .int (Int32.ofInt p1)), (2, .int (Int32.ofInt y2)), (3, .int (Int32.ofInt y3)), (4, .int (Int32.ofInt y4))] → WI p l e 2 s m args below meth c G e0 α κ B Qm H locs 56 ls [] := by
  intro y2 y3 y4 M hw hy2 hy3 hy4 H locs hR hS ls hl
  have hw : wp_X0_begin y3 M fun (x4 : Int) (M3 : Mem) => (0 ≤ y4 ∧ y4 < 12) ∧ (inR (x4 + (M3 25 u0 y4))) ∧ (((x4 + (M3 25 u0 y4)) ≤ p1 → wp_X0_linesAt_83 u0 p1 Qm K27 y2 y3 y4 M3) ∧ (p1 < (x4 + (M3 25 u0 y4)) → wp_X0_canBePut u0 y3 y4 p1 M3 fun (x17 : Int) (M16 : Mem) => ((¬ x17 = 0 → (inR (y2 + 1)) ∧ (0 ≤ y4 ∧ y4 < 12) ∧ (0 ≤ y4 ∧ y4 < 12) ∧ (inR ((M16 25 u0 y4) - (M16 26 u0 y4))) ∧ wp_X0_linesAt_118 u0 p1 Qm K27 (y2 + 1) ((M16 25 u0 y4) - (M16 26 u0 y4)) y4 M16) ∧ (x17 = 0 → wp_X0_linesAt_83 u0 p1 Qm K27 y2 y3 y4 M16)))) := hw
  refine lv_iload_n X.1.1 X.1.2.1 dX0_linesAt_56 rfl (lv_at hl 3 rfl) ?_
  refine cs_X0_begin X hy3 (kc := 2) rmL_ok rm_c (by decide) hR hS kw_526 hl.1 dX0_linesAt_57 (Nat.le_of_ble_eq_true rfl) hw (fun x4 M3 H locs hw r5 hR hS => ?_)
  refine lv_aload_n X.1.1 X.1.2.1 dX0_linesAt_60 rfl (lv_at hl 0 rfl) ?_
  refine gt_1_5 X hR hu0 kw_1001 dX0_linesAt_61 ?_
  refine lv_iload X.1.1 X.1.2.1 dX0_linesAt_64 (lv_at hl 4 rfl) ?_
  have c6 := hw.1
  have hw := hw.2
  refine ra_25 X hR (ok2 X.2.2.1 rfl hu0) c6 dX0_linesAt_66 ?_
  have r7 := hR.r 25 u0 y4
  have c8 := hw.1
  have hw := hw.2
  refine sa_iadd X.1 dX0_linesAt_67 ?_
  refine lv_iload_n X.1.1 X.1.2.1 dX0_linesAt_68 rfl (lv_at hl 1 rfl) ?_
  refine sa_icmp_le (tgt := 83) X.1 c8 hp1 dX0_linesAt_69 (by decide) (fun hc => ?_) (fun hc => ?_)
  · have hw := hw.1 hc
    exact t_X0_linesAt_83 X hu0 hp1 hK27 _ _ _ _ hw hy2 hy3 hy4 _ _ hR hS _ (lv_sub hl [0, 1, 2, 3, 4] rfl)
  · have hw := hw.2 hc
    refine lv_aload_n X.1.1 X.1.2.1 dX0_linesAt_72 rfl (lv_at hl 0 rfl) ?_
    refine lv_iload_n X.1.1 X.1.2.1 dX0_linesAt_73 rfl (lv_at hl 3 rfl) ?_
    refine lv_iload X.1.1 X.1.2.1 dX0_linesAt_74 (lv_at hl 4 rfl) ?_
    refine lv_iload_n X.1.1 X.1.2.1 dX0_linesAt_76 rfl (lv_at hl 1 rfl) ?_
    refine cs_X0_canBePut X hu0 hy3 hy4 hp1 (kc := 2) rmL_ok rm_c (by decide) hR hS kw_520 hl.1 dX0_linesAt_77 (Nat.le_of_ble_eq_true rfl) hw (fun x17 M16 H locs hw r18 hR hS => ?_)
    refine sa_if_ne (tgt := 99) X.1 r18 dX0_linesAt_80 (by decide) (fun hc => ?_) (fun hc => ?_)
    · have hw := hw.1 hc
      have c19 := hw.1
      have hw := hw.2
      refine lv_iinc (v := Int32.ofInt (y2 + 1)) (lv' := [(2, .int (Int32.ofInt (y2 + 1))), (0, .ref (α 1 u0)), (1, .int (Int32.ofInt p1)), (3, .int (Int32.ofInt y3)), (4, .int (Int32.ofInt y4))]) X.1.1 X.1.2.1 dX0_linesAt_99 hl (k := 2) rfl (Int32.ofInt_add _ _).symm (by decide) rfl (fun ls hl => ?_)
      refine lv_aload_n X.1.1 X.1.2.1 dX0_linesAt_102 rfl (lv_at hl 1 rfl) ?_
      refine gt_1_5 X hR hu0 kw_1001 dX0_linesAt_103 ?_
      refine lv_iload X.1.1 X.1.2.1 dX0_linesAt_106 (lv_at hl 4 rfl) ?_
      have c20 := hw.1
      have hw := hw.2
      refine ra_25 X hR (ok2 X.2.2.1 rfl hu0) c20 dX0_linesAt_108 ?_
      have r21 := hR.r 25 u0 y4
      refine lv_aload_n X.1.1 X.1.2.1 dX0_linesAt_109 rfl (lv_at hl 1 rfl) ?_
      refine gt_1_6 X hR hu0 kw_1002 dX0_linesAt_110 ?_
      refine lv_iload X.1.1 X.1.2.1 dX0_linesAt_113 (lv_at hl 4 rfl) ?_
      have c22 := hw.1
      have hw := hw.2
      refine ra_26 X hR (ok2 X.2.2.1 rfl hu0) c22 dX0_linesAt_115 ?_
      have r23 := hR.r 26 u0 y4
      have c24 := hw.1
      have hw := hw.2
      refine sa_isub X.1 dX0_linesAt_116 ?_
      refine lv_istore_n (lv' := [(3, .int (Int32.ofInt ((M16 25 u0 y4) - (M16 26 u0 y4)))), (2, .int (Int32.ofInt (y2 + 1))), (0, .ref (α 1 u0)), (1, .int (Int32.ofInt p1)), (4, .int (Int32.ofInt y4))]) X.1.1 X.1.2.1 dX0_linesAt_117 rfl hl (by decide) rfl (fun ls hl => ?_)
      exact t_X0_linesAt_118 X hu0 hp1 hK27 _ _ _ _ hw c19 c24 hy4 _ _ hR hS _ (lv_sub hl [2, 3, 1, 0, 4] rfl)
    · have hw := hw.2 hc
      exact t_X0_linesAt_83 X hu0 hp1 hK27 _ _ _ _ hw hy2 hy3 hy4 _ _ hR hS _ (lv_sub hl [0, 1, 2, 3, 4] rfl)
set_option maxHeartbeats 4000000 in
set_option maxRecDepth 100000 in
theorem t_X0_linesAt_27 {u0 : Int} {p1 : Int} (X : CX p m c cX0_linesAt 5 s args RX0 G B κ meth (some .int)) (hu0 : okk κ 1 u0) (hp1 : inR p1) {Qm : Int → Mem → Prop} : ∀ n : Nat, ∀ y2 : Int, ∀ y3 : Int, ∀ y4 : Int, ∀ M : Mem, wp_X0_linesAt_27 u0 p1 Qm n y2 y3 y4 M → inR y2 → inR y3 → inR y4 → ∀ (H : Heap) (locs : List Loc), Rp G e0 α κ B M H → va_S (fun q => B ≤ q) s.heap H locs → ∀ (ls : Array Slot), lv_has ls 5 [(0, .ref (α 1 u0)), (1, .int (Int32.ofInt p1)), (2, .int (Int32.ofInt y2)), (3, .int (Int32.ofInt y3)), (4, .int (Int32.ofInt y4))] → WI p l e 2 s m args below meth c G e0 α κ B Qm H locs 27 ls [] := by
  intro n
  induction n with
  | zero =>
    intro y2 y3 y4 M hw hy2 hy3 hy4 H locs hR hS ls hl
    exact hw.elim
  | succ n ih =>
    intro y2 y3 y4 M hw hy2 hy3 hy4 H locs hR hS ls hl
    have hw : (((M 1 u0 7) ≤ y4 → Qm y2 M) ∧ (y4 < (M 1 u0 7) → ((y3 ≤ 0 → wp_X0_linesAt_56 u0 p1 Qm (wp_X0_linesAt_27 u0 p1 Qm n) y2 y3 y4 M) ∧ (0 < y3 → wp_X0_canBePut u0 y3 y4 p1 M fun (x26 : Int) (M25 : Mem) => ((¬ x26 = 0 → wp_X0_linesAt_56 u0 p1 Qm (wp_X0_linesAt_27 u0 p1 Qm n) y2 y3 y4 M25) ∧ (x26 = 0 → (inR (y2 + 1)) ∧ wp_X0_linesAt_56 u0 p1 Qm (wp_X0_linesAt_27 u0 p1 Qm n) (y2 + 1) 0 y4 M25)))))) := hw
    refine lv_iload X.1.1 X.1.2.1 dX0_linesAt_27 (lv_at hl 4 rfl) ?_
    refine lv_aload_n X.1.1 X.1.2.1 dX0_linesAt_29 rfl (lv_at hl 0 rfl) ?_
    refine gt_1_7 X hR hu0 kw_1003 dX0_linesAt_30 ?_
    have r2 := hR.r 1 u0 7
    refine sa_icmp_ge (tgt := 124) X.1 hy4 r2 dX0_linesAt_33 (by decide) (fun hc => ?_) (fun hc => ?_)
    · have hw := hw.1 hc
      refine lv_iload_n X.1.1 X.1.2.1 dX0_linesAt_124 rfl (lv_at hl 2 rfl) ?_
      exact sa_iret X.1 X.2.2.2.1 X.2.2.2.2 hR hS hy2 hw dX0_linesAt_125
    · have hw := hw.2 hc
      refine lv_iload_n X.1.1 X.1.2.1 dX0_linesAt_36 rfl (lv_at hl 3 rfl) ?_
      refine sa_if_le (tgt := 56) X.1 hy3 dX0_linesAt_37 (by decide) (fun hc => ?_) (fun hc => ?_)
      · have hw := hw.1 hc
        exact t_X0_linesAt_56 X hu0 hp1 ih _ _ _ _ hw hy2 hy3 hy4 _ _ hR hS _ (lv_sub hl [0, 1, 2, 3, 4] rfl)
      · have hw := hw.2 hc
        refine lv_aload_n X.1.1 X.1.2.1 dX0_linesAt_40 rfl (lv_at hl 0 rfl) ?_
        refine lv_iload_n X.1.1 X.1.2.1 dX0_linesAt_41 rfl (lv_at hl 3 rfl) ?_
        refine lv_iload X.1.1 X.1.2.1 dX0_linesAt_42 (lv_at hl 4 rfl) ?_
        refine lv_iload_n X.1.1 X.1.2.1 dX0_linesAt_44 rfl (lv_at hl 1 rfl) ?_
        refine cs_X0_canBePut X hu0 hy3 hy4 hp1 (kc := 2) rmL_ok rm_c (by decide) hR hS kw_520 hl.1 dX0_linesAt_45 (Nat.le_of_ble_eq_true rfl) hw (fun x26 M25 H locs hw r27 hR hS => ?_)
        refine sa_if_ne (tgt := 56) X.1 r27 dX0_linesAt_48 (by decide) (fun hc => ?_) (fun hc => ?_)
        · have hw := hw.1 hc
          exact t_X0_linesAt_56 X hu0 hp1 ih _ _ _ _ hw hy2 hy3 hy4 _ _ hR hS _ (lv_sub hl [0, 1, 2, 3, 4] rfl)
        · have hw := hw.2 hc
          have c28 := hw.1
          have hw := hw.2
          refine lv_iinc (v := Int32.ofInt (y2 + 1)) (lv' := [(2, .int (Int32.ofInt (y2 + 1))), (0, .ref (α 1 u0)), (1, .int (Int32.ofInt p1)), (3, .int (Int32.ofInt y3)), (4, .int (Int32.ofInt y4))]) X.1.1 X.1.2.1 dX0_linesAt_51 hl (k := 2) rfl (Int32.ofInt_add _ _).symm (by decide) rfl (fun ls hl => ?_)
          refine sa_const X.1 dX0_linesAt_54 ?_
          refine lv_istore_n (lv' := [(3, .int (Int32.ofInt 0)), (2, .int (Int32.ofInt (y2 + 1))), (0, .ref (α 1 u0)), (1, .int (Int32.ofInt p1)), (4, .int (Int32.ofInt y4))]) X.1.1 X.1.2.1 dX0_linesAt_55 rfl hl (by decide) rfl (fun ls hl => ?_)
          exact t_X0_linesAt_56 X hu0 hp1 ih _ _ _ _ hw c28 (inR_c (a := 0) rfl) hy4 _ _ hR hS _ (lv_sub hl [2, 3, 1, 0, 4] rfl)
set_option maxHeartbeats 4000000 in
set_option maxRecDepth 100000 in
theorem t_X0_linesAt {u0 : Int} {p1 : Int} (X : CX p m c cX0_linesAt 5 s args RX0 G B κ meth (some .int)) (hu0 : okk κ 1 u0) (hp1 : inR p1) {M : Mem} {Qm : Int → Mem → Prop} (hw : wp_X0_linesAt u0 p1 M Qm) (H : Heap) (locs : List Loc) (hR : Rp G e0 α κ B M H) (hS : va_S (fun q => B ≤ q) s.heap H locs) (ls : Array Slot) (hl : lv_has ls 5 [(0, .ref (α 1 u0)), (1, .int (Int32.ofInt p1))]) : WI p l e 2 s m args below meth c G e0 α κ B Qm H locs 0 ls [] := by
  have hw : ((¬ (M 1 u0 7) = 0 → (∃ n29 : Nat, wp_X0_linesAt_27 u0 p1 Qm n29 1 0 0 M)) ∧ ((M 1 u0 7) = 0 → Qm (if (M 1 u0 8) = 0 then (0 : Int) else 1) M)) := hw
  refine lv_aload_n X.1.1 X.1.2.1 dX0_linesAt_0 rfl (lv_at hl 0 rfl) ?_
  refine gt_1_7 X hR hu0 kw_1003 dX0_linesAt_1 ?_
  have r1 := hR.r 1 u0 7
  refine sa_if_ne (tgt := 20) X.1 r1 dX0_linesAt_4 (by decide) (fun hc => ?_) (fun hc => ?_)
  · have hw := hw.1 hc
    refine sa_const X.1 dX0_linesAt_20 ?_
    refine lv_istore_n (lv' := [(2, .int (Int32.ofInt 1)), (0, .ref (α 1 u0)), (1, .int (Int32.ofInt p1))]) X.1.1 X.1.2.1 dX0_linesAt_21 rfl hl (by decide) rfl (fun ls hl => ?_)
    refine sa_const X.1 dX0_linesAt_22 ?_
    refine lv_istore_n (lv' := [(3, .int (Int32.ofInt 0)), (2, .int (Int32.ofInt 1)), (0, .ref (α 1 u0)), (1, .int (Int32.ofInt p1))]) X.1.1 X.1.2.1 dX0_linesAt_23 rfl hl (by decide) rfl (fun ls hl => ?_)
    refine sa_const X.1 dX0_linesAt_24 ?_
    refine lv_istore (lv' := [(4, .int (Int32.ofInt 0)), (3, .int (Int32.ofInt 0)), (2, .int (Int32.ofInt 1)), (0, .ref (α 1 u0)), (1, .int (Int32.ofInt p1))]) X.1.1 X.1.2.1 dX0_linesAt_25 hl (by decide) rfl (fun ls hl => ?_)
    obtain ⟨n29, hw⟩ := hw
    exact t_X0_linesAt_27 X hu0 hp1 n29 _ _ _ _ hw (inR_c (a := 1) rfl) (inR_c (a := 0) rfl) (inR_c (a := 0) rfl) _ _ hR hS _ (lv_sub hl [3, 4, 2, 1, 0] rfl)
  · have hw := hw.2 hc
    refine lv_aload_n X.1.1 X.1.2.1 dX0_linesAt_7 rfl (lv_at hl 0 rfl) ?_
    refine gt_1_8 X hR hu0 kw_1005 dX0_linesAt_8 ?_
    have r30 := hR.r 1 u0 8
    have r31 := inR_ite (c := (M 1 u0 8) = 0) (inR_c (a := 0) rfl) (inR_c (a := 1) rfl)
    refine cut_j (A := ∀ v32 : Int, v32 = (if (M 1 u0 8) = 0 then (0 : Int) else 1) → WI p l e 2 s m args below meth c G e0 α κ B Qm H locs 19 ls [.int (Int32.ofInt v32)]) (fun J33 => ?_) ?_
    · refine sa_if_eq (tgt := 18) X.1 r30 dX0_linesAt_11 (by decide) (fun hc => ?_) (fun hc => ?_)
      · skip
        refine sa_const X.1 dX0_linesAt_18 ?_
        exact J33 (0) (if_pos (c := (M 1 u0 8) = 0) hc).symm
      · skip
        refine sa_const X.1 dX0_linesAt_14 ?_
        refine lv_goto (tgt := 19) X.1.1 X.1.2.1 dX0_linesAt_15 (by decide) ?_
        exact J33 (1) (if_neg (c := (M 1 u0 8) = 0) hc).symm
    intro v32 hv32
    subst hv32
    exact sa_iret X.1 X.2.2.2.1 X.2.2.2.2 hR hS r31 hw dX0_linesAt_19
theorem m_X0_linesAt {l : Launch} {G : Gx} {e0 : Nat} {α : Ax} {κ : Nat → Int} {B : Nat} {u0 : Int} {p1 : Int} (hκ : kOK κ) (hu0 : okk κ 1 u0) (hp1 : inR p1) {M : Mem} {Qm : Int → Mem → Prop} (hw : wp_X0_linesAt u0 p1 M Qm) : CI l yX0_linesAt (Cond.code yX0_linesAt cX0_linesAt 5 (some .int)) 2 G e0 α κ B [.ref (α 1 u0), .int (Int32.ofInt p1)] M Qm :=
  CI.mk hκ (by decide +kernel) rfl (Nat.le_of_ble_eq_true rfl) (lv := [(0, .ref (α 1 u0)), (1, .int (Int32.ofInt p1))]) rfl (fun p e s m args below meth c ls X hR hS hl => t_X0_linesAt X hu0 hp1 hw _ _ hR hS ls hl)
theorem cs_X0_linesAt {cc : ByteArray} {nL : Nat} {own : String} {ret : Option FieldType} {idx pc : Nat} {u0 : Int} {p1 : Int} (X : CX p m c cc nL s args own G B κ meth ret) (hu0 : okk κ 1 u0) (hp1 : inR p1) {kc : Nat} {R : Room} {cells slots : Nat} (hRr : RmOK R kc) (hcel : cells ≤ R.cells ∧ slots ≤ R.slots) (hk : 2 + 1 ≤ kc) {M : Mem} {H : Heap} {locs : List Loc} (hR : Rp G e0 α κ B M H) (hS : va_S (fun q => B ≤ q) s.heap H locs) (k1 : Cond.methodLink own idx yX0_linesAt ∈ gw) {ls : Array Slot} (hml : ls.size = nL) {rest : List Value} (hd : decode cc pc = .ok (.invokevirtual idx, 3)) (hrest : (rest.map fun v => v.category).sum ≤ 8) {Q : State → Prop} {Qm : Int → Mem → Prop} (hw : wp_X0_linesAt u0 p1 M Qm) (kk : ∀ (r : Int) (M1 : Mem) (H1 : Heap) (locs1 : List Loc), Qm r M1 → inR r → Rp G e0 α κ B M1 H1 → va_S (fun q => B ≤ q) s.heap H1 locs1 → W p l e R s m args below meth c H1 locs1 cells slots Q (F0 m (pc + 3) ls (.int (Int32.ofInt r) :: rest))) : W p l e R s m args below meth c H locs cells slots Q (F0 m pc ls (.int (Int32.ofInt p1) :: .ref (α 1 u0) :: rest)) :=
  sa_callVI 2 (n := 1) (As := [.int (Int32.ofInt p1)]) (rest := rest) X.1 X.2.1 hR hS (m_X0_linesAt X.2.2.1 hu0 hp1 hw) k1 kw_517 kw_518 kw_52 kw_519 ⟨rfl, by decide +kernel, by decide +kernel, by decide +kernel⟩ (rm_ok hRr hk (by decide)) (rc_1 X hR hu0) rfl rfl hrest hml hd hcel kk
def wp_X2_collectItems_174 (p1 : Int) (Qm : Mem → Prop) (M : Mem) : Prop := Qm M
def wp_X2_collectItems_157 (p1 : Int) (Qm : Mem → Prop) (y2 : Int) (M : Mem) : Prop := ((p1 = 0 → wp_X2_collectItems_174 p1 Qm M) ∧ (¬ p1 = 0 → ((y2 ≤ 0 → wp_X2_collectItems_174 p1 Qm M) ∧ (0 < y2 → wp_X2_addItem 65 y2 0 1 M fun (M8 : Mem) => wp_X2_collectItems_174 p1 Qm M8))))
def wp_X2_collectItems_135 (p1 : Int) (Qm : Mem → Prop) (K12 : Int → Int → Mem → Prop) (y2 : Int) (y3 : Int) (M : Mem) : Prop := (inR (y3 + 1)) ∧ K12 y2 (y3 + 1) M
def wp_X2_collectItems_101 (p1 : Int) (Qm : Mem → Prop) (K12 : Int → Int → Mem → Prop) (y2 : Int) (y3 : Int) (q4 : Int) (M : Mem) : Prop := (((M 3 0 10) ≤ 0 → wp_X2_collectItems_135 p1 Qm K12 y2 y3 M) ∧ (0 < (M 3 0 10) → wp_X3_endsRun q4 M fun (x16 : Int) (M15 : Mem) => ((x16 = 0 → wp_X2_collectItems_135 p1 Qm K12 y2 y3 M15) ∧ (¬ x16 = 0 → (inR (32 + (M15 6 q4 0))) ∧ wp_X2_addItem (32 + (M15 6 q4 0)) 1 0 0 M15 fun (M20 : Mem) => wp_X2_collectItems_135 p1 Qm K12 y2 y3 M20))))
def wp_X2_collectItems_12 (p1 : Int) (Qm : Mem → Prop) : Nat → Int → Int → Mem → Prop
  | 0 => fun _ _ _ => False
  | n + 1 => fun y2 y3 M => (((M 16 0 (-1)) ≤ y3 → (((M 3 0 10) ≤ 0 → wp_X2_collectItems_157 p1 Qm y2 M) ∧ (0 < (M 3 0 10) → wp_X2_addItem 64 1 0 0 M fun (M9 : Mem) => wp_X2_collectItems_157 p1 Qm y2 M9))) ∧ (y3 < (M 16 0 (-1)) → (0 ≤ y3 ∧ y3 < M 16 0 (-1)) ∧ ((29 ≤ (M 6 (M 16 0 y3) 0) → wp_X2_collectItems_101 p1 Qm (wp_X2_collectItems_12 p1 Qm n) y2 y3 (M 16 0 y3) M) ∧ ((M 6 (M 16 0 y3) 0) < 29 → (p1 = 0 → (0 ≤ (M 6 (M 16 0 y3) 0) ∧ (M 6 (M 16 0 y3) 0) < 29) ∧ True) ∧ (0 ≤ (M 6 (M 16 0 y3) 0) ∧ (M 6 (M 16 0 y3) 0) < 29) ∧ wp_X2_addItem (M 6 (M 16 0 y3) 0) (M 35 0 (M 6 (M 16 0 y3) 0)) (if p1 = 0 then (M 32 0 (M 6 (M 16 0 y3) 0)) else 0) (M 6 (M 16 0 y3) 3) M fun (M31 : Mem) => wp_X2_collectItems_101 p1 Qm (wp_X2_collectItems_12 p1 Qm n) y2 y3 (M 16 0 y3) M31))))
def wp_X2_collectItems (p1 : Int) (M : Mem) (Qm : Mem → Prop) : Prop := ∀ M1 : Mem, M1 = up M 3 0 8 0 → wp_X2_countNoteLines M1 fun (x4 : Int) (M3 : Mem) => (∃ n32 : Nat, wp_X2_collectItems_12 p1 Qm n32 x4 0 M3)
set_option maxHeartbeats 4000000 in
set_option maxRecDepth 100000 in
theorem t_X2_collectItems_174 {p1 : Int} (X : CX p m c cX2_collectItems 6 s args RX2 G B κ meth none) (hp1 : inR p1) {Qm : Mem → Prop} : ∀ M : Mem, wp_X2_collectItems_174 p1 Qm M → ∀ (H : Heap) (locs : List Loc), Rp G e0 α κ B M H → va_S (fun q => B ≤ q) s.heap H locs → ∀ (ls : Array Slot), lv_has ls 6 [] → WV p l e 4 s m args below meth c G e0 α κ B Qm H locs 174 ls [] := by
  intro M hw H locs hR hS ls hl
  have hw : Qm M := hw
  exact sa_vret X.1 X.2.2.2.1 X.2.2.2.2 hR hS hw dX2_collectItems_174
set_option maxHeartbeats 4000000 in
set_option maxRecDepth 100000 in
theorem t_X2_collectItems_157 {p1 : Int} (X : CX p m c cX2_collectItems 6 s args RX2 G B κ meth none) (hp1 : inR p1) {Qm : Mem → Prop} : ∀ y2 : Int, ∀ M : Mem, wp_X2_collectItems_157 p1 Qm y2 M → inR y2 → ∀ (H : Heap) (locs : List Loc), Rp G e0 α κ B M H → va_S (fun q => B ≤ q) s.heap H locs → ∀ (ls : Array Slot), lv_has ls 6 [(0, .ref (α 3 0)), (1, .int (Int32.ofInt p1)), (2, .int (Int32.ofInt y2))] → WV p l e 4 s m args below meth c G e0 α κ B Qm H locs 157 ls [] := by
  intro y2 M hw hy2 H locs hR hS ls hl
  have hw : ((p1 = 0 → wp_X2_collectItems_174 p1 Qm M) ∧ (¬ p1 = 0 → ((y2 ≤ 0 → wp_X2_collectItems_174 p1 Qm M) ∧ (0 < y2 → wp_X2_addItem 65 y2 0 1 M fun (M8 : Mem) => wp_X2_collectItems_174 p1 Qm M8)))) := hw
  refine lv_iload_n X.1.1 X.1.2.1 dX2_collectItems_157 rfl (lv_at hl 1 rfl) ?_
  refine sa_if_eq (tgt := 174) X.1 hp1 dX2_collectItems_158 (by decide) (fun hc => ?_) (fun hc => ?_)
  · have hw := hw.1 hc
    exact t_X2_collectItems_174 X hp1 _ hw _ _ hR hS _ (lv_sub hl [] rfl)
  · have hw := hw.2 hc
    refine lv_iload_n X.1.1 X.1.2.1 dX2_collectItems_161 rfl (lv_at hl 2 rfl) ?_
    refine sa_if_le (tgt := 174) X.1 hy2 dX2_collectItems_162 (by decide) (fun hc => ?_) (fun hc => ?_)
    · have hw := hw.1 hc
      exact t_X2_collectItems_174 X hp1 _ hw _ _ hR hS _ (lv_sub hl [] rfl)
    · have hw := hw.2 hc
      refine lv_aload_n X.1.1 X.1.2.1 dX2_collectItems_165 rfl (lv_at hl 0 rfl) ?_
      refine sa_bipush X.1 dX2_collectItems_166 (by decide) ?_
      refine lv_iload_n X.1.1 X.1.2.1 dX2_collectItems_168 rfl (lv_at hl 2 rfl) ?_
      refine sa_const X.1 dX2_collectItems_169 ?_
      refine sa_const X.1 dX2_collectItems_170 ?_
      refine cs_X2_addItem X (inR_c (a := 65) rfl) hy2 (inR_c (a := 0) rfl) (inR_c (a := 1) rfl) (kc := 4) rmL_ok rm_c (by decide) hR hS kw_572 hl.1 dX2_collectItems_171 (Nat.le_of_ble_eq_true rfl) hw (fun M8 H locs hw hR hS => ?_)
      exact t_X2_collectItems_174 X hp1 _ hw _ _ hR hS _ (lv_sub hl [] rfl)
set_option maxHeartbeats 4000000 in
set_option maxRecDepth 100000 in
theorem t_X2_collectItems_135 {p1 : Int} (X : CX p m c cX2_collectItems 6 s args RX2 G B κ meth none) (hp1 : inR p1) {Qm : Mem → Prop} {K12 : Int → Int → Mem → Prop} (hK12 : ∀ y2 : Int, ∀ y3 : Int, ∀ M : Mem, K12 y2 y3 M → inR y2 → inR y3 → ∀ (H : Heap) (locs : List Loc), Rp G e0 α κ B M H → va_S (fun q => B ≤ q) s.heap H locs → ∀ (ls : Array Slot), lv_has ls 6 [(0, .ref (α 3 0)), (1, .int (Int32.ofInt p1)), (2, .int (Int32.ofInt y2)), (3, .int (Int32.ofInt y3))] → WV p l e 4 s m args below meth c G e0 α κ B Qm H locs 12 ls []) : ∀ y2 : Int, ∀ y3 : Int, ∀ M : Mem, wp_X2_collectItems_135 p1 Qm K12 y2 y3 M → inR y2 → inR y3 → ∀ (H : Heap) (locs : List Loc), Rp G e0 α κ B M H → va_S (fun q => B ≤ q) s.heap H locs → ∀ (ls : Array Slot), lv_has ls 6 [(0, .ref (α 3 0)), (1, .int (Int32.ofInt p1)), (2, .int (Int32.ofInt y2)), (3, .int (Int32.ofInt y3))] → WV p l e 4 s m args below meth c G e0 α κ B Qm H locs 135 ls [] := by
  intro y2 y3 M hw hy2 hy3 H locs hR hS ls hl
  have hw : (inR (y3 + 1)) ∧ K12 y2 (y3 + 1) M := hw
  have c14 := hw.1
  have hw := hw.2
  refine lv_iinc (v := Int32.ofInt (y3 + 1)) (lv' := [(3, .int (Int32.ofInt (y3 + 1))), (0, .ref (α 3 0)), (1, .int (Int32.ofInt p1)), (2, .int (Int32.ofInt y2))]) X.1.1 X.1.2.1 dX2_collectItems_135 hl (k := 3) rfl (Int32.ofInt_add _ _).symm (by decide) rfl (fun ls hl => ?_)
  refine lv_goto (tgt := 12) X.1.1 X.1.2.1 dX2_collectItems_138 (by decide) ?_
  exact hK12 _ _ _ hw hy2 c14 _ _ hR hS _ (lv_sub hl [1, 2, 3, 0] rfl)
set_option maxHeartbeats 4000000 in
set_option maxRecDepth 100000 in
theorem t_X2_collectItems_101 {p1 : Int} (X : CX p m c cX2_collectItems 6 s args RX2 G B κ meth none) (hp1 : inR p1) {Qm : Mem → Prop} {K12 : Int → Int → Mem → Prop} (hK12 : ∀ y2 : Int, ∀ y3 : Int, ∀ M : Mem, K12 y2 y3 M → inR y2 → inR y3 → ∀ (H : Heap) (locs : List Loc), Rp G e0 α κ B M H → va_S (fun q => B ≤ q) s.heap H locs → ∀ (ls : Array Slot), lv_has ls 6 [(0, .ref (α 3 0)), (1, .int (Int32.ofInt p1)), (2, .int (Int32.ofInt y2)), (3, .int (Int32.ofInt y3))] → WV p l e 4 s m args below meth c G e0 α κ B Qm H locs 12 ls []) : ∀ y2 : Int, ∀ y3 : Int, ∀ q4 : Int, ∀ M : Mem, wp_X2_collectItems_101 p1 Qm K12 y2 y3 q4 M → inR y2 → inR y3 → okk κ 6 q4 → ∀ (H : Heap) (locs : List Loc), Rp G e0 α κ B M H → va_S (fun q => B ≤ q) s.heap H locs → ∀ (ls : Array Slot), lv_has ls 6 [(0, .ref (α 3 0)), (1, .int (Int32.ofInt p1)), (2, .int (Int32.ofInt y2)), (3, .int (Int32.ofInt y3)), (4, .ref (α 6 q4))] → WV p l e 4 s m args below meth c G e0 α κ B Qm H locs 101 ls [] := by
  intro y2 y3 q4 M hw hy2 hy3 hq4 H locs hR hS ls hl
  have hw : (((M 3 0 10) ≤ 0 → wp_X2_collectItems_135 p1 Qm K12 y2 y3 M) ∧ (0 < (M 3 0 10) → wp_X3_endsRun q4 M fun (x16 : Int) (M15 : Mem) => ((x16 = 0 → wp_X2_collectItems_135 p1 Qm K12 y2 y3 M15) ∧ (¬ x16 = 0 → (inR (32 + (M15 6 q4 0))) ∧ wp_X2_addItem (32 + (M15 6 q4 0)) 1 0 0 M15 fun (M20 : Mem) => wp_X2_collectItems_135 p1 Qm K12 y2 y3 M20)))) := hw
  refine lv_aload_n X.1.1 X.1.2.1 dX2_collectItems_101 rfl (lv_at hl 0 rfl) ?_
  refine gt_3_10 X hR (okf X.2.2.1 rfl) kw_299 dX2_collectItems_102 ?_
  have r13 := hR.r 3 0 10
  refine sa_if_le (tgt := 135) X.1 r13 dX2_collectItems_105 (by decide) (fun hc => ?_) (fun hc => ?_)
  · have hw := hw.1 hc
    exact t_X2_collectItems_135 X hp1 hK12 _ _ _ hw hy2 hy3 _ _ hR hS _ (lv_sub hl [0, 1, 2, 3] rfl)
  · have hw := hw.2 hc
    refine lv_aload_n X.1.1 X.1.2.1 dX2_collectItems_108 rfl (lv_at hl 0 rfl) ?_
    refine gt_3_0 X hR (okf X.2.2.1 rfl) kw_289 dX2_collectItems_109 ?_
    refine lv_aload X.1.1 X.1.2.1 dX2_collectItems_112 (lv_at hl 4 rfl) ?_
    refine cs_X3_endsRun X hq4 (kc := 4) rmL_ok rm_c (by decide) hR hS kw_576 hl.1 dX2_collectItems_114 (Nat.le_of_ble_eq_true rfl) hw (fun x16 M15 H locs hw r17 hR hS => ?_)
    refine sa_if_eq (tgt := 135) X.1 r17 dX2_collectItems_117 (by decide) (fun hc => ?_) (fun hc => ?_)
    · have hw := hw.1 hc
      exact t_X2_collectItems_135 X hp1 hK12 _ _ _ hw hy2 hy3 _ _ hR hS _ (lv_sub hl [0, 1, 2, 3] rfl)
    · have hw := hw.2 hc
      refine lv_aload_n X.1.1 X.1.2.1 dX2_collectItems_120 rfl (lv_at hl 0 rfl) ?_
      refine sa_bipush X.1 dX2_collectItems_121 (by decide) ?_
      refine lv_aload X.1.1 X.1.2.1 dX2_collectItems_123 (lv_at hl 4 rfl) ?_
      refine gt_6_0 X hR hq4 kw_887 dX2_collectItems_125 ?_
      have r18 := hR.r 6 q4 0
      have c19 := hw.1
      have hw := hw.2
      refine sa_iadd X.1 dX2_collectItems_128 ?_
      refine sa_const X.1 dX2_collectItems_129 ?_
      refine sa_const X.1 dX2_collectItems_130 ?_
      refine sa_const X.1 dX2_collectItems_131 ?_
      refine cs_X2_addItem X c19 (inR_c (a := 1) rfl) (inR_c (a := 0) rfl) (inR_c (a := 0) rfl) (kc := 4) rmL_ok rm_c (by decide) hR hS kw_572 hl.1 dX2_collectItems_132 (Nat.le_of_ble_eq_true rfl) hw (fun M20 H locs hw hR hS => ?_)
      exact t_X2_collectItems_135 X hp1 hK12 _ _ _ hw hy2 hy3 _ _ hR hS _ (lv_sub hl [0, 1, 2, 3] rfl)
set_option maxHeartbeats 4000000 in
set_option maxRecDepth 100000 in
theorem t_X2_collectItems_12 {p1 : Int} (X : CX p m c cX2_collectItems 6 s args RX2 G B κ meth none) (hp1 : inR p1) {Qm : Mem → Prop} : ∀ n : Nat, ∀ y2 : Int, ∀ y3 : Int, ∀ M : Mem, wp_X2_collectItems_12 p1 Qm n y2 y3 M → inR y2 → inR y3 → ∀ (H : Heap) (locs : List Loc), Rp G e0 α κ B M H → va_S (fun q => B ≤ q) s.heap H locs → ∀ (ls : Array Slot), lv_has ls 6 [(0, .ref (α 3 0)), (1, .int (Int32.ofInt p1)), (2, .int (Int32.ofInt y2)), (3, .int (Int32.ofInt y3))] → WV p l e 4 s m args below meth c G e0 α κ B Qm H locs 12 ls [] := by
  intro n
  induction n with
  | zero =>
    intro y2 y3 M hw hy2 hy3 H locs hR hS ls hl
    exact hw.elim
  | succ n ih =>
    intro y2 y3 M hw hy2 hy3 H locs hR hS ls hl
    have hw : (((M 16 0 (-1)) ≤ y3 → (((M 3 0 10) ≤ 0 → wp_X2_collectItems_157 p1 Qm y2 M) ∧ (0 < (M 3 0 10) → wp_X2_addItem 64 1 0 0 M fun (M9 : Mem) => wp_X2_collectItems_157 p1 Qm y2 M9))) ∧ (y3 < (M 16 0 (-1)) → (0 ≤ y3 ∧ y3 < M 16 0 (-1)) ∧ ((29 ≤ (M 6 (M 16 0 y3) 0) → wp_X2_collectItems_101 p1 Qm (wp_X2_collectItems_12 p1 Qm n) y2 y3 (M 16 0 y3) M) ∧ ((M 6 (M 16 0 y3) 0) < 29 → (p1 = 0 → (0 ≤ (M 6 (M 16 0 y3) 0) ∧ (M 6 (M 16 0 y3) 0) < 29) ∧ True) ∧ (0 ≤ (M 6 (M 16 0 y3) 0) ∧ (M 6 (M 16 0 y3) 0) < 29) ∧ wp_X2_addItem (M 6 (M 16 0 y3) 0) (M 35 0 (M 6 (M 16 0 y3) 0)) (if p1 = 0 then (M 32 0 (M 6 (M 16 0 y3) 0)) else 0) (M 6 (M 16 0 y3) 3) M fun (M31 : Mem) => wp_X2_collectItems_101 p1 Qm (wp_X2_collectItems_12 p1 Qm n) y2 y3 (M 16 0 y3) M31)))) := hw
    refine lv_iload_n X.1.1 X.1.2.1 dX2_collectItems_12 rfl (lv_at hl 3 rfl) ?_
    refine lv_aload_n X.1.1 X.1.2.1 dX2_collectItems_13 rfl (lv_at hl 0 rfl) ?_
    refine gt_3_0 X hR (okf X.2.2.1 rfl) kw_289 dX2_collectItems_14 ?_
    refine gt_4_4 X hR (okf X.2.2.1 rfl) kw_125 dX2_collectItems_17 ?_
    refine ls_size (by decide) (by decide) X (kc := 4) rmL_ok rm_c (by decide) hR hS kw_567 hl.1 dX2_collectItems_20 (Nat.le_of_ble_eq_true rfl) (fun H locs hR hS => ?_)
    have r6 := hR.r 16 0 (-1)
    refine sa_icmp_ge (tgt := 141) X.1 hy3 r6 dX2_collectItems_23 (by decide) (fun hc => ?_) (fun hc => ?_)
    · have hw := hw.1 hc
      refine lv_aload_n X.1.1 X.1.2.1 dX2_collectItems_141 rfl (lv_at hl 0 rfl) ?_
      refine gt_3_10 X hR (okf X.2.2.1 rfl) kw_299 dX2_collectItems_142 ?_
      have r7 := hR.r 3 0 10
      refine sa_if_le (tgt := 157) X.1 r7 dX2_collectItems_145 (by decide) (fun hc => ?_) (fun hc => ?_)
      · have hw := hw.1 hc
        exact t_X2_collectItems_157 X hp1 _ _ hw hy2 _ _ hR hS _ (lv_sub hl [0, 1, 2] rfl)
      · have hw := hw.2 hc
        refine lv_aload_n X.1.1 X.1.2.1 dX2_collectItems_148 rfl (lv_at hl 0 rfl) ?_
        refine sa_bipush X.1 dX2_collectItems_149 (by decide) ?_
        refine sa_const X.1 dX2_collectItems_151 ?_
        refine sa_const X.1 dX2_collectItems_152 ?_
        refine sa_const X.1 dX2_collectItems_153 ?_
        refine cs_X2_addItem X (inR_c (a := 64) rfl) (inR_c (a := 1) rfl) (inR_c (a := 0) rfl) (inR_c (a := 0) rfl) (kc := 4) rmL_ok rm_c (by decide) hR hS kw_572 hl.1 dX2_collectItems_154 (Nat.le_of_ble_eq_true rfl) hw (fun M9 H locs hw hR hS => ?_)
        exact t_X2_collectItems_157 X hp1 _ _ hw hy2 _ _ hR hS _ (lv_sub hl [0, 1, 2] rfl)
    · have hw := hw.2 hc
      refine lv_aload_n X.1.1 X.1.2.1 dX2_collectItems_26 rfl (lv_at hl 0 rfl) ?_
      refine gt_3_0 X hR (okf X.2.2.1 rfl) kw_289 dX2_collectItems_27 ?_
      refine gt_4_4 X hR (okf X.2.2.1 rfl) kw_125 dX2_collectItems_30 ?_
      refine lv_iload_n X.1.1 X.1.2.1 dX2_collectItems_33 rfl (lv_at hl 3 rfl) ?_
      have c10 := hw.1
      have hw := hw.2
      refine ls_get (ci := 6) (by decide) (by decide) rfl X c10 (kc := 4) rmL_ok rm_c (by decide) hR hS kw_568 hl.1 dX2_collectItems_34 (Nat.le_of_ble_eq_true rfl) (fun H locs o11 hR hS => ?_)
      refine ck_6 X hR o11 kw_571 dX2_collectItems_37 ?_
      refine lv_astore (lv' := [(4, .ref (α 6 (M 16 0 y3))), (0, .ref (α 3 0)), (1, .int (Int32.ofInt p1)), (2, .int (Int32.ofInt y2)), (3, .int (Int32.ofInt y3))]) X.1.1 X.1.2.1 dX2_collectItems_40 hl (by decide) rfl (fun ls hl => ?_)
      refine lv_aload X.1.1 X.1.2.1 dX2_collectItems_42 (lv_at hl 0 rfl) ?_
      refine gt_6_0 X hR o11 kw_887 dX2_collectItems_44 ?_
      have r12 := hR.r 6 (M 16 0 y3) 0
      refine sa_bipush X.1 dX2_collectItems_47 (by decide) ?_
      refine sa_icmp_ge (tgt := 101) X.1 r12 (inR_c (a := 29) rfl) dX2_collectItems_49 (by decide) (fun hc => ?_) (fun hc => ?_)
      · have hw := hw.1 hc
        exact t_X2_collectItems_101 X hp1 ih _ _ _ _ hw hy2 hy3 o11 _ _ hR hS _ (lv_sub hl [1, 2, 3, 4, 0] rfl)
      · have hw := hw.2 hc
        refine lv_iload_n X.1.1 X.1.2.1 dX2_collectItems_52 rfl (lv_at hl 2 rfl) ?_
        have s22 := hw.1
        have hw := hw.2
        have r23 := inR_ite (c := p1 = 0) (hR.r 32 0 (M 6 (M 16 0 y3) 0)) (inR_c (a := 0) rfl)
        refine cut_j (A := ∀ v24 : Int, v24 = (if p1 = 0 then (M 32 0 (M 6 (M 16 0 y3) 0)) else 0) → WV p l e 4 s m args below meth c G e0 α κ B Qm H locs 70 ls [.int (Int32.ofInt v24)]) (fun J25 => ?_) ?_
        · refine sa_if_eq (tgt := 60) X.1 hp1 dX2_collectItems_53 (by decide) (fun hc => ?_) (fun hc => ?_)
          · have hw := s22 hc
            refine lv_aload_n X.1.1 X.1.2.1 dX2_collectItems_60 rfl (lv_at hl 1 rfl) ?_
            refine gt_3_7 X hR (okf X.2.2.1 rfl) kw_296 dX2_collectItems_61 ?_
            refine lv_aload X.1.1 X.1.2.1 dX2_collectItems_64 (lv_at hl 0 rfl) ?_
            refine gt_6_0 X hR o11 kw_887 dX2_collectItems_66 ?_
            have c21 := hw.1
            have hw := hw.2
            refine ra_32 X hR (okf X.2.2.1 rfl) c21 dX2_collectItems_69 ?_
            exact J25 ((M 32 0 (M 6 (M 16 0 y3) 0))) (if_pos (c := p1 = 0) hc).symm
          · skip
            refine sa_const X.1 dX2_collectItems_56 ?_
            refine lv_goto (tgt := 70) X.1.1 X.1.2.1 dX2_collectItems_57 (by decide) ?_
            exact J25 (0) (if_neg (c := p1 = 0) hc).symm
        intro v24 hv24
        subst hv24
        refine lv_istore (lv' := [(5, .int (Int32.ofInt (if p1 = 0 then (M 32 0 (M 6 (M 16 0 y3) 0)) else 0))), (4, .ref (α 6 (M 16 0 y3))), (0, .ref (α 3 0)), (1, .int (Int32.ofInt p1)), (2, .int (Int32.ofInt y2)), (3, .int (Int32.ofInt y3))]) X.1.1 X.1.2.1 dX2_collectItems_70 hl (by decide) rfl (fun ls hl => ?_)
        refine lv_aload_n X.1.1 X.1.2.1 dX2_collectItems_72 rfl (lv_at hl 2 rfl) ?_
        refine lv_aload X.1.1 X.1.2.1 dX2_collectItems_73 (lv_at hl 1 rfl) ?_
        refine gt_6_0 X hR o11 kw_887 dX2_collectItems_75 ?_
        have r26 := hR.r 6 (M 16 0 y3) 0
        refine lv_aload_n X.1.1 X.1.2.1 dX2_collectItems_78 rfl (lv_at hl 2 rfl) ?_
        refine gt_3_1 X hR (okf X.2.2.1 rfl) kw_290 dX2_collectItems_79 ?_
        refine gt_5_2 X hR (okp X.2.2.1 rfl (by decide)) kw_196 dX2_collectItems_82 ?_
        refine lv_aload X.1.1 X.1.2.1 dX2_collectItems_85 (lv_at hl 1 rfl) ?_
        refine gt_6_0 X hR o11 kw_887 dX2_collectItems_87 ?_
        have r27 := hR.r 6 (M 16 0 y3) 0
        have c28 := hw.1
        have hw := hw.2
        refine ra_35 X hR (okp X.2.2.1 rfl (pr_5 X.2.2.1 (okp X.2.2.1 rfl (by decide)))) c28 dX2_collectItems_90 ?_
        have r29 := hR.r 35 0 (M 6 (M 16 0 y3) 0)
        refine lv_iload X.1.1 X.1.2.1 dX2_collectItems_91 (lv_at hl 0 rfl) ?_
        refine lv_aload X.1.1 X.1.2.1 dX2_collectItems_93 (lv_at hl 1 rfl) ?_
        refine gt_6_3 X hR o11 kw_899 dX2_collectItems_95 ?_
        have r30 := hR.r 6 (M 16 0 y3) 3
        refine cs_X2_addItem X r26 r29 r23 r30 (kc := 4) rmL_ok rm_c (by decide) hR hS kw_572 hl.1 dX2_collectItems_98 (Nat.le_of_ble_eq_true rfl) hw (fun M31 H locs hw hR hS => ?_)
        exact t_X2_collectItems_101 X hp1 ih _ _ _ _ hw hy2 hy3 o11 _ _ hR hS _ (lv_sub hl [2, 3, 4, 5, 1] rfl)
set_option maxHeartbeats 4000000 in
set_option maxRecDepth 100000 in
theorem t_X2_collectItems {p1 : Int} (X : CX p m c cX2_collectItems 6 s args RX2 G B κ meth none) (hp1 : inR p1) {M : Mem} {Qm : Mem → Prop} (hw : wp_X2_collectItems p1 M Qm) (H : Heap) (locs : List Loc) (hR : Rp G e0 α κ B M H) (hS : va_S (fun q => B ≤ q) s.heap H locs) (ls : Array Slot) (hl : lv_has ls 6 [(0, .ref (α 3 0)), (1, .int (Int32.ofInt p1))]) : WV p l e 4 s m args below meth c G e0 α κ B Qm H locs 0 ls [] := by
  have hw : ∀ M1 : Mem, M1 = up M 3 0 8 0 → wp_X2_countNoteLines M1 fun (x4 : Int) (M3 : Mem) => (∃ n32 : Nat, wp_X2_collectItems_12 p1 Qm n32 x4 0 M3) := hw
  refine lv_aload_n X.1.1 X.1.2.1 dX2_collectItems_0 rfl (lv_at hl 0 rfl) ?_
  refine sa_const X.1 dX2_collectItems_1 ?_
  refine pt_3_8 X hR hS (okf X.2.2.1 rfl) (inR_c (a := 0) rfl) kw_297 dX2_collectItems_2 (fun H locs hR hS => ?_)
  obtain ⟨M1, e2⟩ : ∃ z : Mem, z = up M 3 0 8 0 := ⟨_, rfl⟩
  rw [← e2] at hR
  have hw := hw M1 e2
  refine lv_aload_n X.1.1 X.1.2.1 dX2_collectItems_5 rfl (lv_at hl 0 rfl) ?_
  refine cs_X2_countNoteLines X  (kc := 4) rmL_ok rm_c (by decide) hR hS kw_562 hl.1 dX2_collectItems_6 (Nat.le_of_ble_eq_true rfl) hw (fun x4 M3 H locs hw r5 hR hS => ?_)
  refine lv_istore_n (lv' := [(2, .int (Int32.ofInt x4)), (0, .ref (α 3 0)), (1, .int (Int32.ofInt p1))]) X.1.1 X.1.2.1 dX2_collectItems_9 rfl hl (by decide) rfl (fun ls hl => ?_)
  refine sa_const X.1 dX2_collectItems_10 ?_
  refine lv_istore_n (lv' := [(3, .int (Int32.ofInt 0)), (2, .int (Int32.ofInt x4)), (0, .ref (α 3 0)), (1, .int (Int32.ofInt p1))]) X.1.1 X.1.2.1 dX2_collectItems_11 rfl hl (by decide) rfl (fun ls hl => ?_)
  obtain ⟨n32, hw⟩ := hw
  exact t_X2_collectItems_12 X hp1 n32 _ _ _ hw r5 (inR_c (a := 0) rfl) _ _ hR hS _ (lv_sub hl [2, 3, 1, 0] rfl)
theorem m_X2_collectItems {l : Launch} {G : Gx} {e0 : Nat} {α : Ax} {κ : Nat → Int} {B : Nat} {p1 : Int} (hκ : kOK κ) (hp1 : inR p1) {M : Mem} {Qm : Mem → Prop} (hw : wp_X2_collectItems p1 M Qm) : CV l yX2_collectItems (Cond.code yX2_collectItems cX2_collectItems 6 none) 4 G e0 α κ B [.ref (α 3 0), .int (Int32.ofInt p1)] M Qm :=
  CV.mk hκ (by decide +kernel) rfl (Nat.le_of_ble_eq_true rfl) (lv := [(0, .ref (α 3 0)), (1, .int (Int32.ofInt p1))]) rfl (fun p e s m args below meth c ls X hR hS hl => t_X2_collectItems X hp1 hw _ _ hR hS ls hl)
theorem cs_X2_collectItems {cc : ByteArray} {nL : Nat} {own : String} {ret : Option FieldType} {idx pc : Nat} {p1 : Int} (X : CX p m c cc nL s args own G B κ meth ret) (hp1 : inR p1) {kc : Nat} {R : Room} {cells slots : Nat} (hRr : RmOK R kc) (hcel : cells ≤ R.cells ∧ slots ≤ R.slots) (hk : 4 + 1 ≤ kc) {M : Mem} {H : Heap} {locs : List Loc} (hR : Rp G e0 α κ B M H) (hS : va_S (fun q => B ≤ q) s.heap H locs) (k1 : Cond.methodLink own idx yX2_collectItems ∈ gw) {ls : Array Slot} (hml : ls.size = nL) {rest : List Value} (hd : decode cc pc = .ok (.invokevirtual idx, 3)) (hrest : (rest.map fun v => v.category).sum ≤ 8) {Q : State → Prop} {Qm : Mem → Prop} (hw : wp_X2_collectItems p1 M Qm) (kk : ∀ (M1 : Mem) (H1 : Heap) (locs1 : List Loc), Qm M1 → Rp G e0 α κ B M1 H1 → va_S (fun q => B ≤ q) s.heap H1 locs1 → W p l e R s m args below meth c H1 locs1 cells slots Q (F0 m (pc + 3) ls (rest))) : W p l e R s m args below meth c H locs cells slots Q (F0 m pc ls (.int (Int32.ofInt p1) :: .ref (α 3 0) :: rest)) :=
  sa_callVV 4 (n := 1) (As := [.int (Int32.ofInt p1)]) (rest := rest) X.1 X.2.1 hR hS (m_X2_collectItems X.2.2.1 hp1 hw) k1 kw_560 kw_13 kw_47 kw_561 ⟨rfl, by decide +kernel, by decide +kernel, by decide +kernel⟩ (rm_ok hRr hk (by decide)) (rc_3 X hR (okf X.2.2.1 rfl)) rfl rfl hrest hml hd hcel kk
def wp_X2_putItem_18 (p1 : Int) (Qm : Int → Mem → Prop) (M : Mem) : Prop := Qm 0 M
def wp_X2_putItem_151 (p1 : Int) (Qm : Int → Mem → Prop) (K57 : Int → Int → Int → Int → Mem → Prop) (y2 : Int) (y3 : Int) (y4 : Int) (y5 : Int) (M : Mem) : Prop := wp_X2_openPage M fun (M19 : Mem) => (inR (y5 + 1)) ∧ K57 y2 y3 y4 (y5 + 1) M19
def wp_X2_putItem_142 (p1 : Int) (Qm : Int → Mem → Prop) (K57 : Int → Int → Int → Int → Mem → Prop) (y2 : Int) (y3 : Int) (y4 : Int) (y5 : Int) (M : Mem) : Prop := (((M 3 0 13) = 0 → wp_X2_putItem_151 p1 Qm K57 y2 y3 y4 y5 M) ∧ (¬ (M 3 0 13) = 0 → Qm 0 M))
def wp_X2_putItem_123 (p1 : Int) (Qm : Int → Mem → Prop) (K57 : Int → Int → Int → Int → Mem → Prop) (y2 : Int) (y3 : Int) (y4 : Int) (y5 : Int) (y6 : Int) (M : Mem) : Prop := wp_X2_putPiece p1 y2 y6 y3 M fun (M23 : Mem) => (inR (y2 - y6)) ∧ wp_X2_putItem_151 p1 Qm K57 (y2 - y6) 0 y4 y5 M23
def wp_X2_putItem_57 (p1 : Int) (Qm : Int → Mem → Prop) : Nat → Int → Int → Int → Int → Mem → Prop
  | 0 => fun _ _ _ _ _ => False
  | n + 1 => fun y2 y3 y4 y5 M => ((1808 ≤ y5 → Qm 0 M) ∧ (y5 < 1808 → (inR (y2 + y3)) ∧ (inR ((M 3 0 12) - y4)) ∧ ((((M 3 0 12) - y4) < (y2 + y3) → (inR ((M 3 0 12) - (M 3 0 10))) ∧ (inR (((M 3 0 12) - (M 3 0 10)) - y3)) ∧ (((((M 3 0 12) - (M 3 0 10)) - y3) < 1 → wp_X2_putItem_142 p1 Qm (wp_X2_putItem_57 p1 Qm n) y2 y3 y4 y5 M) ∧ (1 ≤ (((M 3 0 12) - (M 3 0 10)) - y3) → (0 ≤ p1 ∧ p1 < 50) ∧ ((¬ (M 31 0 p1) = 0 → wp_X2_putItem_123 p1 Qm (wp_X2_putItem_57 p1 Qm n) y2 y3 y4 y5 (((M 3 0 12) - (M 3 0 10)) - y3) M) ∧ ((M 31 0 p1) = 0 → (((M 3 0 13) = 0 → wp_X2_putItem_142 p1 Qm (wp_X2_putItem_57 p1 Qm n) y2 y3 y4 y5 M) ∧ (¬ (M 3 0 13) = 0 → wp_X2_putItem_123 p1 Qm (wp_X2_putItem_57 p1 Qm n) y2 y3 y4 y5 (((M 3 0 12) - (M 3 0 10)) - y3) M))))))) ∧ ((y2 + y3) ≤ ((M 3 0 12) - y4) → wp_X2_putPiece p1 y2 y2 y3 M fun (M26 : Mem) => Qm 1 M26))))
def wp_X2_putItem (p1 : Int) (M : Mem) (Qm : Int → Mem → Prop) : Prop := ((p1 < 0 → wp_X2_putItem_18 p1 Qm M) ∧ (0 ≤ p1 → (((M 3 0 8) ≤ p1 → wp_X2_putItem_18 p1 Qm M) ∧ (p1 < (M 3 0 8) → ((p1 < 50 → (0 ≤ p1 ∧ p1 < 50) ∧ (0 ≤ p1 ∧ p1 < 50) ∧ (inR ((M 3 0 8) - 1)) ∧ (∃ n27 : Nat, wp_X2_putItem_57 p1 Qm n27 (M 29 0 p1) (M 30 0 p1) (if ¬ p1 = ((M 3 0 8) - 1) then (M 3 0 10) else 0) 0 M)) ∧ (50 ≤ p1 → wp_X2_putItem_18 p1 Qm M))))))
set_option maxHeartbeats 4000000 in
set_option maxRecDepth 100000 in
theorem t_X2_putItem_18 {p1 : Int} (X : CX p m c cX2_putItem 7 s args RX2 G B κ meth (some .boolean)) (hp1 : inR p1) {Qm : Int → Mem → Prop} : ∀ M : Mem, wp_X2_putItem_18 p1 Qm M → ∀ (H : Heap) (locs : List Loc), Rp G e0 α κ B M H → va_S (fun q => B ≤ q) s.heap H locs → ∀ (ls : Array Slot), lv_has ls 7 [] → WI p l e 2 s m args below meth c G e0 α κ B Qm H locs 18 ls [] := by
  intro M hw H locs hR hS ls hl
  have hw : Qm 0 M := hw
  refine sa_const X.1 dX2_putItem_18 ?_
  exact sa_zret X.1 X.2.2.2.1 X.2.2.2.2 hR hS (Or.inl rfl) hw dX2_putItem_19
set_option maxHeartbeats 4000000 in
set_option maxRecDepth 100000 in
theorem t_X2_putItem_151 {p1 : Int} (X : CX p m c cX2_putItem 7 s args RX2 G B κ meth (some .boolean)) (hp1 : inR p1) {Qm : Int → Mem → Prop} {K57 : Int → Int → Int → Int → Mem → Prop} (hK57 : ∀ y2 : Int, ∀ y3 : Int, ∀ y4 : Int, ∀ y5 : Int, ∀ M : Mem, K57 y2 y3 y4 y5 M → inR y2 → inR y3 → inR y4 → inR y5 → ∀ (H : Heap) (locs : List Loc), Rp G e0 α κ B M H → va_S (fun q => B ≤ q) s.heap H locs → ∀ (ls : Array Slot), lv_has ls 7 [(0, .ref (α 3 0)), (1, .int (Int32.ofInt p1)), (2, .int (Int32.ofInt y2)), (3, .int (Int32.ofInt y3)), (4, .int (Int32.ofInt y4)), (5, .int (Int32.ofInt y5))] → WI p l e 2 s m args below meth c G e0 α κ B Qm H locs 57 ls []) : ∀ y2 : Int, ∀ y3 : Int, ∀ y4 : Int, ∀ y5 : Int, ∀ M : Mem, wp_X2_putItem_151 p1 Qm K57 y2 y3 y4 y5 M → inR y2 → inR y3 → inR y4 → inR y5 → ∀ (H : Heap) (locs : List Loc), Rp G e0 α κ B M H → va_S (fun q => B ≤ q) s.heap H locs → ∀ (ls : Array Slot), lv_has ls 7 [(0, .ref (α 3 0)), (1, .int (Int32.ofInt p1)), (2, .int (Int32.ofInt y2)), (3, .int (Int32.ofInt y3)), (4, .int (Int32.ofInt y4)), (5, .int (Int32.ofInt y5))] → WI p l e 2 s m args below meth c G e0 α κ B Qm H locs 151 ls [] := by
  intro y2 y3 y4 y5 M hw hy2 hy3 hy4 hy5 H locs hR hS ls hl
  have hw : wp_X2_openPage M fun (M19 : Mem) => (inR (y5 + 1)) ∧ K57 y2 y3 y4 (y5 + 1) M19 := hw
  refine lv_aload_n X.1.1 X.1.2.1 dX2_putItem_151 rfl (lv_at hl 0 rfl) ?_
  refine cs_X2_openPage X  (kc := 2) rmL_ok rm_c (by decide) hR hS kw_585 hl.1 dX2_putItem_152 (Nat.le_of_ble_eq_true rfl) hw (fun M19 H locs hw hR hS => ?_)
  have c20 := hw.1
  have hw := hw.2
  refine lv_iinc (v := Int32.ofInt (y5 + 1)) (lv' := [(5, .int (Int32.ofInt (y5 + 1))), (0, .ref (α 3 0)), (1, .int (Int32.ofInt p1)), (2, .int (Int32.ofInt y2)), (3, .int (Int32.ofInt y3)), (4, .int (Int32.ofInt y4))]) X.1.1 X.1.2.1 dX2_putItem_155 hl (k := 5) rfl (Int32.ofInt_add _ _).symm (by decide) rfl (fun ls hl => ?_)
  refine lv_goto (tgt := 57) X.1.1 X.1.2.1 dX2_putItem_158 (by decide) ?_
  exact hK57 _ _ _ _ _ hw hy2 hy3 hy4 c20 _ _ hR hS _ (lv_sub hl [1, 2, 3, 4, 5, 0] rfl)
set_option maxHeartbeats 4000000 in
set_option maxRecDepth 100000 in
theorem t_X2_putItem_142 {p1 : Int} (X : CX p m c cX2_putItem 7 s args RX2 G B κ meth (some .boolean)) (hp1 : inR p1) {Qm : Int → Mem → Prop} {K57 : Int → Int → Int → Int → Mem → Prop} (hK57 : ∀ y2 : Int, ∀ y3 : Int, ∀ y4 : Int, ∀ y5 : Int, ∀ M : Mem, K57 y2 y3 y4 y5 M → inR y2 → inR y3 → inR y4 → inR y5 → ∀ (H : Heap) (locs : List Loc), Rp G e0 α κ B M H → va_S (fun q => B ≤ q) s.heap H locs → ∀ (ls : Array Slot), lv_has ls 7 [(0, .ref (α 3 0)), (1, .int (Int32.ofInt p1)), (2, .int (Int32.ofInt y2)), (3, .int (Int32.ofInt y3)), (4, .int (Int32.ofInt y4)), (5, .int (Int32.ofInt y5))] → WI p l e 2 s m args below meth c G e0 α κ B Qm H locs 57 ls []) : ∀ y2 : Int, ∀ y3 : Int, ∀ y4 : Int, ∀ y5 : Int, ∀ M : Mem, wp_X2_putItem_142 p1 Qm K57 y2 y3 y4 y5 M → inR y2 → inR y3 → inR y4 → inR y5 → ∀ (H : Heap) (locs : List Loc), Rp G e0 α κ B M H → va_S (fun q => B ≤ q) s.heap H locs → ∀ (ls : Array Slot), lv_has ls 7 [(0, .ref (α 3 0)), (1, .int (Int32.ofInt p1)), (2, .int (Int32.ofInt y2)), (3, .int (Int32.ofInt y3)), (4, .int (Int32.ofInt y4)), (5, .int (Int32.ofInt y5))] → WI p l e 2 s m args below meth c G e0 α κ B Qm H locs 142 ls [] := by
  intro y2 y3 y4 y5 M hw hy2 hy3 hy4 hy5 H locs hR hS ls hl
  have hw : (((M 3 0 13) = 0 → wp_X2_putItem_151 p1 Qm K57 y2 y3 y4 y5 M) ∧ (¬ (M 3 0 13) = 0 → Qm 0 M)) := hw
  refine lv_aload_n X.1.1 X.1.2.1 dX2_putItem_142 rfl (lv_at hl 0 rfl) ?_
  refine gt_3_13 X hR (okf X.2.2.1 rfl) kw_302 dX2_putItem_143 ?_
  have r18 := hR.r 3 0 13
  refine sa_if_eq (tgt := 151) X.1 r18 dX2_putItem_146 (by decide) (fun hc => ?_) (fun hc => ?_)
  · have hw := hw.1 hc
    exact t_X2_putItem_151 X hp1 hK57 _ _ _ _ _ hw hy2 hy3 hy4 hy5 _ _ hR hS _ (lv_sub hl [0, 1, 2, 3, 4, 5] rfl)
  · have hw := hw.2 hc
    refine sa_const X.1 dX2_putItem_149 ?_
    exact sa_zret X.1 X.2.2.2.1 X.2.2.2.2 hR hS (Or.inl rfl) hw dX2_putItem_150
set_option maxHeartbeats 4000000 in
set_option maxRecDepth 100000 in
theorem t_X2_putItem_123 {p1 : Int} (X : CX p m c cX2_putItem 7 s args RX2 G B κ meth (some .boolean)) (hp1 : inR p1) {Qm : Int → Mem → Prop} {K57 : Int → Int → Int → Int → Mem → Prop} (hK57 : ∀ y2 : Int, ∀ y3 : Int, ∀ y4 : Int, ∀ y5 : Int, ∀ M : Mem, K57 y2 y3 y4 y5 M → inR y2 → inR y3 → inR y4 → inR y5 → ∀ (H : Heap) (locs : List Loc), Rp G e0 α κ B M H → va_S (fun q => B ≤ q) s.heap H locs → ∀ (ls : Array Slot), lv_has ls 7 [(0, .ref (α 3 0)), (1, .int (Int32.ofInt p1)), (2, .int (Int32.ofInt y2)), (3, .int (Int32.ofInt y3)), (4, .int (Int32.ofInt y4)), (5, .int (Int32.ofInt y5))] → WI p l e 2 s m args below meth c G e0 α κ B Qm H locs 57 ls []) : ∀ y2 : Int, ∀ y3 : Int, ∀ y4 : Int, ∀ y5 : Int, ∀ y6 : Int, ∀ M : Mem, wp_X2_putItem_123 p1 Qm K57 y2 y3 y4 y5 y6 M → inR y2 → inR y3 → inR y4 → inR y5 → inR y6 → ∀ (H : Heap) (locs : List Loc), Rp G e0 α κ B M H → va_S (fun q => B ≤ q) s.heap H locs → ∀ (ls : Array Slot), lv_has ls 7 [(0, .ref (α 3 0)), (1, .int (Int32.ofInt p1)), (2, .int (Int32.ofInt y2)), (3, .int (Int32.ofInt y3)), (4, .int (Int32.ofInt y4)), (5, .int (Int32.ofInt y5)), (6, .int (Int32.ofInt y6))] → WI p l e 2 s m args below meth c G e0 α κ B Qm H locs 123 ls [] := by
  intro y2 y3 y4 y5 y6 M hw hy2 hy3 hy4 hy5 hy6 H locs hR hS ls hl
  have hw : wp_X2_putPiece p1 y2 y6 y3 M fun (M23 : Mem) => (inR (y2 - y6)) ∧ wp_X2_putItem_151 p1 Qm K57 (y2 - y6) 0 y4 y5 M23 := hw
  refine lv_aload_n X.1.1 X.1.2.1 dX2_putItem_123 rfl (lv_at hl 0 rfl) ?_
  refine lv_iload_n X.1.1 X.1.2.1 dX2_putItem_124 rfl (lv_at hl 1 rfl) ?_
  refine lv_iload_n X.1.1 X.1.2.1 dX2_putItem_125 rfl (lv_at hl 2 rfl) ?_
  refine lv_iload X.1.1 X.1.2.1 dX2_putItem_126 (lv_at hl 6 rfl) ?_
  refine lv_iload_n X.1.1 X.1.2.1 dX2_putItem_128 rfl (lv_at hl 3 rfl) ?_
  refine cs_X2_putPiece X hp1 hy2 hy6 hy3 (kc := 2) rmL_ok rm_c (by decide) hR hS kw_597 hl.1 dX2_putItem_129 (Nat.le_of_ble_eq_true rfl) hw (fun M23 H locs hw hR hS => ?_)
  refine lv_iload_n X.1.1 X.1.2.1 dX2_putItem_132 rfl (lv_at hl 2 rfl) ?_
  refine lv_iload X.1.1 X.1.2.1 dX2_putItem_133 (lv_at hl 6 rfl) ?_
  have c24 := hw.1
  have hw := hw.2
  refine sa_isub X.1 dX2_putItem_135 ?_
  refine lv_istore_n (lv' := [(2, .int (Int32.ofInt (y2 - y6))), (0, .ref (α 3 0)), (1, .int (Int32.ofInt p1)), (3, .int (Int32.ofInt y3)), (4, .int (Int32.ofInt y4)), (5, .int (Int32.ofInt y5)), (6, .int (Int32.ofInt y6))]) X.1.1 X.1.2.1 dX2_putItem_136 rfl hl (by decide) rfl (fun ls hl => ?_)
  refine sa_const X.1 dX2_putItem_137 ?_
  refine lv_istore_n (lv' := [(3, .int (Int32.ofInt 0)), (2, .int (Int32.ofInt (y2 - y6))), (0, .ref (α 3 0)), (1, .int (Int32.ofInt p1)), (4, .int (Int32.ofInt y4)), (5, .int (Int32.ofInt y5)), (6, .int (Int32.ofInt y6))]) X.1.1 X.1.2.1 dX2_putItem_138 rfl hl (by decide) rfl (fun ls hl => ?_)
  refine lv_goto (tgt := 151) X.1.1 X.1.2.1 dX2_putItem_139 (by decide) ?_
  exact t_X2_putItem_151 X hp1 hK57 _ _ _ _ _ hw c24 (inR_c (a := 0) rfl) hy4 hy5 _ _ hR hS _ (lv_sub hl [2, 3, 1, 0, 4, 5] rfl)
set_option maxHeartbeats 4000000 in
set_option maxRecDepth 100000 in
theorem t_X2_putItem_57 {p1 : Int} (X : CX p m c cX2_putItem 7 s args RX2 G B κ meth (some .boolean)) (hp1 : inR p1) {Qm : Int → Mem → Prop} : ∀ n : Nat, ∀ y2 : Int, ∀ y3 : Int, ∀ y4 : Int, ∀ y5 : Int, ∀ M : Mem, wp_X2_putItem_57 p1 Qm n y2 y3 y4 y5 M → inR y2 → inR y3 → inR y4 → inR y5 → ∀ (H : Heap) (locs : List Loc), Rp G e0 α κ B M H → va_S (fun q => B ≤ q) s.heap H locs → ∀ (ls : Array Slot), lv_has ls 7 [(0, .ref (α 3 0)), (1, .int (Int32.ofInt p1)), (2, .int (Int32.ofInt y2)), (3, .int (Int32.ofInt y3)), (4, .int (Int32.ofInt y4)), (5, .int (Int32.ofInt y5))] → WI p l e 2 s m args below meth c G e0 α κ B Qm H locs 57 ls [] := by
  intro n
  induction n with
  | zero =>
    intro y2 y3 y4 y5 M hw hy2 hy3 hy4 hy5 H locs hR hS ls hl
    exact hw.elim
  | succ n ih =>
    intro y2 y3 y4 y5 M hw hy2 hy3 hy4 hy5 H locs hR hS ls hl
    have hw : ((1808 ≤ y5 → Qm 0 M) ∧ (y5 < 1808 → (inR (y2 + y3)) ∧ (inR ((M 3 0 12) - y4)) ∧ ((((M 3 0 12) - y4) < (y2 + y3) → (inR ((M 3 0 12) - (M 3 0 10))) ∧ (inR (((M 3 0 12) - (M 3 0 10)) - y3)) ∧ (((((M 3 0 12) - (M 3 0 10)) - y3) < 1 → wp_X2_putItem_142 p1 Qm (wp_X2_putItem_57 p1 Qm n) y2 y3 y4 y5 M) ∧ (1 ≤ (((M 3 0 12) - (M 3 0 10)) - y3) → (0 ≤ p1 ∧ p1 < 50) ∧ ((¬ (M 31 0 p1) = 0 → wp_X2_putItem_123 p1 Qm (wp_X2_putItem_57 p1 Qm n) y2 y3 y4 y5 (((M 3 0 12) - (M 3 0 10)) - y3) M) ∧ ((M 31 0 p1) = 0 → (((M 3 0 13) = 0 → wp_X2_putItem_142 p1 Qm (wp_X2_putItem_57 p1 Qm n) y2 y3 y4 y5 M) ∧ (¬ (M 3 0 13) = 0 → wp_X2_putItem_123 p1 Qm (wp_X2_putItem_57 p1 Qm n) y2 y3 y4 y5 (((M 3 0 12) - (M 3 0 10)) - y3) M))))))) ∧ ((y2 + y3) ≤ ((M 3 0 12) - y4) → wp_X2_putPiece p1 y2 y2 y3 M fun (M26 : Mem) => Qm 1 M26)))) := hw
    refine lv_iload X.1.1 X.1.2.1 dX2_putItem_57 (lv_at hl 5 rfl) ?_
    refine sa_sipush X.1 dX2_putItem_59 (by decide) ?_
    refine sa_icmp_ge (tgt := 161) X.1 hy5 (inR_c (a := 1808) rfl) dX2_putItem_62 (by decide) (fun hc => ?_) (fun hc => ?_)
    · have hw := hw.1 hc
      refine sa_const X.1 dX2_putItem_161 ?_
      exact sa_zret X.1 X.2.2.2.1 X.2.2.2.2 hR hS (Or.inl rfl) hw dX2_putItem_162
    · have hw := hw.2 hc
      refine lv_iload_n X.1.1 X.1.2.1 dX2_putItem_65 rfl (lv_at hl 2 rfl) ?_
      refine lv_iload_n X.1.1 X.1.2.1 dX2_putItem_66 rfl (lv_at hl 3 rfl) ?_
      have c11 := hw.1
      have hw := hw.2
      refine sa_iadd X.1 dX2_putItem_67 ?_
      refine lv_aload_n X.1.1 X.1.2.1 dX2_putItem_68 rfl (lv_at hl 0 rfl) ?_
      refine gt_3_12 X hR (okf X.2.2.1 rfl) kw_301 dX2_putItem_69 ?_
      have r12 := hR.r 3 0 12
      refine lv_iload X.1.1 X.1.2.1 dX2_putItem_72 (lv_at hl 4 rfl) ?_
      have c13 := hw.1
      have hw := hw.2
      refine sa_isub X.1 dX2_putItem_74 ?_
      refine sa_icmp_gt (tgt := 88) X.1 c11 c13 dX2_putItem_75 (by decide) (fun hc => ?_) (fun hc => ?_)
      · have hw := hw.1 hc
        refine lv_aload_n X.1.1 X.1.2.1 dX2_putItem_88 rfl (lv_at hl 0 rfl) ?_
        refine gt_3_12 X hR (okf X.2.2.1 rfl) kw_301 dX2_putItem_89 ?_
        have r14 := hR.r 3 0 12
        refine lv_aload_n X.1.1 X.1.2.1 dX2_putItem_92 rfl (lv_at hl 0 rfl) ?_
        refine gt_3_10 X hR (okf X.2.2.1 rfl) kw_299 dX2_putItem_93 ?_
        have r15 := hR.r 3 0 10
        have c16 := hw.1
        have hw := hw.2
        refine sa_isub X.1 dX2_putItem_96 ?_
        refine lv_iload_n X.1.1 X.1.2.1 dX2_putItem_97 rfl (lv_at hl 3 rfl) ?_
        have c17 := hw.1
        have hw := hw.2
        refine sa_isub X.1 dX2_putItem_98 ?_
        refine lv_istore (lv' := [(6, .int (Int32.ofInt (((M 3 0 12) - (M 3 0 10)) - y3))), (0, .ref (α 3 0)), (1, .int (Int32.ofInt p1)), (2, .int (Int32.ofInt y2)), (3, .int (Int32.ofInt y3)), (4, .int (Int32.ofInt y4)), (5, .int (Int32.ofInt y5))]) X.1.1 X.1.2.1 dX2_putItem_99 hl (by decide) rfl (fun ls hl => ?_)
        refine lv_iload X.1.1 X.1.2.1 dX2_putItem_101 (lv_at hl 0 rfl) ?_
        refine sa_const X.1 dX2_putItem_103 ?_
        refine sa_icmp_lt (tgt := 142) X.1 c17 (inR_c (a := 1) rfl) dX2_putItem_104 (by decide) (fun hc => ?_) (fun hc => ?_)
        · have hw := hw.1 hc
          exact t_X2_putItem_142 X hp1 ih _ _ _ _ _ hw hy2 hy3 hy4 hy5 _ _ hR hS _ (lv_sub hl [1, 2, 3, 4, 5, 6] rfl)
        · have hw := hw.2 hc
          refine lv_aload_n X.1.1 X.1.2.1 dX2_putItem_107 rfl (lv_at hl 1 rfl) ?_
          refine gt_3_6 X hR (okf X.2.2.1 rfl) kw_295 dX2_putItem_108 ?_
          refine lv_iload_n X.1.1 X.1.2.1 dX2_putItem_111 rfl (lv_at hl 2 rfl) ?_
          have c21 := hw.1
          have hw := hw.2
          refine ra_31 X hR (okf X.2.2.1 rfl) c21 dX2_putItem_112 ?_
          have r22 := hR.r 31 0 p1
          refine sa_if_ne (tgt := 123) X.1 r22 dX2_putItem_113 (by decide) (fun hc => ?_) (fun hc => ?_)
          · have hw := hw.1 hc
            exact t_X2_putItem_123 X hp1 ih _ _ _ _ _ _ hw hy2 hy3 hy4 hy5 c17 _ _ hR hS _ (lv_sub hl [1, 2, 3, 4, 5, 6, 0] rfl)
          · have hw := hw.2 hc
            refine lv_aload_n X.1.1 X.1.2.1 dX2_putItem_116 rfl (lv_at hl 1 rfl) ?_
            refine gt_3_13 X hR (okf X.2.2.1 rfl) kw_302 dX2_putItem_117 ?_
            have r25 := hR.r 3 0 13
            refine sa_if_eq (tgt := 142) X.1 r25 dX2_putItem_120 (by decide) (fun hc => ?_) (fun hc => ?_)
            · have hw := hw.1 hc
              exact t_X2_putItem_142 X hp1 ih _ _ _ _ _ hw hy2 hy3 hy4 hy5 _ _ hR hS _ (lv_sub hl [1, 2, 3, 4, 5, 6] rfl)
            · have hw := hw.2 hc
              exact t_X2_putItem_123 X hp1 ih _ _ _ _ _ _ hw hy2 hy3 hy4 hy5 c17 _ _ hR hS _ (lv_sub hl [1, 2, 3, 4, 5, 6, 0] rfl)
      · have hw := hw.2 hc
        refine lv_aload_n X.1.1 X.1.2.1 dX2_putItem_78 rfl (lv_at hl 0 rfl) ?_
        refine lv_iload_n X.1.1 X.1.2.1 dX2_putItem_79 rfl (lv_at hl 1 rfl) ?_
        refine lv_iload_n X.1.1 X.1.2.1 dX2_putItem_80 rfl (lv_at hl 2 rfl) ?_
        refine lv_iload_n X.1.1 X.1.2.1 dX2_putItem_81 rfl (lv_at hl 2 rfl) ?_
        refine lv_iload_n X.1.1 X.1.2.1 dX2_putItem_82 rfl (lv_at hl 3 rfl) ?_
        refine cs_X2_putPiece X hp1 hy2 hy2 hy3 (kc := 2) rmL_ok rm_c (by decide) hR hS kw_597 hl.1 dX2_putItem_83 (Nat.le_of_ble_eq_true rfl) hw (fun M26 H locs hw hR hS => ?_)
        refine sa_const X.1 dX2_putItem_86 ?_
        exact sa_zret X.1 X.2.2.2.1 X.2.2.2.2 hR hS (Or.inr rfl) hw dX2_putItem_87
set_option maxHeartbeats 4000000 in
set_option maxRecDepth 100000 in
theorem t_X2_putItem {p1 : Int} (X : CX p m c cX2_putItem 7 s args RX2 G B κ meth (some .boolean)) (hp1 : inR p1) {M : Mem} {Qm : Int → Mem → Prop} (hw : wp_X2_putItem p1 M Qm) (H : Heap) (locs : List Loc) (hR : Rp G e0 α κ B M H) (hS : va_S (fun q => B ≤ q) s.heap H locs) (ls : Array Slot) (hl : lv_has ls 7 [(0, .ref (α 3 0)), (1, .int (Int32.ofInt p1))]) : WI p l e 2 s m args below meth c G e0 α κ B Qm H locs 0 ls [] := by
  have hw : ((p1 < 0 → wp_X2_putItem_18 p1 Qm M) ∧ (0 ≤ p1 → (((M 3 0 8) ≤ p1 → wp_X2_putItem_18 p1 Qm M) ∧ (p1 < (M 3 0 8) → ((p1 < 50 → (0 ≤ p1 ∧ p1 < 50) ∧ (0 ≤ p1 ∧ p1 < 50) ∧ (inR ((M 3 0 8) - 1)) ∧ (∃ n27 : Nat, wp_X2_putItem_57 p1 Qm n27 (M 29 0 p1) (M 30 0 p1) (if ¬ p1 = ((M 3 0 8) - 1) then (M 3 0 10) else 0) 0 M)) ∧ (50 ≤ p1 → wp_X2_putItem_18 p1 Qm M)))))) := hw
  refine lv_iload_n X.1.1 X.1.2.1 dX2_putItem_0 rfl (lv_at hl 1 rfl) ?_
  refine sa_if_lt (tgt := 18) X.1 hp1 dX2_putItem_1 (by decide) (fun hc => ?_) (fun hc => ?_)
  · have hw := hw.1 hc
    exact t_X2_putItem_18 X hp1 _ hw _ _ hR hS _ (lv_sub hl [] rfl)
  · have hw := hw.2 hc
    refine lv_iload_n X.1.1 X.1.2.1 dX2_putItem_4 rfl (lv_at hl 1 rfl) ?_
    refine lv_aload_n X.1.1 X.1.2.1 dX2_putItem_5 rfl (lv_at hl 0 rfl) ?_
    refine gt_3_8 X hR (okf X.2.2.1 rfl) kw_297 dX2_putItem_6 ?_
    have r1 := hR.r 3 0 8
    refine sa_icmp_ge (tgt := 18) X.1 hp1 r1 dX2_putItem_9 (by decide) (fun hc => ?_) (fun hc => ?_)
    · have hw := hw.1 hc
      exact t_X2_putItem_18 X hp1 _ hw _ _ hR hS _ (lv_sub hl [] rfl)
    · have hw := hw.2 hc
      refine lv_iload_n X.1.1 X.1.2.1 dX2_putItem_12 rfl (lv_at hl 1 rfl) ?_
      refine sa_bipush X.1 dX2_putItem_13 (by decide) ?_
      refine sa_icmp_lt (tgt := 20) X.1 hp1 (inR_c (a := 50) rfl) dX2_putItem_15 (by decide) (fun hc => ?_) (fun hc => ?_)
      · have hw := hw.1 hc
        refine lv_aload_n X.1.1 X.1.2.1 dX2_putItem_20 rfl (lv_at hl 0 rfl) ?_
        refine gt_3_4 X hR (okf X.2.2.1 rfl) kw_293 dX2_putItem_21 ?_
        refine lv_iload_n X.1.1 X.1.2.1 dX2_putItem_24 rfl (lv_at hl 1 rfl) ?_
        have c2 := hw.1
        have hw := hw.2
        refine ra_29 X hR (okf X.2.2.1 rfl) c2 dX2_putItem_25 ?_
        have r3 := hR.r 29 0 p1
        refine lv_istore_n (lv' := [(2, .int (Int32.ofInt (M 29 0 p1))), (0, .ref (α 3 0)), (1, .int (Int32.ofInt p1))]) X.1.1 X.1.2.1 dX2_putItem_26 rfl hl (by decide) rfl (fun ls hl => ?_)
        refine lv_aload_n X.1.1 X.1.2.1 dX2_putItem_27 rfl (lv_at hl 1 rfl) ?_
        refine gt_3_5 X hR (okf X.2.2.1 rfl) kw_294 dX2_putItem_28 ?_
        refine lv_iload_n X.1.1 X.1.2.1 dX2_putItem_31 rfl (lv_at hl 2 rfl) ?_
        have c4 := hw.1
        have hw := hw.2
        refine ra_30 X hR (okf X.2.2.1 rfl) c4 dX2_putItem_32 ?_
        have r5 := hR.r 30 0 p1
        refine lv_istore_n (lv' := [(3, .int (Int32.ofInt (M 30 0 p1))), (2, .int (Int32.ofInt (M 29 0 p1))), (0, .ref (α 3 0)), (1, .int (Int32.ofInt p1))]) X.1.1 X.1.2.1 dX2_putItem_33 rfl hl (by decide) rfl (fun ls hl => ?_)
        refine lv_iload_n X.1.1 X.1.2.1 dX2_putItem_34 rfl (lv_at hl 3 rfl) ?_
        refine lv_aload_n X.1.1 X.1.2.1 dX2_putItem_35 rfl (lv_at hl 2 rfl) ?_
        refine gt_3_8 X hR (okf X.2.2.1 rfl) kw_297 dX2_putItem_36 ?_
        have r6 := hR.r 3 0 8
        refine sa_const X.1 dX2_putItem_39 ?_
        have c7 := hw.1
        have hw := hw.2
        refine sa_isub X.1 dX2_putItem_40 ?_
        have r8 := inR_ite (c := ¬ p1 = ((M 3 0 8) - 1)) (hR.r 3 0 10) (inR_c (a := 0) rfl)
        refine cut_j (A := ∀ v9 : Int, v9 = (if ¬ p1 = ((M 3 0 8) - 1) then (M 3 0 10) else 0) → WI p l e 2 s m args below meth c G e0 α κ B Qm H locs 52 ls [.int (Int32.ofInt v9)]) (fun J10 => ?_) ?_
        · refine sa_icmp_ne (tgt := 48) X.1 hp1 c7 dX2_putItem_41 (by decide) (fun hc => ?_) (fun hc => ?_)
          · skip
            refine lv_aload_n X.1.1 X.1.2.1 dX2_putItem_48 rfl (lv_at hl 2 rfl) ?_
            refine gt_3_10 X hR (okf X.2.2.1 rfl) kw_299 dX2_putItem_49 ?_
            exact J10 ((M 3 0 10)) (if_pos (c := ¬ p1 = ((M 3 0 8) - 1)) hc).symm
          · skip
            refine sa_const X.1 dX2_putItem_44 ?_
            refine lv_goto (tgt := 52) X.1.1 X.1.2.1 dX2_putItem_45 (by decide) ?_
            exact J10 (0) (if_neg (c := ¬ p1 = ((M 3 0 8) - 1)) (fun z => z hc)).symm
        intro v9 hv9
        subst hv9
        refine lv_istore (lv' := [(4, .int (Int32.ofInt (if ¬ p1 = ((M 3 0 8) - 1) then (M 3 0 10) else 0))), (3, .int (Int32.ofInt (M 30 0 p1))), (2, .int (Int32.ofInt (M 29 0 p1))), (0, .ref (α 3 0)), (1, .int (Int32.ofInt p1))]) X.1.1 X.1.2.1 dX2_putItem_52 hl (by decide) rfl (fun ls hl => ?_)
        refine sa_const X.1 dX2_putItem_54 ?_
        refine lv_istore (lv' := [(5, .int (Int32.ofInt 0)), (4, .int (Int32.ofInt (if ¬ p1 = ((M 3 0 8) - 1) then (M 3 0 10) else 0))), (3, .int (Int32.ofInt (M 30 0 p1))), (2, .int (Int32.ofInt (M 29 0 p1))), (0, .ref (α 3 0)), (1, .int (Int32.ofInt p1))]) X.1.1 X.1.2.1 dX2_putItem_55 hl (by decide) rfl (fun ls hl => ?_)
        obtain ⟨n27, hw⟩ := hw
        exact t_X2_putItem_57 X hp1 n27 _ _ _ _ _ hw r3 r5 r8 (inR_c (a := 0) rfl) _ _ hR hS _ (lv_sub hl [4, 5, 3, 2, 1, 0] rfl)
      · have hw := hw.2 hc
        exact t_X2_putItem_18 X hp1 _ hw _ _ hR hS _ (lv_sub hl [] rfl)
theorem m_X2_putItem {l : Launch} {G : Gx} {e0 : Nat} {α : Ax} {κ : Nat → Int} {B : Nat} {p1 : Int} (hκ : kOK κ) (hp1 : inR p1) {M : Mem} {Qm : Int → Mem → Prop} (hw : wp_X2_putItem p1 M Qm) : CI l yX2_putItem (Cond.code yX2_putItem cX2_putItem 7 (some .boolean)) 2 G e0 α κ B [.ref (α 3 0), .int (Int32.ofInt p1)] M Qm :=
  CI.mk hκ (by decide +kernel) rfl (Nat.le_of_ble_eq_true rfl) (lv := [(0, .ref (α 3 0)), (1, .int (Int32.ofInt p1))]) rfl (fun p e s m args below meth c ls X hR hS hl => t_X2_putItem X hp1 hw _ _ hR hS ls hl)
theorem cs_X2_putItem {cc : ByteArray} {nL : Nat} {own : String} {ret : Option FieldType} {idx pc : Nat} {p1 : Int} (X : CX p m c cc nL s args own G B κ meth ret) (hp1 : inR p1) {kc : Nat} {R : Room} {cells slots : Nat} (hRr : RmOK R kc) (hcel : cells ≤ R.cells ∧ slots ≤ R.slots) (hk : 2 + 1 ≤ kc) {M : Mem} {H : Heap} {locs : List Loc} (hR : Rp G e0 α κ B M H) (hS : va_S (fun q => B ≤ q) s.heap H locs) (k1 : Cond.methodLink own idx yX2_putItem ∈ gw) {ls : Array Slot} (hml : ls.size = nL) {rest : List Value} (hd : decode cc pc = .ok (.invokevirtual idx, 3)) (hrest : (rest.map fun v => v.category).sum ≤ 8) {Q : State → Prop} {Qm : Int → Mem → Prop} (hw : wp_X2_putItem p1 M Qm) (kk : ∀ (r : Int) (M1 : Mem) (H1 : Heap) (locs1 : List Loc), Qm r M1 → inR r → Rp G e0 α κ B M1 H1 → va_S (fun q => B ≤ q) s.heap H1 locs1 → W p l e R s m args below meth c H1 locs1 cells slots Q (F0 m (pc + 3) ls (.int (Int32.ofInt r) :: rest))) : W p l e R s m args below meth c H locs cells slots Q (F0 m pc ls (.int (Int32.ofInt p1) :: .ref (α 3 0) :: rest)) :=
  sa_callVI 2 (n := 1) (As := [.int (Int32.ofInt p1)]) (rest := rest) X.1 X.2.1 hR hS (m_X2_putItem X.2.2.1 hp1 hw) k1 kw_595 kw_17 kw_47 kw_596 ⟨rfl, by decide +kernel, by decide +kernel, by decide +kernel⟩ (rm_ok hRr hk (by decide)) (rc_3 X hR (okf X.2.2.1 rfl)) rfl rfl hrest hml hd hcel kk
def wp_X4_measureCells_73 (u0 : Int) (a1 : Nat) (b1 : Int) (Qm : Mem → Prop) (M : Mem) : Prop := Qm M
def wp_X4_measureCells_66 (u0 : Int) (a1 : Nat) (b1 : Int) (Qm : Mem → Prop) (K2 : Int → Mem → Prop) (y2 : Int) (z0 : Int) (z1 : Int) (M : Mem) : Prop := (0 ≤ z1 ∧ z1 < 100) ∧ ∀ M14 : Mem, M14 = up M 34 u0 z1 z0 → (inR (y2 + 1)) ∧ K2 (y2 + 1) M14
def wp_X4_measureCells_2 (u0 : Int) (a1 : Nat) (b1 : Int) (Qm : Mem → Prop) : Nat → Int → Mem → Prop
  | 0 => fun _ _ => False
  | n + 1 => fun y2 M => (((M 14 0 (-1)) ≤ y2 → wp_X4_measureCells_73 u0 a1 b1 Qm M) ∧ (y2 < (M 14 0 (-1)) → ((100 ≤ y2 → wp_X4_measureCells_73 u0 a1 b1 Qm M) ∧ (y2 < 100 → (0 ≤ y2 ∧ y2 < M 14 0 (-1)) ∧ wp_X0_isOut (M 14 0 y2) M fun (x5 : Int) (M4 : Mem) => ((x5 = 0 → wp_X3_widthOfCell (M 14 0 y2) a1 b1 M4 fun (x8 : Int) (M7 : Mem) => wp_X0_linesAt (M 14 0 y2) x8 M7 fun (x11 : Int) (M10 : Mem) => wp_X4_measureCells_66 u0 a1 b1 Qm (wp_X4_measureCells_2 u0 a1 b1 Qm n) y2 x11 y2 M10) ∧ (¬ x5 = 0 → wp_X4_measureCells_66 u0 a1 b1 Qm (wp_X4_measureCells_2 u0 a1 b1 Qm n) y2 0 y2 M4))))))
def wp_X4_measureCells (u0 : Int) (a1 : Nat) (b1 : Int) (M : Mem) (Qm : Mem → Prop) : Prop := (∃ n17 : Nat, wp_X4_measureCells_2 u0 a1 b1 Qm n17 0 M)
set_option maxHeartbeats 4000000 in
set_option maxRecDepth 100000 in
theorem t_X4_measureCells_73 {u0 : Int} {a1 : Nat} {b1 : Int} (X : CX p m c cX4_measureCells 4 s args RX4 G B κ meth none) (hu0 : okk κ 5 u0) (ha1 : A6 a1) (hoa1 : okk κ a1 b1) {Qm : Mem → Prop} : ∀ M : Mem, wp_X4_measureCells_73 u0 a1 b1 Qm M → ∀ (H : Heap) (locs : List Loc), Rp G e0 α κ B M H → va_S (fun q => B ≤ q) s.heap H locs → ∀ (ls : Array Slot), lv_has ls 4 [] → WV p l e 3 s m args below meth c G e0 α κ B Qm H locs 73 ls [] := by
  intro M hw H locs hR hS ls hl
  have hw : Qm M := hw
  exact sa_vret X.1 X.2.2.2.1 X.2.2.2.2 hR hS hw dX4_measureCells_73
set_option maxHeartbeats 4000000 in
set_option maxRecDepth 100000 in
theorem t_X4_measureCells_66 {u0 : Int} {a1 : Nat} {b1 : Int} (X : CX p m c cX4_measureCells 4 s args RX4 G B κ meth none) (hu0 : okk κ 5 u0) (ha1 : A6 a1) (hoa1 : okk κ a1 b1) {Qm : Mem → Prop} {K2 : Int → Mem → Prop} (hK2 : ∀ y2 : Int, ∀ M : Mem, K2 y2 M → inR y2 → ∀ (H : Heap) (locs : List Loc), Rp G e0 α κ B M H → va_S (fun q => B ≤ q) s.heap H locs → ∀ (ls : Array Slot), lv_has ls 4 [(0, .ref (α 5 u0)), (1, .ref (α a1 b1)), (2, .int (Int32.ofInt y2))] → WV p l e 3 s m args below meth c G e0 α κ B Qm H locs 2 ls []) : ∀ y2 : Int, ∀ z0 : Int, ∀ z1 : Int, ∀ M : Mem, wp_X4_measureCells_66 u0 a1 b1 Qm K2 y2 z0 z1 M → inR y2 → inR z0 → inR z1 → ∀ (H : Heap) (locs : List Loc), Rp G e0 α κ B M H → va_S (fun q => B ≤ q) s.heap H locs → ∀ (ls : Array Slot), lv_has ls 4 [(0, .ref (α 5 u0)), (1, .ref (α a1 b1)), (2, .int (Int32.ofInt y2))] → WV p l e 3 s m args below meth c G e0 α κ B Qm H locs 66 ls [.int (Int32.ofInt z0), .int (Int32.ofInt z1), .ref (α 34 u0)] := by
  intro y2 z0 z1 M hw hy2 hz0 hz1 H locs hR hS ls hl
  have hw : (0 ≤ z1 ∧ z1 < 100) ∧ ∀ M14 : Mem, M14 = up M 34 u0 z1 z0 → (inR (y2 + 1)) ∧ K2 (y2 + 1) M14 := hw
  have c13 := hw.1
  have hw := hw.2
  refine wa_34 X hR hS (okp X.2.2.1 rfl (pr_5 X.2.2.1 hu0)) c13 hz0 dX4_measureCells_66 (fun H locs hR hS => ?_)
  obtain ⟨M14, e15⟩ : ∃ z : Mem, z = up M 34 u0 z1 z0 := ⟨_, rfl⟩
  rw [← e15] at hR
  have hw := hw M14 e15
  have c16 := hw.1
  have hw := hw.2
  refine lv_iinc (v := Int32.ofInt (y2 + 1)) (lv' := [(2, .int (Int32.ofInt (y2 + 1))), (0, .ref (α 5 u0)), (1, .ref (α a1 b1))]) X.1.1 X.1.2.1 dX4_measureCells_67 hl (k := 2) rfl (Int32.ofInt_add _ _).symm (by decide) rfl (fun ls hl => ?_)
  refine lv_goto (tgt := 2) X.1.1 X.1.2.1 dX4_measureCells_70 (by decide) ?_
  exact hK2 _ _ hw c16 _ _ hR hS _ (lv_sub hl [1, 2, 0] rfl)
set_option maxHeartbeats 4000000 in
set_option maxRecDepth 100000 in
theorem t_X4_measureCells_2 {u0 : Int} {a1 : Nat} {b1 : Int} (X : CX p m c cX4_measureCells 4 s args RX4 G B κ meth none) (hu0 : okk κ 5 u0) (ha1 : A6 a1) (hoa1 : okk κ a1 b1) {Qm : Mem → Prop} : ∀ n : Nat, ∀ y2 : Int, ∀ M : Mem, wp_X4_measureCells_2 u0 a1 b1 Qm n y2 M → inR y2 → ∀ (H : Heap) (locs : List Loc), Rp G e0 α κ B M H → va_S (fun q => B ≤ q) s.heap H locs → ∀ (ls : Array Slot), lv_has ls 4 [(0, .ref (α 5 u0)), (1, .ref (α a1 b1)), (2, .int (Int32.ofInt y2))] → WV p l e 3 s m args below meth c G e0 α κ B Qm H locs 2 ls [] := by
  intro n
  induction n with
  | zero =>
    intro y2 M hw hy2 H locs hR hS ls hl
    exact hw.elim
  | succ n ih =>
    intro y2 M hw hy2 H locs hR hS ls hl
    have hw : (((M 14 0 (-1)) ≤ y2 → wp_X4_measureCells_73 u0 a1 b1 Qm M) ∧ (y2 < (M 14 0 (-1)) → ((100 ≤ y2 → wp_X4_measureCells_73 u0 a1 b1 Qm M) ∧ (y2 < 100 → (0 ≤ y2 ∧ y2 < M 14 0 (-1)) ∧ wp_X0_isOut (M 14 0 y2) M fun (x5 : Int) (M4 : Mem) => ((x5 = 0 → wp_X3_widthOfCell (M 14 0 y2) a1 b1 M4 fun (x8 : Int) (M7 : Mem) => wp_X0_linesAt (M 14 0 y2) x8 M7 fun (x11 : Int) (M10 : Mem) => wp_X4_measureCells_66 u0 a1 b1 Qm (wp_X4_measureCells_2 u0 a1 b1 Qm n) y2 x11 y2 M10) ∧ (¬ x5 = 0 → wp_X4_measureCells_66 u0 a1 b1 Qm (wp_X4_measureCells_2 u0 a1 b1 Qm n) y2 0 y2 M4)))))) := hw
    refine lv_iload_n X.1.1 X.1.2.1 dX4_measureCells_2 rfl (lv_at hl 2 rfl) ?_
    refine lv_aload_n X.1.1 X.1.2.1 dX4_measureCells_3 rfl (lv_at hl 0 rfl) ?_
    refine gt_5_0 X hR hu0 kw_191 dX4_measureCells_4 ?_
    refine gt_4_2 X hR (okf X.2.2.1 rfl) kw_119 dX4_measureCells_7 ?_
    refine ls_size (by decide) (by decide) X (kc := 3) rmL_ok rm_c (by decide) hR hS kw_511 hl.1 dX4_measureCells_10 (Nat.le_of_ble_eq_true rfl) (fun H locs hR hS => ?_)
    have r1 := hR.r 14 0 (-1)
    refine sa_icmp_ge (tgt := 73) X.1 hy2 r1 dX4_measureCells_13 (by decide) (fun hc => ?_) (fun hc => ?_)
    · have hw := hw.1 hc
      exact t_X4_measureCells_73 X hu0 ha1 hoa1 _ hw _ _ hR hS _ (lv_sub hl [] rfl)
    · have hw := hw.2 hc
      refine lv_iload_n X.1.1 X.1.2.1 dX4_measureCells_16 rfl (lv_at hl 2 rfl) ?_
      refine sa_bipush X.1 dX4_measureCells_17 (by decide) ?_
      refine sa_icmp_ge (tgt := 73) X.1 hy2 (inR_c (a := 100) rfl) dX4_measureCells_19 (by decide) (fun hc => ?_) (fun hc => ?_)
      · have hw := hw.1 hc
        exact t_X4_measureCells_73 X hu0 ha1 hoa1 _ hw _ _ hR hS _ (lv_sub hl [] rfl)
      · have hw := hw.2 hc
        refine lv_aload_n X.1.1 X.1.2.1 dX4_measureCells_22 rfl (lv_at hl 0 rfl) ?_
        refine gt_5_0 X hR hu0 kw_191 dX4_measureCells_23 ?_
        refine gt_4_2 X hR (okf X.2.2.1 rfl) kw_119 dX4_measureCells_26 ?_
        refine lv_iload_n X.1.1 X.1.2.1 dX4_measureCells_29 rfl (lv_at hl 2 rfl) ?_
        have c2 := hw.1
        have hw := hw.2
        refine ls_get (ci := 1) (by decide) (by decide) rfl X c2 (kc := 3) rmL_ok rm_c (by decide) hR hS kw_512 hl.1 dX4_measureCells_30 (Nat.le_of_ble_eq_true rfl) (fun H locs o3 hR hS => ?_)
        refine ck_1 X hR o3 kw_513 dX4_measureCells_33 ?_
        refine lv_astore_n (lv' := [(3, .ref (α 1 (M 14 0 y2))), (0, .ref (α 5 u0)), (1, .ref (α a1 b1)), (2, .int (Int32.ofInt y2))]) X.1.1 X.1.2.1 dX4_measureCells_36 rfl hl (by decide) rfl (fun ls hl => ?_)
        refine lv_aload_n X.1.1 X.1.2.1 dX4_measureCells_37 rfl (lv_at hl 1 rfl) ?_
        refine gt_5_1 X hR hu0 kw_192 dX4_measureCells_38 ?_
        refine lv_iload_n X.1.1 X.1.2.1 dX4_measureCells_41 rfl (lv_at hl 3 rfl) ?_
        refine lv_aload_n X.1.1 X.1.2.1 dX4_measureCells_42 rfl (lv_at hl 0 rfl) ?_
        refine cs_X0_isOut X o3 (kc := 3) rmL_ok rm_c (by decide) hR hS kw_514 hl.1 dX4_measureCells_43 (Nat.le_of_ble_eq_true rfl) hw (fun x5 M4 H locs hw r6 hR hS => ?_)
        refine sa_if_eq (tgt := 53) X.1 r6 dX4_measureCells_46 (by decide) (fun hc => ?_) (fun hc => ?_)
        · have hw := hw.1 hc
          refine lv_aload_n X.1.1 X.1.2.1 dX4_measureCells_53 rfl (lv_at hl 0 rfl) ?_
          refine lv_aload_n X.1.1 X.1.2.1 dX4_measureCells_54 rfl (lv_at hl 1 rfl) ?_
          refine gt_5_0 X hR hu0 kw_191 dX4_measureCells_55 ?_
          refine lv_aload_n X.1.1 X.1.2.1 dX4_measureCells_58 rfl (lv_at hl 0 rfl) ?_
          refine lv_aload_n X.1.1 X.1.2.1 dX4_measureCells_59 rfl (lv_at hl 2 rfl) ?_
          refine cs_X3_widthOfCell X o3 ha1 hoa1 (kc := 3) rmL_ok rm_c (by decide) hR hS kw_515 hl.1 dX4_measureCells_60 (Nat.le_of_ble_eq_true rfl) hw (fun x8 M7 H locs hw r9 hR hS => ?_)
          refine cs_X0_linesAt X o3 r9 (kc := 3) rmL_ok rm_c (by decide) hR hS kw_516 hl.1 dX4_measureCells_63 (Nat.le_of_ble_eq_true rfl) hw (fun x11 M10 H locs hw r12 hR hS => ?_)
          exact t_X4_measureCells_66 X hu0 ha1 hoa1 ih _ _ _ _ hw hy2 r12 hy2 _ _ hR hS _ (lv_sub hl [1, 2, 3] rfl)
        · have hw := hw.2 hc
          refine sa_const X.1 dX4_measureCells_49 ?_
          refine lv_goto (tgt := 66) X.1.1 X.1.2.1 dX4_measureCells_50 (by decide) ?_
          exact t_X4_measureCells_66 X hu0 ha1 hoa1 ih _ _ _ _ hw hy2 (inR_c (a := 0) rfl) hy2 _ _ hR hS _ (lv_sub hl [1, 2, 3] rfl)
set_option maxHeartbeats 4000000 in
set_option maxRecDepth 100000 in
theorem t_X4_measureCells {u0 : Int} {a1 : Nat} {b1 : Int} (X : CX p m c cX4_measureCells 4 s args RX4 G B κ meth none) (hu0 : okk κ 5 u0) (ha1 : A6 a1) (hoa1 : okk κ a1 b1) {M : Mem} {Qm : Mem → Prop} (hw : wp_X4_measureCells u0 a1 b1 M Qm) (H : Heap) (locs : List Loc) (hR : Rp G e0 α κ B M H) (hS : va_S (fun q => B ≤ q) s.heap H locs) (ls : Array Slot) (hl : lv_has ls 4 [(0, .ref (α 5 u0)), (1, .ref (α a1 b1))]) : WV p l e 3 s m args below meth c G e0 α κ B Qm H locs 0 ls [] := by
  have hw : (∃ n17 : Nat, wp_X4_measureCells_2 u0 a1 b1 Qm n17 0 M) := hw
  refine sa_const X.1 dX4_measureCells_0 ?_
  refine lv_istore_n (lv' := [(2, .int (Int32.ofInt 0)), (0, .ref (α 5 u0)), (1, .ref (α a1 b1))]) X.1.1 X.1.2.1 dX4_measureCells_1 rfl hl (by decide) rfl (fun ls hl => ?_)
  obtain ⟨n17, hw⟩ := hw
  exact t_X4_measureCells_2 X hu0 ha1 hoa1 n17 _ _ hw (inR_c (a := 0) rfl) _ _ hR hS _ (lv_sub hl [1, 2, 0] rfl)
theorem m_X4_measureCells {l : Launch} {G : Gx} {e0 : Nat} {α : Ax} {κ : Nat → Int} {B : Nat} {u0 : Int} {a1 : Nat} {b1 : Int} (hκ : kOK κ) (hu0 : okk κ 5 u0) (ha1 : A6 a1) (hoa1 : okk κ a1 b1) {M : Mem} {Qm : Mem → Prop} (hw : wp_X4_measureCells u0 a1 b1 M Qm) : CV l yX4_measureCells (Cond.code yX4_measureCells cX4_measureCells 4 none) 3 G e0 α κ B [.ref (α 5 u0), .ref (α a1 b1)] M Qm :=
  CV.mk hκ (by decide +kernel) rfl (Nat.le_of_ble_eq_true rfl) (lv := [(0, .ref (α 5 u0)), (1, .ref (α a1 b1))]) rfl (fun p e s m args below meth c ls X hR hS hl => t_X4_measureCells X hu0 ha1 hoa1 hw _ _ hR hS ls hl)
theorem cs_X4_measureCells {cc : ByteArray} {nL : Nat} {own : String} {ret : Option FieldType} {idx pc : Nat} {u0 : Int} {a1 : Nat} {b1 : Int} (X : CX p m c cc nL s args own G B κ meth ret) (hu0 : okk κ 5 u0) (ha1 : A6 a1) (hoa1 : okk κ a1 b1) {kc : Nat} {R : Room} {cells slots : Nat} (hRr : RmOK R kc) (hcel : cells ≤ R.cells ∧ slots ≤ R.slots) (hk : 3 + 1 ≤ kc) {M : Mem} {H : Heap} {locs : List Loc} (hR : Rp G e0 α κ B M H) (hS : va_S (fun q => B ≤ q) s.heap H locs) (k1 : Cond.methodLink own idx yX4_measureCells ∈ gw) {ls : Array Slot} (hml : ls.size = nL) {rest : List Value} (hd : decode cc pc = .ok (.invokevirtual idx, 3)) (hrest : (rest.map fun v => v.category).sum ≤ 8) {Q : State → Prop} {Qm : Mem → Prop} (hw : wp_X4_measureCells u0 a1 b1 M Qm) (kk : ∀ (M1 : Mem) (H1 : Heap) (locs1 : List Loc), Qm M1 → Rp G e0 α κ B M1 H1 → va_S (fun q => B ≤ q) s.heap H1 locs1 → W p l e R s m args below meth c H1 locs1 cells slots Q (F0 m (pc + 3) ls (rest))) : W p l e R s m args below meth c H locs cells slots Q (F0 m pc ls (.ref (α a1 b1) :: .ref (α 5 u0) :: rest)) :=
  sa_callVV 3 (n := 1) (As := [.ref (α a1 b1)]) (rest := rest) X.1 X.2.1 hR hS (m_X4_measureCells X.2.2.1 hu0 ha1 hoa1 hw) k1 kw_508 kw_509 kw_44 kw_510 ⟨rfl, by decide +kernel, by decide +kernel, by decide +kernel⟩ (rm_ok hRr hk (by decide)) (rc_5 X hR hu0) rfl rfl hrest hml hd hcel kk
def wp_X6_countDifferencesTo_67 (u0 : Int) (u1 : Int) (Qm : Int → Mem → Prop) (y3 : Int) (M : Mem) : Prop := Qm y3 M
def wp_X6_countDifferencesTo_29 (u0 : Int) (u1 : Int) (Qm : Int → Mem → Prop) : Nat → Int → Int → Int → Mem → Prop
  | 0 => fun _ _ _ _ => False
  | n + 1 => fun y2 y3 y4 M => ((y2 ≤ y4 → wp_X6_countDifferencesTo_67 u0 u1 Qm y3 M) ∧ (y4 < y2 → ((904 ≤ y4 → wp_X6_countDifferencesTo_67 u0 u1 Qm y3 M) ∧ (y4 < 904 → wp_X6_hasSamePage u0 y4 u1 M fun (x7 : Int) (M6 : Mem) => (inR (y3 + (if x7 = 0 then (1 : Int) else 0))) ∧ (inR (y4 + 1)) ∧ wp_X6_countDifferencesTo_29 u0 u1 Qm n y2 (y3 + (if x7 = 0 then (1 : Int) else 0)) (y4 + 1) M6))))
def wp_X6_countDifferencesTo (u0 : Int) (u1 : Int) (M : Mem) (Qm : Int → Mem → Prop) : Prop := (inR ((max (M 7 u0 1) (M 7 u1 1)) - (min (M 7 u0 1) (M 7 u1 1)))) ∧ (∃ n14 : Nat, wp_X6_countDifferencesTo_29 u0 u1 Qm n14 (min (M 7 u0 1) (M 7 u1 1)) ((max (M 7 u0 1) (M 7 u1 1)) - (min (M 7 u0 1) (M 7 u1 1))) 0 M)
set_option maxHeartbeats 4000000 in
set_option maxRecDepth 100000 in
theorem t_X6_countDifferencesTo_67 {u0 : Int} {u1 : Int} (X : CX p m c cX6_countDifferencesTo 5 s args RX6 G B κ meth (some .int)) (hu0 : okk κ 7 u0) (hu1 : okk κ 7 u1) {Qm : Int → Mem → Prop} : ∀ y3 : Int, ∀ M : Mem, wp_X6_countDifferencesTo_67 u0 u1 Qm y3 M → inR y3 → ∀ (H : Heap) (locs : List Loc), Rp G e0 α κ B M H → va_S (fun q => B ≤ q) s.heap H locs → ∀ (ls : Array Slot), lv_has ls 5 [(3, .int (Int32.ofInt y3))] → WI p l e 5 s m args below meth c G e0 α κ B Qm H locs 67 ls [] := by
  intro y3 M hw hy3 H locs hR hS ls hl
  have hw : Qm y3 M := hw
  refine lv_iload_n X.1.1 X.1.2.1 dX6_countDifferencesTo_67 rfl (lv_at hl 0 rfl) ?_
  exact sa_iret X.1 X.2.2.2.1 X.2.2.2.2 hR hS hy3 hw dX6_countDifferencesTo_68
set_option maxHeartbeats 4000000 in
set_option maxRecDepth 100000 in
theorem t_X6_countDifferencesTo_29 {u0 : Int} {u1 : Int} (X : CX p m c cX6_countDifferencesTo 5 s args RX6 G B κ meth (some .int)) (hu0 : okk κ 7 u0) (hu1 : okk κ 7 u1) {Qm : Int → Mem → Prop} : ∀ n : Nat, ∀ y2 : Int, ∀ y3 : Int, ∀ y4 : Int, ∀ M : Mem, wp_X6_countDifferencesTo_29 u0 u1 Qm n y2 y3 y4 M → inR y2 → inR y3 → inR y4 → ∀ (H : Heap) (locs : List Loc), Rp G e0 α κ B M H → va_S (fun q => B ≤ q) s.heap H locs → ∀ (ls : Array Slot), lv_has ls 5 [(0, .ref (α 7 u0)), (1, .ref (α 7 u1)), (2, .int (Int32.ofInt y2)), (3, .int (Int32.ofInt y3)), (4, .int (Int32.ofInt y4))] → WI p l e 5 s m args below meth c G e0 α κ B Qm H locs 29 ls [] := by
  intro n
  induction n with
  | zero =>
    intro y2 y3 y4 M hw hy2 hy3 hy4 H locs hR hS ls hl
    exact hw.elim
  | succ n ih =>
    intro y2 y3 y4 M hw hy2 hy3 hy4 H locs hR hS ls hl
    have hw : ((y2 ≤ y4 → wp_X6_countDifferencesTo_67 u0 u1 Qm y3 M) ∧ (y4 < y2 → ((904 ≤ y4 → wp_X6_countDifferencesTo_67 u0 u1 Qm y3 M) ∧ (y4 < 904 → wp_X6_hasSamePage u0 y4 u1 M fun (x7 : Int) (M6 : Mem) => (inR (y3 + (if x7 = 0 then (1 : Int) else 0))) ∧ (inR (y4 + 1)) ∧ wp_X6_countDifferencesTo_29 u0 u1 Qm n y2 (y3 + (if x7 = 0 then (1 : Int) else 0)) (y4 + 1) M6)))) := hw
    refine lv_iload X.1.1 X.1.2.1 dX6_countDifferencesTo_29 (lv_at hl 4 rfl) ?_
    refine lv_iload_n X.1.1 X.1.2.1 dX6_countDifferencesTo_31 rfl (lv_at hl 2 rfl) ?_
    refine sa_icmp_ge (tgt := 67) X.1 hy4 hy2 dX6_countDifferencesTo_32 (by decide) (fun hc => ?_) (fun hc => ?_)
    · have hw := hw.1 hc
      exact t_X6_countDifferencesTo_67 X hu0 hu1 _ _ hw hy3 _ _ hR hS _ (lv_sub hl [3] rfl)
    · have hw := hw.2 hc
      refine lv_iload X.1.1 X.1.2.1 dX6_countDifferencesTo_35 (lv_at hl 4 rfl) ?_
      refine sa_sipush X.1 dX6_countDifferencesTo_37 (by decide) ?_
      refine sa_icmp_ge (tgt := 67) X.1 hy4 (inR_c (a := 904) rfl) dX6_countDifferencesTo_40 (by decide) (fun hc => ?_) (fun hc => ?_)
      · have hw := hw.1 hc
        exact t_X6_countDifferencesTo_67 X hu0 hu1 _ _ hw hy3 _ _ hR hS _ (lv_sub hl [3] rfl)
      · have hw := hw.2 hc
        refine lv_iload_n X.1.1 X.1.2.1 dX6_countDifferencesTo_43 rfl (lv_at hl 3 rfl) ?_
        refine lv_aload_n X.1.1 X.1.2.1 dX6_countDifferencesTo_44 rfl (lv_at hl 0 rfl) ?_
        refine lv_iload X.1.1 X.1.2.1 dX6_countDifferencesTo_45 (lv_at hl 4 rfl) ?_
        refine lv_aload_n X.1.1 X.1.2.1 dX6_countDifferencesTo_47 rfl (lv_at hl 1 rfl) ?_
        refine cs_X6_hasSamePage X hu0 hy4 hu1 (kc := 5) rmL_ok rm_c (by decide) hR hS kw_659 hl.1 dX6_countDifferencesTo_48 (Nat.le_of_ble_eq_true rfl) hw (fun x7 M6 H locs hw r8 hR hS => ?_)
        have r9 := inR_ite (c := x7 = 0) (inR_c (a := 1) rfl) (inR_c (a := 0) rfl)
        refine cut_j (A := ∀ v10 : Int, v10 = (if x7 = 0 then (1 : Int) else 0) → WI p l e 5 s m args below meth c G e0 α κ B Qm H locs 59 ls [.int (Int32.ofInt v10), .int (Int32.ofInt y3)]) (fun J11 => ?_) ?_
        · refine sa_if_eq (tgt := 58) X.1 r8 dX6_countDifferencesTo_51 (by decide) (fun hc => ?_) (fun hc => ?_)
          · skip
            refine sa_const X.1 dX6_countDifferencesTo_58 ?_
            exact J11 (1) (if_pos (c := x7 = 0) hc).symm
          · skip
            refine sa_const X.1 dX6_countDifferencesTo_54 ?_
            refine lv_goto (tgt := 59) X.1.1 X.1.2.1 dX6_countDifferencesTo_55 (by decide) ?_
            exact J11 (0) (if_neg (c := x7 = 0) hc).symm
        intro v10 hv10
        subst hv10
        have c12 := hw.1
        have hw := hw.2
        refine sa_iadd X.1 dX6_countDifferencesTo_59 ?_
        refine lv_istore_n (lv' := [(3, .int (Int32.ofInt (y3 + (if x7 = 0 then (1 : Int) else 0)))), (0, .ref (α 7 u0)), (1, .ref (α 7 u1)), (2, .int (Int32.ofInt y2)), (4, .int (Int32.ofInt y4))]) X.1.1 X.1.2.1 dX6_countDifferencesTo_60 rfl hl (by decide) rfl (fun ls hl => ?_)
        have c13 := hw.1
        have hw := hw.2
        refine lv_iinc (v := Int32.ofInt (y4 + 1)) (lv' := [(4, .int (Int32.ofInt (y4 + 1))), (3, .int (Int32.ofInt (y3 + (if x7 = 0 then (1 : Int) else 0)))), (0, .ref (α 7 u0)), (1, .ref (α 7 u1)), (2, .int (Int32.ofInt y2))]) X.1.1 X.1.2.1 dX6_countDifferencesTo_61 hl (k := 4) rfl (Int32.ofInt_add _ _).symm (by decide) rfl (fun ls hl => ?_)
        refine lv_goto (tgt := 29) X.1.1 X.1.2.1 dX6_countDifferencesTo_64 (by decide) ?_
        exact ih _ _ _ _ hw hy2 c12 c13 _ _ hR hS _ (lv_sub hl [2, 3, 4, 1, 0] rfl)
set_option maxHeartbeats 4000000 in
set_option maxRecDepth 100000 in
theorem t_X6_countDifferencesTo {u0 : Int} {u1 : Int} (X : CX p m c cX6_countDifferencesTo 5 s args RX6 G B κ meth (some .int)) (hu0 : okk κ 7 u0) (hu1 : okk κ 7 u1) {M : Mem} {Qm : Int → Mem → Prop} (hw : wp_X6_countDifferencesTo u0 u1 M Qm) (H : Heap) (locs : List Loc) (hR : Rp G e0 α κ B M H) (hS : va_S (fun q => B ≤ q) s.heap H locs) (ls : Array Slot) (hl : lv_has ls 5 [(0, .ref (α 7 u0)), (1, .ref (α 7 u1))]) : WI p l e 5 s m args below meth c G e0 α κ B Qm H locs 0 ls [] := by
  have hw : (inR ((max (M 7 u0 1) (M 7 u1 1)) - (min (M 7 u0 1) (M 7 u1 1)))) ∧ (∃ n14 : Nat, wp_X6_countDifferencesTo_29 u0 u1 Qm n14 (min (M 7 u0 1) (M 7 u1 1)) ((max (M 7 u0 1) (M 7 u1 1)) - (min (M 7 u0 1) (M 7 u1 1))) 0 M) := hw
  refine lv_aload_n X.1.1 X.1.2.1 dX6_countDifferencesTo_0 rfl (lv_at hl 0 rfl) ?_
  refine gt_7_1 X hR hu0 kw_242 dX6_countDifferencesTo_1 ?_
  have r1 := hR.r 7 u0 1
  refine lv_aload_n X.1.1 X.1.2.1 dX6_countDifferencesTo_4 rfl (lv_at hl 1 rfl) ?_
  refine gt_7_1 X hR hu1 kw_242 dX6_countDifferencesTo_5 ?_
  have r2 := hR.r 7 u1 1
  refine sa_min (R := rmL 5) X.1 r1 r2 kw_634 hl.1 kmath_min_s kmath_i kmath_min_c (by decide) (Nat.le_of_ble_eq_true rfl) rm_c dX6_countDifferencesTo_8 ?_
  refine lv_istore_n (lv' := [(2, .int (Int32.ofInt (min (M 7 u0 1) (M 7 u1 1)))), (0, .ref (α 7 u0)), (1, .ref (α 7 u1))]) X.1.1 X.1.2.1 dX6_countDifferencesTo_11 rfl hl (by decide) rfl (fun ls hl => ?_)
  refine lv_aload_n X.1.1 X.1.2.1 dX6_countDifferencesTo_12 rfl (lv_at hl 1 rfl) ?_
  refine gt_7_1 X hR hu0 kw_242 dX6_countDifferencesTo_13 ?_
  have r3 := hR.r 7 u0 1
  refine lv_aload_n X.1.1 X.1.2.1 dX6_countDifferencesTo_16 rfl (lv_at hl 2 rfl) ?_
  refine gt_7_1 X hR hu1 kw_242 dX6_countDifferencesTo_17 ?_
  have r4 := hR.r 7 u1 1
  refine sa_max (R := rmL 5) X.1 r3 r4 hl.1 kw_658 kmath_max_s kmath_i kmath_max_c (by decide) (Nat.le_of_ble_eq_true rfl) rm_c dX6_countDifferencesTo_20 ?_
  refine lv_iload_n X.1.1 X.1.2.1 dX6_countDifferencesTo_23 rfl (lv_at hl 0 rfl) ?_
  have c5 := hw.1
  have hw := hw.2
  refine sa_isub X.1 dX6_countDifferencesTo_24 ?_
  refine lv_istore_n (lv' := [(3, .int (Int32.ofInt ((max (M 7 u0 1) (M 7 u1 1)) - (min (M 7 u0 1) (M 7 u1 1))))), (2, .int (Int32.ofInt (min (M 7 u0 1) (M 7 u1 1)))), (0, .ref (α 7 u0)), (1, .ref (α 7 u1))]) X.1.1 X.1.2.1 dX6_countDifferencesTo_25 rfl hl (by decide) rfl (fun ls hl => ?_)
  refine sa_const X.1 dX6_countDifferencesTo_26 ?_
  refine lv_istore (lv' := [(4, .int (Int32.ofInt 0)), (3, .int (Int32.ofInt ((max (M 7 u0 1) (M 7 u1 1)) - (min (M 7 u0 1) (M 7 u1 1))))), (2, .int (Int32.ofInt (min (M 7 u0 1) (M 7 u1 1)))), (0, .ref (α 7 u0)), (1, .ref (α 7 u1))]) X.1.1 X.1.2.1 dX6_countDifferencesTo_27 hl (by decide) rfl (fun ls hl => ?_)
  obtain ⟨n14, hw⟩ := hw
  exact t_X6_countDifferencesTo_29 X hu0 hu1 n14 _ _ _ _ hw (inR_min r1 r2) c5 (inR_c (a := 0) rfl) _ _ hR hS _ (lv_sub hl [3, 4, 2, 1, 0] rfl)
theorem m_X6_countDifferencesTo {l : Launch} {G : Gx} {e0 : Nat} {α : Ax} {κ : Nat → Int} {B : Nat} {u0 : Int} {u1 : Int} (hκ : kOK κ) (hu0 : okk κ 7 u0) (hu1 : okk κ 7 u1) {M : Mem} {Qm : Int → Mem → Prop} (hw : wp_X6_countDifferencesTo u0 u1 M Qm) : CI l yX6_countDifferencesTo (Cond.code yX6_countDifferencesTo cX6_countDifferencesTo 5 (some .int)) 5 G e0 α κ B [.ref (α 7 u0), .ref (α 7 u1)] M Qm :=
  CI.mk hκ (by decide +kernel) rfl (Nat.le_of_ble_eq_true rfl) (lv := [(0, .ref (α 7 u0)), (1, .ref (α 7 u1))]) rfl (fun p e s m args below meth c ls X hR hS hl => t_X6_countDifferencesTo X hu0 hu1 hw _ _ hR hS ls hl)
theorem cs_X6_countDifferencesTo {cc : ByteArray} {nL : Nat} {own : String} {ret : Option FieldType} {idx pc : Nat} {u0 : Int} {u1 : Int} (X : CX p m c cc nL s args own G B κ meth ret) (hu0 : okk κ 7 u0) (hu1 : okk κ 7 u1) {kc : Nat} {R : Room} {cells slots : Nat} (hRr : RmOK R kc) (hcel : cells ≤ R.cells ∧ slots ≤ R.slots) (hk : 5 + 1 ≤ kc) {M : Mem} {H : Heap} {locs : List Loc} (hR : Rp G e0 α κ B M H) (hS : va_S (fun q => B ≤ q) s.heap H locs) (k1 : Cond.methodLink own idx yX6_countDifferencesTo ∈ gw) {ls : Array Slot} (hml : ls.size = nL) {rest : List Value} (hd : decode cc pc = .ok (.invokevirtual idx, 3)) (hrest : (rest.map fun v => v.category).sum ≤ 8) {Q : State → Prop} {Qm : Int → Mem → Prop} (hw : wp_X6_countDifferencesTo u0 u1 M Qm) (kk : ∀ (r : Int) (M1 : Mem) (H1 : Heap) (locs1 : List Loc), Qm r M1 → inR r → Rp G e0 α κ B M1 H1 → va_S (fun q => B ≤ q) s.heap H1 locs1 → W p l e R s m args below meth c H1 locs1 cells slots Q (F0 m (pc + 3) ls (.int (Int32.ofInt r) :: rest))) : W p l e R s m args below meth c H locs cells slots Q (F0 m pc ls (.ref (α 7 u1) :: .ref (α 7 u0) :: rest)) :=
  sa_callVI 5 (n := 1) (As := [.ref (α 7 u1)]) (rest := rest) X.1 X.2.1 hR hS (m_X6_countDifferencesTo X.2.2.1 hu0 hu1 hw) k1 kw_655 kw_656 kw_46 kw_657 ⟨rfl, by decide +kernel, by decide +kernel, by decide +kernel⟩ (rm_ok hRr hk (by decide)) (rc_7 X hR hu0) rfl rfl hrest hml hd hcel kk
def wp_X8_solve_36 (u0 : Int) (p1 : Int) (Qm : Mem → Prop) : Nat → Int → Mem → Prop
  | 0 => fun _ _ => False
  | n + 1 => fun y2 M => ((6 ≤ y2 → wp_X3_between M fun (x8 : Int) (M7 : Mem) => (inR (p1 - x8)) ∧ wp_X8_shareOut u0 (p1 - x8) M7 fun (M11 : Mem) => Qm M11) ∧ (y2 < 6 → (0 ≤ y2 ∧ y2 < 6) ∧ (0 ≤ y2 ∧ y2 < 6) ∧ (0 ≤ y2 ∧ y2 < 6) ∧ ∀ M17 : Mem, M17 = up M 50 u0 y2 (max (M 50 u0 y2) (M 49 u0 y2)) → (inR (y2 + 1)) ∧ wp_X8_solve_36 u0 p1 Qm n (y2 + 1) M17))
def wp_X8_solve (u0 : Int) (p1 : Int) (M : Mem) (Qm : Mem → Prop) : Prop := wp_X8_clear u0 M fun (M1 : Mem) => wp_X8_measureFigures u0 M1 fun (M2 : Mem) => wp_X8_measureTotals u0 M2 fun (M3 : Mem) => wp_X8_measureSingleColumns u0 M3 fun (M4 : Mem) => wp_X8_spreadOverColumns u0 49 u0 0 M4 fun (M5 : Mem) => wp_X8_spreadOverColumns u0 50 u0 1 M5 fun (M6 : Mem) => (∃ n20 : Nat, wp_X8_solve_36 u0 p1 Qm n20 0 M6)
set_option maxHeartbeats 4000000 in
set_option maxRecDepth 100000 in
theorem t_X8_solve_36 {u0 : Int} {p1 : Int} (X : CX p m c cX8_solve 3 s args RX8 G B κ meth none) (hu0 : okk κ 9 u0) (hp1 : inR p1) {Qm : Mem → Prop} : ∀ n : Nat, ∀ y2 : Int, ∀ M : Mem, wp_X8_solve_36 u0 p1 Qm n y2 M → inR y2 → ∀ (H : Heap) (locs : List Loc), Rp G e0 α κ B M H → va_S (fun q => B ≤ q) s.heap H locs → ∀ (ls : Array Slot), lv_has ls 3 [(0, .ref (α 9 u0)), (1, .int (Int32.ofInt p1)), (2, .int (Int32.ofInt y2))] → WV p l e 6 s m args below meth c G e0 α κ B Qm H locs 36 ls [] := by
  intro n
  induction n with
  | zero =>
    intro y2 M hw hy2 H locs hR hS ls hl
    exact hw.elim
  | succ n ih =>
    intro y2 M hw hy2 H locs hR hS ls hl
    have hw : ((6 ≤ y2 → wp_X3_between M fun (x8 : Int) (M7 : Mem) => (inR (p1 - x8)) ∧ wp_X8_shareOut u0 (p1 - x8) M7 fun (M11 : Mem) => Qm M11) ∧ (y2 < 6 → (0 ≤ y2 ∧ y2 < 6) ∧ (0 ≤ y2 ∧ y2 < 6) ∧ (0 ≤ y2 ∧ y2 < 6) ∧ ∀ M17 : Mem, M17 = up M 50 u0 y2 (max (M 50 u0 y2) (M 49 u0 y2)) → (inR (y2 + 1)) ∧ wp_X8_solve_36 u0 p1 Qm n (y2 + 1) M17)) := hw
    refine lv_iload_n X.1.1 X.1.2.1 dX8_solve_36 rfl (lv_at hl 2 rfl) ?_
    refine sa_bipush X.1 dX8_solve_37 (by decide) ?_
    refine sa_icmp_ge (tgt := 69) X.1 hy2 (inR_c (a := 6) rfl) dX8_solve_39 (by decide) (fun hc => ?_) (fun hc => ?_)
    · have hw := hw.1 hc
      refine lv_aload_n X.1.1 X.1.2.1 dX8_solve_69 rfl (lv_at hl 0 rfl) ?_
      refine lv_iload_n X.1.1 X.1.2.1 dX8_solve_70 rfl (lv_at hl 1 rfl) ?_
      refine lv_aload_n X.1.1 X.1.2.1 dX8_solve_71 rfl (lv_at hl 0 rfl) ?_
      refine gt_9_0 X hR hu0 kw_155 dX8_solve_72 ?_
      refine cs_X3_between X  (kc := 6) rmL_ok rm_c (by decide) hR hS kw_477 hl.1 dX8_solve_75 (Nat.le_of_ble_eq_true rfl) hw (fun x8 M7 H locs hw r9 hR hS => ?_)
      have c10 := hw.1
      have hw := hw.2
      refine sa_isub X.1 dX8_solve_78 ?_
      refine cs_X8_shareOut X hu0 c10 (kc := 6) rmL_ok rm_c (by decide) hR hS kw_485 hl.1 dX8_solve_79 (Nat.le_of_ble_eq_true rfl) hw (fun M11 H locs hw hR hS => ?_)
      exact sa_vret X.1 X.2.2.2.1 X.2.2.2.2 hR hS hw dX8_solve_82
    · have hw := hw.2 hc
      refine lv_aload_n X.1.1 X.1.2.1 dX8_solve_42 rfl (lv_at hl 0 rfl) ?_
      refine gt_9_2 X hR hu0 kw_158 dX8_solve_43 ?_
      refine lv_iload_n X.1.1 X.1.2.1 dX8_solve_46 rfl (lv_at hl 2 rfl) ?_
      refine lv_aload_n X.1.1 X.1.2.1 dX8_solve_47 rfl (lv_at hl 0 rfl) ?_
      refine gt_9_2 X hR hu0 kw_158 dX8_solve_48 ?_
      refine lv_iload_n X.1.1 X.1.2.1 dX8_solve_51 rfl (lv_at hl 2 rfl) ?_
      have c12 := hw.1
      have hw := hw.2
      refine ra_50 X hR (okp X.2.2.1 rfl (pr_9 X.2.2.1 hu0)) c12 dX8_solve_52 ?_
      have r13 := hR.r 50 u0 y2
      refine lv_aload_n X.1.1 X.1.2.1 dX8_solve_53 rfl (lv_at hl 0 rfl) ?_
      refine gt_9_1 X hR hu0 kw_156 dX8_solve_54 ?_
      refine lv_iload_n X.1.1 X.1.2.1 dX8_solve_57 rfl (lv_at hl 2 rfl) ?_
      have c14 := hw.1
      have hw := hw.2
      refine ra_49 X hR (okp X.2.2.1 rfl (pr_9 X.2.2.1 hu0)) c14 dX8_solve_58 ?_
      have r15 := hR.r 49 u0 y2
      refine sa_max (R := rmL 6) X.1 r13 r15 hl.1 kw_419 kmath_max_s kmath_i kmath_max_c (by decide) (Nat.le_of_ble_eq_true rfl) rm_c dX8_solve_59 ?_
      have c16 := hw.1
      have hw := hw.2
      refine wa_50 X hR hS (okp X.2.2.1 rfl (pr_9 X.2.2.1 hu0)) c16 (inR_max r13 r15) dX8_solve_62 (fun H locs hR hS => ?_)
      obtain ⟨M17, e18⟩ : ∃ z : Mem, z = up M 50 u0 y2 (max (M 50 u0 y2) (M 49 u0 y2)) := ⟨_, rfl⟩
      rw [← e18] at hR
      have hw := hw M17 e18
      have c19 := hw.1
      have hw := hw.2
      refine lv_iinc (v := Int32.ofInt (y2 + 1)) (lv' := [(2, .int (Int32.ofInt (y2 + 1))), (0, .ref (α 9 u0)), (1, .int (Int32.ofInt p1))]) X.1.1 X.1.2.1 dX8_solve_63 hl (k := 2) rfl (Int32.ofInt_add _ _).symm (by decide) rfl (fun ls hl => ?_)
      refine lv_goto (tgt := 36) X.1.1 X.1.2.1 dX8_solve_66 (by decide) ?_
      exact ih _ _ hw c19 _ _ hR hS _ (lv_sub hl [1, 2, 0] rfl)
set_option maxHeartbeats 4000000 in
set_option maxRecDepth 100000 in
theorem t_X8_solve {u0 : Int} {p1 : Int} (X : CX p m c cX8_solve 3 s args RX8 G B κ meth none) (hu0 : okk κ 9 u0) (hp1 : inR p1) {M : Mem} {Qm : Mem → Prop} (hw : wp_X8_solve u0 p1 M Qm) (H : Heap) (locs : List Loc) (hR : Rp G e0 α κ B M H) (hS : va_S (fun q => B ≤ q) s.heap H locs) (ls : Array Slot) (hl : lv_has ls 3 [(0, .ref (α 9 u0)), (1, .int (Int32.ofInt p1))]) : WV p l e 6 s m args below meth c G e0 α κ B Qm H locs 0 ls [] := by
  have hw : wp_X8_clear u0 M fun (M1 : Mem) => wp_X8_measureFigures u0 M1 fun (M2 : Mem) => wp_X8_measureTotals u0 M2 fun (M3 : Mem) => wp_X8_measureSingleColumns u0 M3 fun (M4 : Mem) => wp_X8_spreadOverColumns u0 49 u0 0 M4 fun (M5 : Mem) => wp_X8_spreadOverColumns u0 50 u0 1 M5 fun (M6 : Mem) => (∃ n20 : Nat, wp_X8_solve_36 u0 p1 Qm n20 0 M6) := hw
  refine lv_aload_n X.1.1 X.1.2.1 dX8_solve_0 rfl (lv_at hl 0 rfl) ?_
  refine cs_X8_clear X hu0 (kc := 6) rmL_ok rm_c (by decide) hR hS kw_378 hl.1 dX8_solve_1 (Nat.le_of_ble_eq_true rfl) hw (fun M1 H locs hw hR hS => ?_)
  refine lv_aload_n X.1.1 X.1.2.1 dX8_solve_4 rfl (lv_at hl 0 rfl) ?_
  refine cs_X8_measureFigures X hu0 (kc := 6) rmL_ok rm_c (by decide) hR hS kw_385 hl.1 dX8_solve_5 (Nat.le_of_ble_eq_true rfl) hw (fun M2 H locs hw hR hS => ?_)
  refine lv_aload_n X.1.1 X.1.2.1 dX8_solve_8 rfl (lv_at hl 0 rfl) ?_
  refine cs_X8_measureTotals X hu0 (kc := 6) rmL_ok rm_c (by decide) hR hS kw_429 hl.1 dX8_solve_9 (Nat.le_of_ble_eq_true rfl) hw (fun M3 H locs hw hR hS => ?_)
  refine lv_aload_n X.1.1 X.1.2.1 dX8_solve_12 rfl (lv_at hl 0 rfl) ?_
  refine cs_X8_measureSingleColumns X hu0 (kc := 6) rmL_ok rm_c (by decide) hR hS kw_444 hl.1 dX8_solve_13 (Nat.le_of_ble_eq_true rfl) hw (fun M4 H locs hw hR hS => ?_)
  refine lv_aload_n X.1.1 X.1.2.1 dX8_solve_16 rfl (lv_at hl 0 rfl) ?_
  refine lv_aload_n X.1.1 X.1.2.1 dX8_solve_17 rfl (lv_at hl 0 rfl) ?_
  refine gt_9_1 X hR hu0 kw_156 dX8_solve_18 ?_
  refine sa_const X.1 dX8_solve_21 ?_
  refine cs_X8_spreadOverColumns X hu0 hA6_49 (okp X.2.2.1 rfl (pr_9 X.2.2.1 hu0)) (inR_c (a := 0) rfl) (kc := 6) rmL_ok rm_c (by decide) hR hS kw_462 hl.1 dX8_solve_22 (Nat.le_of_ble_eq_true rfl) hw (fun M5 H locs hw hR hS => ?_)
  refine lv_aload_n X.1.1 X.1.2.1 dX8_solve_25 rfl (lv_at hl 0 rfl) ?_
  refine lv_aload_n X.1.1 X.1.2.1 dX8_solve_26 rfl (lv_at hl 0 rfl) ?_
  refine gt_9_2 X hR hu0 kw_158 dX8_solve_27 ?_
  refine sa_const X.1 dX8_solve_30 ?_
  refine cs_X8_spreadOverColumns X hu0 hA6_50 (okp X.2.2.1 rfl (pr_9 X.2.2.1 hu0)) (inR_c (a := 1) rfl) (kc := 6) rmL_ok rm_c (by decide) hR hS kw_462 hl.1 dX8_solve_31 (Nat.le_of_ble_eq_true rfl) hw (fun M6 H locs hw hR hS => ?_)
  refine sa_const X.1 dX8_solve_34 ?_
  refine lv_istore_n (lv' := [(2, .int (Int32.ofInt 0)), (0, .ref (α 9 u0)), (1, .int (Int32.ofInt p1))]) X.1.1 X.1.2.1 dX8_solve_35 rfl hl (by decide) rfl (fun ls hl => ?_)
  obtain ⟨n20, hw⟩ := hw
  exact t_X8_solve_36 X hu0 hp1 n20 _ _ hw (inR_c (a := 0) rfl) _ _ hR hS _ (lv_sub hl [1, 2, 0] rfl)
theorem m_X8_solve {l : Launch} {G : Gx} {e0 : Nat} {α : Ax} {κ : Nat → Int} {B : Nat} {u0 : Int} {p1 : Int} (hκ : kOK κ) (hu0 : okk κ 9 u0) (hp1 : inR p1) {M : Mem} {Qm : Mem → Prop} (hw : wp_X8_solve u0 p1 M Qm) : CV l yX8_solve (Cond.code yX8_solve cX8_solve 3 none) 6 G e0 α κ B [.ref (α 9 u0), .int (Int32.ofInt p1)] M Qm :=
  CV.mk hκ (by decide +kernel) rfl (Nat.le_of_ble_eq_true rfl) (lv := [(0, .ref (α 9 u0)), (1, .int (Int32.ofInt p1))]) rfl (fun p e s m args below meth c ls X hR hS hl => t_X8_solve X hu0 hp1 hw _ _ hR hS ls hl)
theorem cs_X8_solve {cc : ByteArray} {nL : Nat} {own : String} {ret : Option FieldType} {idx pc : Nat} {u0 : Int} {p1 : Int} (X : CX p m c cc nL s args own G B κ meth ret) (hu0 : okk κ 9 u0) (hp1 : inR p1) {kc : Nat} {R : Room} {cells slots : Nat} (hRr : RmOK R kc) (hcel : cells ≤ R.cells ∧ slots ≤ R.slots) (hk : 6 + 1 ≤ kc) {M : Mem} {H : Heap} {locs : List Loc} (hR : Rp G e0 α κ B M H) (hS : va_S (fun q => B ≤ q) s.heap H locs) (k1 : Cond.methodLink own idx yX8_solve ∈ gw) {ls : Array Slot} (hml : ls.size = nL) {rest : List Value} (hd : decode cc pc = .ok (.invokevirtual idx, 3)) (hrest : (rest.map fun v => v.category).sum ≤ 8) {Q : State → Prop} {Qm : Mem → Prop} (hw : wp_X8_solve u0 p1 M Qm) (kk : ∀ (M1 : Mem) (H1 : Heap) (locs1 : List Loc), Qm M1 → Rp G e0 α κ B M1 H1 → va_S (fun q => B ≤ q) s.heap H1 locs1 → W p l e R s m args below meth c H1 locs1 cells slots Q (F0 m (pc + 3) ls (rest))) : W p l e R s m args below meth c H locs cells slots Q (F0 m pc ls (.int (Int32.ofInt p1) :: .ref (α 9 u0) :: rest)) :=
  sa_callVV 6 (n := 1) (As := [.int (Int32.ofInt p1)]) (rest := rest) X.1 X.2.1 hR hS (m_X8_solve X.2.2.1 hu0 hp1 hw) k1 kw_375 kw_376 kw_43 kw_377 ⟨rfl, by decide +kernel, by decide +kernel, by decide +kernel⟩ (rm_ok hRr hk (by decide)) (rc_9 X hR hu0) rfl rfl hrest hml hd hcel kk
def wp_X2_fillSheets_67 (p1 : Int) (p2 : Int) (Qm : Mem → Prop) : Nat → Int → Mem → Prop
  | 0 => fun _ _ => False
  | n + 1 => fun y4 M => (((M 3 0 8) ≤ y4 → wp_X6_addFrame 0 (M 3 0 9) (M 3 0 10) M fun (M26 : Mem) => Qm M26) ∧ (y4 < (M 3 0 8) → wp_X2_putItem y4 M fun (x28 : Int) (M27 : Mem) => ((¬ x28 = 0 → (inR (y4 + 1)) ∧ wp_X2_fillSheets_67 p1 p2 Qm n (y4 + 1) M27) ∧ (x28 = 0 → wp_X6_giveUp 0 M27 fun (M31 : Mem) => Qm M31))))
def wp_X2_fillSheets (p1 : Int) (p2 : Int) (M : Mem) (Qm : Mem → Prop) : Prop := ∀ M1 : Mem, M1 = up M 3 0 11 p1 → wp_X3_totalledColumns M1 fun (x4 : Int) (M3 : Mem) => ∀ M9 : Mem, M9 = up M3 3 0 10 (if ¬ x4 = 0 then (1 : Int) else 0) → wp_X4_heightOfPart 0 0 M9 fun (x12 : Int) (M11 : Mem) => wp_X4_heightOfPart 0 2 M11 fun (x15 : Int) (M14 : Mem) => (inR (x12 + x15)) ∧ ∀ M18 : Mem, M18 = up M14 3 0 9 (x12 + x15) → wp_X2_collectItems p2 M18 fun (M20 : Mem) => wp_X6_clear 0 x4 M20 fun (M21 : Mem) => wp_X2_openPage M21 fun (M22 : Mem) => (∃ n32 : Nat, wp_X2_fillSheets_67 p1 p2 Qm n32 0 M22)
set_option maxHeartbeats 4000000 in
set_option maxRecDepth 100000 in
theorem t_X2_fillSheets_67 {p1 : Int} {p2 : Int} (X : CX p m c cX2_fillSheets 5 s args RX2 G B κ meth none) (hp1 : inR p1) (hp2 : inR p2) {Qm : Mem → Prop} : ∀ n : Nat, ∀ y4 : Int, ∀ M : Mem, wp_X2_fillSheets_67 p1 p2 Qm n y4 M → inR y4 → ∀ (H : Heap) (locs : List Loc), Rp G e0 α κ B M H → va_S (fun q => B ≤ q) s.heap H locs → ∀ (ls : Array Slot), lv_has ls 5 [(0, .ref (α 3 0)), (4, .int (Int32.ofInt y4))] → WV p l e 5 s m args below meth c G e0 α κ B Qm H locs 67 ls [] := by
  intro n
  induction n with
  | zero =>
    intro y4 M hw hy4 H locs hR hS ls hl
    exact hw.elim
  | succ n ih =>
    intro y4 M hw hy4 H locs hR hS ls hl
    have hw : (((M 3 0 8) ≤ y4 → wp_X6_addFrame 0 (M 3 0 9) (M 3 0 10) M fun (M26 : Mem) => Qm M26) ∧ (y4 < (M 3 0 8) → wp_X2_putItem y4 M fun (x28 : Int) (M27 : Mem) => ((¬ x28 = 0 → (inR (y4 + 1)) ∧ wp_X2_fillSheets_67 p1 p2 Qm n (y4 + 1) M27) ∧ (x28 = 0 → wp_X6_giveUp 0 M27 fun (M31 : Mem) => Qm M31)))) := hw
    refine lv_iload X.1.1 X.1.2.1 dX2_fillSheets_67 (lv_at hl 1 rfl) ?_
    refine lv_aload_n X.1.1 X.1.2.1 dX2_fillSheets_69 rfl (lv_at hl 0 rfl) ?_
    refine gt_3_8 X hR (okf X.2.2.1 rfl) kw_297 dX2_fillSheets_70 ?_
    have r23 := hR.r 3 0 8
    refine sa_icmp_ge (tgt := 99) X.1 hy4 r23 dX2_fillSheets_73 (by decide) (fun hc => ?_) (fun hc => ?_)
    · have hw := hw.1 hc
      refine lv_aload_n X.1.1 X.1.2.1 dX2_fillSheets_99 rfl (lv_at hl 0 rfl) ?_
      refine gt_3_2 X hR (okf X.2.2.1 rfl) kw_291 dX2_fillSheets_100 ?_
      refine lv_aload_n X.1.1 X.1.2.1 dX2_fillSheets_103 rfl (lv_at hl 0 rfl) ?_
      refine gt_3_9 X hR (okf X.2.2.1 rfl) kw_298 dX2_fillSheets_104 ?_
      have r24 := hR.r 3 0 9
      refine lv_aload_n X.1.1 X.1.2.1 dX2_fillSheets_107 rfl (lv_at hl 0 rfl) ?_
      refine gt_3_10 X hR (okf X.2.2.1 rfl) kw_299 dX2_fillSheets_108 ?_
      have r25 := hR.r 3 0 10
      refine cs_X6_addFrame X (okp X.2.2.1 rfl (by decide)) r24 r25 (kc := 5) rmL_ok rm_c (by decide) hR hS kw_610 hl.1 dX2_fillSheets_111 (Nat.le_of_ble_eq_true rfl) hw (fun M26 H locs hw hR hS => ?_)
      exact sa_vret X.1 X.2.2.2.1 X.2.2.2.2 hR hS hw dX2_fillSheets_114
    · have hw := hw.2 hc
      refine lv_aload_n X.1.1 X.1.2.1 dX2_fillSheets_76 rfl (lv_at hl 0 rfl) ?_
      refine lv_iload X.1.1 X.1.2.1 dX2_fillSheets_77 (lv_at hl 1 rfl) ?_
      refine cs_X2_putItem X hy4 (kc := 5) rmL_ok rm_c (by decide) hR hS kw_593 hl.1 dX2_fillSheets_79 (Nat.le_of_ble_eq_true rfl) hw (fun x28 M27 H locs hw r29 hR hS => ?_)
      refine sa_if_ne (tgt := 93) X.1 r29 dX2_fillSheets_82 (by decide) (fun hc => ?_) (fun hc => ?_)
      · have hw := hw.1 hc
        have c30 := hw.1
        have hw := hw.2
        refine lv_iinc (v := Int32.ofInt (y4 + 1)) (lv' := [(4, .int (Int32.ofInt (y4 + 1))), (0, .ref (α 3 0))]) X.1.1 X.1.2.1 dX2_fillSheets_93 hl (k := 1) rfl (Int32.ofInt_add _ _).symm (by decide) rfl (fun ls hl => ?_)
        refine lv_goto (tgt := 67) X.1.1 X.1.2.1 dX2_fillSheets_96 (by decide) ?_
        exact ih _ _ hw c30 _ _ hR hS _ (lv_sub hl [1, 0] rfl)
      · have hw := hw.2 hc
        refine lv_aload_n X.1.1 X.1.2.1 dX2_fillSheets_85 rfl (lv_at hl 0 rfl) ?_
        refine gt_3_2 X hR (okf X.2.2.1 rfl) kw_291 dX2_fillSheets_86 ?_
        refine cs_X6_giveUp X (okp X.2.2.1 rfl (by decide)) (kc := 5) rmL_ok rm_c (by decide) hR hS kw_605 hl.1 dX2_fillSheets_89 (Nat.le_of_ble_eq_true rfl) hw (fun M31 H locs hw hR hS => ?_)
        exact sa_vret X.1 X.2.2.2.1 X.2.2.2.2 hR hS hw dX2_fillSheets_92
set_option maxHeartbeats 4000000 in
set_option maxRecDepth 100000 in
theorem t_X2_fillSheets {p1 : Int} {p2 : Int} (X : CX p m c cX2_fillSheets 5 s args RX2 G B κ meth none) (hp1 : inR p1) (hp2 : inR p2) {M : Mem} {Qm : Mem → Prop} (hw : wp_X2_fillSheets p1 p2 M Qm) (H : Heap) (locs : List Loc) (hR : Rp G e0 α κ B M H) (hS : va_S (fun q => B ≤ q) s.heap H locs) (ls : Array Slot) (hl : lv_has ls 5 [(0, .ref (α 3 0)), (1, .int (Int32.ofInt p1)), (2, .int (Int32.ofInt p2))]) : WV p l e 5 s m args below meth c G e0 α κ B Qm H locs 0 ls [] := by
  have hw : ∀ M1 : Mem, M1 = up M 3 0 11 p1 → wp_X3_totalledColumns M1 fun (x4 : Int) (M3 : Mem) => ∀ M9 : Mem, M9 = up M3 3 0 10 (if ¬ x4 = 0 then (1 : Int) else 0) → wp_X4_heightOfPart 0 0 M9 fun (x12 : Int) (M11 : Mem) => wp_X4_heightOfPart 0 2 M11 fun (x15 : Int) (M14 : Mem) => (inR (x12 + x15)) ∧ ∀ M18 : Mem, M18 = up M14 3 0 9 (x12 + x15) → wp_X2_collectItems p2 M18 fun (M20 : Mem) => wp_X6_clear 0 x4 M20 fun (M21 : Mem) => wp_X2_openPage M21 fun (M22 : Mem) => (∃ n32 : Nat, wp_X2_fillSheets_67 p1 p2 Qm n32 0 M22) := hw
  refine lv_aload_n X.1.1 X.1.2.1 dX2_fillSheets_0 rfl (lv_at hl 0 rfl) ?_
  refine lv_iload_n X.1.1 X.1.2.1 dX2_fillSheets_1 rfl (lv_at hl 1 rfl) ?_
  refine pt_3_11 X hR hS (okf X.2.2.1 rfl) hp1 kw_300 dX2_fillSheets_2 (fun H locs hR hS => ?_)
  obtain ⟨M1, e2⟩ : ∃ z : Mem, z = up M 3 0 11 p1 := ⟨_, rfl⟩
  rw [← e2] at hR
  have hw := hw M1 e2
  refine lv_aload_n X.1.1 X.1.2.1 dX2_fillSheets_5 rfl (lv_at hl 0 rfl) ?_
  refine gt_3_0 X hR (okf X.2.2.1 rfl) kw_289 dX2_fillSheets_6 ?_
  refine cs_X3_totalledColumns X  (kc := 5) rmL_ok rm_c (by decide) hR hS kw_549 hl.1 dX2_fillSheets_9 (Nat.le_of_ble_eq_true rfl) hw (fun x4 M3 H locs hw r5 hR hS => ?_)
  refine lv_istore_n (lv' := [(3, .int (Int32.ofInt x4)), (0, .ref (α 3 0)), (1, .int (Int32.ofInt p1)), (2, .int (Int32.ofInt p2))]) X.1.1 X.1.2.1 dX2_fillSheets_12 rfl hl (by decide) rfl (fun ls hl => ?_)
  refine lv_aload_n X.1.1 X.1.2.1 dX2_fillSheets_13 rfl (lv_at hl 1 rfl) ?_
  refine lv_iload_n X.1.1 X.1.2.1 dX2_fillSheets_14 rfl (lv_at hl 0 rfl) ?_
  have r6 := inR_ite (c := ¬ x4 = 0) (inR_c (a := 1) rfl) (inR_c (a := 0) rfl)
  refine cut_j (A := ∀ v7 : Int, v7 = (if ¬ x4 = 0 then (1 : Int) else 0) → WV p l e 5 s m args below meth c G e0 α κ B Qm H locs 23 ls [.int (Int32.ofInt v7), .ref (α 3 0)]) (fun J8 => ?_) ?_
  · refine sa_if_ne (tgt := 22) X.1 r5 dX2_fillSheets_15 (by decide) (fun hc => ?_) (fun hc => ?_)
    · skip
      refine sa_const X.1 dX2_fillSheets_22 ?_
      exact J8 (1) (if_pos (c := ¬ x4 = 0) hc).symm
    · skip
      refine sa_const X.1 dX2_fillSheets_18 ?_
      refine lv_goto (tgt := 23) X.1.1 X.1.2.1 dX2_fillSheets_19 (by decide) ?_
      exact J8 (0) (if_neg (c := ¬ x4 = 0) (fun z => z hc)).symm
  intro v7 hv7
  subst hv7
  refine pt_3_10 X hR hS (okf X.2.2.1 rfl) r6 kw_299 dX2_fillSheets_23 (fun H locs hR hS => ?_)
  obtain ⟨M9, e10⟩ : ∃ z : Mem, z = up M3 3 0 10 (if ¬ x4 = 0 then (1 : Int) else 0) := ⟨_, rfl⟩
  rw [← e10] at hR
  have hw := hw M9 e10
  refine lv_aload_n X.1.1 X.1.2.1 dX2_fillSheets_26 rfl (lv_at hl 1 rfl) ?_
  refine lv_aload_n X.1.1 X.1.2.1 dX2_fillSheets_27 rfl (lv_at hl 1 rfl) ?_
  refine gt_3_1 X hR (okf X.2.2.1 rfl) kw_290 dX2_fillSheets_28 ?_
  refine sa_const X.1 dX2_fillSheets_31 ?_
  refine cs_X4_heightOfPart X (okp X.2.2.1 rfl (by decide)) (inR_c (a := 0) rfl) (kc := 5) rmL_ok rm_c (by decide) hR hS kw_554 hl.1 dX2_fillSheets_32 (Nat.le_of_ble_eq_true rfl) hw (fun x12 M11 H locs hw r13 hR hS => ?_)
  refine lv_aload_n X.1.1 X.1.2.1 dX2_fillSheets_35 rfl (lv_at hl 1 rfl) ?_
  refine gt_3_1 X hR (okf X.2.2.1 rfl) kw_290 dX2_fillSheets_36 ?_
  refine sa_const X.1 dX2_fillSheets_39 ?_
  refine cs_X4_heightOfPart X (okp X.2.2.1 rfl (by decide)) (inR_c (a := 2) rfl) (kc := 5) rmL_ok rm_c (by decide) hR hS kw_554 hl.1 dX2_fillSheets_40 (Nat.le_of_ble_eq_true rfl) hw (fun x15 M14 H locs hw r16 hR hS => ?_)
  have c17 := hw.1
  have hw := hw.2
  refine sa_iadd X.1 dX2_fillSheets_43 ?_
  refine pt_3_9 X hR hS (okf X.2.2.1 rfl) c17 kw_298 dX2_fillSheets_44 (fun H locs hR hS => ?_)
  obtain ⟨M18, e19⟩ : ∃ z : Mem, z = up M14 3 0 9 (x12 + x15) := ⟨_, rfl⟩
  rw [← e19] at hR
  have hw := hw M18 e19
  refine lv_aload_n X.1.1 X.1.2.1 dX2_fillSheets_47 rfl (lv_at hl 1 rfl) ?_
  refine lv_iload_n X.1.1 X.1.2.1 dX2_fillSheets_48 rfl (lv_at hl 3 rfl) ?_
  refine cs_X2_collectItems X hp2 (kc := 5) rmL_ok rm_c (by decide) hR hS kw_558 hl.1 dX2_fillSheets_49 (Nat.le_of_ble_eq_true rfl) hw (fun M20 H locs hw hR hS => ?_)
  refine lv_aload_n X.1.1 X.1.2.1 dX2_fillSheets_52 rfl (lv_at hl 1 rfl) ?_
  refine gt_3_2 X hR (okf X.2.2.1 rfl) kw_291 dX2_fillSheets_53 ?_
  refine lv_iload_n X.1.1 X.1.2.1 dX2_fillSheets_56 rfl (lv_at hl 0 rfl) ?_
  refine cs_X6_clear X (okp X.2.2.1 rfl (by decide)) r5 (kc := 5) rmL_ok rm_c (by decide) hR hS kw_581 hl.1 dX2_fillSheets_57 (Nat.le_of_ble_eq_true rfl) hw (fun M21 H locs hw hR hS => ?_)
  refine lv_aload_n X.1.1 X.1.2.1 dX2_fillSheets_60 rfl (lv_at hl 1 rfl) ?_
  refine cs_X2_openPage X  (kc := 5) rmL_ok rm_c (by decide) hR hS kw_585 hl.1 dX2_fillSheets_61 (Nat.le_of_ble_eq_true rfl) hw (fun M22 H locs hw hR hS => ?_)
  refine sa_const X.1 dX2_fillSheets_64 ?_
  refine lv_istore (lv' := [(4, .int (Int32.ofInt 0)), (3, .int (Int32.ofInt x4)), (0, .ref (α 3 0)), (1, .int (Int32.ofInt p1)), (2, .int (Int32.ofInt p2))]) X.1.1 X.1.2.1 dX2_fillSheets_65 hl (by decide) rfl (fun ls hl => ?_)
  obtain ⟨n32, hw⟩ := hw
  exact t_X2_fillSheets_67 X hp1 hp2 n32 _ _ hw (inR_c (a := 0) rfl) _ _ hR hS _ (lv_sub hl [2, 0] rfl)
theorem m_X2_fillSheets {l : Launch} {G : Gx} {e0 : Nat} {α : Ax} {κ : Nat → Int} {B : Nat} {p1 : Int} {p2 : Int} (hκ : kOK κ) (hp1 : inR p1) (hp2 : inR p2) {M : Mem} {Qm : Mem → Prop} (hw : wp_X2_fillSheets p1 p2 M Qm) : CV l yX2_fillSheets (Cond.code yX2_fillSheets cX2_fillSheets 5 none) 5 G e0 α κ B [.ref (α 3 0), .int (Int32.ofInt p1), .int (Int32.ofInt p2)] M Qm :=
  CV.mk hκ (by decide +kernel) rfl (Nat.le_of_ble_eq_true rfl) (lv := [(0, .ref (α 3 0)), (1, .int (Int32.ofInt p1)), (2, .int (Int32.ofInt p2))]) rfl (fun p e s m args below meth c ls X hR hS hl => t_X2_fillSheets X hp1 hp2 hw _ _ hR hS ls hl)
theorem cs_X2_fillSheets {cc : ByteArray} {nL : Nat} {own : String} {ret : Option FieldType} {idx pc : Nat} {p1 : Int} {p2 : Int} (X : CX p m c cc nL s args own G B κ meth ret) (hp1 : inR p1) (hp2 : inR p2) {kc : Nat} {R : Room} {cells slots : Nat} (hRr : RmOK R kc) (hcel : cells ≤ R.cells ∧ slots ≤ R.slots) (hk : 5 + 1 ≤ kc) {M : Mem} {H : Heap} {locs : List Loc} (hR : Rp G e0 α κ B M H) (hS : va_S (fun q => B ≤ q) s.heap H locs) (k1 : Cond.methodLink own idx yX2_fillSheets ∈ gw) {ls : Array Slot} (hml : ls.size = nL) {rest : List Value} (hd : decode cc pc = .ok (.invokevirtual idx, 3)) (hrest : (rest.map fun v => v.category).sum ≤ 8) {Q : State → Prop} {Qm : Mem → Prop} (hw : wp_X2_fillSheets p1 p2 M Qm) (kk : ∀ (M1 : Mem) (H1 : Heap) (locs1 : List Loc), Qm M1 → Rp G e0 α κ B M1 H1 → va_S (fun q => B ≤ q) s.heap H1 locs1 → W p l e R s m args below meth c H1 locs1 cells slots Q (F0 m (pc + 3) ls (rest))) : W p l e R s m args below meth c H locs cells slots Q (F0 m pc ls (.int (Int32.ofInt p2) :: .int (Int32.ofInt p1) :: .ref (α 3 0) :: rest)) :=
  sa_callVV 5 (n := 2) (As := [.int (Int32.ofInt p1), .int (Int32.ofInt p2)]) (rest := rest) X.1 X.2.1 hR hS (m_X2_fillSheets X.2.2.1 hp1 hp2 hw) k1 kw_546 kw_547 kw_47 kw_548 ⟨rfl, by decide +kernel, by decide +kernel, by decide +kernel⟩ (rm_ok hRr hk (by decide)) (rc_3 X hR (okf X.2.2.1 rfl)) rfl rfl hrest hml hd hcel kk
def wp_X7_heightFromNothing (p1 : Int) (p2 : Int) (M : Mem) (Qm : Int → Mem → Prop) : Prop := wp_X8_solve 1 p2 M fun (M1 : Mem) => wp_X4_measureCells 1 51 1 M1 fun (M2 : Mem) => wp_X4_stackRows 1 M2 fun (M3 : Mem) => (0 ≤ p1 → (p1 < 29 → (0 ≤ p1 ∧ p1 < 29) ∧ True) ∧ True) ∧ Qm (if p1 < 0 then (0 : Int) else (if 29 ≤ p1 then (0 : Int) else (M3 35 1 p1))) M3
set_option maxHeartbeats 4000000 in
set_option maxRecDepth 100000 in
theorem t_X7_heightFromNothing {p1 : Int} {p2 : Int} (X : CX p m c cX7_heightFromNothing 3 s args RX7 G B κ meth (some .int)) (hp1 : inR p1) (hp2 : inR p2) {M : Mem} {Qm : Int → Mem → Prop} (hw : wp_X7_heightFromNothing p1 p2 M Qm) (H : Heap) (locs : List Loc) (hR : Rp G e0 α κ B M H) (hS : va_S (fun q => B ≤ q) s.heap H locs) (ls : Array Slot) (hl : lv_has ls 3 [(0, .ref (α 8 0)), (1, .int (Int32.ofInt p1)), (2, .int (Int32.ofInt p2))]) : WI p l e 7 s m args below meth c G e0 α κ B Qm H locs 0 ls [] := by
  have hw : wp_X8_solve 1 p2 M fun (M1 : Mem) => wp_X4_measureCells 1 51 1 M1 fun (M2 : Mem) => wp_X4_stackRows 1 M2 fun (M3 : Mem) => (0 ≤ p1 → (p1 < 29 → (0 ≤ p1 ∧ p1 < 29) ∧ True) ∧ True) ∧ Qm (if p1 < 0 then (0 : Int) else (if 29 ≤ p1 then (0 : Int) else (M3 35 1 p1))) M3 := hw
  refine lv_aload_n X.1.1 X.1.2.1 dX7_heightFromNothing_0 rfl (lv_at hl 0 rfl) ?_
  refine gt_8_1 X hR (okf X.2.2.1 rfl) kw_216 dX7_heightFromNothing_1 ?_
  refine lv_iload_n X.1.1 X.1.2.1 dX7_heightFromNothing_4 rfl (lv_at hl 2 rfl) ?_
  refine cs_X8_solve X (okp X.2.2.1 rfl (by decide)) hp2 (kc := 7) rmL_ok rm_c (by decide) hR hS kw_1284 hl.1 dX7_heightFromNothing_5 (Nat.le_of_ble_eq_true rfl) hw (fun M1 H locs hw hR hS => ?_)
  refine lv_aload_n X.1.1 X.1.2.1 dX7_heightFromNothing_8 rfl (lv_at hl 0 rfl) ?_
  refine gt_8_2 X hR (okf X.2.2.1 rfl) kw_217 dX7_heightFromNothing_9 ?_
  refine lv_aload_n X.1.1 X.1.2.1 dX7_heightFromNothing_12 rfl (lv_at hl 0 rfl) ?_
  refine gt_8_1 X hR (okf X.2.2.1 rfl) kw_216 dX7_heightFromNothing_13 ?_
  refine gt_9_3 X hR (okp X.2.2.1 rfl (by decide)) kw_161 dX7_heightFromNothing_16 ?_
  refine cs_X4_measureCells X (okp X.2.2.1 rfl (by decide)) hA6_51 (okp X.2.2.1 rfl (pr_9 X.2.2.1 (okp X.2.2.1 rfl (by decide)))) (kc := 7) rmL_ok rm_c (by decide) hR hS kw_1285 hl.1 dX7_heightFromNothing_19 (Nat.le_of_ble_eq_true rfl) hw (fun M2 H locs hw hR hS => ?_)
  refine lv_aload_n X.1.1 X.1.2.1 dX7_heightFromNothing_22 rfl (lv_at hl 0 rfl) ?_
  refine gt_8_2 X hR (okf X.2.2.1 rfl) kw_217 dX7_heightFromNothing_23 ?_
  refine cs_X4_stackRows X (okp X.2.2.1 rfl (by decide)) (kc := 7) rmL_ok rm_c (by decide) hR hS kw_1286 hl.1 dX7_heightFromNothing_26 (Nat.le_of_ble_eq_true rfl) hw (fun M3 H locs hw hR hS => ?_)
  refine lv_iload_n X.1.1 X.1.2.1 dX7_heightFromNothing_29 rfl (lv_at hl 1 rfl) ?_
  have s8 := hw.1
  have hw := hw.2
  have r9 := inR_ite (c := p1 < 0) (inR_c (a := 0) rfl) (inR_ite (c := 29 ≤ p1) (inR_c (a := 0) rfl) (hR.r 35 1 p1))
  refine cut_j (A := ∀ v10 : Int, v10 = (if p1 < 0 then (0 : Int) else (if 29 ≤ p1 then (0 : Int) else (M3 35 1 p1))) → WI p l e 7 s m args below meth c G e0 α κ B Qm H locs 52 ls [.int (Int32.ofInt v10)]) (fun J11 => ?_) ?_
  · refine sa_if_lt (tgt := 51) X.1 hp1 dX7_heightFromNothing_30 (by decide) (fun hc => ?_) (fun hc => ?_)
    · skip
      refine sa_const X.1 dX7_heightFromNothing_51 ?_
      exact J11 (0) (if_pos (c := p1 < 0) hc).symm
    · have hw := s8 hc
      refine lv_iload_n X.1.1 X.1.2.1 dX7_heightFromNothing_33 rfl (lv_at hl 1 rfl) ?_
      refine sa_bipush X.1 dX7_heightFromNothing_34 (by decide) ?_
      have s5 := hw.1
      have hw := hw.2
      refine cut_j (A := ∀ v6 : Int, v6 = (if 29 ≤ p1 then (0 : Int) else (M3 35 1 p1)) → WI p l e 7 s m args below meth c G e0 α κ B Qm H locs 52 ls [.int (Int32.ofInt v6)]) (fun J7 => ?_) ?_
      · refine sa_icmp_ge (tgt := 51) X.1 hp1 (inR_c (a := 29) rfl) dX7_heightFromNothing_36 (by decide) (fun hc => ?_) (fun hc => ?_)
        · skip
          refine sa_const X.1 dX7_heightFromNothing_51 ?_
          exact J7 (0) (if_pos (c := 29 ≤ p1) hc).symm
        · have hw := s5 hc
          refine lv_aload_n X.1.1 X.1.2.1 dX7_heightFromNothing_39 rfl (lv_at hl 0 rfl) ?_
          refine gt_8_2 X hR (okf X.2.2.1 rfl) kw_217 dX7_heightFromNothing_40 ?_
          refine gt_5_2 X hR (okp X.2.2.1 rfl (by decide)) kw_195 dX7_heightFromNothing_43 ?_
          refine lv_iload_n X.1.1 X.1.2.1 dX7_heightFromNothing_46 rfl (lv_at hl 1 rfl) ?_
          have c4 := hw.1
          have hw := hw.2
          refine ra_35 X hR (okp X.2.2.1 rfl (pr_5 X.2.2.1 (okp X.2.2.1 rfl (by decide)))) c4 dX7_heightFromNothing_47 ?_
          refine lv_goto (tgt := 52) X.1.1 X.1.2.1 dX7_heightFromNothing_48 (by decide) ?_
          exact J7 ((M3 35 1 p1)) (if_neg (c := 29 ≤ p1) (Int.not_le.mpr hc)).symm
      intro v6 hv6
      subst hv6
      exact J11 ((if 29 ≤ p1 then (0 : Int) else (M3 35 1 p1))) (if_neg (c := p1 < 0) (Int.not_lt.mpr hc)).symm
  intro v10 hv10
  subst hv10
  exact sa_iret X.1 X.2.2.2.1 X.2.2.2.2 hR hS r9 hw dX7_heightFromNothing_52
theorem m_X7_heightFromNothing {l : Launch} {G : Gx} {e0 : Nat} {α : Ax} {κ : Nat → Int} {B : Nat} {p1 : Int} {p2 : Int} (hκ : kOK κ) (hp1 : inR p1) (hp2 : inR p2) {M : Mem} {Qm : Int → Mem → Prop} (hw : wp_X7_heightFromNothing p1 p2 M Qm) : CI l yX7_heightFromNothing (Cond.code yX7_heightFromNothing cX7_heightFromNothing 3 (some .int)) 7 G e0 α κ B [.ref (α 8 0), .int (Int32.ofInt p1), .int (Int32.ofInt p2)] M Qm :=
  CI.mk hκ (by decide +kernel) rfl (Nat.le_of_ble_eq_true rfl) (lv := [(0, .ref (α 8 0)), (1, .int (Int32.ofInt p1)), (2, .int (Int32.ofInt p2))]) rfl (fun p e s m args below meth c ls X hR hS hl => t_X7_heightFromNothing X hp1 hp2 hw _ _ hR hS ls hl)
theorem cs_X7_heightFromNothing {cc : ByteArray} {nL : Nat} {own : String} {ret : Option FieldType} {idx pc : Nat} {p1 : Int} {p2 : Int} (X : CX p m c cc nL s args own G B κ meth ret) (hp1 : inR p1) (hp2 : inR p2) {kc : Nat} {R : Room} {cells slots : Nat} (hRr : RmOK R kc) (hcel : cells ≤ R.cells ∧ slots ≤ R.slots) (hk : 7 + 1 ≤ kc) {M : Mem} {H : Heap} {locs : List Loc} (hR : Rp G e0 α κ B M H) (hS : va_S (fun q => B ≤ q) s.heap H locs) (k1 : Cond.methodLink own idx yX7_heightFromNothing ∈ gw) {ls : Array Slot} (hml : ls.size = nL) {rest : List Value} (hd : decode cc pc = .ok (.invokevirtual idx, 3)) (hrest : (rest.map fun v => v.category).sum ≤ 8) {Q : State → Prop} {Qm : Int → Mem → Prop} (hw : wp_X7_heightFromNothing p1 p2 M Qm) (kk : ∀ (r : Int) (M1 : Mem) (H1 : Heap) (locs1 : List Loc), Qm r M1 → inR r → Rp G e0 α κ B M1 H1 → va_S (fun q => B ≤ q) s.heap H1 locs1 → W p l e R s m args below meth c H1 locs1 cells slots Q (F0 m (pc + 3) ls (.int (Int32.ofInt r) :: rest))) : W p l e R s m args below meth c H locs cells slots Q (F0 m pc ls (.int (Int32.ofInt p2) :: .int (Int32.ofInt p1) :: .ref (α 8 0) :: rest)) :=
  sa_callVI 7 (n := 2) (As := [.int (Int32.ofInt p1), .int (Int32.ofInt p2)]) (rest := rest) X.1 X.2.1 hR hS (m_X7_heightFromNothing X.2.2.1 hp1 hp2 hw) k1 kw_1281 kw_1282 kw_45 kw_1283 ⟨rfl, by decide +kernel, by decide +kernel, by decide +kernel⟩ (rm_ok hRr hk (by decide)) (rc_8 X hR (okf X.2.2.1 rfl)) rfl rfl hrest hml hd hcel kk
def wp_X9_refresh_70 (Qm : Mem → Prop) (M : Mem) : Prop := Qm M
def wp_X9_refresh (M : Mem) (Qm : Mem → Prop) : Prop := (((M 10 0 10) = 0 → wp_X9_refresh_70 Qm M) ∧ (¬ (M 10 0 10) = 0 → wp_X8_solve 0 (M 10 0 7) M fun (M3 : Mem) => wp_X4_measureCells 0 51 0 M3 fun (M4 : Mem) => wp_X4_stackRows 0 M4 fun (M5 : Mem) => wp_X2_fillSheets (M5 10 0 8) (M5 10 0 9) M5 fun (M8 : Mem) => wp_X6_sumUp 0 M8 fun (M9 : Mem) => ∀ M10 : Mem, M10 = up M9 10 0 10 0 → wp_X9_refresh_70 Qm M10))
set_option maxHeartbeats 4000000 in
set_option maxRecDepth 100000 in
theorem t_X9_refresh_70 (X : CX p m c cX9_refresh 1 s args RX9 G B κ meth none) {Qm : Mem → Prop} : ∀ M : Mem, wp_X9_refresh_70 Qm M → ∀ (H : Heap) (locs : List Loc), Rp G e0 α κ B M H → va_S (fun q => B ≤ q) s.heap H locs → ∀ (ls : Array Slot), lv_has ls 1 [] → WV p l e 7 s m args below meth c G e0 α κ B Qm H locs 70 ls [] := by
  intro M hw H locs hR hS ls hl
  have hw : Qm M := hw
  exact sa_vret X.1 X.2.2.2.1 X.2.2.2.2 hR hS hw dX9_refresh_70
set_option maxHeartbeats 4000000 in
set_option maxRecDepth 100000 in
theorem t_X9_refresh (X : CX p m c cX9_refresh 1 s args RX9 G B κ meth none) {M : Mem} {Qm : Mem → Prop} (hw : wp_X9_refresh M Qm) (H : Heap) (locs : List Loc) (hR : Rp G e0 α κ B M H) (hS : va_S (fun q => B ≤ q) s.heap H locs) (ls : Array Slot) (hl : lv_has ls 1 [(0, .ref (α 10 0))]) : WV p l e 7 s m args below meth c G e0 α κ B Qm H locs 0 ls [] := by
  have hw : (((M 10 0 10) = 0 → wp_X9_refresh_70 Qm M) ∧ (¬ (M 10 0 10) = 0 → wp_X8_solve 0 (M 10 0 7) M fun (M3 : Mem) => wp_X4_measureCells 0 51 0 M3 fun (M4 : Mem) => wp_X4_stackRows 0 M4 fun (M5 : Mem) => wp_X2_fillSheets (M5 10 0 8) (M5 10 0 9) M5 fun (M8 : Mem) => wp_X6_sumUp 0 M8 fun (M9 : Mem) => ∀ M10 : Mem, M10 = up M9 10 0 10 0 → wp_X9_refresh_70 Qm M10)) := hw
  refine lv_aload_n X.1.1 X.1.2.1 dX9_refresh_0 rfl (lv_at hl 0 rfl) ?_
  refine gt_10_10 X hR (okf X.2.2.1 rfl) kw_342 dX9_refresh_1 ?_
  have r1 := hR.r 10 0 10
  refine sa_if_eq (tgt := 70) X.1 r1 dX9_refresh_4 (by decide) (fun hc => ?_) (fun hc => ?_)
  · have hw := hw.1 hc
    exact t_X9_refresh_70 X _ hw _ _ hR hS _ (lv_sub hl [] rfl)
  · have hw := hw.2 hc
    refine lv_aload_n X.1.1 X.1.2.1 dX9_refresh_7 rfl (lv_at hl 0 rfl) ?_
    refine gt_10_1 X hR (okf X.2.2.1 rfl) kw_333 dX9_refresh_8 ?_
    refine lv_aload_n X.1.1 X.1.2.1 dX9_refresh_11 rfl (lv_at hl 0 rfl) ?_
    refine gt_10_7 X hR (okf X.2.2.1 rfl) kw_339 dX9_refresh_12 ?_
    have r2 := hR.r 10 0 7
    refine cs_X8_solve X (okp X.2.2.1 rfl (by decide)) r2 (kc := 7) rmL_ok rm_c (by decide) hR hS kw_374 hl.1 dX9_refresh_15 (Nat.le_of_ble_eq_true rfl) hw (fun M3 H locs hw hR hS => ?_)
    refine lv_aload_n X.1.1 X.1.2.1 dX9_refresh_18 rfl (lv_at hl 0 rfl) ?_
    refine gt_10_2 X hR (okf X.2.2.1 rfl) kw_334 dX9_refresh_19 ?_
    refine lv_aload_n X.1.1 X.1.2.1 dX9_refresh_22 rfl (lv_at hl 0 rfl) ?_
    refine gt_10_1 X hR (okf X.2.2.1 rfl) kw_333 dX9_refresh_23 ?_
    refine gt_9_3 X hR (okp X.2.2.1 rfl (by decide)) kw_162 dX9_refresh_26 ?_
    refine cs_X4_measureCells X (okp X.2.2.1 rfl (by decide)) hA6_51 (okp X.2.2.1 rfl (pr_9 X.2.2.1 (okp X.2.2.1 rfl (by decide)))) (kc := 7) rmL_ok rm_c (by decide) hR hS kw_507 hl.1 dX9_refresh_29 (Nat.le_of_ble_eq_true rfl) hw (fun M4 H locs hw hR hS => ?_)
    refine lv_aload_n X.1.1 X.1.2.1 dX9_refresh_32 rfl (lv_at hl 0 rfl) ?_
    refine gt_10_2 X hR (okf X.2.2.1 rfl) kw_334 dX9_refresh_33 ?_
    refine cs_X4_stackRows X (okp X.2.2.1 rfl (by decide)) (kc := 7) rmL_ok rm_c (by decide) hR hS kw_529 hl.1 dX9_refresh_36 (Nat.le_of_ble_eq_true rfl) hw (fun M5 H locs hw hR hS => ?_)
    refine lv_aload_n X.1.1 X.1.2.1 dX9_refresh_39 rfl (lv_at hl 0 rfl) ?_
    refine gt_10_4 X hR (okf X.2.2.1 rfl) kw_336 dX9_refresh_40 ?_
    refine lv_aload_n X.1.1 X.1.2.1 dX9_refresh_43 rfl (lv_at hl 0 rfl) ?_
    refine gt_10_8 X hR (okf X.2.2.1 rfl) kw_340 dX9_refresh_44 ?_
    have r6 := hR.r 10 0 8
    refine lv_aload_n X.1.1 X.1.2.1 dX9_refresh_47 rfl (lv_at hl 0 rfl) ?_
    refine gt_10_9 X hR (okf X.2.2.1 rfl) kw_341 dX9_refresh_48 ?_
    have r7 := hR.r 10 0 9
    refine cs_X2_fillSheets X r6 r7 (kc := 7) rmL_ok rm_c (by decide) hR hS kw_545 hl.1 dX9_refresh_51 (Nat.le_of_ble_eq_true rfl) hw (fun M8 H locs hw hR hS => ?_)
    refine lv_aload_n X.1.1 X.1.2.1 dX9_refresh_54 rfl (lv_at hl 0 rfl) ?_
    refine gt_10_5 X hR (okf X.2.2.1 rfl) kw_337 dX9_refresh_55 ?_
    refine lv_aload_n X.1.1 X.1.2.1 dX9_refresh_58 rfl (lv_at hl 0 rfl) ?_
    refine gt_10_0 X hR (okf X.2.2.1 rfl) kw_332 dX9_refresh_59 ?_
    refine cs_X6_sumUp X (okp X.2.2.1 rfl (by decide)) (kc := 7) rmL_ok rm_c (by decide) hR hS kw_614 hl.1 dX9_refresh_62 (Nat.le_of_ble_eq_true rfl) hw (fun M9 H locs hw hR hS => ?_)
    refine lv_aload_n X.1.1 X.1.2.1 dX9_refresh_65 rfl (lv_at hl 0 rfl) ?_
    refine sa_const X.1 dX9_refresh_66 ?_
    refine pt_10_10 X hR hS (okf X.2.2.1 rfl) (Or.inl rfl) kw_342 dX9_refresh_67 (fun H locs hR hS => ?_)
    obtain ⟨M10, e11⟩ : ∃ z : Mem, z = up M9 10 0 10 0 := ⟨_, rfl⟩
    rw [← e11] at hR
    have hw := hw M10 e11
    exact t_X9_refresh_70 X _ hw _ _ hR hS _ (lv_sub hl [] rfl)
theorem m_X9_refresh {l : Launch} {G : Gx} {e0 : Nat} {α : Ax} {κ : Nat → Int} {B : Nat} (hκ : kOK κ) {M : Mem} {Qm : Mem → Prop} (hw : wp_X9_refresh M Qm) : CV l yX9_refresh (Cond.code yX9_refresh cX9_refresh 1 none) 7 G e0 α κ B [.ref (α 10 0)] M Qm :=
  CV.mk hκ (by decide +kernel) rfl (Nat.le_of_ble_eq_true rfl) (lv := [(0, .ref (α 10 0))]) rfl (fun p e s m args below meth c ls X hR hS hl => t_X9_refresh X hw _ _ hR hS ls hl)
theorem cs_X9_refresh {cc : ByteArray} {nL : Nat} {own : String} {ret : Option FieldType} {idx pc : Nat} (X : CX p m c cc nL s args own G B κ meth ret) {kc : Nat} {R : Room} {cells slots : Nat} (hRr : RmOK R kc) (hcel : cells ≤ R.cells ∧ slots ≤ R.slots) (hk : 7 + 1 ≤ kc) {M : Mem} {H : Heap} {locs : List Loc} (hR : Rp G e0 α κ B M H) (hS : va_S (fun q => B ≤ q) s.heap H locs) (k1 : Cond.methodLink own idx yX9_refresh ∈ gw) {ls : Array Slot} (hml : ls.size = nL) {rest : List Value} (hd : decode cc pc = .ok (.invokevirtual idx, 3)) (hrest : (rest.map fun v => v.category).sum ≤ 8) {Q : State → Prop} {Qm : Mem → Prop} (hw : wp_X9_refresh M Qm) (kk : ∀ (M1 : Mem) (H1 : Heap) (locs1 : List Loc), Qm M1 → Rp G e0 α κ B M1 H1 → va_S (fun q => B ≤ q) s.heap H1 locs1 → W p l e R s m args below meth c H1 locs1 cells slots Q (F0 m (pc + 3) ls (rest))) : W p l e R s m args below meth c H locs cells slots Q (F0 m pc ls (.ref (α 10 0) :: rest)) :=
  sa_callVV 7 (n := 0) (As := []) (rest := rest) X.1 X.2.1 hR hS (m_X9_refresh X.2.2.1 hw) k1 kw_372 kw_0 kw_38 kw_373 ⟨rfl, by decide +kernel, by decide +kernel, by decide +kernel⟩ (rm_ok hRr hk (by decide)) (rc_10 X hR (okf X.2.2.1 rfl)) rfl rfl hrest hml hd hcel kk
def wp_X9_over (M : Mem) (Qm : Int → Mem → Prop) : Prop := wp_X9_refresh M fun (M1 : Mem) => wp_X3_widthTogether 51 0 M1 fun (x3 : Int) (M2 : Mem) => (inR (x3 - (M2 10 0 7))) ∧ Qm (max 0 (x3 - (M2 10 0 7))) M2
set_option maxHeartbeats 4000000 in
set_option maxRecDepth 100000 in
theorem t_X9_over (X : CX p m c cX9_over 1 s args RX9 G B κ meth (some .int)) {M : Mem} {Qm : Int → Mem → Prop} (hw : wp_X9_over M Qm) (H : Heap) (locs : List Loc) (hR : Rp G e0 α κ B M H) (hS : va_S (fun q => B ≤ q) s.heap H locs) (ls : Array Slot) (hl : lv_has ls 1 [(0, .ref (α 10 0))]) : WI p l e 8 s m args below meth c G e0 α κ B Qm H locs 0 ls [] := by
  have hw : wp_X9_refresh M fun (M1 : Mem) => wp_X3_widthTogether 51 0 M1 fun (x3 : Int) (M2 : Mem) => (inR (x3 - (M2 10 0 7))) ∧ Qm (max 0 (x3 - (M2 10 0 7))) M2 := hw
  refine lv_aload_n X.1.1 X.1.2.1 dX9_over_0 rfl (lv_at hl 0 rfl) ?_
  refine cs_X9_refresh X  (kc := 8) rmL_ok rm_c (by decide) hR hS kw_370 hl.1 dX9_over_1 (Nat.le_of_ble_eq_true rfl) hw (fun M1 H locs hw hR hS => ?_)
  refine sa_const X.1 dX9_over_4 ?_
  refine lv_aload_n X.1.1 X.1.2.1 dX9_over_5 rfl (lv_at hl 0 rfl) ?_
  refine gt_10_0 X hR (okf X.2.2.1 rfl) kw_332 dX9_over_6 ?_
  refine lv_aload_n X.1.1 X.1.2.1 dX9_over_9 rfl (lv_at hl 0 rfl) ?_
  refine gt_10_1 X hR (okf X.2.2.1 rfl) kw_333 dX9_over_10 ?_
  refine gt_9_3 X hR (okp X.2.2.1 rfl (by decide)) kw_162 dX9_over_13 ?_
  refine cs_X3_widthTogether X hA6_51 (okp X.2.2.1 rfl (pr_9 X.2.2.1 (okp X.2.2.1 rfl (by decide)))) (kc := 8) rmL_ok rm_c (by decide) hR hS kw_1313 hl.1 dX9_over_16 (Nat.le_of_ble_eq_true rfl) hw (fun x3 M2 H locs hw r4 hR hS => ?_)
  refine lv_aload_n X.1.1 X.1.2.1 dX9_over_19 rfl (lv_at hl 0 rfl) ?_
  refine gt_10_7 X hR (okf X.2.2.1 rfl) kw_339 dX9_over_20 ?_
  have r5 := hR.r 10 0 7
  have c6 := hw.1
  have hw := hw.2
  refine sa_isub X.1 dX9_over_23 ?_
  refine sa_max (R := rmL 8) X.1 (inR_c (a := 0) rfl) c6 hl.1 kw_1318 kmath_max_s kmath_i kmath_max_c (by decide) (Nat.le_of_ble_eq_true rfl) rm_c dX9_over_24 ?_
  exact sa_iret X.1 X.2.2.2.1 X.2.2.2.2 hR hS (inR_max (inR_c (a := 0) rfl) c6) hw dX9_over_27
theorem m_X9_over {l : Launch} {G : Gx} {e0 : Nat} {α : Ax} {κ : Nat → Int} {B : Nat} (hκ : kOK κ) {M : Mem} {Qm : Int → Mem → Prop} (hw : wp_X9_over M Qm) : CI l yX9_over (Cond.code yX9_over cX9_over 1 (some .int)) 8 G e0 α κ B [.ref (α 10 0)] M Qm :=
  CI.mk hκ (by decide +kernel) rfl (Nat.le_of_ble_eq_true rfl) (lv := [(0, .ref (α 10 0))]) rfl (fun p e s m args below meth c ls X hR hS hl => t_X9_over X hw _ _ hR hS ls hl)
theorem cs_X9_over {cc : ByteArray} {nL : Nat} {own : String} {ret : Option FieldType} {idx pc : Nat} (X : CX p m c cc nL s args own G B κ meth ret) {kc : Nat} {R : Room} {cells slots : Nat} (hRr : RmOK R kc) (hcel : cells ≤ R.cells ∧ slots ≤ R.slots) (hk : 8 + 1 ≤ kc) {M : Mem} {H : Heap} {locs : List Loc} (hR : Rp G e0 α κ B M H) (hS : va_S (fun q => B ≤ q) s.heap H locs) (k1 : Cond.methodLink own idx yX9_over ∈ gw) {ls : Array Slot} (hml : ls.size = nL) {rest : List Value} (hd : decode cc pc = .ok (.invokevirtual idx, 3)) (hrest : (rest.map fun v => v.category).sum ≤ 8) {Q : State → Prop} {Qm : Int → Mem → Prop} (hw : wp_X9_over M Qm) (kk : ∀ (r : Int) (M1 : Mem) (H1 : Heap) (locs1 : List Loc), Qm r M1 → inR r → Rp G e0 α κ B M1 H1 → va_S (fun q => B ≤ q) s.heap H1 locs1 → W p l e R s m args below meth c H1 locs1 cells slots Q (F0 m (pc + 3) ls (.int (Int32.ofInt r) :: rest))) : W p l e R s m args below meth c H locs cells slots Q (F0 m pc ls (.ref (α 10 0) :: rest)) :=
  sa_callVI 8 (n := 0) (As := []) (rest := rest) X.1 X.2.1 hR hS (m_X9_over X.2.2.1 hw) k1 kw_1310 kw_1311 kw_38 kw_1312 ⟨rfl, by decide +kernel, by decide +kernel, by decide +kernel⟩ (rm_ok hRr hk (by decide)) (rc_10 X hR (okf X.2.2.1 rfl)) rfl rfl hrest hml hd hcel kk
def wp_X9_tableHeight (M : Mem) (Qm : Int → Mem → Prop) : Prop := wp_X9_refresh M fun (M1 : Mem) => wp_X4_heightOfPart 0 1 M1 fun (x3 : Int) (M2 : Mem) => Qm x3 M2
set_option maxHeartbeats 4000000 in
set_option maxRecDepth 100000 in
theorem t_X9_tableHeight (X : CX p m c cX9_tableHeight 1 s args RX9 G B κ meth (some .int)) {M : Mem} {Qm : Int → Mem → Prop} (hw : wp_X9_tableHeight M Qm) (H : Heap) (locs : List Loc) (hR : Rp G e0 α κ B M H) (hS : va_S (fun q => B ≤ q) s.heap H locs) (ls : Array Slot) (hl : lv_has ls 1 [(0, .ref (α 10 0))]) : WI p l e 8 s m args below meth c G e0 α κ B Qm H locs 0 ls [] := by
  have hw : wp_X9_refresh M fun (M1 : Mem) => wp_X4_heightOfPart 0 1 M1 fun (x3 : Int) (M2 : Mem) => Qm x3 M2 := hw
  refine lv_aload_n X.1.1 X.1.2.1 dX9_tableHeight_0 rfl (lv_at hl 0 rfl) ?_
  refine cs_X9_refresh X  (kc := 8) rmL_ok rm_c (by decide) hR hS kw_370 hl.1 dX9_tableHeight_1 (Nat.le_of_ble_eq_true rfl) hw (fun M1 H locs hw hR hS => ?_)
  refine lv_aload_n X.1.1 X.1.2.1 dX9_tableHeight_4 rfl (lv_at hl 0 rfl) ?_
  refine gt_10_2 X hR (okf X.2.2.1 rfl) kw_334 dX9_tableHeight_5 ?_
  refine sa_const X.1 dX9_tableHeight_8 ?_
  refine cs_X4_heightOfPart X (okp X.2.2.1 rfl (by decide)) (inR_c (a := 1) rfl) (kc := 8) rmL_ok rm_c (by decide) hR hS kw_1323 hl.1 dX9_tableHeight_9 (Nat.le_of_ble_eq_true rfl) hw (fun x3 M2 H locs hw r4 hR hS => ?_)
  exact sa_iret X.1 X.2.2.2.1 X.2.2.2.2 hR hS r4 hw dX9_tableHeight_12
theorem m_X9_tableHeight {l : Launch} {G : Gx} {e0 : Nat} {α : Ax} {κ : Nat → Int} {B : Nat} (hκ : kOK κ) {M : Mem} {Qm : Int → Mem → Prop} (hw : wp_X9_tableHeight M Qm) : CI l yX9_tableHeight (Cond.code yX9_tableHeight cX9_tableHeight 1 (some .int)) 8 G e0 α κ B [.ref (α 10 0)] M Qm :=
  CI.mk hκ (by decide +kernel) rfl (Nat.le_of_ble_eq_true rfl) (lv := [(0, .ref (α 10 0))]) rfl (fun p e s m args below meth c ls X hR hS hl => t_X9_tableHeight X hw _ _ hR hS ls hl)
theorem cs_X9_tableHeight {cc : ByteArray} {nL : Nat} {own : String} {ret : Option FieldType} {idx pc : Nat} (X : CX p m c cc nL s args own G B κ meth ret) {kc : Nat} {R : Room} {cells slots : Nat} (hRr : RmOK R kc) (hcel : cells ≤ R.cells ∧ slots ≤ R.slots) (hk : 8 + 1 ≤ kc) {M : Mem} {H : Heap} {locs : List Loc} (hR : Rp G e0 α κ B M H) (hS : va_S (fun q => B ≤ q) s.heap H locs) (k1 : Cond.methodLink own idx yX9_tableHeight ∈ gw) {ls : Array Slot} (hml : ls.size = nL) {rest : List Value} (hd : decode cc pc = .ok (.invokevirtual idx, 3)) (hrest : (rest.map fun v => v.category).sum ≤ 8) {Q : State → Prop} {Qm : Int → Mem → Prop} (hw : wp_X9_tableHeight M Qm) (kk : ∀ (r : Int) (M1 : Mem) (H1 : Heap) (locs1 : List Loc), Qm r M1 → inR r → Rp G e0 α κ B M1 H1 → va_S (fun q => B ≤ q) s.heap H1 locs1 → W p l e R s m args below meth c H1 locs1 cells slots Q (F0 m (pc + 3) ls (.int (Int32.ofInt r) :: rest))) : W p l e R s m args below meth c H locs cells slots Q (F0 m pc ls (.ref (α 10 0) :: rest)) :=
  sa_callVI 8 (n := 0) (As := []) (rest := rest) X.1 X.2.1 hR hS (m_X9_tableHeight X.2.2.1 hw) k1 kw_1320 kw_1321 kw_38 kw_1322 ⟨rfl, by decide +kernel, by decide +kernel, by decide +kernel⟩ (rm_ok hRr hk (by decide)) (rc_10 X hR (okf X.2.2.1 rfl)) rfl rfl hrest hml hd hcel kk
def wp_X9_look (M : Mem) (Qm : Int → Mem → Prop) : Prop := wp_X9_refresh M fun (M1 : Mem) => wp_X6_countDifferencesTo 0 1 M1 fun (x3 : Int) (M2 : Mem) => wp_X6_takeFrom 1 0 M2 fun (M5 : Mem) => Qm x3 M5
set_option maxHeartbeats 4000000 in
set_option maxRecDepth 100000 in
theorem t_X9_look (X : CX p m c cX9_look 2 s args RX9 G B κ meth (some .int)) {M : Mem} {Qm : Int → Mem → Prop} (hw : wp_X9_look M Qm) (H : Heap) (locs : List Loc) (hR : Rp G e0 α κ B M H) (hS : va_S (fun q => B ≤ q) s.heap H locs) (ls : Array Slot) (hl : lv_has ls 2 [(0, .ref (α 10 0))]) : WI p l e 8 s m args below meth c G e0 α κ B Qm H locs 0 ls [] := by
  have hw : wp_X9_refresh M fun (M1 : Mem) => wp_X6_countDifferencesTo 0 1 M1 fun (x3 : Int) (M2 : Mem) => wp_X6_takeFrom 1 0 M2 fun (M5 : Mem) => Qm x3 M5 := hw
  refine lv_aload_n X.1.1 X.1.2.1 dX9_look_0 rfl (lv_at hl 0 rfl) ?_
  refine cs_X9_refresh X  (kc := 8) rmL_ok rm_c (by decide) hR hS kw_370 hl.1 dX9_look_1 (Nat.le_of_ble_eq_true rfl) hw (fun M1 H locs hw hR hS => ?_)
  refine lv_aload_n X.1.1 X.1.2.1 dX9_look_4 rfl (lv_at hl 0 rfl) ?_
  refine gt_10_5 X hR (okf X.2.2.1 rfl) kw_337 dX9_look_5 ?_
  refine lv_aload_n X.1.1 X.1.2.1 dX9_look_8 rfl (lv_at hl 0 rfl) ?_
  refine gt_10_6 X hR (okf X.2.2.1 rfl) kw_338 dX9_look_9 ?_
  refine cs_X6_countDifferencesTo X (okp X.2.2.1 rfl (by decide)) (okp X.2.2.1 rfl (by decide)) (kc := 8) rmL_ok rm_c (by decide) hR hS kw_654 hl.1 dX9_look_12 (Nat.le_of_ble_eq_true rfl) hw (fun x3 M2 H locs hw r4 hR hS => ?_)
  refine lv_istore_n (lv' := [(1, .int (Int32.ofInt x3)), (0, .ref (α 10 0))]) X.1.1 X.1.2.1 dX9_look_15 rfl hl (by decide) rfl (fun ls hl => ?_)
  refine lv_aload_n X.1.1 X.1.2.1 dX9_look_16 rfl (lv_at hl 1 rfl) ?_
  refine gt_10_6 X hR (okf X.2.2.1 rfl) kw_338 dX9_look_17 ?_
  refine lv_aload_n X.1.1 X.1.2.1 dX9_look_20 rfl (lv_at hl 1 rfl) ?_
  refine gt_10_5 X hR (okf X.2.2.1 rfl) kw_337 dX9_look_21 ?_
  refine cs_X6_takeFrom X (okp X.2.2.1 rfl (by decide)) (okp X.2.2.1 rfl (by decide)) (kc := 8) rmL_ok rm_c (by decide) hR hS kw_667 hl.1 dX9_look_24 (Nat.le_of_ble_eq_true rfl) hw (fun M5 H locs hw hR hS => ?_)
  refine lv_iload_n X.1.1 X.1.2.1 dX9_look_27 rfl (lv_at hl 0 rfl) ?_
  exact sa_iret X.1 X.2.2.2.1 X.2.2.2.2 hR hS r4 hw dX9_look_28
theorem m_X9_look {l : Launch} {G : Gx} {e0 : Nat} {α : Ax} {κ : Nat → Int} {B : Nat} (hκ : kOK κ) {M : Mem} {Qm : Int → Mem → Prop} (hw : wp_X9_look M Qm) : CI l yX9_look (Cond.code yX9_look cX9_look 2 (some .int)) 8 G e0 α κ B [.ref (α 10 0)] M Qm :=
  CI.mk hκ (by decide +kernel) rfl (Nat.le_of_ble_eq_true rfl) (lv := [(0, .ref (α 10 0))]) rfl (fun p e s m args below meth c ls X hR hS hl => t_X9_look X hw _ _ hR hS ls hl)
theorem cs_X9_look {cc : ByteArray} {nL : Nat} {own : String} {ret : Option FieldType} {idx pc : Nat} (X : CX p m c cc nL s args own G B κ meth ret) {kc : Nat} {R : Room} {cells slots : Nat} (hRr : RmOK R kc) (hcel : cells ≤ R.cells ∧ slots ≤ R.slots) (hk : 8 + 1 ≤ kc) {M : Mem} {H : Heap} {locs : List Loc} (hR : Rp G e0 α κ B M H) (hS : va_S (fun q => B ≤ q) s.heap H locs) (k1 : Cond.methodLink own idx yX9_look ∈ gw) {ls : Array Slot} (hml : ls.size = nL) {rest : List Value} (hd : decode cc pc = .ok (.invokevirtual idx, 3)) (hrest : (rest.map fun v => v.category).sum ≤ 8) {Q : State → Prop} {Qm : Int → Mem → Prop} (hw : wp_X9_look M Qm) (kk : ∀ (r : Int) (M1 : Mem) (H1 : Heap) (locs1 : List Loc), Qm r M1 → inR r → Rp G e0 α κ B M1 H1 → va_S (fun q => B ≤ q) s.heap H1 locs1 → W p l e R s m args below meth c H1 locs1 cells slots Q (F0 m (pc + 3) ls (.int (Int32.ofInt r) :: rest))) : W p l e R s m args below meth c H locs cells slots Q (F0 m pc ls (.ref (α 10 0) :: rest)) :=
  sa_callVI 8 (n := 0) (As := []) (rest := rest) X.1 X.2.1 hR hS (m_X9_look X.2.2.1 hw) k1 kw_367 kw_368 kw_38 kw_369 ⟨rfl, by decide +kernel, by decide +kernel, by decide +kernel⟩ (rm_ok hRr hk (by decide)) (rc_10 X hR (okf X.2.2.1 rfl)) rfl rfl hrest hml hd hcel kk
end
